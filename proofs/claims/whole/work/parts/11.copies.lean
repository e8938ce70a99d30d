section VY11
theorem yr_clr_d {g : vg_G} {aC aN aT : Nat → Int32} {d f : Nat} (hY : yr_d g aC aN aT) : yr_d (vg_clr g d f) (vg_zr aC (10 * d) (10 * d + 10)) aN aT := by
  intro q hq hkq
  have hnd : ∀ m, m < 15 → (vg_clr g d f).nd (15 * q + m) = if q = 10 * d then 0 else g.nd (15 * q + m) := by
    intro m hm
    show (if 150 * d ≤ 15 * q + m ∧ 15 * q + m < 150 * d + 15 then 0 else g.nd (15 * q + m)) = _
    by_cases e : q = 10 * d
    · rw [if_pos (by omega), if_pos e]
    · rw [if_neg (by omega), if_neg e]
  rw [clr_ki] at hkq
  (try dsimp only at hkq)
  rw [zr_ap, clr_sz, un_ap]
  by_cases e : q = 10 * d
  · refine ⟨?_, fun m hm hne => ?_⟩
    · rw [if_pos (by omega), if_pos e]; rfl
    · rw [hnd m hm, if_pos e] at hne; exact absurd rfl hne
  · by_cases e1 : 10 * d ≤ q ∧ q < 10 * d + 10
    · rw [if_pos e1, if_neg e] at hkq; omega
    · rw [if_neg e1] at hkq
      have h1 := hY q hq hkq
      refine ⟨?_, fun m hm hne => ?_⟩
      · rw [if_neg e1, if_neg e]; exact h1.1
      · rw [hnd m hm, if_neg e] at hne ⊢
        rw [bl_cg (nd' := g.nd) (fun i hi => by rw [hnd i (by omega), if_neg e])]
        exact h1.2 m hm hne
theorem yr_clr_f {g : vg_G} {aZ aI : Nat → Int32} {d f : Nat} (hY : yr_f g aZ aI) : yr_f (vg_clr g d f) aZ aI := by
  intro q hq hkq
  rw [clr_ki] at hkq
  (try dsimp only at hkq)
  by_cases e1 : 10 * d ≤ q ∧ q < 10 * d + 10
  · rw [if_pos e1] at hkq
    split at hkq <;> omega
  · rw [if_neg e1] at hkq
    rw [clr_sz, un_n _ _ (by omega)]
    exact hY q hq hkq
theorem yr_clr_l {g : vg_G} {aZ aS : Nat → Int32} {d f : Nat} (hY : yr_l g aZ aS) : yr_l (vg_clr g d f) aZ aS := by
  intro q hq hkq
  rw [clr_ki] at hkq
  (try dsimp only at hkq)
  by_cases e1 : 10 * d ≤ q ∧ q < 10 * d + 10
  · rw [if_pos e1] at hkq
    split at hkq <;> omega
  · rw [if_neg e1] at hkq
    rw [clr_sz, un_n _ _ (by omega)]
    exact hY q hq hkq
/-- a part of an array, copied: s cells a disk, n of them so far -/
def vg_cp (x : Nat → Int32) (s a b n : Nat) : Nat → Int32 := fun j => if s * b ≤ j ∧ j < s * b + n then x (j - s * b + s * a) else x j
def vg_ct (x : Nat → Int32) (a b n : Nat) : Nat → Int32 := fun j => if 60 * b ≤ j ∧ j < 60 * b + n then vp_nar .byte (x (j - 60 * b + 60 * a) - nI (10 * a) + nI (10 * b)) else x j
def vg_cb (x : Nat → Int32) (s a b n : Nat) : Nat → Int32 := fun j => if s * b ≤ j ∧ j < s * b + n then vp_nar .byte (x (j - s * b + s * a)) else x j
theorem cb_ap (x : Nat → Int32) (s a b n j : Nat) : vg_cb x s a b n j = if s * b ≤ j ∧ j < s * b + n then vp_nar .byte (x (j - s * b + s * a)) else x j := rfl
theorem cp_ap (x : Nat → Int32) (s a b n j : Nat) : vg_cp x s a b n j = if s * b ≤ j ∧ j < s * b + n then x (j - s * b + s * a) else x j := rfl
theorem ct_ap (x : Nat → Int32) (a b n j : Nat) : vg_ct x a b n j = if 60 * b ≤ j ∧ j < 60 * b + n then vp_nar .byte (x (j - 60 * b + 60 * a) - nI (10 * a) + nI (10 * b)) else x j := rfl
theorem pck_k {g : vg_G} {a b q : Nat} : (vg_pck g a b 10).ki q = if q / 10 = b then g.ki (q - 10 * b + 10 * a) else g.ki q := by
  show (if 10 * b ≤ q ∧ q < 10 * b + 10 then g.ki (q - 10 * b + 10 * a) else g.ki q) = _
  by_cases e : q / 10 = b
  · rw [if_pos (by omega), if_pos e]
  · rw [if_neg (by omega), if_neg e]
theorem pck_z {g : vg_G} {a b q : Nat} : (vg_pck g a b 10).sz q = if q / 10 = b then g.sz (q - 10 * b + 10 * a) else g.sz q := by
  show (if 10 * b ≤ q ∧ q < 10 * b + 10 then g.sz (q - 10 * b + 10 * a) else g.sz q) = _
  by_cases e : q / 10 = b
  · rw [if_pos (by omega), if_pos e]
  · rw [if_neg (by omega), if_neg e]
theorem pck_h {g : vg_G} {a b q i : Nat} (hi : i < 20) : (vg_pck g a b 10).hd (20 * q + i) = if q / 10 = b then g.hd (20 * (q - 10 * b + 10 * a) + i) else g.hd (20 * q + i) := by
  show (if 200 * b ≤ 20 * q + i ∧ 20 * q + i < 200 * b + 20 * 10 then g.hd (20 * q + i - 200 * b + 200 * a) else g.hd (20 * q + i)) = _
  by_cases e : q / 10 = b
  · rw [if_pos (by omega), if_pos e, show 20 * q + i - 200 * b + 200 * a = 20 * (q - 10 * b + 10 * a) + i by omega]
  · rw [if_neg (by omega), if_neg e]
theorem pck_n {g : vg_G} {a b q m : Nat} (hm : m < 15) : (vg_pck g a b 10).nd (15 * q + m) = if q / 10 = b then (if g.nd (15 * (q - 10 * b + 10 * a) + m) = 0 then 0 else g.nd (15 * (q - 10 * b + 10 * a) + m) + 10 * b - 10 * a) else g.nd (15 * q + m) := by
  show (if 150 * b ≤ 15 * q + m ∧ 15 * q + m < 150 * b + 15 * 10 then (if g.nd (15 * q + m - 150 * b + 150 * a) = 0 then 0 else g.nd (15 * q + m - 150 * b + 150 * a) + 10 * b - 10 * a) else g.nd (15 * q + m)) = _
  by_cases e : q / 10 = b
  · rw [if_pos (by omega), if_pos e, show 15 * q + m - 150 * b + 150 * a = 15 * (q - 10 * b + 10 * a) + m by omega]
  · rw [if_neg (by omega), if_neg e]
theorem yr_pck_d {g : vg_G} {aC aN aT : Nat → Int32} {a b : Nat} (hI : iv_I g) (hY : yr_d g aC aN aT) (ha : a < 4) (hb : b < 4) : yr_d (vg_pck g a b 10) (vg_cb aC 10 a b 10) (vg_cb aN 60 a b 60) (vg_ct aT a b 60) := by
  intro q hq hkq
  rw [pck_k] at hkq
  rw [pck_z]
  by_cases e : q / 10 = b
  · rw [if_pos e] at hkq ⊢
    have h1 := hY (q - 10 * b + 10 * a) (by omega) hkq
    have hcn := hI.2.2.2.2.1 (q - 10 * b + 10 * a) (by omega) hkq
    have hsrc : ∀ m, m < 15 → g.nd (15 * (q - 10 * b + 10 * a) + m) ≠ 0 → g.nd (15 * (q - 10 * b + 10 * a) + m) / 10 = a ∧ g.nd (15 * (q - 10 * b + 10 * a) + m) % 10 ≠ 0 := by
      intro m hm hne
      have := hI.2.2.1 (15 * (q - 10 * b + 10 * a) + m) (by omega) hne
      exact ⟨by omega, this.2⟩
    have hsb := hI.1.2.2.2.2.2.2.2.1 (q - 10 * b + 10 * a)
    refine ⟨?_, fun m hm hne => ?_⟩
    · rw [cb_ap, if_pos (by omega), h1.1, vn_nb (by omega)]
    · rw [pck_n hm, if_pos e] at hne ⊢
      by_cases e1 : g.nd (15 * (q - 10 * b + 10 * a) + m) = 0
      · rw [if_pos e1] at hne; exact absurd rfl hne
      · rw [if_neg e1]
        have h2 : vg_bl (vg_pck g a b 10).nd q m = vg_bl g.nd (q - 10 * b + 10 * a) m := by
          unfold vg_bl
          refine sm_congr (fun i hi => ?_)
          rw [pck_n (by omega), if_pos e]
          by_cases e2 : g.nd (15 * (q - 10 * b + 10 * a) + i) = 0
          · rw [if_pos e2, if_pos rfl, if_pos e2]
          · have h3 := hsrc i (by omega) e2
            rw [if_neg e2, if_neg (by omega), if_neg e2]
        have h3 := h1.2 m hm e1
        have h4 := bl_lt (nd := g.nd) (p := q - 10 * b + 10 * a) (m := m) (k := 15) hm e1
        have h5 := hsrc m hm e1
        rw [h2, cb_ap, ct_ap, if_pos (by omega), if_pos (by omega), show 6 * q + vg_bl g.nd (q - 10 * b + 10 * a) m - 60 * b + 60 * a = 6 * (q - 10 * b + 10 * a) + vg_bl g.nd (q - 10 * b + 10 * a) m by omega, h3.1, h3.2]
        refine ⟨vn_nb (by omega), ?_⟩
        rw [pk_sub (by omega), nI_add, vn_nb (by omega), show g.nd (15 * (q - 10 * b + 10 * a) + m) - 10 * a + 10 * b = g.nd (15 * (q - 10 * b + 10 * a) + m) + 10 * b - 10 * a by omega]
  · rw [if_neg e] at hkq ⊢
    have h1 := hY q hq hkq
    have hcn := hI.2.2.2.2.1 q hq hkq
    refine ⟨?_, fun m hm hne => ?_⟩
    · rw [cb_ap, if_neg (by omega)]; exact h1.1
    · rw [pck_n hm, if_neg e] at hne ⊢
      have h4 := bl_lt (nd := g.nd) (p := q) (m := m) (k := 15) hm hne
      rw [bl_cg (nd' := g.nd) (fun i hi => by rw [pck_n (by omega), if_neg e]), cb_ap, ct_ap, if_neg (by omega), if_neg (by omega)]
      exact h1.2 m hm hne
theorem yr_pck_f {g : vg_G} {aZ aI : Nat → Int32} {a b : Nat} (hI : iv_I g) (hY : yr_f g aZ aI) (ha : a < 4) (hb : b < 4) : yr_f (vg_pck g a b 10) (vg_cb aZ 10 a b 10) (vg_cp aI 200 a b 200) := by
  intro q hq hkq
  rw [pck_k] at hkq
  rw [pck_z]
  by_cases e : q / 10 = b
  · rw [if_pos e] at hkq ⊢
    have h1 := hY (q - 10 * b + 10 * a) (by omega) hkq
    have hsb := hI.1.2.2.2.2.2.2.2.1 (q - 10 * b + 10 * a)
    refine ⟨by rw [cb_ap, if_pos (by omega), h1.1, vn_nb (by omega)], fun i hi => ?_⟩
    rw [cp_ap, if_pos (by omega), pck_h hi, if_pos e, show 20 * q + i - 200 * b + 200 * a = 20 * (q - 10 * b + 10 * a) + i by omega]
    exact h1.2 i hi
  · rw [if_neg e] at hkq ⊢
    have h1 := hY q hq hkq
    refine ⟨by rw [cb_ap, if_neg (by omega)]; exact h1.1, fun i hi => ?_⟩
    rw [cp_ap, if_neg (by omega), pck_h hi, if_neg e]
    exact h1.2 i hi
theorem yr_pck_l {g : vg_G} {aZ aS : Nat → Int32} {a b : Nat} (hI : iv_I g) (hY : yr_l g aZ aS) (ha : a < 4) (hb : b < 4) : yr_l (vg_pck g a b 10) (vg_cb aZ 10 a b 10) (vg_cb aS 50 a b 50) := by
  intro q hq hkq
  rw [pck_k] at hkq
  rw [pck_z]
  by_cases e : q / 10 = b
  · rw [if_pos e] at hkq ⊢
    have h1 := hY (q - 10 * b + 10 * a) (by omega) hkq
    have hl := hI.2.2.2.2.2.2.2.2.2.2.1 (q - 10 * b + 10 * a) (by omega) hkq
    refine ⟨by rw [cb_ap, if_pos (by omega), h1.1, vn_nb (by omega)], fun i hi => ?_⟩
    obtain ⟨s, hs, es, _⟩ := hl.2 i hi
    rw [cb_ap, if_pos (by omega), pck_h (by omega), if_pos e, show 5 * q + i - 50 * b + 50 * a = 5 * (q - 10 * b + 10 * a) + i by omega, h1.2 i hi, es]
    exact vn_nb (by omega)
  · rw [if_neg e] at hkq ⊢
    have h1 := hY q hq hkq
    have hl := hI.2.2.2.2.2.2.2.2.2.2.1 q hq hkq
    refine ⟨by rw [cb_ap, if_neg (by omega)]; exact h1.1, fun i hi => ?_⟩
    rw [cb_ap, if_neg (by omega), pck_h (by omega), if_neg e]
    exact h1.2 i hi
theorem yr_kil_d {g : vg_G} {aC aN aT : Nat → Int32} {o : Nat} (hY : yr_d g aC aN aT) : yr_d (vg_kil g o) aC aN aT := by
  intro q hq hkq
  rw [kil_ki, un_ap] at hkq
  split at hkq
  · omega
  · exact hY q hq hkq
theorem yr_kil_f {g : vg_G} {aZ aI : Nat → Int32} {o : Nat} (hY : yr_f g aZ aI) : yr_f (vg_kil g o) aZ aI := by
  intro q hq hkq
  rw [kil_ki, un_ap] at hkq
  split at hkq
  · omega
  · exact hY q hq hkq
theorem yr_kil_l {g : vg_G} {aZ aS : Nat → Int32} {o : Nat} (hY : yr_l g aZ aS) : yr_l (vg_kil g o) aZ aS := by
  intro q hq hkq
  rw [kil_ki, un_ap] at hkq
  split at hkq
  · omega
  · exact hY q hq hkq
theorem ssz0_hd {g : vg_G} {o : Nat} (j : Nat) : (vg_ssz g o 0).hd j = g.hd j := by
  rw [ssz_hd]
  (try dsimp only)
  rw [if_neg (by omega)]
theorem yr_ks_d {g : vg_G} {aC aN aT : Nat → Int32} {o : Nat} (hY : yr_d g aC aN aT) : yr_d (vg_kil (vg_ssz g o 0) o) aC aN aT := by
  intro q hq hkq
  rw [kil_ki, un_ap] at hkq
  by_cases e : q = o
  · rw [if_pos e] at hkq; omega
  · rw [if_neg e] at hkq
    rw [kil_sz, ssz_sz, un_n _ _ e]
    exact hY q hq hkq
theorem yr_ks_f {g : vg_G} {aZ aI : Nat → Int32} {o : Nat} (hY : yr_f g aZ aI) : yr_f (vg_kil (vg_ssz g o 0) o) aZ aI := by
  intro q hq hkq
  rw [kil_ki, un_ap] at hkq
  by_cases e : q = o
  · rw [if_pos e] at hkq; omega
  · rw [if_neg e] at hkq
    rw [kil_sz, ssz_sz, un_n _ _ e, kil_hd]
    refine ⟨(hY q hq hkq).1, fun i hi => ?_⟩
    rw [ssz0_hd]
    exact (hY q hq hkq).2 i hi
theorem yr_ks_l {g : vg_G} {aZ aS : Nat → Int32} {o : Nat} (hY : yr_l g aZ aS) : yr_l (vg_kil (vg_ssz g o 0) o) aZ aS := by
  intro q hq hkq
  rw [kil_ki, un_ap] at hkq
  by_cases e : q = o
  · rw [if_pos e] at hkq; omega
  · rw [if_neg e] at hkq
    rw [kil_sz, ssz_sz, un_n _ _ e, kil_hd]
    refine ⟨(hY q hq hkq).1, fun i hi => ?_⟩
    rw [ssz0_hd]
    exact (hY q hq hkq).2 i hi
end VY11
