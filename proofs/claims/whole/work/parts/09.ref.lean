section VY9
/-! an object that is gone -/
def vg_gon (g : vg_G) (o : Nat) : vg_G := if 0 < g.ef o ∨ vg_fs (fun h => decide (g.oF h = o)) 5 0 < 5 then g else vg_kil (if g.ki o = 2 then vg_ssz g o 0 else g) o
theorem iv_gon {g : vg_G} {t : Nat} (hI : iv_X g t) (ht : t < 40) (htr : t % 10 ≠ 0) (hka : g.ki t ≠ 0)
    (hdir : g.ki t = 1 → g.ef t = 0 ∧ g.sz t = 0 ∧ t ≠ g.cu ∧ ∀ d, d < 4 → g.mo d ≠ t + 2) : iv_I (vg_gon g t) := by
  have hII := hI
  obtain ⟨hb, hrt, hna, hnb, hcn, htb, hef, hd1, hrk, hfl, hlk, hdr, hhn, hbk, hma, hmb⟩ := hI
  unfold vg_gon
  by_cases e : 0 < g.ef t ∨ vg_fs (fun h => decide (g.oF h = t)) 5 0 < 5
  · rw [if_pos e]
    refine ⟨hb, hrt, hna, hnb, hcn, htb, hef, fun o ho hr hk _ => ?_, hrk, hfl, hlk, hdr, hhn, hbk, hma, hmb⟩
    by_cases e1 : o = t
    · subst e1
      have h1 := hdir hk
      rcases e with e | e
      · omega
      · have h2 := of_decide_eq_true (fs_sp (P := fun h => decide (g.oF h = o)) (k := 5) (i := 0) (by omega))
        have h3 := hhn _ e (by rw [h2]; omega)
        rw [h2] at h3
        omega
    · exact hd1 o ho hr hk e1
  · rw [if_neg e]
    have ho : ∀ h, h < 5 → g.oF h ≠ t := by
      intro h hh z
      apply e
      right
      have := fs_lt (P := fun h => decide (g.oF h = t)) (k := 5) (i := 0) (j := h) (Nat.zero_le _) (by omega) (decide_eq_true z)
      omega
    have he : g.ef t = 0 := by omega
    by_cases e2 : g.ki t = 2
    · rw [if_pos e2]
      refine iv_kil (iv_ssz hII ht e2 (by omega) (fun _ => ?_)) ht htr hka he ho (fun h => ?_)
      · have := hbk (t / 10) (by omega)
        omega
      · have h1 : g.ki t = 1 := h
        omega
    · rw [if_neg e2]
      exact iv_kil hII ht htr hka he ho (fun h => (hdir h).2)
/-! what the reference holds -/
def yr_d (g : vg_G) (aC aN aT : Nat → Int32) : Prop := ∀ p, p < 40 → g.ki p = 1 → aC p = nI (g.sz p) ∧ ∀ n, n < 15 → g.nd (15 * p + n) ≠ 0 → aN (6 * p + vg_bl g.nd p n) = nI n ∧ aT (6 * p + vg_bl g.nd p n) = nI (g.nd (15 * p + n))
def yr_f (g : vg_G) (aZ aI : Nat → Int32) : Prop := ∀ o, o < 40 → g.ki o = 2 → aZ o = nI (g.sz o) ∧ ∀ i, i < 20 → aI (20 * o + i) = if i < g.sz o then g.hd (20 * o + i) else 0
def yr_l (g : vg_G) (aZ aS : Nat → Int32) : Prop := ∀ o, o < 40 → g.ki o = 3 → aZ o = nI (g.sz o) ∧ ∀ i, i < g.sz o → aS (5 * o + i) = g.hd (20 * o + i)
def yr_h (g : vg_G) (aH : Nat → Int32) : Prop := ∀ h, h < 5 → aH h = if g.oF h = 0 then -1 else nI (g.oF h)
def yr_m (g : vg_G) (aM aB : Nat → Int32) : Prop := ∀ d, d < 4 → (aM d = if g.mo d = 0 then 0 else 1) ∧ (2 ≤ g.mo d → aB d = nI (g.mo d - 2))
def vg_ins (a : Nat → Int32) (b c : Nat) (x : Int32) : Nat → Int32 := fun j => if j = b then x else if b < j ∧ j ≤ c then a (j - 1) else a j
def vg_dlt (a : Nat → Int32) (b c : Nat) : Nat → Int32 := fun j => if b ≤ j ∧ j < c then a (j + 1) else a j
theorem ins_ap (a : Nat → Int32) (b c : Nat) (x : Int32) (j : Nat) : vg_ins a b c x j = if j = b then x else if b < j ∧ j ≤ c then a (j - 1) else a j := rfl
theorem dlt_ap (a : Nat → Int32) (b c j : Nat) : vg_dlt a b c j = if b ≤ j ∧ j < c then a (j + 1) else a j := rfl
theorem up_ap (a : Nat → Int32) (k : Nat) (x : Int32) (j : Nat) : upd a k x j = if j = k then x else a j := rfl
theorem yr_put {g : vg_G} {aC aN aT : Nat → Int32} {p n t : Nat} (hY : yr_d g aC aN aT) (hcn : iv_cn g) (hp : p < 40) (hk : g.ki p = 1) (hn : n < 15) (h0 : g.nd (15 * p + n) = 0) (ht : t ≠ 0) (hs : g.sz p ≤ 5) :
    yr_d (vg_put g p n t) (upd aC p (nI (g.sz p + 1))) (vg_ins aN (6 * p + vg_bl g.nd p n) (6 * p + g.sz p) (nI n)) (vg_ins aT (6 * p + vg_bl g.nd p n) (6 * p + g.sz p) (nI t)) := by
  intro q hq hkq
  have hkq' : g.ki q = 1 := hkq
  have hc := hcn p hp hk
  have hcq := hcn q hq hkq'
  have hb := bl_mono (nd := g.nd) (p := p) (show n ≤ 15 by omega)
  refine ⟨?_, fun m hm hne => ?_⟩
  · rw [up_ap, put_sz, un_ap]
    by_cases e : q = p
    · rw [if_pos e, if_pos e]
    · rw [if_neg e, if_neg e]; exact (hY q hq hkq').1
  · rw [put_nd] at hne ⊢
    by_cases e : q = p
    · subst e
      rw [bl_un_i h0 ht]
      by_cases e1 : m = n
      · subst e1
        rw [if_neg (Nat.lt_irrefl _), Nat.add_zero, un_s, ins_ap, ins_ap, if_pos rfl, if_pos rfl]
        exact ⟨rfl, rfl⟩
      · rw [un_n _ _ (by omega)] at hne ⊢
        have h1 := (hY q hq hk).2 m hm hne
        have h2 := bl_lt (nd := g.nd) (p := q) (m := m) (k := 15) hm hne
        by_cases e2 : n < m
        · have h3 := bl_mono (nd := g.nd) (p := q) (show n ≤ m by omega)
          rw [if_pos e2, ins_ap, ins_ap, if_neg (by omega), if_pos (by omega), if_neg (by omega), if_pos (by omega), show 6 * q + (vg_bl g.nd q m + 1) - 1 = 6 * q + vg_bl g.nd q m by omega]
          exact h1
        · have h3 := bl_lt (nd := g.nd) (p := q) (m := m) (k := n) (by omega) hne
          rw [if_neg e2, ins_ap, ins_ap, Nat.add_zero, if_neg (by omega), if_neg (by omega), if_neg (by omega), if_neg (by omega)]
          exact h1
    · rw [un_n _ _ (by omega)] at hne ⊢
      rw [bl_un_o e hn (by omega)]
      have h1 := (hY q hq hkq').2 m hm hne
      have h2 := bl_lt (nd := g.nd) (p := q) (m := m) (k := 15) hm hne
      rw [ins_ap, ins_ap, if_neg (by omega), if_neg (by omega), if_neg (by omega), if_neg (by omega)]
      exact h1
theorem yr_rem {g : vg_G} {aC aN aT : Nat → Int32} {p n : Nat} (hY : yr_d g aC aN aT) (hcn : iv_cn g) (hp : p < 40) (hk : g.ki p = 1) (hn : n < 15) (h0 : g.nd (15 * p + n) ≠ 0) :
    yr_d (vg_rem g p n) (upd aC p (nI (g.sz p - 1))) (vg_dlt aN (6 * p + vg_bl g.nd p n) (6 * p + (g.sz p - 1))) (vg_dlt aT (6 * p + vg_bl g.nd p n) (6 * p + (g.sz p - 1))) := by
  intro q hq hkq
  have hkq' : g.ki q = 1 := hkq
  have hc := hcn p hp hk
  have hcq := hcn q hq hkq'
  have hb := bl_lt (nd := g.nd) (p := p) (m := n) (k := 15) hn h0
  refine ⟨?_, fun m hm hne => ?_⟩
  · rw [up_ap, rem_sz, un_ap]
    by_cases e : q = p
    · rw [if_pos e, if_pos e]
    · rw [if_neg e, if_neg e]; exact (hY q hq hkq').1
  · rw [rem_nd] at hne ⊢
    by_cases e : q = p
    · subst e
      have e1 : m ≠ n := by intro z; rw [z, un_s] at hne; exact hne rfl
      rw [un_n _ _ (by omega)] at hne ⊢
      have h4 := bl_un_d (nd := g.nd) (p := q) (n := n) (m := m) h0
      have h1 := (hY q hq hk).2 m hm hne
      have h2 := bl_lt (nd := g.nd) (p := q) (m := m) (k := 15) hm hne
      by_cases e2 : n < m
      · rw [if_pos e2] at h4
        have h3 := bl_lt (nd := g.nd) (p := q) (m := n) (k := m) e2 h0
        rw [dlt_ap, dlt_ap, if_pos (by omega), if_pos (by omega), show 6 * q + vg_bl (vg_un g.nd (15 * q + n) 0) q m + 1 = 6 * q + vg_bl g.nd q m by omega]
        exact h1
      · rw [if_neg e2] at h4
        have h3 := bl_lt (nd := g.nd) (p := q) (m := m) (k := n) (by omega) hne
        rw [dlt_ap, dlt_ap, if_neg (by omega), if_neg (by omega), show vg_bl (vg_un g.nd (15 * q + n) 0) q m = vg_bl g.nd q m by omega]
        exact h1
    · rw [un_n _ _ (by omega)] at hne ⊢
      rw [bl_un_o e hn (by omega)]
      have h1 := (hY q hq hkq').2 m hm hne
      have h2 := bl_lt (nd := g.nd) (p := q) (m := m) (k := 15) hm hne
      rw [dlt_ap, dlt_ap, if_neg (by omega), if_neg (by omega)]
      exact h1
def vg_zr (a : Nat → Int32) (b c : Nat) : Nat → Int32 := fun j => if b ≤ j ∧ j < c then 0 else a j
theorem zr_ap (a : Nat → Int32) (b c j : Nat) : vg_zr a b c j = if b ≤ j ∧ j < c then 0 else a j := rfl
theorem yr_beg_d {g : vg_G} {aC aN aT : Nat → Int32} {o k : Nat} (hY : yr_d g aC aN aT) : yr_d (vg_beg g o k) (upd aC o 0) aN aT := by
  intro q hq hkq
  have hnd : ∀ m, m < 15 → (vg_beg g o k).nd (15 * q + m) = if q = o then 0 else g.nd (15 * q + m) := by
    intro m hm
    show (if 15 * o ≤ 15 * q + m ∧ 15 * q + m < 15 * o + 15 then 0 else g.nd (15 * q + m)) = _
    by_cases h2 : q = o
    · rw [if_pos (by omega), if_pos h2]
    · rw [if_neg (by omega), if_neg h2]
  by_cases e : q = o
  · refine ⟨?_, fun m hm hne => ?_⟩
    · rw [up_ap, if_pos e, beg_sz, un_ap, if_pos e]; rfl
    · rw [hnd m hm, if_pos e] at hne; exact absurd rfl hne
  · rw [beg_ki, un_n _ _ e] at hkq
    have h1 := hY q hq hkq
    refine ⟨?_, fun m hm hne => ?_⟩
    · rw [up_ap, if_neg e, beg_sz, un_n _ _ e]; exact h1.1
    · rw [hnd m hm, if_neg e] at hne ⊢
      rw [bl_cg (nd' := g.nd) (fun i hi => by rw [hnd i (by omega), if_neg e])]
      exact h1.2 m hm hne
theorem yr_beg_f {g : vg_G} {aZ aI : Nat → Int32} {o k : Nat} (hY : yr_f g aZ aI) : yr_f (vg_beg g o k) (upd aZ o 0) (vg_zr aI (20 * o) (20 * o + 20)) := by
  intro q hq hkq
  by_cases e : q = o
  · refine ⟨by rw [up_ap, if_pos e, beg_sz, un_ap, if_pos e]; rfl, fun i hi => ?_⟩
    rw [zr_ap, if_pos (by omega), beg_sz, un_ap, if_pos e, if_neg (by omega)]
  · rw [beg_ki, un_n _ _ e] at hkq
    have h1 := hY q hq hkq
    refine ⟨by rw [up_ap, if_neg e, beg_sz, un_n _ _ e]; exact h1.1, fun i hi => ?_⟩
    rw [zr_ap, if_neg (by omega), beg_sz, un_n _ _ e]
    exact h1.2 i hi
theorem yr_beg_l {g : vg_G} {aZ aS : Nat → Int32} {o k : Nat} (hY : yr_l g aZ aS) : yr_l (vg_beg g o k) (upd aZ o 0) aS := by
  intro q hq hkq
  by_cases e : q = o
  · refine ⟨by rw [up_ap, if_pos e, beg_sz, un_ap, if_pos e]; rfl, fun i hi => ?_⟩
    rw [beg_sz, un_ap, if_pos e] at hi; omega
  · rw [beg_ki, un_n _ _ e] at hkq
    have h1 := hY q hq hkq
    refine ⟨by rw [up_ap, if_neg e, beg_sz, un_n _ _ e]; exact h1.1, fun i hi => ?_⟩
    rw [beg_sz, un_n _ _ e] at hi
    exact h1.2 i hi
/-- a file cut (c = n) or made longer (c = 20, nothing cleared but what is 0) -/
theorem yr_ssz_f {g : vg_G} {aZ aI : Nat → Int32} {o n b c : Nat} (hY : yr_f g aZ aI) (hk : g.ki o = 2) (hs : g.sz o ≤ 20) (hn : n ≤ 20) (h1 : n < g.sz o → b = n ∧ c = 20) (h2 : ¬ n < g.sz o → b = g.sz o ∧ c = n) : yr_f (vg_ssz g o n) (upd aZ o (nI n)) (vg_zr aI (20 * o + b) (20 * o + c)) := by
  intro q hq hkq
  have hq' : g.ki q = 2 := hkq
  have hy := hY q hq hq'
  by_cases e : q = o
  · subst e
    refine ⟨by rw [up_ap, if_pos rfl, ssz_sz, un_s], fun i hi => ?_⟩
    have h3 := hy.2 i hi
    rw [zr_ap, ssz_sz, un_s, ssz_hd]
    (try dsimp only)
    by_cases e1 : n < g.sz q
    · obtain ⟨rfl, rfl⟩ := h1 e1
      by_cases e2 : i < b
      · rw [if_neg (by omega), if_pos e2, if_neg (by omega), h3, if_pos (by omega)]
      · rw [if_pos (by omega), if_neg e2]
    · obtain ⟨rfl, rfl⟩ := h2 e1
      by_cases e2 : i < g.sz q
      · rw [if_neg (by omega), if_pos (by omega), if_neg (by omega), h3, if_pos e2]
      · by_cases e3 : i < c
        · rw [if_pos (by omega), if_pos e3, if_pos (by omega)]
        · rw [if_neg (by omega), if_neg e3, h3, if_neg e2]
  · refine ⟨by rw [up_ap, if_neg e, ssz_sz, un_n _ _ e]; exact hy.1, fun i hi => ?_⟩
    have h3 := hy.2 i hi
    rw [zr_ap, ssz_sz, un_n _ _ e, ssz_hd]
    (try dsimp only)
    have hc : c ≤ 20 := by
      by_cases e1 : n < g.sz o
      · have := h1 e1; omega
      · have := h2 e1; omega
    rw [if_neg (show ¬ (20 * o + b ≤ 20 * q + i ∧ 20 * q + i < 20 * o + c) by omega), if_neg (show ¬ (20 * o + g.sz o ≤ 20 * q + i ∧ 20 * q + i < 20 * o + n) by omega)]
    exact h3
theorem yr_ssz_l {g : vg_G} {aZ aS : Nat → Int32} {o n : Nat} (hY : yr_l g aZ aS) (hlk : iv_lk g) (hk : g.ki o = 2) (hn : n ≤ 20) : yr_l (vg_ssz g o n) (upd aZ o (nI n)) aS := by
  intro q hq hkq
  have hq' : g.ki q = 3 := hkq
  have hy := hY q hq hq'
  have hl := (hlk q hq hq').1
  have e : q ≠ o := by intro z; rw [z] at hq'; omega
  refine ⟨by rw [up_ap, if_neg e, ssz_sz, un_n _ _ e]; exact hy.1, fun i hi => ?_⟩
  rw [ssz_sz, un_n _ _ e] at hi
  rw [ssz_hd]
  (try dsimp only)
  rw [if_neg (by omega)]
  exact hy.2 i hi
theorem yr_ssz_d {g : vg_G} {aC aN aT : Nat → Int32} {o n : Nat} (hY : yr_d g aC aN aT) (hk : g.ki o = 2) : yr_d (vg_ssz g o n) aC aN aT := by
  intro q hq hkq
  have hq' : g.ki q = 1 := hkq
  have e : q ≠ o := by intro z; rw [z] at hq'; omega
  rw [ssz_sz, un_n _ _ e]
  exact hY q hq hq'
theorem yr_wrt_f {g : vg_G} {aZ aI : Nat → Int32} {o p : Nat} {v : Int32} (hY : yr_f g aZ aI) (hp : p < 20) (hs : g.sz o ≤ 20) : yr_f (vg_wrt g o p v) (upd aZ o (nI (if p < g.sz o then g.sz o else p + 1))) (upd aI (20 * o + p) v) := by
  intro q hq hkq
  have hq' : g.ki q = 2 := hkq
  have hy := hY q hq hq'
  by_cases e : q = o
  · subst e
    refine ⟨by rw [up_ap, if_pos rfl, wrt_sz, un_s], fun i hi => ?_⟩
    have h3 := hy.2 i hi
    rw [up_ap, wrt_sz, un_s, wrt_hd]
    (try dsimp only)
    by_cases e1 : i = p
    · subst e1
      rw [if_pos rfl, if_pos rfl, if_pos (by split <;> omega)]
    · have hne : ¬ (20 * q + i = 20 * q + p) := by omega
      rw [if_neg hne, if_neg hne, h3]
      by_cases e2 : i < g.sz q
      · rw [if_pos e2, if_pos (show i < (if p < g.sz q then g.sz q else p + 1) by split <;> omega), if_neg (show ¬ (20 * q + g.sz q ≤ 20 * q + i ∧ 20 * q + i < 20 * q + p) by omega)]
      · rw [if_neg e2]
        by_cases e3 : i < p
        · rw [if_pos (show 20 * q + g.sz q ≤ 20 * q + i ∧ 20 * q + i < 20 * q + p by omega), ite_self]
        · rw [if_neg (show ¬ i < (if p < g.sz q then g.sz q else p + 1) by split <;> omega)]
  · refine ⟨by rw [up_ap, if_neg e, wrt_sz, un_n _ _ e]; exact hy.1, fun i hi => ?_⟩
    have h3 := hy.2 i hi
    rw [up_ap, wrt_sz, un_n _ _ e, wrt_hd]
    (try dsimp only)
    have hne : ¬ (20 * q + i = 20 * o + p) := by omega
    rw [if_neg hne, if_neg hne, if_neg (show ¬ (20 * o + g.sz o ≤ 20 * q + i ∧ 20 * q + i < 20 * o + p) by omega)]
    exact h3
theorem yr_wrt_l {g : vg_G} {aZ aS : Nat → Int32} {o p : Nat} {v x : Int32} (hY : yr_l g aZ aS) (hlk : iv_lk g) (hk : g.ki o = 2) (hp : p < 20) : yr_l (vg_wrt g o p v) (upd aZ o x) aS := by
  intro q hq hkq
  have hq' : g.ki q = 3 := hkq
  have hy := hY q hq hq'
  have hl := (hlk q hq hq').1
  have e : q ≠ o := by intro z; rw [z] at hq'; omega
  refine ⟨by rw [up_ap, if_neg e, wrt_sz, un_n _ _ e]; exact hy.1, fun i hi => ?_⟩
  rw [wrt_sz, un_n _ _ e] at hi
  rw [wrt_hd]
  (try dsimp only)
  rw [if_neg (by omega), if_neg (by omega)]
  exact hy.2 i hi
theorem yr_wrt_d {g : vg_G} {aC aN aT : Nat → Int32} {o p : Nat} {v : Int32} (hY : yr_d g aC aN aT) (hk : g.ki o = 2) : yr_d (vg_wrt g o p v) aC aN aT := by
  intro q hq hkq
  have hq' : g.ki q = 1 := hkq
  have e : q ≠ o := by intro z; rw [z] at hq'; omega
  rw [wrt_sz, un_n _ _ e]
  exact hY q hq hq'
/-! names that are equal -/
def vg_oth (n : Nat) : Nat := if 7 < n then n - 7 else n + 7
def vg_eq (fm nd : vg_F) (p n : Nat) : Nat := if nd (15 * p + n) ≠ 0 then n else if fm (p / 10) ≠ 0 then 0 else if nd (15 * p + vg_oth n) ≠ 0 then vg_oth n else 0
theorem vq_le {fm nd : vg_F} {p n : Nat} (hn : n ≤ 14) (h1 : 1 ≤ n) : vg_eq fm nd p n ≤ 14 := by
  have ho : vg_oth n ≤ 14 := by unfold vg_oth; split <;> omega
  unfold vg_eq
  split
  · exact hn
  · split
    · omega
    · split
      · exact ho
      · omega
theorem vq_in {fm nd : vg_F} {p n : Nat} (h : vg_eq fm nd p n ≠ 0) : nd (15 * p + vg_eq fm nd p n) ≠ 0 := by
  unfold vg_eq at h ⊢
  split
  · assumption
  · rename_i h1
    rw [if_neg h1] at h
    split
    · rename_i h2
      rw [if_pos h2] at h
      exact absurd rfl h
    · rename_i h2
      rw [if_neg h2] at h
      split
      · assumption
      · rename_i h3
        rw [if_neg h3] at h
        exact absurd rfl h
/-- the name in a directory that is equal to n -/
theorem vq_iff {g : vg_G} {p n m : Nat} (hI : iv_tb g) (hp : p < 40) (hk : g.ki p = 1) (h1 : 1 ≤ n) (hn : n ≤ 14) (hm1 : 1 ≤ m) (hm : m ≤ 14) (hne : g.nd (15 * p + m) ≠ 0) :
    vg_eq g.fm g.nd p n = m ↔ (m = n ∨ g.fm (p / 10) = 0 ∧ (m - 1) % 7 = (n - 1) % 7) := by
  unfold vg_eq vg_oth
  by_cases e1 : g.nd (15 * p + n) ≠ 0
  · rw [if_pos e1]
    refine ⟨fun h => Or.inl h.symm, fun h => ?_⟩
    rcases h with h | ⟨h2, h3⟩
    · exact h.symm
    · apply Classical.byContradiction
      intro hnm
      by_cases e2 : n < m
      · have h4 := hI p n hp hk h2 h1 (by omega)
        rw [show n + 7 = m by omega] at h4
        omega
      · have h4 := hI p m hp hk h2 hm1 (by omega)
        rw [show m + 7 = n by omega] at h4
        omega
  · rw [if_neg e1]
    have hnm : m ≠ n := by intro z; rw [z] at hne; exact e1 hne
    by_cases e2 : g.fm (p / 10) ≠ 0
    · rw [if_pos e2]
      exact ⟨fun h => by omega, fun h => by omega⟩
    · rw [if_neg e2]
      by_cases e3 : 7 < n
      · rw [if_pos e3]
        by_cases e4 : g.nd (15 * p + (n - 7)) ≠ 0
        · rw [if_pos e4]; exact ⟨fun h => by omega, fun h => by omega⟩
        · rw [if_neg e4]
          exact ⟨fun h => by omega, fun h => by
            exfalso
            apply e4
            rw [show n - 7 = m by omega]
            exact hne⟩
      · rw [if_neg e3]
        by_cases e4 : g.nd (15 * p + (n + 7)) ≠ 0
        · rw [if_pos e4]; exact ⟨fun h => by omega, fun h => by omega⟩
        · rw [if_neg e4]
          exact ⟨fun h => by omega, fun h => by
            exfalso
            apply e4
            rw [show n + 7 = m by omega]
            exact hne⟩
end VY9
