section VI8
def vg_bs (x b : Nat) : Nat := if x / 2 ^ b % 2 = 1 then x else x + 2 ^ b
def vg_wrt (g : vg_G) (o p : Nat) (v : Int32) : vg_G := (g.fm, g.ro, if g.fm (o / 10) = 2 ∧ g.wp o / 2 ^ (p / 4) % 2 = 1 then vg_un g.de (o / 10) (g.de (o / 10) + 1) else g.de, g.mo, g.tp, g.cu, g.ki, vg_un g.sz o (if p < g.sz o then g.sz o else p + 1), g.ef, vg_un g.wp o (vg_bs (g.wp o) (p / 4)), fun j => if j = 20 * o + p then v else if 20 * o + g.sz o ≤ j ∧ j < 20 * o + p then 0 else g.hd j, g.nd, g.oF, g.oH, g.po, g.dr, g.dl)
theorem wrt_fm (g : vg_G) (o p : Nat) (v : Int32) : (vg_wrt g o p v).fm = (g.fm) := rfl
theorem wrt_ro (g : vg_G) (o p : Nat) (v : Int32) : (vg_wrt g o p v).ro = (g.ro) := rfl
theorem wrt_de (g : vg_G) (o p : Nat) (v : Int32) : (vg_wrt g o p v).de = (if g.fm (o / 10) = 2 ∧ g.wp o / 2 ^ (p / 4) % 2 = 1 then vg_un g.de (o / 10) (g.de (o / 10) + 1) else g.de) := rfl
theorem wrt_mo (g : vg_G) (o p : Nat) (v : Int32) : (vg_wrt g o p v).mo = (g.mo) := rfl
theorem wrt_tp (g : vg_G) (o p : Nat) (v : Int32) : (vg_wrt g o p v).tp = (g.tp) := rfl
theorem wrt_cu (g : vg_G) (o p : Nat) (v : Int32) : (vg_wrt g o p v).cu = (g.cu) := rfl
theorem wrt_ki (g : vg_G) (o p : Nat) (v : Int32) : (vg_wrt g o p v).ki = (g.ki) := rfl
theorem wrt_sz (g : vg_G) (o p : Nat) (v : Int32) : (vg_wrt g o p v).sz = (vg_un g.sz o (if p < g.sz o then g.sz o else p + 1)) := rfl
theorem wrt_ef (g : vg_G) (o p : Nat) (v : Int32) : (vg_wrt g o p v).ef = (g.ef) := rfl
theorem wrt_wp (g : vg_G) (o p : Nat) (v : Int32) : (vg_wrt g o p v).wp = (vg_un g.wp o (vg_bs (g.wp o) (p / 4))) := rfl
theorem wrt_hd (g : vg_G) (o p : Nat) (v : Int32) : (vg_wrt g o p v).hd = (fun j => if j = 20 * o + p then v else if 20 * o + g.sz o ≤ j ∧ j < 20 * o + p then 0 else g.hd j) := rfl
theorem wrt_nd (g : vg_G) (o p : Nat) (v : Int32) : (vg_wrt g o p v).nd = (g.nd) := rfl
theorem wrt_oF (g : vg_G) (o p : Nat) (v : Int32) : (vg_wrt g o p v).oF = (g.oF) := rfl
theorem wrt_oH (g : vg_G) (o p : Nat) (v : Int32) : (vg_wrt g o p v).oH = (g.oH) := rfl
theorem wrt_po (g : vg_G) (o p : Nat) (v : Int32) : (vg_wrt g o p v).po = (g.po) := rfl
theorem wrt_dr (g : vg_G) (o p : Nat) (v : Int32) : (vg_wrt g o p v).dr = (g.dr) := rfl
theorem wrt_dl (g : vg_G) (o p : Nat) (v : Int32) : (vg_wrt g o p v).dl = (g.dl) := rfl
theorem bs_lt : ∀ x, x < 32 → ∀ b, b < 5 → ∀ k, k < 6 → x < 2 ^ k → b < k → vg_bs x b < 2 ^ k := by decide +kernel
theorem bs_on : ∀ x, x < 32 → ∀ b, b < 5 → vg_on (vg_bs x b) = vg_on x + (if x / 2 ^ b % 2 = 1 then 0 else 1) := by decide +kernel
/-- an int is written -/
theorem iv_wrt {g : vg_G} {o p : Nat} {v : Int32} (hI : iv_I g) (ho : o < 40) (hok : g.ki o = 2) (hp : p < 20)
    (hroom : g.de (o / 10) + vg_tk g.fm g.ki g.sz g.wp (o / 10) + (if g.fm (o / 10) = 0 then ((if p < g.sz o then g.sz o else p + 1) + 3) / 4 - (g.sz o + 3) / 4 else if g.fm (o / 10) = 1 ∧ g.wp o / 2 ^ (p / 4) % 2 = 1 then 0 else 1) ≤ 32) : iv_I (vg_wrt g o p v) := by
  obtain ⟨hb, hrt, hna, hnb, hcn, htb, hef, hd1, hrk, hfl, hlk, hdr, hhn, hbk, hma, hmb⟩ := hI
  obtain ⟨b1, b2, b3, b4, b5, b6, b7, b8, b9, b10, b11, b12, b13, b14, b15, b16⟩ := hb
  have hsz : ∀ q, (vg_wrt g o p v).sz q = if q = o then (if p < g.sz o then g.sz o else p + 1) else g.sz q := fun q => rfl
  have hwp : ∀ q, (vg_wrt g o p v).wp q = if q = o then vg_bs (g.wp o) (p / 4) else g.wp q := fun q => rfl
  have hde : ∀ d, (vg_wrt g o p v).de d = if (g.fm (o / 10) = 2 ∧ g.wp o / 2 ^ (p / 4) % 2 = 1) ∧ d = o / 10 then g.de d + 1 else g.de d := by
    intro d
    rw [wrt_de]
    by_cases e1 : g.fm (o / 10) = 2 ∧ g.wp o / 2 ^ (p / 4) % 2 = 1
    · rw [if_pos e1, un_ap]
      by_cases e2 : d = o / 10
      · rw [if_pos e2, if_pos ⟨e1, e2⟩, e2]
      · rw [if_neg e2, if_neg (fun z => e2 z.2)]
    · rw [if_neg e1, if_neg (fun z => e1 z.1)]
  have hhd : ∀ j, (vg_wrt g o p v).hd j = if j = 20 * o + p then v else if 20 * o + g.sz o ≤ j ∧ j < 20 * o + p then 0 else g.hd j := fun j => rfl
  have hor : o % 10 ≠ 0 := by
    intro e
    have := (hrt (o / 10) (by omega)).1
    rw [show 10 * (o / 10) = o by omega, hok] at this
    omega
  have hL : g.sz o ≤ (if p < g.sz o then g.sz o else p + 1) ∧ p < (if p < g.sz o then g.sz o else p + 1) ∧ (if p < g.sz o then g.sz o else p + 1) ≤ 20 := by
    have := b8 o
    split <;> omega
  have hon := bs_on (g.wp o) (b10 o) (p / 4) (by omega)
  have hsum : ∀ d, d < 4 → (vg_wrt g o p v).de d + vg_tk g.fm g.ki (vg_wrt g o p v).sz (vg_wrt g o p v).wp d ≤ 32 := by
    intro d hd
    have h1 := hbk d hd
    by_cases e1 : o / 10 = d
    · have h2 := tk_one (fm := g.fm) (ki := g.ki) (sz := g.sz) (wp := g.wp) (fm' := g.fm) (ki' := g.ki) (sz' := (vg_wrt g o p v).sz) (wp' := (vg_wrt g o p v).wp) e1 (fun y _ hne => bk_cg rfl rfl (by rw [hsz, if_neg hne]) (by rw [hwp, if_neg hne]))
      unfold vg_bk at h2
      rw [hok, if_neg (show ¬ (2 : Nat) = 1 by decide), if_pos rfl, if_neg (show ¬ (2 : Nat) = 1 by decide), if_pos rfl, hsz, if_pos rfl, hwp, if_pos rfl] at h2
      rw [hde]
      subst e1
      have h3 := b1 (o / 10)
      generalize (if p < g.sz o then g.sz o else p + 1) = L at *
      by_cases e3 : g.fm (o / 10) = 0
      · rw [if_pos e3, if_pos e3] at h2
        rw [if_pos e3] at hroom
        rw [if_neg (by omega)]
        omega
      · rw [if_neg e3, if_neg e3] at h2
        rw [if_neg e3] at hroom
        by_cases e4 : g.wp o / 2 ^ (p / 4) % 2 = 1
        · rw [if_pos e4] at hon
          by_cases e5 : g.fm (o / 10) = 1
          · rw [if_pos ⟨e5, e4⟩] at hroom
            rw [if_neg (by omega)]
            omega
          · rw [if_neg (by omega)] at hroom
            rw [if_pos ⟨⟨by omega, e4⟩, rfl⟩]
            omega
        · rw [if_neg e4] at hon
          rw [if_neg (fun z => e4 z.2)] at hroom
          rw [if_neg (fun z => e4 z.1.2)]
          omega
    · rw [hde, if_neg (fun z => e1 z.2.symm), tk_cg (fun y hy => bk_cg rfl rfl (by rw [hsz, if_neg (by intro e; rw [e] at hy; exact e1 hy)]) (by rw [hwp, if_neg (by intro e; rw [e] at hy; exact e1 hy)]))]
      exact h1
  have hfo := hfl o ho hok
  have hw : vg_bs (g.wp o) (p / 4) < 2 ^ (((if p < g.sz o then g.sz o else p + 1) + 3) / 4) := by
    generalize (if p < g.sz o then g.sz o else p + 1) = L at *
    refine bs_lt _ (b10 o) _ (by omega) _ (by omega) ?_ (by omega)
    exact Nat.lt_of_lt_of_le hfo (Nat.pow_le_pow_right (by decide) (by omega))
  have hw32 : vg_bs (g.wp o) (p / 4) < 32 := bs_lt _ (b10 o) _ (by omega) 5 (by decide) (b10 o) (by omega)
  unfold iv_I iv_X iv_bd
  refine ⟨⟨b1, b2, ?_, b4, b5, b6, b7, ?_, b9, ?_, b11, b12, b13, b14, b15, b16⟩, ?_, hna, hnb, ?_, htb, hef, hd1, hrk, ?_, ?_, hdr, hhn, hsum, hma, hmb⟩
  · intro j
    by_cases e1 : j < 4
    · have := hsum j e1; omega
    · rw [hde, if_neg (by omega)]; exact b3 j
  · intro j; rw [hsz]; have := b8 j; by_cases e : j = o
    · rw [if_pos e]; exact hL.2.2
    · rw [if_neg e]; exact this
  · intro j; rw [hwp]; have := b10 j; by_cases e : j = o
    · rw [if_pos e]; exact hw32
    · rw [if_neg e]; exact this
  · intro d hd
    rw [hwp, if_neg (by omega)]
    exact hrt d hd
  · intro q hq hk
    rw [hsz, if_neg (by intro e; rw [e] at hk; have : g.ki o = 1 := hk; omega)]
    exact hcn q hq hk
  · intro q hq hk
    rw [hsz, hwp]
    by_cases e1 : q = o
    · rw [if_pos e1, if_pos e1]; exact hw
    · rw [if_neg e1, if_neg e1]; exact hfl q hq hk
  · intro q hq hk
    have e1 : q ≠ o := by intro e; rw [e] at hk; have : g.ki o = 3 := hk; omega
    rw [hsz, if_neg e1]
    have h1 := hlk q hq hk
    refine ⟨h1.1, fun i hi => ?_⟩
    rw [hhd, if_neg (by omega), if_neg (by omega)]
    exact h1.2 i hi
def vg_stp (g : vg_G) (o L : Nat) (f : Nat → Int32) : vg_G := (g.fm, g.ro, g.de, g.mo, g.tp, g.cu, g.ki, vg_un g.sz o L, g.ef, g.wp, fun j => if 20 * o ≤ j ∧ j < 20 * o + 5 then f (j - 20 * o) else g.hd j, g.nd, g.oF, g.oH, g.po, g.dr, g.dl)
theorem stp_fm (g : vg_G) (o L : Nat) (f : Nat → Int32) : (vg_stp g o L f).fm = (g.fm) := rfl
theorem stp_ro (g : vg_G) (o L : Nat) (f : Nat → Int32) : (vg_stp g o L f).ro = (g.ro) := rfl
theorem stp_de (g : vg_G) (o L : Nat) (f : Nat → Int32) : (vg_stp g o L f).de = (g.de) := rfl
theorem stp_mo (g : vg_G) (o L : Nat) (f : Nat → Int32) : (vg_stp g o L f).mo = (g.mo) := rfl
theorem stp_tp (g : vg_G) (o L : Nat) (f : Nat → Int32) : (vg_stp g o L f).tp = (g.tp) := rfl
theorem stp_cu (g : vg_G) (o L : Nat) (f : Nat → Int32) : (vg_stp g o L f).cu = (g.cu) := rfl
theorem stp_ki (g : vg_G) (o L : Nat) (f : Nat → Int32) : (vg_stp g o L f).ki = (g.ki) := rfl
theorem stp_sz (g : vg_G) (o L : Nat) (f : Nat → Int32) : (vg_stp g o L f).sz = (vg_un g.sz o L) := rfl
theorem stp_ef (g : vg_G) (o L : Nat) (f : Nat → Int32) : (vg_stp g o L f).ef = (g.ef) := rfl
theorem stp_wp (g : vg_G) (o L : Nat) (f : Nat → Int32) : (vg_stp g o L f).wp = (g.wp) := rfl
theorem stp_hd (g : vg_G) (o L : Nat) (f : Nat → Int32) : (vg_stp g o L f).hd = (fun j => if 20 * o ≤ j ∧ j < 20 * o + 5 then f (j - 20 * o) else g.hd j) := rfl
theorem stp_nd (g : vg_G) (o L : Nat) (f : Nat → Int32) : (vg_stp g o L f).nd = (g.nd) := rfl
theorem stp_oF (g : vg_G) (o L : Nat) (f : Nat → Int32) : (vg_stp g o L f).oF = (g.oF) := rfl
theorem stp_oH (g : vg_G) (o L : Nat) (f : Nat → Int32) : (vg_stp g o L f).oH = (g.oH) := rfl
theorem stp_po (g : vg_G) (o L : Nat) (f : Nat → Int32) : (vg_stp g o L f).po = (g.po) := rfl
theorem stp_dr (g : vg_G) (o L : Nat) (f : Nat → Int32) : (vg_stp g o L f).dr = (g.dr) := rfl
theorem stp_dl (g : vg_G) (o L : Nat) (f : Nat → Int32) : (vg_stp g o L f).dl = (g.dl) := rfl
/-- a link's steps -/
theorem iv_stp {g : vg_G} {o L : Nat} {f : Nat → Int32} (hI : iv_I g) (ho : o < 40) (hok : g.ki o = 3) (hL : L ≤ 5) (hf : ∀ i, i < L → ∃ s, s ≤ 15 ∧ f i = nI s ∧ (s = 0 → i = 0)) :
    iv_I (vg_stp g o L f) := by
  obtain ⟨hb, hrt, hna, hnb, hcn, htb, hef, hd1, hrk, hfl, hlk, hdr, hhn, hbk, hma, hmb⟩ := hI
  obtain ⟨b1, b2, b3, b4, b5, b6, b7, b8, b9, b10, b11, b12, b13, b14, b15, b16⟩ := hb
  have hsz : ∀ q, (vg_stp g o L f).sz q = if q = o then L else g.sz q := fun q => rfl
  have hhd : ∀ j, (vg_stp g o L f).hd j = if 20 * o ≤ j ∧ j < 20 * o + 5 then f (j - 20 * o) else g.hd j := fun q => rfl
  unfold iv_I iv_X iv_bd
  refine ⟨⟨b1, b2, b3, b4, b5, b6, b7, ?_, b9, b10, b11, b12, b13, b14, b15, b16⟩, hrt, hna, hnb, ?_, htb, hef, hd1, hrk, ?_, ?_, hdr, hhn, ?_, hma, hmb⟩
  · intro j; rw [hsz]; have := b8 j; split <;> omega
  · intro q hq hk
    rw [hsz, if_neg (by intro e; rw [e] at hk; have : g.ki o = 1 := hk; omega)]
    exact hcn q hq hk
  · intro q hq hk
    rw [hsz, if_neg (by intro e; rw [e] at hk; have : g.ki o = 2 := hk; omega)]
    exact hfl q hq hk
  · intro q hq hk
    rw [hsz]
    by_cases e1 : q = o
    · rw [if_pos e1]
      refine ⟨hL, fun i hi => ?_⟩
      rw [hhd, if_pos (by omega), show 20 * q + i - 20 * o = i by omega]
      exact hf i hi
    · rw [if_neg e1]
      have h1 := hlk q hq hk
      refine ⟨h1.1, fun i hi => ?_⟩
      rw [hhd, if_neg (by omega)]
      exact h1.2 i hi
  · intro d hd
    show g.de d + vg_tk g.fm g.ki (vg_un g.sz o L) g.wp d ≤ 32
    rw [tk_cg (fm := g.fm) (ki := g.ki) (sz := g.sz) (wp := g.wp) (fun y hy => by
      by_cases e1 : y = o
      · subst e1
        unfold vg_bk
        rw [hok]
        rfl
      · exact bk_cg rfl rfl (un_n _ _ e1) rfl)]
    exact hbk d hd
/-! mounts, handles, drafts -/
theorem iv_top {g : vg_G} {d : Nat} (hI : iv_I g) (hd : d < 4) (ht : g.tp = 0) : iv_I (vg_sCU (vg_sMO (vg_sTP g (d + 1)) (vg_un g.mo d 1)) (10 * d)) := by
  obtain ⟨hb, hrt, hna, hnb, hcn, htb, hef, hd1, hrk, hfl, hlk, hdr, hhn, hbk, hma, hmb⟩ := hI
  obtain ⟨b1, b2, b3, b4, b5, b6, b7, b8, b9, b10, b11, b12, b13, b14, b15, b16⟩ := hb
  have h0 := (hmb.2.1 ht).2
  have hmo : ∀ q, (vg_sCU (vg_sMO (vg_sTP g (d + 1)) (vg_un g.mo d 1)) (10 * d)).mo q = if q = d then 1 else g.mo q := fun q => rfl
  unfold iv_I iv_X iv_bd
  refine ⟨⟨b1, b2, b3, ?_, ?_, ?_, b7, b8, b9, b10, b11, b12, b13, b14, b15, b16⟩, hrt, hna, hnb, hcn, htb, hef, hd1, hrk, hfl, hlk, hdr, ?_, hbk, ?_, ?_⟩
  · intro j; rw [hmo]; have := b4 j; split <;> omega
  · show d + 1 ≤ 4; omega
  · show 10 * d < 40; omega
  · intro h hh hne
    have h1 := hhn h hh hne
    refine ⟨h1.1, h1.2.1, ?_⟩
    show (vg_sCU (vg_sMO (vg_sTP g (d + 1)) (vg_un g.mo d 1)) (10 * d)).mo (g.oF h / 10) ≠ 0
    rw [hmo]
    have h2 := h1.2.2
    split <;> omega
  · refine ⟨fun e he => ?_, fun e he h2 => ?_, fun e e' he he' h2 => ?_⟩
    · rw [hmo]
      show _ ↔ d + 1 = e + 1
      have := h0 e he
      split <;> omega
    · rw [hmo] at h2
      have := h0 e he
      split at h2 <;> omega
    · rw [hmo] at h2
      have := h0 e he
      split at h2 <;> omega
  · refine ⟨(hrt d hd).1, fun h => absurd h (by show ¬ d + 1 = 0; omega), fun _ => ?_, fun _ => 0, fun e he h2 => ?_⟩
    · show (vg_sCU (vg_sMO (vg_sTP g (d + 1)) (vg_un g.mo d 1)) (10 * d)).mo (10 * d / 10) ≠ 0
      rw [hmo, if_pos (by omega)]
      omega
    · rw [hmo] at h2
      have := h0 e he
      split at h2 <;> omega
theorem iv_mnt {g : vg_G} {d o : Nat} (hI : iv_I g) (hd : d < 4) (ht : g.tp ≠ 0) (hm : g.mo d = 0) (ho : o < 40) (hor : o % 10 ≠ 0) (hok : g.ki o = 1) (hom : g.mo (o / 10) ≠ 0) (hc : ∀ e, e < 4 → g.mo e ≠ o + 2) : iv_I (vg_sMO g (vg_un g.mo d (o + 2))) := by
  obtain ⟨hb, hrt, hna, hnb, hcn, htb, hef, hd1, hrk, hfl, hlk, hdr, hhn, hbk, hma, hmb⟩ := hI
  obtain ⟨b1, b2, b3, b4, b5, b6, b7, b8, b9, b10, b11, b12, b13, b14, b15, b16⟩ := hb
  have hmo : ∀ q, (vg_sMO g (vg_un g.mo d (o + 2))).mo q = if q = d then o + 2 else g.mo q := fun q => rfl
  have hnz : ∀ q, g.mo q ≠ 0 → (vg_sMO g (vg_un g.mo d (o + 2))).mo q ≠ 0 := by
    intro q h
    rw [hmo]
    split <;> omega
  unfold iv_I iv_X iv_bd
  refine ⟨⟨b1, b2, b3, ?_, b5, b6, b7, b8, b9, b10, b11, b12, b13, b14, b15, b16⟩, hrt, hna, hnb, hcn, htb, hef, hd1, hrk, hfl, hlk, hdr, ?_, hbk, ?_, ?_⟩
  · intro j; rw [hmo]; have := b4 j; split <;> omega
  · intro h hh hne
    have h1 := hhn h hh hne
    exact ⟨h1.1, h1.2.1, hnz _ h1.2.2⟩
  · refine ⟨fun e he => ?_, fun e he h2 => ?_, fun e e' he he' h2 h3 => ?_⟩
    · rw [hmo]
      show _ ↔ g.tp = e + 1
      have h1 := hma.1 e he
      by_cases e1 : e = d
      · rw [if_pos e1]; subst e1; omega
      · rw [if_neg e1]; exact h1
    · rw [hmo] at h2 ⊢
      by_cases e1 : e = d
      · rw [if_pos e1]
        rw [show o + 2 - 2 = o by omega]
        exact ⟨hor, hok, hnz _ hom⟩
      · rw [if_neg e1] at h2 ⊢
        have h3 := hma.2.1 e he h2
        exact ⟨h3.1, h3.2.1, hnz _ h3.2.2⟩
    · rw [hmo] at h2
      rw [hmo, hmo] at h3
      by_cases e1 : e = d
      · by_cases e2 : e' = d
        · omega
        · rw [if_pos e1, if_neg e2] at h3
          exact absurd h3.symm (hc e' he')
      · rw [if_neg e1] at h2
        by_cases e2 : e' = d
        · rw [if_neg e1, if_pos e2] at h3
          exact absurd h3 (hc e he)
        · rw [if_neg e1, if_neg e2] at h3
          exact hma.2.2 e e' he he' h2 h3
  · obtain ⟨m1, m2, m3, rk, hr⟩ := hmb
    refine ⟨m1, fun h => absurd h ht, fun h => hnz _ (m3 h), vg_un rk d (rk (o / 10) + 1), fun e he h2 => ?_⟩
    rw [hmo] at h2 ⊢
    by_cases e1 : e = d
    · rw [if_pos e1, e1, un_s, show o + 2 - 2 = o by omega, un_n _ _ (by intro z; rw [z] at hom; exact hom hm)]
      omega
    · rw [if_neg e1] at h2 ⊢
      have h3 := hma.2.1 e he h2
      rw [un_n _ _ e1, un_n _ _ (by intro z; have := h3.2.2; rw [z] at this; exact this hm)]
      exact hr e he h2
theorem iv_unm {g : vg_G} {d : Nat} (hI : iv_I g) (hd : d < 4) (ht : g.tp ≠ d + 1) (hcu : g.cu / 10 ≠ d) (hop : ∀ h, h < 5 → g.oF h ≠ 0 → g.oF h / 10 ≠ d) (hc : ∀ e, e < 4 → 2 ≤ g.mo e → (g.mo e - 2) / 10 ≠ d) : iv_I (vg_sMO g (vg_un g.mo d 0)) := by
  obtain ⟨hb, hrt, hna, hnb, hcn, htb, hef, hd1, hrk, hfl, hlk, hdr, hhn, hbk, hma, hmb⟩ := hI
  obtain ⟨b1, b2, b3, b4, b5, b6, b7, b8, b9, b10, b11, b12, b13, b14, b15, b16⟩ := hb
  have hmo : ∀ q, (vg_sMO g (vg_un g.mo d 0)).mo q = if q = d then 0 else g.mo q := fun q => rfl
  have hnz : ∀ q, q ≠ d → g.mo q ≠ 0 → (vg_sMO g (vg_un g.mo d 0)).mo q ≠ 0 := by
    intro q h1 h
    rw [hmo, if_neg h1]
    exact h
  unfold iv_I iv_X iv_bd
  refine ⟨⟨b1, b2, b3, ?_, b5, b6, b7, b8, b9, b10, b11, b12, b13, b14, b15, b16⟩, hrt, hna, hnb, hcn, htb, hef, hd1, hrk, hfl, hlk, hdr, ?_, hbk, ?_, ?_⟩
  · intro j; rw [hmo]; have := b4 j; split <;> omega
  · intro h hh hne
    have h1 := hhn h hh hne
    exact ⟨h1.1, h1.2.1, hnz _ (hop h hh hne) h1.2.2⟩
  · refine ⟨fun e he => ?_, fun e he h2 => ?_, fun e e' he he' h2 h3 => ?_⟩
    · rw [hmo]
      show _ ↔ g.tp = e + 1
      have h1 := hma.1 e he
      by_cases e1 : e = d
      · rw [if_pos e1]; subst e1; omega
      · rw [if_neg e1]; exact h1
    · rw [hmo] at h2 ⊢
      by_cases e1 : e = d
      · rw [if_pos e1] at h2; omega
      · rw [if_neg e1] at h2 ⊢
        have h3 := hma.2.1 e he h2
        exact ⟨h3.1, h3.2.1, hnz _ (hc e he h2) h3.2.2⟩
    · rw [hmo] at h2
      rw [hmo, hmo] at h3
      by_cases e1 : e = d
      · rw [if_pos e1] at h2; omega
      · rw [if_neg e1] at h2
        by_cases e2 : e' = d
        · rw [if_neg e1, if_pos e2] at h3; omega
        · rw [if_neg e1, if_neg e2] at h3
          exact hma.2.2 e e' he he' h2 h3
  · obtain ⟨m1, m2, m3, rk, hr⟩ := hmb
    refine ⟨m1, fun h => ⟨(m2 h).1, fun e he => ?_⟩, fun h => hnz _ hcu (m3 h), rk, fun e he h2 => ?_⟩
    · rw [hmo]
      have := (m2 h).2 e he
      split <;> omega
    · rw [hmo] at h2 ⊢
      by_cases e1 : e = d
      · rw [if_pos e1] at h2; omega
      · rw [if_neg e1] at h2 ⊢
        exact hr e he h2
/-- the disk at the top carries the current directory, or another disk -/
theorem iv_topb {g : vg_G} {d : Nat} (hI : iv_I g) (ht : g.tp = d + 1) : g.cu / 10 = d ∨ ∃ e, e < 4 ∧ 2 ≤ g.mo e ∧ (g.mo e - 2) / 10 = d := by
  obtain ⟨hb, hrt, hna, hnb, hcn, htb, hef, hd1, hrk, hfl, hlk, hdr, hhn, hbk, hma, hmb⟩ := hI
  obtain ⟨b1, b2, b3, b4, b5, b6, b7, b8, b9, b10, b11, b12, b13, b14, b15, b16⟩ := hb
  obtain ⟨m1, m2, m3, rk, hr⟩ := hmb
  have key : ∀ r c, rk c ≤ r → c < 4 → g.mo c ≠ 0 → c = d ∨ ∃ e, e < 4 ∧ 2 ≤ g.mo e ∧ (g.mo e - 2) / 10 = d := by
    intro r
    induction r with
    | zero =>
      intro c h1 hc h2
      by_cases e1 : c = d
      · left; exact e1
      · have h3 := hma.1 c hc
        have h4 := hr c hc (by omega)
        omega
    | succ r ih =>
      intro c h1 hc h2
      by_cases e1 : c = d
      · left; exact e1
      · have h3 := hma.1 c hc
        have h5 : 2 ≤ g.mo c := by omega
        have h4 := hr c hc h5
        have h6 := hma.2.1 c hc h5
        have h7 := b4 c
        rcases ih ((g.mo c - 2) / 10) (by omega) (by omega) h6.2.2 with h | h
        · right; exact ⟨c, hc, h5, h⟩
        · right; exact h
  exact key _ _ (Nat.le_refl _) (by omega) (m3 (by omega))
theorem iv_cur {g : vg_G} {o : Nat} (hI : iv_I g) (ho : o < 40) (hok : g.ki o = 1) (ht : g.tp ≠ 0) (hom : g.mo (o / 10) ≠ 0) : iv_I (vg_sCU g o) := by
  obtain ⟨hb, hrt, hna, hnb, hcn, htb, hef, hd1, hrk, hfl, hlk, hdr, hhn, hbk, hma, hmb⟩ := hI
  obtain ⟨b1, b2, b3, b4, b5, b6, b7, b8, b9, b10, b11, b12, b13, b14, b15, b16⟩ := hb
  unfold iv_I iv_X iv_bd
  exact ⟨⟨b1, b2, b3, b4, b5, ho, b7, b8, b9, b10, b11, b12, b13, b14, b15, b16⟩, hrt, hna, hnb, hcn, htb, hef, hd1, hrk, hfl, hlk, hdr, hhn, hbk, hma, hok, fun h => absurd h ht, fun _ => hom, hmb.2.2.2⟩
theorem iv_syn {g : vg_G} {d : Nat} (hI : iv_I g) : iv_I (vg_sDE g (vg_un g.de d 0)) := by
  obtain ⟨hb, hrt, hna, hnb, hcn, htb, hef, hd1, hrk, hfl, hlk, hdr, hhn, hbk, hma, hmb⟩ := hI
  obtain ⟨b1, b2, b3, b4, b5, b6, b7, b8, b9, b10, b11, b12, b13, b14, b15, b16⟩ := hb
  have hde : ∀ q, (vg_sDE g (vg_un g.de d 0)).de q = if q = d then 0 else g.de q := fun q => rfl
  unfold iv_I iv_X iv_bd
  refine ⟨⟨b1, b2, ?_, b4, b5, b6, b7, b8, b9, b10, b11, b12, b13, b14, b15, b16⟩, hrt, hna, hnb, hcn, htb, hef, hd1, hrk, hfl, hlk, hdr, hhn, ?_, hma, hmb⟩
  · intro j; rw [hde]; have := b3 j; split <;> omega
  · intro e he
    have h1 : g.de e + vg_tk g.fm g.ki g.sz g.wp e ≤ 32 := hbk e he
    show (vg_sDE g (vg_un g.de d 0)).de e + vg_tk g.fm g.ki g.sz g.wp e ≤ 32
    rw [hde]
    split <;> omega
theorem iv_hnd {g : vg_G} {f w q : vg_F} (hI : iv_I g) (hf : ∀ h, h < 5 → f h ≠ 0 → f h % 10 ≠ 0 ∧ g.ki (f h) = 2 ∧ g.mo (f h / 10) ≠ 0) (hf1 : ∀ j, f j < 40) (hw : ∀ j, w j ≤ 3) (hq : ∀ j, q j ≤ 20) : iv_I (vg_hnp g f w q) := by
  obtain ⟨hb, hrt, hna, hnb, hcn, htb, hef, hd1, hrk, hfl, hlk, hdr, hhn, hbk, hma, hmb⟩ := hI
  obtain ⟨b1, b2, b3, b4, b5, b6, b7, b8, b9, b10, b11, b12, b13, b14, b15, b16⟩ := hb
  unfold iv_I iv_X iv_bd
  exact ⟨⟨b1, b2, b3, b4, b5, b6, b7, b8, b9, b10, b11, hf1, hw, hq, b15, b16⟩, hrt, hna, hnb, hcn, htb, hef, hd1, hrk, hfl, hlk, hdr, hf, hbk, hma, hmb⟩
theorem iv_dft {g : vg_G} {r l : vg_F} (hI : iv_I g) (hr : ∀ j, r j ≤ 15) (hl : ∀ j, l j ≤ 5) (hd : ∀ p i, p < 2 → i < l p → r (5 * p + i) = 0 → i = 0) : iv_I (vg_sDL (vg_sDR g r) l) := by
  obtain ⟨hb, hrt, hna, hnb, hcn, htb, hef, hd1, hrk, hfl, hlk, hdr, hhn, hbk, hma, hmb⟩ := hI
  obtain ⟨b1, b2, b3, b4, b5, b6, b7, b8, b9, b10, b11, b12, b13, b14, b15, b16⟩ := hb
  unfold iv_I iv_X iv_bd
  exact ⟨⟨b1, b2, b3, b4, b5, b6, b7, b8, b9, b10, b11, b12, b13, b14, hr, hl⟩, hrt, hna, hnb, hcn, htb, hef, hd1, hrk, hfl, hlk, hd, hhn, hbk, hma, hmb⟩
end VI8
