section VI4
theorem tk_d {fm ki sz wp fm' ki' sz' wp' : vg_F} {d e : Nat} (hd : d ≠ e) (h : ∀ y, y / 10 ≠ e → vg_bk fm' ki' sz' wp' y = vg_bk fm ki sz wp y) : vg_tk fm' ki' sz' wp' d = vg_tk fm ki sz wp d :=
  tk_cg (fun y hy => h y (by omega))
/-- a new object with one entry -/
theorem iv_new {g : vg_G} {p n o k : Nat} (hI : iv_I g) (hp : p < 40) (hkp : g.ki p = 1) (hn1 : 1 ≤ n) (hn : n ≤ 14) (h0 : g.nd (15 * p + n) = 0)
    (htab : g.fm (p / 10) = 0 → ∀ m, 1 ≤ m → m ≤ 14 → (m = n + 7 ∨ n = m + 7) → g.nd (15 * p + m) = 0) (hs : g.sz p ≤ 5)
    (ho : o < 40) (hod : o / 10 = p / 10) (hok : g.ki o = 0) (hk1 : 1 ≤ k) (hk3 : k ≤ 3)
    (hroom : g.de (p / 10) + vg_tk g.fm g.ki g.sz g.wp (p / 10) + vg_bd (g.fm (p / 10)) (g.sz p + 1) + (if k = 1 then 1 else 0) ≤ 32 + vg_bd (g.fm (p / 10)) (g.sz p)) :
    iv_I (vg_inc (vg_put (vg_beg g o k) p n o) o) := by
  obtain ⟨hb, hrt, hna, hnb, hcn, htb, hef, hd1, hrk, hfl, hlk, hdr, hhn, hbk, hma, hmb⟩ := hI
  obtain ⟨b1, b2, b3, b4, b5, b6, b7, b8, b9, b10, b11, b12, b13, b14, b15, b16⟩ := hb
  have hpo : p ≠ o := by intro e; rw [e, hok] at hkp; omega
  have hor : o % 10 ≠ 0 := by
    intro e
    have := (hrt (o / 10) (by omega)).1
    rw [show 10 * (o / 10) = o by omega, hok] at this
    omega
  have hnoto : ∀ q m, q < 40 → g.ki q = 1 → m < 15 → g.nd (15 * q + m) ≠ o := by
    intro q m hq hk hm e
    have h1 : o ≠ 0 := by omega
    have := (hnb q m hq hk hm (by rw [e]; exact h1)).2
    rw [e, hok] at this
    exact this rfl
  have hki : ∀ q, (vg_inc (vg_put (vg_beg g o k) p n o) o).ki q = if q = o then k else g.ki q := fun q => rfl
  have hsz : ∀ q, (vg_inc (vg_put (vg_beg g o k) p n o) o).sz q = if q = p then g.sz p + 1 else if q = o then 0 else g.sz q := by
    intro q
    show (if q = p then (if p = o then 0 else g.sz p) + 1 else if q = o then 0 else g.sz q) = _
    rw [if_neg hpo]
  have heF : ∀ q, (vg_inc (vg_put (vg_beg g o k) p n o) o).ef q = if q = o then 1 else g.ef q := by
    intro q
    show (if q = o then (if o = o then 0 else g.ef o) + 1 else if q = o then 0 else g.ef q) = _
    by_cases e : q = o
    · rw [if_pos e, if_pos rfl, if_pos e]
    · rw [if_neg e, if_neg e, if_neg e]
  have hwp : ∀ q, (vg_inc (vg_put (vg_beg g o k) p n o) o).wp q = if q = o then 0 else g.wp q := fun q => rfl
  have hnd0 : ∀ j, (vg_inc (vg_put (vg_beg g o k) p n o) o).nd j = if j = 15 * p + n then o else if 15 * o ≤ j ∧ j < 15 * o + 15 then 0 else g.nd j := fun j => rfl
  have hnd : ∀ q m, m < 15 → (vg_inc (vg_put (vg_beg g o k) p n o) o).nd (15 * q + m) = if q = p ∧ m = n then o else if q = o then 0 else g.nd (15 * q + m) := by
    intro q m hm
    rw [hnd0]
    by_cases h1 : q = p ∧ m = n
    · rw [if_pos (by omega), if_pos h1]
    · rw [if_neg (by omega), if_neg h1]
      by_cases h2 : q = o
      · rw [if_pos (by omega), if_pos h2]
      · rw [if_neg (by omega), if_neg h2]
  have hB : ∀ q m, m < 15 → (vg_beg g o k).nd (15 * q + m) = if q = o then 0 else g.nd (15 * q + m) := by
    intro q m hm
    show (if 15 * o ≤ 15 * q + m ∧ 15 * q + m < 15 * o + 15 then 0 else g.nd (15 * q + m)) = _
    by_cases h2 : q = o
    · rw [if_pos (by omega), if_pos h2]
    · rw [if_neg (by omega), if_neg h2]
  have hBn : (vg_beg g o k).nd (15 * p + n) = 0 := by rw [hB p n (by omega), if_neg hpo, h0]
  have hun : (vg_inc (vg_put (vg_beg g o k) p n o) o).nd = vg_un (vg_beg g o k).nd (15 * p + n) o := rfl
  have hKI : (vg_inc (vg_put (vg_beg g o k) p n o) o).ki = vg_un g.ki o k := rfl
  unfold iv_I iv_X iv_bd
  refine ⟨⟨b1, b2, b3, b4, b5, b6, ?_, ?_, ?_, ?_, ?_, b12, b13, b14, b15, b16⟩, ?_, ?_, ?_, ?_, ?_, ?_, ?_, ?_, ?_, ?_, hdr, ?_, ?_, ?_, ?_⟩
  · intro j; rw [hki]; have := b7 j; split <;> omega
  · intro j; rw [hsz]; have := b8 j; split
    · omega
    · split <;> omega
  · intro j; rw [heF]; have := b9 j; split <;> omega
  · intro j; rw [hwp]; have := b10 j; split <;> omega
  · intro j; rw [hnd0]; have := b11 j; split
    · omega
    · split <;> omega
  · intro d hd
    have h1 : 10 * d ≠ o := by omega
    rw [hki, hwp, heF, if_neg h1, if_neg h1, if_neg h1]
    exact hrt d hd
  · intro j hj hne
    rw [hnd0] at hne ⊢
    by_cases e1 : j = 15 * p + n
    · rw [if_pos e1]
      exact ⟨by omega, hor⟩
    · rw [if_neg e1] at hne ⊢
      by_cases e2 : 15 * o ≤ j ∧ j < 15 * o + 15
      · rw [if_pos e2] at hne; exact absurd rfl hne
      · rw [if_neg e2] at hne ⊢
        exact hna j hj hne
  · intro q m hq hk hm hne
    rw [hnd q m hm] at hne ⊢
    by_cases e1 : q = p ∧ m = n
    · rw [if_pos e1]
      exact ⟨by omega, by rw [hki, if_pos rfl]; omega⟩
    · rw [if_neg e1] at hne ⊢
      by_cases e2 : q = o
      · rw [if_pos e2] at hne; exact absurd rfl hne
      · rw [if_neg e2] at hne ⊢
        rw [hki, if_neg e2] at hk
        rw [hki, if_neg (hnoto q m hq hk hm)]
        exact hnb q m hq hk hm hne
  · intro q hq hk
    rw [hsz]
    by_cases e1 : q = p
    · subst e1
      rw [if_pos rfl, hun, bl_un_i hBn (by omega), if_pos (by omega), bl_cg (nd' := g.nd) (fun i hi => by rw [hB q i hi, if_neg hpo])]
      have := hcn q hq hkp
      omega
    · rw [if_neg e1]
      by_cases e2 : q = o
      · subst e2
        rw [if_pos rfl]
        refine ⟨?_, by omega⟩
        unfold vg_bl
        rw [sm_zero (fun i hi => if_pos (by rw [hnd q i hi, if_neg (fun z => e1 z.1), if_pos rfl]))]
      · rw [if_neg e2]
        rw [hki, if_neg e2] at hk
        have := hcn q hq hk
        rw [bl_cg (nd' := g.nd) (fun i hi => by rw [hnd q i hi, if_neg (by omega), if_neg e2])]
        exact this
  · intro q m hq hk hf h1 h7
    rw [hnd q m (by omega), hnd q (m + 7) (by omega)]
    by_cases e2 : q = o
    · left; rw [if_neg (by omega), if_pos e2]
    · rw [hki, if_neg e2] at hk
      rw [if_neg e2, if_neg e2]
      by_cases e1 : q = p
      · subst e1
        by_cases e3 : m = n
        · right; rw [if_neg (by omega)]; exact htab hf (m + 7) (by omega) (by omega) (by omega)
        · by_cases e4 : m + 7 = n
          · left; rw [if_neg (by omega)]; exact htab hf m (by omega) (by omega) (by omega)
          · rw [if_neg (by omega), if_neg (by omega)]; exact htb q m hq hk hf h1 h7
      · rw [if_neg (by omega), if_neg (by omega)]; exact htb q m hq hk hf h1 h7
  · intro x hx hxr hxk
    have hcg : x ≠ o → vg_en (vg_un g.ki o k) (vg_beg g o k).nd x = vg_en g.ki g.nd x := by
      intro hxo
      refine en_cg (fun q hq => ?_)
      by_cases e2 : q = o
      · rw [e2, hok, if_neg (show ¬ (0 : Nat) = 1 by decide), dc_0 (fun m hm => by rw [hB o m hm, if_pos rfl]; omega)]
        split <;> rfl
      · rw [un_n g.ki k e2, dc_cg (nd' := g.nd) (fun i hi => by rw [hB q i hi, if_neg e2])]
    rw [heF, hKI, hun]
    have hkp' : vg_un g.ki o k p = 1 := by rw [un_n g.ki k hpo]; exact hkp
    by_cases e1 : x = o
    · subst e1
      rw [if_pos rfl]
      have h1 := en_un (ki := vg_un g.ki x k) (nd := (vg_beg g x k).nd) (p := p) (n := n) (t := x) (o := x) (by omega) hkp' hod.symm
      rw [hBn, if_pos rfl, if_neg (show ¬ 0 = x by omega)] at h1
      have h2 : vg_en (vg_un g.ki x k) (vg_beg g x k).nd x = 0 := by
        refine en_0 (fun q hq hk m hm => ?_)
        rw [hB q m hm]
        by_cases e2 : q = x
        · rw [if_pos e2]; omega
        · rw [if_neg e2]
          rw [un_n g.ki k e2] at hk
          exact hnoto q m (by omega) hk hm
      omega
    · rw [if_neg e1]
      rw [hki, if_neg e1] at hxk
      rw [hef x hx hxr hxk, ← hcg e1]
      by_cases e3 : p / 10 = x / 10
      · have h1 := en_un (ki := vg_un g.ki o k) (nd := (vg_beg g o k).nd) (p := p) (n := n) (t := o) (o := x) (by omega) hkp' e3
        rw [hBn, if_neg (show ¬ 0 = x by omega), if_neg (fun z => e1 z.symm)] at h1
        omega
      · rw [en_un_o (by omega) e3]
  · intro x hx hxr hxk hx0
    rw [heF]
    by_cases e1 : x = o
    · rw [if_pos e1]
    · rw [if_neg e1]
      rw [hki, if_neg e1] at hxk
      exact hd1 x hx hxr hxk hx0
  · obtain ⟨rk, hr⟩ := hrk
    refine ⟨vg_un rk o (rk p + 1), ?_⟩
    intro q m hq hk hm hne hkt
    rw [hnd q m hm] at hne hkt ⊢
    by_cases e1 : q = p ∧ m = n
    · rw [if_pos e1, un_s, e1.1, un_n rk _ hpo]; omega
    · rw [if_neg e1] at hne hkt ⊢
      by_cases e2 : q = o
      · rw [if_pos e2] at hne; exact absurd rfl hne
      · rw [if_neg e2] at hne hkt ⊢
        rw [hki, if_neg e2] at hk
        have h3 := hnoto q m hq hk hm
        rw [hki, if_neg h3] at hkt
        rw [un_n rk _ e2, un_n rk _ h3]
        exact hr q m hq hk hm hne hkt
  · intro x hx hxk
    rw [hwp, hsz]
    by_cases e1 : x = o
    · rw [if_pos e1]; exact Nat.two_pow_pos _
    · rw [hki, if_neg e1] at hxk
      rw [if_neg e1, if_neg (by intro e; rw [e, hkp] at hxk; omega), if_neg e1]
      exact hfl x hx hxk
  · intro x hx hxk
    rw [hsz]
    by_cases e1 : x = o
    · subst e1
      rw [if_neg (fun z => hpo z.symm), if_pos rfl]
      exact ⟨by omega, fun i hi => absurd hi (Nat.not_lt_zero i)⟩
    · rw [hki, if_neg e1] at hxk
      rw [if_neg (by intro e; rw [e, hkp] at hxk; omega), if_neg e1]
      exact hlk x hx hxk
  · intro h hh hne
    have h1 := hhn h hh hne
    refine ⟨h1.1, ?_, h1.2.2⟩
    rw [hki, if_neg (by intro e; have h2 := h1.2.1; rw [show g.oF h = o from e, hok] at h2; omega)]
    exact h1.2.1
  · intro d hd
    have hbp : vg_bk g.fm (vg_inc (vg_put (vg_beg g o k) p n o) o).ki (vg_inc (vg_put (vg_beg g o k) p n o) o).sz (vg_inc (vg_put (vg_beg g o k) p n o) o).wp p = vg_bd (g.fm (p / 10)) (g.sz p + 1) := by
      unfold vg_bk
      rw [hki, hsz, if_neg hpo, if_pos hkp, if_pos rfl]
    have hbo : vg_bk g.fm (vg_inc (vg_put (vg_beg g o k) p n o) o).ki (vg_inc (vg_put (vg_beg g o k) p n o) o).sz (vg_inc (vg_put (vg_beg g o k) p n o) o).wp o = if k = 1 then 1 else 0 := by
      have a1 : (vg_inc (vg_put (vg_beg g o k) p n o) o).ki o = k := by rw [hki, if_pos rfl]
      have a2 : (vg_inc (vg_put (vg_beg g o k) p n o) o).sz o = 0 := by rw [hsz, if_neg (fun z => hpo z.symm), if_pos rfl]
      have a3 : (vg_inc (vg_put (vg_beg g o k) p n o) o).wp o = 0 := by rw [hwp, if_pos rfl]
      unfold vg_bk
      rw [a1, a2, a3]
      by_cases e1 : k = 1
      · rw [if_pos e1, if_pos e1]; unfold vg_bd; rw [if_neg (by omega)]
      · rw [if_neg e1, if_neg e1]
        by_cases e2 : k = 2
        · rw [if_pos e2]; split <;> rfl
        · rw [if_neg e2]
    have hbq : ∀ y, y ≠ p → y ≠ o → vg_bk g.fm (vg_inc (vg_put (vg_beg g o k) p n o) o).ki (vg_inc (vg_put (vg_beg g o k) p n o) o).sz (vg_inc (vg_put (vg_beg g o k) p n o) o).wp y = vg_bk g.fm g.ki g.sz g.wp y := by
      intro y h1 h2
      exact bk_cg rfl (by rw [hki, if_neg h2]) (by rw [hsz, if_neg h1, if_neg h2]) (by rw [hwp, if_neg h2])
    have hbop : vg_bk g.fm g.ki g.sz g.wp o = 0 := by unfold vg_bk; rw [hok]; rfl
    have hbpp : vg_bk g.fm g.ki g.sz g.wp p = vg_bd (g.fm (p / 10)) (g.sz p) := by unfold vg_bk; rw [hkp]; rfl
    show g.de d + vg_tk g.fm (vg_inc (vg_put (vg_beg g o k) p n o) o).ki (vg_inc (vg_put (vg_beg g o k) p n o) o).sz (vg_inc (vg_put (vg_beg g o k) p n o) o).wp d ≤ 32
    by_cases hdp : d = p / 10
    · have e1 : 10 * (p / 10) + p % 10 = p := by omega
      have e2 : 10 * (p / 10) + o % 10 = o := by omega
      have s1 := sm_one (f := fun i => vg_bk g.fm (vg_inc (vg_put (vg_beg g o k) p n o) o).ki (vg_inc (vg_put (vg_beg g o k) p n o) o).sz (vg_inc (vg_put (vg_beg g o k) p n o) o).wp (10 * (p / 10) + i)) (h := fun i => if i = o % 10 then (if k = 1 then 1 else 0) else vg_bk g.fm g.ki g.sz g.wp (10 * (p / 10) + i)) (j := p % 10) (k := 10) (by omega) (fun i _ hi => by
        (try dsimp only)
        by_cases e3 : i = o % 10
        · rw [if_pos e3, e3, e2]; exact hbo
        · rw [if_neg e3]; exact hbq _ (by omega) (by omega))
      have s2 := sm_one (f := fun i => if i = o % 10 then (if k = 1 then 1 else 0) else vg_bk g.fm g.ki g.sz g.wp (10 * (p / 10) + i)) (h := fun i => vg_bk g.fm g.ki g.sz g.wp (10 * (p / 10) + i)) (j := o % 10) (k := 10) (by omega) (fun i _ hi => by
        (try dsimp only)
        rw [if_neg hi])
      (try dsimp only at s1 s2)
      rw [e1, hbp, if_neg (show ¬ p % 10 = o % 10 by omega), hbpp] at s1
      rw [e2, hbop, if_pos rfl] at s2
      rw [hdp]
      unfold vg_tk at hroom ⊢
      omega
    · rw [tk_d hdp (fun y hy => hbq y (by intro e; rw [e] at hy; exact hy rfl) (by intro e; rw [e] at hy; exact hy hod))]
      exact hbk d hd
  · refine ⟨hma.1, fun d hd h2 => ?_, hma.2.2⟩
    have h3 := hma.2.1 d hd h2
    refine ⟨h3.1, ?_, h3.2.2⟩
    rw [hki, if_neg (by intro e; have h4 := h3.2.1; rw [show g.mo d - 2 = o from e, hok] at h4; omega)]
    exact h3.2.1
  · refine ⟨?_, hmb.2⟩
    rw [hki, if_neg (by intro e; have h4 := hmb.1; rw [show g.cu = o from e, hok] at h4; omega)]
    exact hmb.1
end VI4
