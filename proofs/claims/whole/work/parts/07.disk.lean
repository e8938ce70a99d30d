section VI7
/-- a disk is made anew -/
theorem iv_clr {g : vg_G} {d f : Nat} (hI : iv_I g) (hd : d < 4) (hf : f ≤ 2) (hm : g.mo d = 0) : iv_I (vg_clr g d f) := by
  obtain ⟨hb, hrt, hna, hnb, hcn, htb, hef, hd1, hrk, hfl, hlk, hdr, hhn, hbk, hma, hmb⟩ := hI
  obtain ⟨b1, b2, b3, b4, b5, b6, b7, b8, b9, b10, b11, b12, b13, b14, b15, b16⟩ := hb
  have hfm : ∀ q, (vg_clr g d f).fm q = if q = d then f else g.fm q := fun q => rfl
  have hro : ∀ q, (vg_clr g d f).ro q = if q = d then 0 else g.ro q := fun q => rfl
  have hde : ∀ q, (vg_clr g d f).de q = if q = d then 0 else g.de q := fun q => rfl
  have hki0 : ∀ q, (vg_clr g d f).ki q = if 10 * d ≤ q ∧ q < 10 * d + 10 then (if q = 10 * d then 1 else 0) else g.ki q := fun q => rfl
  have hki : ∀ q, (vg_clr g d f).ki q = if q / 10 = d then (if q = 10 * d then 1 else 0) else g.ki q := by
    intro q
    rw [hki0]
    by_cases e : q / 10 = d
    · rw [if_pos (by omega), if_pos e]
    · rw [if_neg (by omega), if_neg e]
  have hsz : ∀ q, (vg_clr g d f).sz q = if q = 10 * d then 0 else g.sz q := fun q => rfl
  have heF : ∀ q, (vg_clr g d f).ef q = if q = 10 * d then 0 else g.ef q := fun q => rfl
  have hwp : ∀ q, (vg_clr g d f).wp q = if q = 10 * d then 0 else g.wp q := fun q => rfl
  have hnd0 : ∀ j, (vg_clr g d f).nd j = if 150 * d ≤ j ∧ j < 150 * d + 15 then 0 else g.nd j := fun q => rfl
  have hnd : ∀ q m, m < 15 → (vg_clr g d f).nd (15 * q + m) = if q = 10 * d then 0 else g.nd (15 * q + m) := by
    intro q m hm
    rw [hnd0]
    by_cases e : q = 10 * d
    · rw [if_pos (by omega), if_pos e]
    · rw [if_neg (by omega), if_neg e]
  have hK : ∀ {q k : Nat}, (vg_clr g d f).ki q = k → k ≠ 0 → q % 10 ≠ 0 ∨ k ≠ 1 → q / 10 ≠ d ∧ g.ki q = k := by
    intro q k h1 h2 h3
    rw [hki] at h1
    by_cases e : q / 10 = d
    · rw [if_pos e] at h1
      by_cases e2 : q = 10 * d
      · rw [if_pos e2] at h1; omega
      · rw [if_neg e2] at h1; omega
    · rw [if_neg e] at h1; exact ⟨e, h1⟩
  have hK1 : ∀ {q : Nat}, (vg_clr g d f).ki q = 1 → q ≠ 10 * d → q / 10 ≠ d ∧ g.ki q = 1 := by
    intro q h1 h3
    rw [hki] at h1
    by_cases e : q / 10 = d
    · rw [if_pos e, if_neg h3] at h1; omega
    · rw [if_neg e] at h1; exact ⟨e, h1⟩
  unfold iv_I iv_X iv_bd
  refine ⟨⟨?_, ?_, ?_, b4, b5, b6, ?_, ?_, ?_, ?_, ?_, b12, b13, b14, b15, b16⟩, ?_, ?_, ?_, ?_, ?_, ?_, ?_, ?_, ?_, ?_, hdr, ?_, ?_, ?_, ?_⟩
  · intro j; rw [hfm]; have := b1 j; split <;> omega
  · intro j; rw [hro]; have := b2 j; split <;> omega
  · intro j; rw [hde]; have := b3 j; split <;> omega
  · intro j; rw [hki]; have := b7 j; split
    · split <;> omega
    · omega
  · intro j; rw [hsz]; have := b8 j; split <;> omega
  · intro j; rw [heF]; have := b9 j; split <;> omega
  · intro j; rw [hwp]; have := b10 j; split <;> omega
  · intro j; rw [hnd0]; have := b11 j; split <;> omega
  · intro e he
    rw [hki, hwp, heF]
    by_cases e1 : e = d
    · rw [if_pos (by omega), if_pos (by omega), if_pos (by omega), if_pos (by omega)]; exact ⟨rfl, rfl, rfl⟩
    · rw [if_neg (by omega), if_neg (by omega), if_neg (by omega)]; exact hrt e he
  · intro j hj hne
    rw [hnd0] at hne ⊢
    by_cases e1 : 150 * d ≤ j ∧ j < 150 * d + 15
    · rw [if_pos e1] at hne; exact absurd rfl hne
    · rw [if_neg e1] at hne ⊢; exact hna j hj hne
  · intro q m hq hk hm hne
    rw [hnd q m hm] at hne ⊢
    by_cases e1 : q = 10 * d
    · rw [if_pos e1] at hne; exact absurd rfl hne
    · rw [if_neg e1] at hne ⊢
      have h1 := hK1 hk e1
      have h2 := hnb q m hq h1.2 hm hne
      have h3 := hna (15 * q + m) (by omega) hne
      rw [hki, if_neg (by omega)]
      exact h2
  · intro q hq hk
    rw [hsz]
    by_cases e1 : q = 10 * d
    · rw [if_pos e1]
      refine ⟨?_, by omega⟩
      unfold vg_bl
      rw [sm_zero (fun i hi => by rw [hnd q i hi, if_pos e1, if_pos rfl])]
    · rw [if_neg e1, bl_cg (nd' := g.nd) (fun i hi => by rw [hnd q i hi, if_neg e1])]
      exact hcn q hq (hK1 hk e1).2
  · intro q m hq hk hfq h1 h7
    rw [hnd q m (by omega), hnd q (m + 7) (by omega)]
    by_cases e1 : q = 10 * d
    · rw [if_pos e1]; left; rfl
    · have h2 := hK1 hk e1
      rw [hfm, if_neg h2.1] at hfq
      rw [if_neg e1, if_neg e1]
      exact htb q m hq h2.2 hfq h1 h7
  · intro x hx hxr hxk
    have h1 : x / 10 ≠ d ∧ g.ki x ≠ 0 := by
      have h2 := hK (q := x) rfl hxk (by left; exact hxr)
      exact ⟨h2.1, by rw [h2.2]; exact hxk⟩
    rw [heF, if_neg (by omega), hef x hx hxr h1.2]
    refine en_cg (fun q hq => ?_)
    have a1 : (vg_clr g d f).ki q = g.ki q := by rw [hki, if_neg (by omega)]
    rw [a1, dc_cg (nd := (vg_clr g d f).nd) (nd' := g.nd) (fun i hi => by rw [hnd q i hi, if_neg (by omega)])]
  · intro x hx hxr hxk hx0
    have h1 := hK hxk (by omega) (by left; exact hxr)
    rw [heF, if_neg (by omega)]
    exact hd1 x hx hxr h1.2 hx0
  · obtain ⟨rk, hr⟩ := hrk
    refine ⟨rk, ?_⟩
    intro q m hq hk hm hne hkt
    rw [hnd q m hm] at hne hkt ⊢
    by_cases e1 : q = 10 * d
    · rw [if_pos e1] at hne; exact absurd rfl hne
    · rw [if_neg e1] at hne hkt ⊢
      have h1 := hK1 hk e1
      have h3 := hna (15 * q + m) (by omega) hne
      rw [hki, if_neg (by omega)] at hkt
      exact hr q m hq h1.2 hm hne hkt
  · intro x hx hxk
    have h1 := hK hxk (by omega) (by right; omega)
    rw [hwp, hsz, if_neg (by omega), if_neg (by omega)]
    exact hfl x hx h1.2
  · intro x hx hxk
    have h1 := hK hxk (by omega) (by right; omega)
    rw [hsz, if_neg (by omega)]
    exact hlk x hx h1.2
  · intro h hh hne
    have h1 := hhn h hh hne
    refine ⟨h1.1, ?_, h1.2.2⟩
    show (vg_clr g d f).ki (g.oF h) = 2
    rw [hki, if_neg (by intro e; have := h1.2.2; rw [e] at this; exact this hm)]
    exact h1.2.1
  · intro e he
    rw [hde]
    by_cases e1 : e = d
    · rw [if_pos e1]
      have h1 := sm_bd (f := fun i => vg_bk (vg_clr g d f).fm (vg_clr g d f).ki (vg_clr g d f).sz (vg_clr g d f).wp (10 * e + i)) (c := 1) (k := 10) (fun i hi => by
        (try dsimp only)
        unfold vg_bk
        by_cases e2 : 10 * e + i = 10 * d
        · have a1 : (vg_clr g d f).ki (10 * e + i) = 1 := by rw [hki, if_pos (by omega), if_pos e2]
          have a2 : (vg_clr g d f).sz (10 * e + i) = 0 := by rw [hsz, if_pos e2]
          rw [a1, if_pos rfl, a2]; unfold vg_bd; rw [if_neg (by omega)]; omega
        · have a1 : (vg_clr g d f).ki (10 * e + i) = 0 := by rw [hki, if_pos (by omega), if_neg e2]
          rw [a1, if_neg (show ¬ (0 : Nat) = 1 by decide), if_neg (show ¬ (0 : Nat) = 2 by decide)]; omega)
      unfold vg_tk
      omega
    · rw [if_neg e1, tk_cg (fm := g.fm) (ki := g.ki) (sz := g.sz) (wp := g.wp) (fun y hy => bk_cg (by rw [hfm, if_neg (by omega)]) (by rw [hki, if_neg (by omega)]) (by rw [hsz, if_neg (by omega)]) (by rw [hwp, if_neg (by omega)]))]
      exact hbk e he
  · refine ⟨hma.1, fun e he h2 => ?_, hma.2.2⟩
    have h3 := hma.2.1 e he h2
    refine ⟨h3.1, ?_, h3.2.2⟩
    show (vg_clr g d f).ki (g.mo e - 2) = 1
    rw [hki, if_neg (by intro z; have := h3.2.2; rw [z] at this; exact this hm)]
    exact h3.2.1
  · refine ⟨?_, hmb.2⟩
    show (vg_clr g d f).ki g.cu = 1
    rw [hki]
    by_cases e1 : g.cu / 10 = d
    · rw [if_pos e1, if_pos]
      have h1 : g.tp = 0 := by
        apply Classical.byContradiction
        intro h
        have := hmb.2.2.1 h
        rw [e1] at this
        exact this hm
      have h2 := (hmb.2.1 h1).1
      omega
    · rw [if_neg e1]; exact hmb.1
/-- a disk becomes the copy of another -/
theorem iv_pck {g : vg_G} {a b : Nat} (hI : iv_I g) (ha : a < 4) (hb4 : b < 4) (hab : a ≠ b) (hm : g.mo b = 0) : iv_I (vg_pck g a b 10) := by
  obtain ⟨hb, hrt, hna, hnb, hcn, htb, hef, hd1, hrk, hfl, hlk, hdr, hhn, hbk, hma, hmb⟩ := hI
  obtain ⟨b1, b2, b3, b4, b5, b6, b7, b8, b9, b10, b11, b12, b13, b14, b15, b16⟩ := hb
  have hfm : ∀ q, (vg_pck g a b 10).fm q = if q = b then g.fm a else g.fm q := fun q => rfl
  have hro : ∀ q, (vg_pck g a b 10).ro q = if q = b then 1 else g.ro q := fun q => rfl
  have hde : ∀ q, (vg_pck g a b 10).de q = if q = b then 0 else g.de q := fun q => rfl
  have hki : ∀ q, (vg_pck g a b 10).ki q = if q / 10 = b then g.ki (q - 10 * b + 10 * a) else g.ki q := by
    intro q
    show (if 10 * b ≤ q ∧ q < 10 * b + 10 then g.ki (q - 10 * b + 10 * a) else g.ki q) = _
    by_cases e : q / 10 = b
    · rw [if_pos (by omega), if_pos e]
    · rw [if_neg (by omega), if_neg e]
  have hsz : ∀ q, (vg_pck g a b 10).sz q = if q / 10 = b then g.sz (q - 10 * b + 10 * a) else g.sz q := by
    intro q
    show (if 10 * b ≤ q ∧ q < 10 * b + 10 then g.sz (q - 10 * b + 10 * a) else g.sz q) = _
    by_cases e : q / 10 = b
    · rw [if_pos (by omega), if_pos e]
    · rw [if_neg (by omega), if_neg e]
  have heF : ∀ q, (vg_pck g a b 10).ef q = if q / 10 = b then g.ef (q - 10 * b + 10 * a) else g.ef q := by
    intro q
    show (if 10 * b ≤ q ∧ q < 10 * b + 10 then g.ef (q - 10 * b + 10 * a) else g.ef q) = _
    by_cases e : q / 10 = b
    · rw [if_pos (by omega), if_pos e]
    · rw [if_neg (by omega), if_neg e]
  have hwp : ∀ q, (vg_pck g a b 10).wp q = if q / 10 = b then g.wp (q - 10 * b + 10 * a) else g.wp q := by
    intro q
    show (if 10 * b ≤ q ∧ q < 10 * b + 10 then g.wp (q - 10 * b + 10 * a) else g.wp q) = _
    by_cases e : q / 10 = b
    · rw [if_pos (by omega), if_pos e]
    · rw [if_neg (by omega), if_neg e]
  have hhd : ∀ q i, i < 20 → (vg_pck g a b 10).hd (20 * q + i) = if q / 10 = b then g.hd (20 * (q - 10 * b + 10 * a) + i) else g.hd (20 * q + i) := by
    intro q i hi
    show (if 200 * b ≤ 20 * q + i ∧ 20 * q + i < 200 * b + 20 * 10 then g.hd (20 * q + i - 200 * b + 200 * a) else g.hd (20 * q + i)) = _
    by_cases e : q / 10 = b
    · rw [if_pos (by omega), if_pos e, show 20 * q + i - 200 * b + 200 * a = 20 * (q - 10 * b + 10 * a) + i by omega]
    · rw [if_neg (by omega), if_neg e]
  have hnd0 : ∀ j, (vg_pck g a b 10).nd j = if 150 * b ≤ j ∧ j < 150 * b + 15 * 10 then (if g.nd (j - 150 * b + 150 * a) = 0 then 0 else g.nd (j - 150 * b + 150 * a) + 10 * b - 10 * a) else g.nd j := fun j => rfl
  have hnd : ∀ q m, m < 15 → (vg_pck g a b 10).nd (15 * q + m) = if q / 10 = b then (if g.nd (15 * (q - 10 * b + 10 * a) + m) = 0 then 0 else g.nd (15 * (q - 10 * b + 10 * a) + m) + 10 * b - 10 * a) else g.nd (15 * q + m) := by
    intro q m hm
    rw [hnd0]
    by_cases e : q / 10 = b
    · rw [if_pos (by omega), if_pos e, show 15 * q + m - 150 * b + 150 * a = 15 * (q - 10 * b + 10 * a) + m by omega]
    · rw [if_neg (by omega), if_neg e]
  have hsrc : ∀ q m, q / 10 = b → m < 15 → g.nd (15 * (q - 10 * b + 10 * a) + m) ≠ 0 → g.nd (15 * (q - 10 * b + 10 * a) + m) / 10 = a ∧ g.nd (15 * (q - 10 * b + 10 * a) + m) % 10 ≠ 0 := by
    intro q m hq hm hne
    have h1 := hna (15 * (q - 10 * b + 10 * a) + m) (by omega) hne
    exact ⟨by omega, h1.2⟩
  unfold iv_I iv_X iv_bd
  refine ⟨⟨?_, ?_, ?_, b4, b5, b6, ?_, ?_, ?_, ?_, ?_, b12, b13, b14, b15, b16⟩, ?_, ?_, ?_, ?_, ?_, ?_, ?_, ?_, ?_, ?_, hdr, ?_, ?_, ?_, ?_⟩
  · intro j; rw [hfm]; have := b1 j; have := b1 a; split <;> omega
  · intro j; rw [hro]; have := b2 j; split <;> omega
  · intro j; rw [hde]; have := b3 j; split <;> omega
  · intro j; rw [hki]; split
    · exact b7 _
    · exact b7 _
  · intro j; rw [hsz]; split
    · exact b8 _
    · exact b8 _
  · intro j; rw [heF]; split
    · exact b9 _
    · exact b9 _
  · intro j; rw [hwp]; split
    · exact b10 _
    · exact b10 _
  · intro j; rw [hnd0]
    by_cases e1 : 150 * b ≤ j ∧ j < 150 * b + 15 * 10
    · rw [if_pos e1]
      by_cases e2 : g.nd (j - 150 * b + 150 * a) = 0
      · rw [if_pos e2]; omega
      · rw [if_neg e2]
        have h1 := hna (j - 150 * b + 150 * a) (by omega) e2
        omega
    · rw [if_neg e1]; exact b11 j
  · intro e he
    rw [hki, hwp, heF]
    by_cases e1 : e = b
    · rw [if_pos (by omega), if_pos (by omega), if_pos (by omega), show 10 * e - 10 * b + 10 * a = 10 * a by omega]; exact hrt a ha
    · rw [if_neg (by omega), if_neg (by omega), if_neg (by omega)]; exact hrt e he
  · intro j hj hne
    rw [hnd0] at hne ⊢
    by_cases e1 : 150 * b ≤ j ∧ j < 150 * b + 15 * 10
    · rw [if_pos e1] at hne ⊢
      by_cases e2 : g.nd (j - 150 * b + 150 * a) = 0
      · rw [if_pos e2] at hne; exact absurd rfl hne
      · rw [if_neg e2] at hne ⊢
        have h1 := hna (j - 150 * b + 150 * a) (by omega) e2
        omega
    · rw [if_neg e1] at hne ⊢; exact hna j hj hne
  · intro q m hq hk hm hne
    rw [hnd q m hm] at hne ⊢
    rw [hki] at hk
    by_cases e1 : q / 10 = b
    · rw [if_pos e1] at hne hk ⊢
      by_cases e2 : g.nd (15 * (q - 10 * b + 10 * a) + m) = 0
      · rw [if_pos e2] at hne; exact absurd rfl hne
      · rw [if_neg e2]
        have h1 := hsrc q m e1 hm e2
        have h2 := hnb (q - 10 * b + 10 * a) m (by omega) hk hm e2
        rw [hki, if_pos (by omega), show g.nd (15 * (q - 10 * b + 10 * a) + m) + 10 * b - 10 * a - 10 * b + 10 * a = g.nd (15 * (q - 10 * b + 10 * a) + m) by omega]
        exact h2
    · rw [if_neg e1] at hne hk ⊢
      have h1 := hna (15 * q + m) (by omega) hne
      rw [hki, if_neg (by omega)]
      exact hnb q m hq hk hm hne
  · intro q hq hk
    rw [hsz]
    rw [hki] at hk
    by_cases e1 : q / 10 = b
    · rw [if_pos e1] at hk ⊢
      have h1 := hcn (q - 10 * b + 10 * a) (by omega) hk
      have h2 : vg_bl (vg_pck g a b 10).nd q 15 = vg_bl g.nd (q - 10 * b + 10 * a) 15 := by
        unfold vg_bl
        refine sm_congr (fun i hi => ?_)
        rw [hnd q i hi, if_pos e1]
        by_cases e2 : g.nd (15 * (q - 10 * b + 10 * a) + i) = 0
        · rw [if_pos e2, if_pos rfl, if_pos e2]
        · have h3 := hsrc q i e1 hi e2
          rw [if_neg e2, if_neg (by omega), if_neg e2]
      rw [h2]
      exact h1
    · rw [if_neg e1] at hk ⊢
      rw [bl_cg (nd' := g.nd) (fun i hi => by rw [hnd q i hi, if_neg e1])]
      exact hcn q hq hk
  · intro q m hq hk hfq h1 h7
    rw [hnd q m (by omega), hnd q (m + 7) (by omega)]
    rw [hki] at hk
    rw [hfm] at hfq
    by_cases e1 : q / 10 = b
    · rw [if_pos e1] at hk hfq ⊢
      rw [if_pos e1]
      have h2 := htb (q - 10 * b + 10 * a) m (by omega) hk (by rw [show (q - 10 * b + 10 * a) / 10 = a by omega]; exact hfq) h1 h7
      rcases h2 with h2 | h2
      · left; rw [if_pos h2]
      · right; rw [if_pos h2]
    · rw [if_neg e1] at hk hfq ⊢
      rw [if_neg e1]
      exact htb q m hq hk hfq h1 h7
  · intro x hx hxr hxk
    rw [hki] at hxk
    rw [heF]
    by_cases e1 : x / 10 = b
    · rw [if_pos e1] at hxk ⊢
      rw [hef (x - 10 * b + 10 * a) (by omega) (by omega) hxk]
      unfold vg_en
      refine sm_congr (fun i hi => ?_)
      have a1 : (vg_pck g a b 10).ki (10 * (x / 10) + i) = g.ki (10 * ((x - 10 * b + 10 * a) / 10) + i) := by
        rw [hki, if_pos (by omega), show 10 * (x / 10) + i - 10 * b + 10 * a = 10 * ((x - 10 * b + 10 * a) / 10) + i by omega]
      rw [a1]
      have h1 : vg_dc (vg_pck g a b 10).nd (10 * (x / 10) + i) x = vg_dc g.nd (10 * ((x - 10 * b + 10 * a) / 10) + i) (x - 10 * b + 10 * a) := by
        unfold vg_dc
        refine sm_congr (fun m hm => ?_)
        have a2 : (vg_pck g a b 10).nd (15 * (10 * (x / 10) + i) + m) = if g.nd (15 * (10 * ((x - 10 * b + 10 * a) / 10) + i) + m) = 0 then 0 else g.nd (15 * (10 * ((x - 10 * b + 10 * a) / 10) + i) + m) + 10 * b - 10 * a := by
          rw [hnd _ m hm, if_pos (by omega), show 10 * (x / 10) + i - 10 * b + 10 * a = 10 * ((x - 10 * b + 10 * a) / 10) + i by omega]
        rw [a2]
        have h2 := hsrc (10 * (x / 10) + i) m (by omega) hm
        rw [show 10 * (x / 10) + i - 10 * b + 10 * a = 10 * ((x - 10 * b + 10 * a) / 10) + i by omega] at h2
        by_cases e2 : g.nd (15 * (10 * ((x - 10 * b + 10 * a) / 10) + i) + m) = 0
        · rw [if_pos e2, if_neg (by omega), if_neg (by omega)]
        · have h3 := h2 e2
          rw [if_neg e2]
          by_cases e3 : g.nd (15 * (10 * ((x - 10 * b + 10 * a) / 10) + i) + m) = x - 10 * b + 10 * a
          · rw [if_pos e3, if_pos (by omega)]
          · rw [if_neg e3, if_neg (by omega)]
      rw [h1]
    · rw [if_neg e1] at hxk ⊢
      rw [hef x hx hxr hxk]
      refine en_cg (fun q hq => ?_)
      have a1 : (vg_pck g a b 10).ki q = g.ki q := by rw [hki, if_neg (by omega)]
      rw [a1, dc_cg (nd := (vg_pck g a b 10).nd) (nd' := g.nd) (fun i hi => by rw [hnd q i hi, if_neg (by omega)])]
  · intro x hx hxr hxk hx0
    rw [hki] at hxk
    rw [heF]
    by_cases e1 : x / 10 = b
    · rw [if_pos e1] at hxk ⊢
      exact hd1 _ (by omega) (by omega) hxk (by omega)
    · rw [if_neg e1] at hxk ⊢
      exact hd1 x hx hxr hxk hx0
  · obtain ⟨rk, hr⟩ := hrk
    refine ⟨fun q => if q / 10 = b then rk (q - 10 * b + 10 * a) else rk q, ?_⟩
    intro q m hq hk hm hne hkt
    rw [hnd q m hm] at hne hkt ⊢
    rw [hki] at hk hkt
    (try dsimp only)
    by_cases e1 : q / 10 = b
    · rw [if_pos e1] at hne hk ⊢
      rw [if_pos e1] at hkt
      rw [if_pos e1]
      by_cases e2 : g.nd (15 * (q - 10 * b + 10 * a) + m) = 0
      · rw [if_pos e2] at hne; exact absurd rfl hne
      · have h1 := hsrc q m e1 hm e2
        have e3 : g.nd (15 * (q - 10 * b + 10 * a) + m) + 10 * b - 10 * a - 10 * b + 10 * a = g.nd (15 * (q - 10 * b + 10 * a) + m) := by omega
        rw [if_neg e2] at hkt ⊢
        rw [if_pos (by omega), e3] at hkt
        rw [if_pos (by omega), e3]
        exact hr (q - 10 * b + 10 * a) m (by omega) hk hm e2 hkt
    · rw [if_neg e1] at hne hk ⊢
      rw [if_neg e1] at hkt
      have h1 := hna (15 * q + m) (by omega) hne
      rw [if_neg (by omega)] at hkt
      rw [if_neg e1, if_neg (by omega)]
      exact hr q m hq hk hm hne hkt
  · intro x hx hxk
    rw [hki] at hxk
    rw [hwp, hsz]
    by_cases e1 : x / 10 = b
    · rw [if_pos e1] at hxk ⊢
      rw [if_pos e1]
      exact hfl _ (by omega) hxk
    · rw [if_neg e1] at hxk ⊢
      rw [if_neg e1]
      exact hfl x hx hxk
  · intro x hx hxk
    rw [hki] at hxk
    rw [hsz]
    by_cases e1 : x / 10 = b
    · rw [if_pos e1] at hxk ⊢
      have h1 := hlk _ (by omega) hxk
      refine ⟨h1.1, fun i hi => ?_⟩
      rw [hhd x i (by omega), if_pos e1]
      exact h1.2 i hi
    · rw [if_neg e1] at hxk ⊢
      have h1 := hlk x hx hxk
      refine ⟨h1.1, fun i hi => ?_⟩
      rw [hhd x i (by omega), if_neg e1]
      exact h1.2 i hi
  · intro h hh hne
    have h1 := hhn h hh hne
    refine ⟨h1.1, ?_, h1.2.2⟩
    show (vg_pck g a b 10).ki (g.oF h) = 2
    rw [hki, if_neg (by intro e; have := h1.2.2; rw [e] at this; exact this hm)]
    exact h1.2.1
  · intro e he
    rw [hde]
    by_cases e1 : e = b
    · rw [if_pos e1]
      have h1 : vg_tk (vg_pck g a b 10).fm (vg_pck g a b 10).ki (vg_pck g a b 10).sz (vg_pck g a b 10).wp e = vg_tk g.fm g.ki g.sz g.wp a := by
        unfold vg_tk
        refine sm_congr (fun i hi => ?_)
        unfold vg_bk
        have a0 : 10 * e + i - 10 * b + 10 * a = 10 * a + i := by omega
        have a1 : (vg_pck g a b 10).ki (10 * e + i) = g.ki (10 * a + i) := by rw [hki, if_pos (by omega), a0]
        have a2 : (vg_pck g a b 10).sz (10 * e + i) = g.sz (10 * a + i) := by rw [hsz, if_pos (by omega), a0]
        have a3 : (vg_pck g a b 10).wp (10 * e + i) = g.wp (10 * a + i) := by rw [hwp, if_pos (by omega), a0]
        have a4 : (vg_pck g a b 10).fm ((10 * e + i) / 10) = g.fm ((10 * a + i) / 10) := by rw [hfm, if_pos (by omega), show (10 * a + i) / 10 = a by omega]
        rw [a1, a2, a3, a4]
      rw [h1]
      have := hbk a ha
      omega
    · rw [if_neg e1, tk_cg (fm := g.fm) (ki := g.ki) (sz := g.sz) (wp := g.wp) (fun y hy => bk_cg (by rw [hfm, if_neg (by omega)]) (by rw [hki, if_neg (by omega)]) (by rw [hsz, if_neg (by omega)]) (by rw [hwp, if_neg (by omega)]))]
      exact hbk e he
  · refine ⟨hma.1, fun e he h2 => ?_, hma.2.2⟩
    have h3 := hma.2.1 e he h2
    refine ⟨h3.1, ?_, h3.2.2⟩
    show (vg_pck g a b 10).ki (g.mo e - 2) = 1
    rw [hki, if_neg (by intro z; have := h3.2.2; rw [z] at this; exact this hm)]
    exact h3.2.1
  · refine ⟨?_, hmb.2⟩
    show (vg_pck g a b 10).ki g.cu = 1
    rw [hki]
    by_cases e1 : g.cu / 10 = b
    · have h1 : g.tp = 0 := by
        apply Classical.byContradiction
        intro h
        have := hmb.2.2.1 h
        rw [e1] at this
        exact this hm
      have h2 := (hmb.2.1 h1).1
      rw [if_pos e1, show g.cu - 10 * b + 10 * a = 10 * a by omega]
      exact (hrt a ha).1
    · rw [if_neg e1]; exact hmb.1
end VI7
