section VZ55
variable {g : vg_G} {ac : Int32} {ah : Nat → Int32} {lf pl nm : Int32} {aM aB aC aZ aN aT aS aI aH aD : Nat → Int32}
theorem vx_moveOnto {post : Int32 → SX → Prop} {x m y n t s : Nat} (hI : iv_I g) (hx : x < 40) (hkx : g.ki x = 1) (hm : m < 15) (ht : g.nd (15 * x + m) = t) (ht0 : t ≠ 0) (htl : t < 40) (hy : y < 40) (hky : g.ki y = 1) (hn : n < 15) (hs : g.nd (15 * y + n) = s) (hs0 : s ≠ 0) (hsl : s < 40) (hls : vg_ls g 1 < 15)
    (hA : t = s → x = y → m = n → post 0 (vx_S (vg_put (vg_rem g x m) y (vg_ls g 1) t) ac ah)) (hB : t = s → ¬ (x = y ∧ m = n) → post 0 (vx_S g ac ah))
    (h2 : t ≠ s → g.ki t = 1 → g.ki s ≠ 1 → post (-2) (vx_S g ac ah)) (h3 : t ≠ s → g.ki t ≠ 1 → g.ki s = 1 → post (-3) (vx_S g ac ah))
    (h8 : t ≠ s → g.ki t = 1 → g.ki s = 1 → (vg_co g.mo s < 4 ∨ s = g.cu) → post (-8) (vx_S g ac ah)) (h10 : t ≠ s → g.ki t = 1 → g.ki s = 1 → ¬ (vg_co g.mo s < 4 ∨ s = g.cu) → g.sz s ≠ 0 → post (-10) (vx_S g ac ah))
    (hC : t ≠ s → (g.ki t = 1 ↔ g.ki s = 1) → (g.ki s = 1 → ¬ (vg_co g.mo s < 4 ∨ s = g.cu) ∧ g.sz s = 0) → iv_I (vz_dp g y n s) ∧ (vz_dp g y n s).nd (15 * x + m) = t ∧ (vz_dp g y n s).ki x = 1 ∧ post 0 (vx_S (vg_put (vg_rem (vz_dp g y n s) x m) y (vg_ls g 1) t) ac ah)) : wpX_moveOntoEntry post (vx_S g ac ah) (nI x) (nI m) (nI y) (nI n) := by
  have EI := vn_i15 x m
  have EJ := vn_i15 y n
  have EKt := vz_k1 hI htl
  have EKs := vz_k1 hI hsl
  have hit : vp_in (nI t) 40 := vp_in_nI htl (by decide)
  have his : vp_in (nI s) 40 := vp_in_nI hsl (by decide)
  have hsb := hI.1.2.2.2.2.2.2.2.1 s
  have m145 : t ≠ s → (g.ki t = 1 ↔ g.ki s = 1) → (g.ki s = 1 → ¬ (vg_co g.mo s < 4 ∨ s = g.cu) ∧ g.sz s = 0) → wX_moveOntoEntry_145 post (nI x) (nI m) (nI y) (nI n) (vg_tv g.tp) (nI g.cu) ac (vg_cv g.fm) (vg_cv g.ro) (vg_cv g.de) (vg_cm g.mo) (vg_cv g.ki) (vg_cv g.sz) (vg_cv g.ef) (vg_cv g.wp) g.hd (vg_cv g.nd) (vg_cv g.oF) (vg_cv g.oH) (vg_cv g.po) (vg_cv g.dr) (vg_cv g.dl) ah := by
    intro a b c
    obtain ⟨d1, d2, d3, d4⟩ := hC a b c
    unfold wX_moveOntoEntry_145
    refine vx_dropEntry (g := g) (ac := ac) (ah := ah) hI hy hky hn hs hs0 ?_
    refine vx_moveEntry (g := vz_dp g y n s) (ac := ac) (ah := ah) d1 hx d3 hm d2 ht0 hy (by rw [dp_ls]; exact hls) ?_
    rw [dp_ls]
    exact d4
  have m88 : t ≠ s → ∀ z7 z0 : Nat, z7 < 2 → z0 < 2 → (z7 = 1 ↔ g.ki t = 1) → (z0 = 1 ↔ g.ki s = 1) → wX_moveOntoEntry_88 post (nI x) (nI m) (nI y) (nI n) (nI s) (nI z7) (nI z0) (vg_tv g.tp) (nI g.cu) ac (vg_cv g.fm) (vg_cv g.ro) (vg_cv g.de) (vg_cm g.mo) (vg_cv g.ki) (vg_cv g.sz) (vg_cv g.ef) (vg_cv g.wp) g.hd (vg_cv g.nd) (vg_cv g.oF) (vg_cv g.oH) (vg_cv g.po) (vg_cv g.dr) (vg_cv g.dl) ah := by
    intro hts z7 z0 hz7 hz0 e7 e0
    unfold wX_moveOntoEntry_88
    refine pk_eq z7 z0 (fun e => pk_eq z0 0 (fun ez => ?_) (fun ez => ?_)) (fun e => pk_eq z0 0 (fun ez => ?_) (fun ez => ?_))
    · have n1 : g.ki s ≠ 1 := fun w => by have := e0.mpr w; omega
      unfold wX_moveOntoEntry_127
      exact br_t (by rw [ez]; rfl) (m145 hts ⟨fun w => by have := e7.mpr w; omega, fun w => absurd w n1⟩ (fun w => absurd w n1))
    · have s1 : g.ki s = 1 := e0.mp (by omega)
      have t1 : g.ki t = 1 := e7.mp (by omega)
      refine vx_isInUse (g := g) (ac := ac) (ah := ah) hI hsl (fun hu => br_f (by decide) (h8 hts t1 s1 hu)) (fun hu => br_t rfl ?_)
      unfold wX_moveOntoEntry_127
      refine br_f (fun w => ez ((vn_e0 (by omega)).mp w)) ⟨his, ?_⟩
      rw [cv_at (f := g.sz) (by omega)]
      exact pk_le (g.sz s) 0 (fun eq => m145 hts ⟨fun _ => s1, fun _ => t1⟩ (fun _ => ⟨hu, by omega⟩)) (fun eq => h10 hts t1 s1 hu (by omega))
    · have n1 : g.ki s ≠ 1 := fun w => by have := e0.mpr w; omega
      exact h2 hts (e7.mp (by omega)) n1
    · have s1 : g.ki s = 1 := e0.mp (by omega)
      exact h3 hts (fun w => by have := e7.mpr w; omega) s1
  have m70 : t ≠ s → ∀ z7 : Nat, z7 < 2 → (z7 = 1 ↔ g.ki t = 1) → wX_moveOntoEntry_70 post (nI x) (nI m) (nI y) (nI n) (nI s) (nI z7) (vg_tv g.tp) (nI g.cu) ac (vg_cv g.fm) (vg_cv g.ro) (vg_cv g.de) (vg_cm g.mo) (vg_cv g.ki) (vg_cv g.sz) (vg_cv g.ef) (vg_cv g.wp) g.hd (vg_cv g.nd) (vg_cv g.oF) (vg_cv g.oH) (vg_cv g.po) (vg_cv g.dr) (vg_cv g.dl) ah := by
    intro hts z7 hz7 e7
    unfold wX_moveOntoEntry_70
    exact ⟨his, fun e => m88 hts z7 1 hz7 (by omega) e7 ⟨fun _ => EKs.mp e, fun _ => rfl⟩, fun e => m88 hts z7 0 hz7 (by omega) e7 ⟨fun w => by omega, fun w => absurd (EKs.mpr w) e⟩⟩
  unfold wpX_moveOntoEntry vx_S
  refine ⟨by rw [EI]; exact vp_in_nI (by omega) (by decide), nm_r (e' := nI t) (by rw [EI, cv_at (by omega), ht]) ⟨by rw [EJ]; exact vp_in_nI (by omega) (by decide), nm_r (e' := nI s) (by rw [EJ, cv_at (by omega), hs]) ?_⟩⟩
  refine pk_eq t s (fun e => pk_eq x y (fun e1 => pk_eq m n (fun e2 => ?_) (fun e2 => hB e (fun w => e2 w.2))) (fun e1 => hB e (fun w => e1 w.1))) (fun e => ⟨hit, fun ek => m70 e 1 (by omega) ⟨fun _ => EKt.mp ek, fun _ => rfl⟩, fun ek => m70 e 0 (by omega) ⟨fun w => by omega, fun w => absurd (EKt.mpr w) ek⟩⟩)
  exact vx_moveEntry (g := g) (ac := ac) (ah := ah) hI hx hkx hm ht ht0 hy hls (hA e e1 e2)
theorem vy_shift {post : Int32 → SY → Prop} {x m y n' t : Nat} (hI : iv_I g) (hR : vy_R g aM aB aC aZ aN aT aS aI aH) (hx : x < 40) (hkx : g.ki x = 1) (hm : m < 15) (ht : g.nd (15 * x + m) = t) (ht0 : t ≠ 0) (htl : t < 40) (hy : y < 40) (hky : g.ki y = 1) (hd : y / 10 = x / 10) (hn : n' < 15) (h0y : g.nd (15 * y + n') = 0)
    (h7 : (6 ≤ (vg_rem g x m).sz y ∨ vg_fr (vg_dec (vg_rem g x m) t) (x / 10) < vg_bd (g.fm (x / 10)) ((vg_rem g x m).sz y + 1) - vg_bd (g.fm (x / 10)) ((vg_rem g x m).sz y)) → ∀ c' n2 t', vy_R g aM aB c' aZ n2 t' aS aI aH → post (-7) (vy_S g lf (nI y) (nI n') aM aB c' aZ n2 t' aS aI aH aD))
    (h0 : ¬ (6 ≤ (vg_rem g x m).sz y ∨ vg_fr (vg_dec (vg_rem g x m) t) (x / 10) < vg_bd (g.fm (x / 10)) ((vg_rem g x m).sz y + 1) - vg_bd (g.fm (x / 10)) ((vg_rem g x m).sz y)) → ∀ c' n2 t', vy_R (vg_put (vg_rem g x m) y n' t) aM aB c' aZ n2 t' aS aI aH → post 0 (vy_S (vg_put (vg_rem g x m) y n' t) lf (nI y) (nI n') aM aB c' aZ n2 t' aS aI aH aD)) :
    wpY_shift post (vy_S g lf (nI y) (nI n') aM aB aC aZ aN aT aS aI aH aD) (nI x) (nI (6 * x + vg_bl g.nd x m)) (nI t) := by
  have hne : g.nd (15 * x + m) ≠ 0 := by rw [ht]; exact ht0
  have hX := iv_rem hI hx hkx hm ht ht0
  have cx := hI.2.2.2.2.1 x hx hkx
  have bx := bl_lt (nd := g.nd) (p := x) (m := m) (k := 15) hm hne
  have hN := ((hR.2.1 x hx hkx).2 m hm hne).1
  have hbr := bd_rem (x := x) (m := m) hI.1
  have hcr : iv_cn (vg_rem g x m) := cn_dec hX.2.2.2.2.1
  have hky2 : (vg_rem g x m).ki y = 1 := hky
  have hkx2 : (vg_rem g x m).ki x = 1 := hkx
  have hsy := hbr.2.2.2.2.2.2.2.1 y
  have csy := hcr y hy hky2
  have hiy : vp_in (nI y) 40 := vp_in_nI hy (by decide)
  have hfr : vg_fr (vg_dec (vg_rem g x m) t) (x / 10) ≤ 32 := by unfold vg_fr; omega
  have hb3 := bd_mono (f := g.fm (x / 10)) (s := (vg_rem g x m).sz y + 1)
  have e0x : (vg_rem g x m).nd (15 * x + m) = 0 := un_s _ _ _
  have e0y : (vg_rem g x m).nd (15 * y + n') = 0 := by
    rw [rem_nd, un_ap, h0y]
    exact ite_self 0
  have esx : (vg_rem g x m).sz x ≤ 5 := by
    rw [rem_sz, un_s]
    omega
  have hpr := put_rem (g := g) (x := x) (m := m) ht (by omega)
  unfold wpY_shift vy_S
  refine ⟨vp_in_nI (by omega) (by decide), nm_r (e' := nI m) (by rw [nI_clamp (by omega)]; exact hN) ?_⟩
  refine vy_delete (g := g) (lf := lf) (pl := nI y) (nm := nI n') (aD := aD) hI.1 hR hI.2.2.2.2.1 hx hkx hm hne (fun c' n2 t' hR' => ?_)
  have back : (6 ≤ (vg_rem g x m).sz y ∨ vg_fr (vg_dec (vg_rem g x m) t) (x / 10) < vg_bd (g.fm (x / 10)) ((vg_rem g x m).sz y + 1) - vg_bd (g.fm (x / 10)) ((vg_rem g x m).sz y)) → wY_shift_50 post (nI x) (nI t) (nI m) (vg_tv (vg_rem g x m).tp) (nI (vg_rem g x m).cu) lf (nI y) (nI n') (vg_cv (vg_rem g x m).fm) (vg_cv (vg_rem g x m).de) (vg_cv (vg_rem g x m).ro) aM aB (vg_cv (vg_rem g x m).ki) (c') aZ (vg_cv (vg_rem g x m).wp) n2 (t') aS aI (vg_cv (vg_rem g x m).dr) (vg_cv (vg_rem g x m).dl) aH (vg_cv (vg_rem g x m).po) (vg_cv (vg_rem g x m).oH) aD := by
    intro hc
    unfold wY_shift_50
    refine vy_insert (g := vg_rem g x m) (lf := lf) (pl := nI y) (nm := nI n') (aD := aD) hbr hR' hcr hx hkx2 hm e0x htl ht0 esx (fun c3 n3 t3 hR3 => ?_)
    rw [hpr] at hR3 ⊢
    exact h7 hc c3 n3 t3 hR3
  have hcy : c' (nI y).toNatClampNeg = nI ((vg_rem g x m).sz y) := by rw [nI_clamp (by omega)]; exact (hR'.2.1 y hy hky2).1
  have hRd := R_dec (t := t) hR'
  have ED : nI y / 10 = nI (x / 10) := by rw [vn_d10 (by omega), hd]
  refine ⟨hiy, ?_⟩
  rw [hcy, ED]
  refine pk_eq ((vg_rem g x m).sz y) 6 (fun e => back (Or.inl (by omega))) (fun e => ⟨vz_10, ?_⟩)
  have rest : ∀ P : Int32 → Prop, P (nI (vg_fr (vg_dec (vg_rem g x m) t) (x / 10))) → wpY_rest P (vy_S (vg_rem g x m) lf (nI y) (nI n') aM aB c' aZ n2 t' aS aI aH aD) (nI (x / 10)) := by
    intro P hP
    rw [← S_dec (t := t)]
    exact vy_rest hX hRd (by omega) hP
  refine rest _ ?_
  refine vy_growth (g := vg_rem g x m) (lf := lf) (pl := nI y) (nm := nI n') (aD := aD) hbr hR'.2.1 hy hky2 ?_
  rw [rem_fm, hd]
  refine pk_le _ _ (fun ec => ?_) (fun ec => back (Or.inr ec)) rfl rfl (by omega) (by omega)
  exact vy_insert (g := vg_rem g x m) (lf := lf) (pl := nI y) (nm := nI n') (aD := aD) hbr hR' hcr hy hky2 hn e0y htl ht0 (by omega) (fun c3 n3 t3 hR3 => h0 (by omega) c3 n3 t3 hR3)
theorem vy_replace {post : Int32 → SY → Prop} {x m y n n' t s : Nat} (hI : iv_I g) (hR : vy_R g aM aB aC aZ aN aT aS aI aH) (hx : x < 40) (hkx : g.ki x = 1) (hm1 : 1 ≤ m) (hm : m ≤ 14) (ht : g.nd (15 * x + m) = t) (ht0 : t ≠ 0) (htl : t < 40) (hy : y < 40) (hky : g.ki y = 1) (hn : n < 15) (hn' : n' < 15) (hs : g.nd (15 * y + n) = s) (hs0 : s ≠ 0) (hsl : s < 40) (hsr : s % 10 ≠ 0) (hsa : g.ki s ≠ 0)
    (h2 : g.ki t = 1 → g.ki s ≠ 1 → post (-2) (vy_S g lf (nI y) (nI n') aM aB aC aZ aN aT aS aI aH aD)) (h3 : g.ki t ≠ 1 → g.ki s = 1 → post (-3) (vy_S g lf (nI y) (nI n') aM aB aC aZ aN aT aS aI aH aD))
    (h8 : g.ki t = 1 → g.ki s = 1 → (vg_co g.mo s < 4 ∨ s = g.cu) → post (-8) (vy_S g lf (nI y) (nI n') aM aB aC aZ aN aT aS aI aH aD)) (h10 : g.ki t = 1 → g.ki s = 1 → ¬ (vg_co g.mo s < 4 ∨ s = g.cu) → g.sz s ≠ 0 → post (-10) (vy_S g lf (nI y) (nI n') aM aB aC aZ aN aT aS aI aH aD))
    (hC : (g.ki t = 1 ↔ g.ki s = 1) → (g.ki s = 1 → ¬ (vg_co g.mo s < 4 ∨ s = g.cu) ∧ g.sz s = 0) → iv_I (vz_dp g y n s) ∧ (vz_dp g y n s).nd (15 * x + m) = t ∧ (vz_dp g y n s).ki x = 1 ∧ (vz_dp g y n s).ki y = 1 ∧ (vg_rem (vz_dp g y n s) x m).nd (15 * y + n') = 0 ∧ (vg_rem (vz_dp g y n s) x m).sz y ≤ 5 ∧ ∀ c' n2 t', vy_R (vg_put (vg_rem (vz_dp g y n s) x m) y n' t) aM aB c' aZ n2 t' aS aI aH → post 0 (vy_S (vg_put (vg_rem (vz_dp g y n s) x m) y n' t) lf (nI y) (nI n') aM aB c' aZ n2 t' aS aI aH aD)) :
    wpY_replace post (vy_S g lf (nI y) (nI n') aM aB aC aZ aN aT aS aI aH aD) (nI x) (nI (6 * x + vg_bl g.nd x m)) (nI (6 * y + vg_bl g.nd y n)) := by
  have hnx : g.nd (15 * x + m) ≠ 0 := by rw [ht]; exact ht0
  have hny : g.nd (15 * y + n) ≠ 0 := by rw [hs]; exact hs0
  have cx := hI.2.2.2.2.1 x hx hkx
  have cy := hI.2.2.2.2.1 y hy hky
  have bx := bl_lt (nd := g.nd) (p := x) (m := m) (k := 15) (by omega) hnx
  have by' := bl_lt (nd := g.nd) (p := y) (m := n) (k := 15) hn hny
  have hX := (hR.2.1 x hx hkx).2 m (by omega) hnx
  have hY := (hR.2.1 y hy hky).2 n hn hny
  rw [ht] at hX
  rw [hs] at hY
  have EKt := vz_k1 hI htl
  have EKs := vz_k1 hI hsl
  have hcb := hI.1.2.2.2.2.2.1
  have hsb := hI.1.2.2.2.2.2.2.2.1 s
  have hit : vp_in (nI t) 40 := vp_in_nI htl (by decide)
  have his : vp_in (nI s) 40 := vp_in_nI hsl (by decide)
  have i1 : vp_in (nI (6 * x + vg_bl g.nd x m)) 240 := vp_in_nI (by omega) (by decide)
  have i2 : vp_in (nI (6 * y + vg_bl g.nd y n)) 240 := vp_in_nI (by omega) (by decide)
  have r116 : (g.ki t = 1 ↔ g.ki s = 1) → (g.ki s = 1 → ¬ (vg_co g.mo s < 4 ∨ s = g.cu) ∧ g.sz s = 0) → wY_replace_116 post (nI x) (nI (6 * x + vg_bl g.nd x m)) (nI (6 * y + vg_bl g.nd y n)) (nI t) (nI s) (vg_tv g.tp) (nI g.cu) lf (nI y) (nI n') (vg_cv g.fm) (vg_cv g.de) (vg_cv g.ro) aM aB (vg_cv g.ki) aC aZ (vg_cv g.wp) aN aT aS aI (vg_cv g.dr) (vg_cv g.dl) aH (vg_cv g.po) (vg_cv g.oH) aD := by
    intro b c
    obtain ⟨d1, d2, d3, d4, d5, d6, d7⟩ := hC b c
    have hne2 : (vz_dp g y n s).nd (15 * x + m) ≠ 0 := by rw [d2]; exact ht0
    have heq : vg_eq (vz_dp g y n s).fm (vz_dp g y n s).nd x m = m := by
      unfold vg_eq
      rw [if_pos hne2]
    unfold wY_replace_116
    refine ⟨i1, nm_r (e' := nI m) (by rw [nI_clamp (by omega)]; exact hX.1) ?_⟩
    refine vy_drop (lf := lf) (pl := nI y) (nm := nI n') (aD := aD) hI hR hy hky hn hs hs0 hsl hsr hsa _ (fun c' n2 t' hl => hl) (fun c' n2 t' hR2 => ?_)
    refine vy_find (g := vz_dp g y n s) (lf := lf) (pl := nI y) (nm := nI n') (aD := aD) d1 hR2.2.1 hx d3 hm1 hm ?_
    unfold vg_fi
    rw [heq, if_neg (by omega)]
    refine vy_delete (g := vz_dp g y n s) (lf := lf) (pl := nI y) (nm := nI n') (aD := aD) d1.1 hR2 d1.2.2.2.2.1 hx d3 (by omega) hne2 (fun c3 n3 t3 hR3 => ?_)
    have hX3 := iv_rem d1 hx d3 (by omega) d2 ht0
    exact vy_insert (g := vg_rem (vz_dp g y n s) x m) (lf := lf) (pl := nI y) (nm := nI n') (aD := aD) (bd_rem d1.1) hR3 (cn_dec hX3.2.2.2.2.1) hy d4 hn' d5 htl ht0 d6 (fun c4 n4 t4 hR4 => d7 c4 n4 t4 hR4)
  have r50 : ∀ z7 z0 : Nat, z7 < 2 → z0 < 2 → (z7 = 1 ↔ g.ki t = 1) → (z0 = 1 ↔ g.ki s = 1) → wY_replace_50 post (nI x) (nI (6 * x + vg_bl g.nd x m)) (nI (6 * y + vg_bl g.nd y n)) (nI t) (nI s) (nI z7) (nI z0) (vg_tv g.tp) (nI g.cu) lf (nI y) (nI n') (vg_cv g.fm) (vg_cv g.de) (vg_cv g.ro) aM aB (vg_cv g.ki) aC aZ (vg_cv g.wp) aN aT aS aI (vg_cv g.dr) (vg_cv g.dl) aH (vg_cv g.po) (vg_cv g.oH) aD := by
    intro z7 z0 hz7 hz0 e7 e0
    unfold wY_replace_50
    refine pk_eq z7 z0 (fun e => pk_eq z0 0 (fun ez => ?_) (fun ez => ?_)) (fun e => pk_eq z0 0 (fun ez => ?_) (fun ez => ?_))
    · have n1 : g.ki s ≠ 1 := fun w => by have := e0.mpr w; omega
      unfold wY_replace_98
      exact br_t (by rw [ez]; rfl) (r116 ⟨fun w => by have := e7.mpr w; omega, fun w => absurd w n1⟩ (fun w => absurd w n1))
    · have s1 : g.ki s = 1 := e0.mp (by omega)
      have t1 : g.ki t = 1 := e7.mp (by omega)
      refine vy_covering (lf := lf) (pl := nI y) (nm := nI n') (aD := aD) hI hR.1 hsl (fun hc => br_t (nI_pos' (by omega)) (h8 t1 s1 (Or.inl hc))) (fun hc => br_f (by decide) ?_)
      refine pk_eq g.cu s (fun ec => h8 t1 s1 (Or.inr ec.symm)) (fun ec => ?_)
      have hu : ¬ (vg_co g.mo s < 4 ∨ s = g.cu) := fun w => w.elim hc (fun w2 => ec w2.symm)
      unfold wY_replace_98
      refine br_f (fun w => ez ((vn_e0 (by omega)).mp w)) ⟨his, ?_⟩
      have hcs : aC (nI s).toNatClampNeg = nI (g.sz s) := by rw [nI_clamp (by omega)]; exact (hR.2.1 s hsl s1).1
      rw [hcs]
      exact pk_le (g.sz s) 0 (fun eq => r116 ⟨fun _ => s1, fun _ => t1⟩ (fun _ => ⟨hu, by omega⟩)) (fun eq => h10 t1 s1 hu (by omega))
    · have n1 : g.ki s ≠ 1 := fun w => by have := e0.mpr w; omega
      exact h2 (e7.mp (by omega)) n1
    · have s1 : g.ki s = 1 := e0.mp (by omega)
      exact h3 (fun w => by have := e7.mpr w; omega) s1
  have r32 : ∀ z7 : Nat, z7 < 2 → (z7 = 1 ↔ g.ki t = 1) → wY_replace_32 post (nI x) (nI (6 * x + vg_bl g.nd x m)) (nI (6 * y + vg_bl g.nd y n)) (nI t) (nI s) (nI z7) (vg_tv g.tp) (nI g.cu) lf (nI y) (nI n') (vg_cv g.fm) (vg_cv g.de) (vg_cv g.ro) aM aB (vg_cv g.ki) aC aZ (vg_cv g.wp) aN aT aS aI (vg_cv g.dr) (vg_cv g.dl) aH (vg_cv g.po) (vg_cv g.oH) aD := by
    intro z7 hz7 e7
    unfold wY_replace_32
    exact ⟨his, fun e => r50 z7 1 hz7 (by omega) e7 ⟨fun _ => EKs.mp e, fun _ => rfl⟩, fun e => r50 z7 0 hz7 (by omega) e7 ⟨fun w => by omega, fun w => absurd (EKs.mpr w) e⟩⟩
  unfold wpY_replace vy_S
  refine ⟨i1, nm_r (e' := nI t) (by rw [nI_clamp (by omega)]; exact hX.2) ⟨i2, nm_r (e' := nI s) (by rw [nI_clamp (by omega)]; exact hY.2) ⟨hit, fun ek => r32 1 (by omega) ⟨fun _ => EKt.mp ek, fun _ => rfl⟩, fun ek => r32 0 (by omega) ⟨fun w => by omega, fun w => absurd (EKt.mpr w) ek⟩⟩⟩⟩
end VZ55
