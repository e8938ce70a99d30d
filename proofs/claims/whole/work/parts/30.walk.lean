section VW30
variable {g : vg_G} {ac : Int32} {ah : Nat → Int32} {lf pl nm : Int32} {aM aB aC aZ aN aT aS aI aH aD : Nat → Int32}
def vw_st (g : vg_G) (o i : Nat) : Nat := (g.hd (20 * o + i)).toNatClampNeg
def vw_nx (g : vg_G) (o x t : Nat) : Nat := if 0 < g.sz o ∧ vw_st g o 0 = 0 then x else 10 * t
theorem st_f {o : Nat} (hI : iv_I g) (ho : o < 40) (hk : g.ki o = 3) : ∀ i, i < g.sz o → g.hd (20 * o + i) = nI (vw_st g o i) ∧ vw_st g o i ≤ 15 ∧ (vw_st g o i = 0 → i = 0) := by
  intro i hi
  obtain ⟨s, hs, e, hz⟩ := (hI.2.2.2.2.2.2.2.2.2.2.1 o ho hk).2 i hi
  have : vw_st g o i = s := by unfold vw_st; rw [e, nI_clamp (by omega)]
  rw [this]
  exact ⟨e, hs, hz⟩
theorem vx_step {post : Int32 → SX → Prop} {fl : Int32} {n x k turn t s : Nat} {L : List Nat} {a : Nat → Int32} (hI : iv_I g) (ht : g.tp = t + 1) (hx : vg_gd g x) (hs1 : 1 ≤ s) (hs : s ≤ 15) (htn : turn < 25) (hk4 : k ≤ 4) (hL : L.length ≤ 24) (hstk : vg_stk a (s :: L)) (hLk : L.length + 5 ≤ 25 ∨ g.ki x ≠ 1 ∨ s = 15 ∨ 4 ≤ k)
    (hbad : g.ki x ≠ 1 → post (-2) (vx_S g (nI L.length) a))
    (hup : g.ki x = 1 → s = 15 → wX_walk_44 post fl n (nI (vg_ab g x)) (nI k) (nI (turn + 1)) (vg_tv g.tp) (nI g.cu) (nI L.length) (vg_cv g.fm) (vg_cv g.ro) (vg_cv g.de) (vg_cm g.mo) (vg_cv g.ki) (vg_cv g.sz) (vg_cv g.ef) (vg_cv g.wp) g.hd (vg_cv g.nd) (vg_cv g.oF) (vg_cv g.oH) (vg_cv g.po) (vg_cv g.dr) (vg_cv g.dl) a)
    (hno : g.ki x = 1 → s ≠ 15 → vg_eq g.fm g.nd x s = 0 → post (-1) (vx_S g (nI L.length) a))
    (hpl : g.ki x = 1 → s ≠ 15 → vg_eq g.fm g.nd x s ≠ 0 → (g.ki (g.nd (15 * x + vg_eq g.fm g.nd x s)) ≠ 3 ∨ (L = [] ∧ fl = 0)) → wX_walk_44 post fl n (nI (vg_ov g.mo (g.nd (15 * x + vg_eq g.fm g.nd x s)))) (nI k) (nI (turn + 1)) (vg_tv g.tp) (nI g.cu) (nI L.length) (vg_cv g.fm) (vg_cv g.ro) (vg_cv g.de) (vg_cm g.mo) (vg_cv g.ki) (vg_cv g.sz) (vg_cv g.ef) (vg_cv g.wp) g.hd (vg_cv g.nd) (vg_cv g.oF) (vg_cv g.oH) (vg_cv g.po) (vg_cv g.dr) (vg_cv g.dl) a)
    (hlo : g.ki x = 1 → s ≠ 15 → vg_eq g.fm g.nd x s ≠ 0 → g.ki (g.nd (15 * x + vg_eq g.fm g.nd x s)) = 3 → ¬ (L = [] ∧ fl = 0) → 4 ≤ k → post (-5) (vx_S g (nI L.length) a))
    (hli : g.ki x = 1 → s ≠ 15 → vg_eq g.fm g.nd x s ≠ 0 → g.ki (g.nd (15 * x + vg_eq g.fm g.nd x s)) = 3 → ¬ (L = [] ∧ fl = 0) → k < 4 → ∀ a', vg_stk a' (vg_sq (vw_st g (g.nd (15 * x + vg_eq g.fm g.nd x s))) 0 (g.sz (g.nd (15 * x + vg_eq g.fm g.nd x s))) ++ L) → wX_walk_44 post fl n (nI (vw_nx g (g.nd (15 * x + vg_eq g.fm g.nd x s)) x t)) (nI (k + 1)) (nI (turn + 1)) (vg_tv g.tp) (nI g.cu) (nI (vg_sq (vw_st g (g.nd (15 * x + vg_eq g.fm g.nd x s))) 0 (g.sz (g.nd (15 * x + vg_eq g.fm g.nd x s))) ++ L).length) (vg_cv g.fm) (vg_cv g.ro) (vg_cv g.de) (vg_cm g.mo) (vg_cv g.ki) (vg_cv g.sz) (vg_cv g.ef) (vg_cv g.wp) g.hd (vg_cv g.nd) (vg_cv g.oF) (vg_cv g.oH) (vg_cv g.po) (vg_cv g.dr) (vg_cv g.dl) (a')) :
    wX_walk_44 post fl (n + 1) (nI x) (nI k) (nI turn) (vg_tv g.tp) (nI g.cu) (nI (s :: L).length) (vg_cv g.fm) (vg_cv g.ro) (vg_cv g.de) (vg_cm g.mo) (vg_cv g.ki) (vg_cv g.sz) (vg_cv g.ef) (vg_cv g.wp) g.hd (vg_cv g.nd) (vg_cv g.oF) (vg_cv g.oH) (vg_cv g.po) (vg_cv g.dr) (vg_cv g.dl) a := by
  have hxl := hx.1
  have hkb := hI.1.2.2.2.2.2.2.1 x
  have EK : vg_cv g.ki (nI x).toNatClampNeg = 1 ↔ g.ki x = 1 := by
    rw [nI_clamp (by omega), cv_ap]
    exact vn_e1 (by omega)
  have hlen : (s :: L).length = L.length + 1 := rfl
  have ha : a (nI L.length).toNatClampNeg = nI s := by rw [nI_clamp (by omega)]; exact hstk.1
  refine br_f (fun z => by have := (vn_ge25 (by omega)).mp z; omega) (br_f (fun z => by rw [hlen] at z; have := (vn_le0 (by omega)).mp z; omega) (nm_r (e' := nI L.length) (by rw [hlen]; exact nI_pred _) ⟨vp_in_nI (by omega) (by decide), nm_r ha ⟨vp_in_nI hxl (by decide), fun ek => ?_, fun ek => hbad (fun z => ek (EK.mpr z))⟩⟩))
  have hk1 := EK.mp ek
  refine pk_eq s 15 (fun e15 => ?_) (fun e15 => ?_)
  · exact vx_directoryAbove (g := g) (ac := nI L.length) (ah := a) hI hx hk1 (nm_r (nI_1 turn) (hup hk1 e15))
  · refine vx_equalName (g := g) (ac := nI L.length) (ah := a) hI hxl hs1 (by omega) ?_
    have hq := vq_le (fm := g.fm) (nd := g.nd) (p := x) (n := s) (by omega) hs1
    refine pk_eq (vg_eq g.fm g.nd x s) 0 (fun e => hno hk1 e15 e) (fun e => ?_)
    have hne := vq_in e
    have htg := tg_gd hI hx hk1 (by omega) hne
    have hnb := hI.1.2.2.2.2.2.2.2.2.2.2.1 (15 * x + vg_eq g.fm g.nd x s)
    have EI := vn_i15 x (vg_eq g.fm g.nd x s)
    generalize hO : g.nd (15 * x + vg_eq g.fm g.nd x s) = o at *
    have ho := htg.1.1
    have hkob := hI.1.2.2.2.2.2.2.1 o
    have hszb := hI.1.2.2.2.2.2.2.2.1 o
    have hino : vp_in (nI o) 40 := vp_in_nI ho (by decide)
    have EO : vg_cv g.ki (nI o).toNatClampNeg = 3 ↔ g.ki o = 3 := by
      rw [nI_clamp (by omega), cv_ap]
      exact vn_e3 (by omega)
    have plain : (g.ki o ≠ 3 ∨ (L = [] ∧ fl = 0)) → wX_walk_165 post (wX_walk_44 post fl n) fl (nI k) (nI turn) (nI o) (vg_tv g.tp) (nI g.cu) (nI L.length) (vg_cv g.fm) (vg_cv g.ro) (vg_cv g.de) (vg_cm g.mo) (vg_cv g.ki) (vg_cv g.sz) (vg_cv g.ef) (vg_cv g.wp) g.hd (vg_cv g.nd) (vg_cv g.oF) (vg_cv g.oH) (vg_cv g.po) (vg_cv g.dr) (vg_cv g.dl) a := by
      intro hc
      unfold wX_walk_165
      exact vx_rootOver (g := g) (ac := nI L.length) (ah := a) hI ho (nm_r (nI_1 turn) (hpl hk1 e15 e hc))
    have lnk : g.ki o = 3 → ¬ (L = [] ∧ fl = 0) → wX_walk_176 post (wX_walk_44 post fl n) fl (nI x) (nI k) (nI turn) (nI o) (vg_tv g.tp) (nI g.cu) (nI L.length) (vg_cv g.fm) (vg_cv g.ro) (vg_cv g.de) (vg_cm g.mo) (vg_cv g.ki) (vg_cv g.sz) (vg_cv g.ef) (vg_cv g.wp) g.hd (vg_cv g.nd) (vg_cv g.oF) (vg_cv g.oH) (vg_cv g.po) (vg_cv g.dr) (vg_cv g.dl) a := by
      intro h3 hc
      have hst := st_f hI ho h3
      have hl5 := (hI.2.2.2.2.2.2.2.2.2.2.1 o ho h3).1
      have ESZ : vg_cv g.sz (nI o).toNatClampNeg = nI (g.sz o) := by rw [nI_clamp (by omega)]; rfl
      unfold wX_walk_176
      refine nm_r (nI_1 k) (pk_le (k + 1) 4 (fun e4 => ⟨hino, ?_⟩) (fun e4 => hlo hk1 e15 e h3 hc (by omega)))
      rw [ESZ, vn_c20]
      refine vx_start_held (g := g) (ac := nI L.length) (ah := a) (f := vw_st g o) ht (by omega) (by omega) (fun i hi => ⟨(hst i hi).1, (hst i hi).2.1⟩) ⟨hino, ?_⟩
      refine vx_put_held (g := g) (ah := a) (f := vw_st g o) (L := L) (by omega) (by omega) (fun i hi => ⟨(hst i hi).1, (hst i hi).2.1⟩) hstk.2 (fun a' ha' => ?_)
      exact nm_r (nI_1 turn) (hli hk1 e15 e h3 hc (by omega) a' ha')
    refine ⟨by rw [EI]; exact vp_in_nI (by omega) (by decide), nm_r (e' := nI o) (by rw [EI, nI_clamp (by omega), cv_ap, hO]) ⟨hino, fun e3 => ?_, fun e3 => plain (Or.inl (fun z => e3 (EO.mpr z)))⟩⟩
    have h3 := EO.mp e3
    refine pk_eq L.length 0 (fun el => ?_) (fun el => lnk h3 (fun z => el (by rw [z.1]; rfl)))
    have hnil : L = [] := List.eq_nil_of_length_eq_zero el
    by_cases hfl : fl = 0
    · exact br_t hfl (plain (Or.inr ⟨hnil, hfl⟩))
    · exact br_f hfl (lnk h3 (fun z => hfl z.2))
theorem vy_step {post : Int32 → SY → Prop} {fl : Int32} {n x k t s : Nat} {L : List Nat} {a : Nat → Int32} (hI : iv_I g) (hR : vy_R g aM aB aC aZ aN aT aS aI aH) (ht : g.tp = t + 1) (hx : vg_gd g x) (hs1 : 1 ≤ s) (hs : s ≤ 15) (hk4 : k ≤ 4) (hL : L.length ≤ 30) (hstk : vg_stk a (s :: L))
    (hbad : g.ki x ≠ 1 → post (-2) (vy_S g (nI L.length) pl nm aM aB aC aZ aN aT aS aI aH a))
    (hup : g.ki x = 1 → s = 15 → wY_walk_23 post fl n (nI (vg_ab g x)) (nI k) (vg_tv g.tp) (nI g.cu) (nI L.length) pl nm (vg_cv g.fm) (vg_cv g.de) (vg_cv g.ro) aM aB (vg_cv g.ki) aC aZ (vg_cv g.wp) aN aT aS aI (vg_cv g.dr) (vg_cv g.dl) aH (vg_cv g.po) (vg_cv g.oH) a)
    (hno : g.ki x = 1 → s ≠ 15 → vg_eq g.fm g.nd x s = 0 → post (-1) (vy_S g (nI L.length) pl nm aM aB aC aZ aN aT aS aI aH a))
    (hpl : g.ki x = 1 → s ≠ 15 → vg_eq g.fm g.nd x s ≠ 0 → (g.ki (g.nd (15 * x + vg_eq g.fm g.nd x s)) ≠ 3 ∨ (L = [] ∧ fl = 0)) → wY_walk_23 post fl n (nI (vg_ov g.mo (g.nd (15 * x + vg_eq g.fm g.nd x s)))) (nI k) (vg_tv g.tp) (nI g.cu) (nI L.length) pl nm (vg_cv g.fm) (vg_cv g.de) (vg_cv g.ro) aM aB (vg_cv g.ki) aC aZ (vg_cv g.wp) aN aT aS aI (vg_cv g.dr) (vg_cv g.dl) aH (vg_cv g.po) (vg_cv g.oH) a)
    (hlo : g.ki x = 1 → s ≠ 15 → vg_eq g.fm g.nd x s ≠ 0 → g.ki (g.nd (15 * x + vg_eq g.fm g.nd x s)) = 3 → ¬ (L = [] ∧ fl = 0) → 4 ≤ k → post (-5) (vy_S g (nI L.length) pl nm aM aB aC aZ aN aT aS aI aH a))
    (hli : g.ki x = 1 → s ≠ 15 → vg_eq g.fm g.nd x s ≠ 0 → g.ki (g.nd (15 * x + vg_eq g.fm g.nd x s)) = 3 → ¬ (L = [] ∧ fl = 0) → k < 4 → ∀ a', vg_stk a' (vg_sq (vw_st g (g.nd (15 * x + vg_eq g.fm g.nd x s))) 0 (g.sz (g.nd (15 * x + vg_eq g.fm g.nd x s))) ++ L) → wY_walk_23 post fl n (nI (vw_nx g (g.nd (15 * x + vg_eq g.fm g.nd x s)) x t)) (nI (k + 1)) (vg_tv g.tp) (nI g.cu) (nI (vg_sq (vw_st g (g.nd (15 * x + vg_eq g.fm g.nd x s))) 0 (g.sz (g.nd (15 * x + vg_eq g.fm g.nd x s))) ++ L).length) pl nm (vg_cv g.fm) (vg_cv g.de) (vg_cv g.ro) aM aB (vg_cv g.ki) aC aZ (vg_cv g.wp) aN aT aS aI (vg_cv g.dr) (vg_cv g.dl) aH (vg_cv g.po) (vg_cv g.oH) (a')) :
    wY_walk_23 post fl (n + 1) (nI x) (nI k) (vg_tv g.tp) (nI g.cu) (nI (s :: L).length) pl nm (vg_cv g.fm) (vg_cv g.de) (vg_cv g.ro) aM aB (vg_cv g.ki) aC aZ (vg_cv g.wp) aN aT aS aI (vg_cv g.dr) (vg_cv g.dl) aH (vg_cv g.po) (vg_cv g.oH) a := by
  have hxl := hx.1
  have hkb := hI.1.2.2.2.2.2.2.1 x
  have EK : vg_cv g.ki (nI x).toNatClampNeg = 1 ↔ g.ki x = 1 := by
    rw [nI_clamp (by omega), cv_ap]
    exact vn_e1 (by omega)
  have hlen : (s :: L).length = L.length + 1 := rfl
  have hl1 : nI (s :: L).length - 1 = nI L.length := by rw [hlen]; exact nI_pred _
  have ha : a (nI (s :: L).length - 1).toNatClampNeg = nI s := by rw [hl1, nI_clamp (by omega)]; exact hstk.1
  refine br_f (fun z => by rw [hlen] at z; have := (vn_le0 (by omega)).mp z; omega) (nm_r hl1 ⟨by rw [hl1]; exact vp_in_nI (by omega) (by decide), nm_r ha ⟨vp_in_nI hxl (by decide), fun ek => ?_, fun ek => hbad (fun z => ek (EK.mpr z))⟩⟩)
  have hk1 := EK.mp ek
  refine pk_eq s 15 (fun e15 => ?_) (fun e15 => ?_)
  · exact vy_above (lf := nI L.length) (pl := pl) (nm := nm) (aD := a) hI hR hx hk1 (hup hk1 e15)
  · refine vy_find (lf := nI L.length) (pl := pl) (nm := nm) (aD := a) hI hR.2.1 hxl hk1 hs1 (by omega) ?_
    have hq := vq_le (fm := g.fm) (nd := g.nd) (p := x) (n := s) (by omega) hs1
    unfold vg_fi
    by_cases e : vg_eq g.fm g.nd x s = 0
    · rw [if_pos e]
      exact br_f (by decide) (hno hk1 e15 e)
    · rw [if_neg e]
      have hne := vq_in e
      have htg := tg_gd hI hx hk1 (by omega) hne
      have hcn := hI.2.2.2.2.1 x hxl hk1
      have hbl := bl_lt (nd := g.nd) (p := x) (m := vg_eq g.fm g.nd x s) (k := 15) (by omega) hne
      have hT := ((hR.2.1 x hxl hk1).2 _ (by omega) hne).2
      generalize hO : g.nd (15 * x + vg_eq g.fm g.nd x s) = o at *
      have ho := htg.1.1
      have hkob := hI.1.2.2.2.2.2.2.1 o
      have hszb := hI.1.2.2.2.2.2.2.2.1 o
      have hino : vp_in (nI o) 40 := vp_in_nI ho (by decide)
      have EO : vg_cv g.ki (nI o).toNatClampNeg = 3 ↔ g.ki o = 3 := by
        rw [nI_clamp (by omega), cv_ap]
        exact vn_e3 (by omega)
      have plain : (g.ki o ≠ 3 ∨ (L = [] ∧ fl = 0)) → wY_walk_163 post (wY_walk_23 post fl n) fl (nI k) (nI o) (vg_tv g.tp) (nI g.cu) (nI L.length) pl nm (vg_cv g.fm) (vg_cv g.de) (vg_cv g.ro) aM aB (vg_cv g.ki) aC aZ (vg_cv g.wp) aN aT aS aI (vg_cv g.dr) (vg_cv g.dl) aH (vg_cv g.po) (vg_cv g.oH) a := by
        intro hc
        unfold wY_walk_163
        exact vy_through (lf := nI L.length) (pl := pl) (nm := nm) (aD := a) hI hR.1 ho (hpl hk1 e15 e hc)
      have lnk : g.ki o = 3 → ¬ (L = [] ∧ fl = 0) → wY_walk_128 post (wY_walk_23 post fl n) fl (nI x) (nI k) (nI o) (vg_tv g.tp) (nI g.cu) (nI L.length) pl nm (vg_cv g.fm) (vg_cv g.de) (vg_cv g.ro) aM aB (vg_cv g.ki) aC aZ (vg_cv g.wp) aN aT aS aI (vg_cv g.dr) (vg_cv g.dl) aH (vg_cv g.po) (vg_cv g.oH) a := by
        intro h3 hc
        have hst := st_f hI ho h3
        have hl5 := (hI.2.2.2.2.2.2.2.2.2.2.1 o ho h3).1
        have hY := hR.2.2.2.1 o ho h3
        have ESZ : aZ (nI o).toNatClampNeg = nI (g.sz o) := by rw [nI_clamp (by omega)]; exact hY.1
        unfold wY_walk_128
        refine nm_r (nI_1 k) (pk_le (k + 1) 4 (fun e4 => ⟨hino, ?_⟩) (fun e4 => hlo hk1 e15 e h3 hc (by omega)))
        rw [ESZ, vn_ml5]
        refine vy_plan_steps (pl := pl) (nm := nm) (aD := a) (f := vw_st g o) (L := L) ht (fun i h1 h2 z => by have := (hst i h2).2.2 z; omega) (by omega) (by omega) (fun i hi => ⟨by rw [hY.2 i hi]; exact (hst i hi).1, (hst i hi).2.1⟩) hstk.2 (fun a' ha' => ?_)
        exact hli hk1 e15 e h3 hc (by omega) a' ha'
      refine br_t (nI_pos' (by omega)) ⟨vp_in_nI (by omega) (by decide), nm_r (e' := nI o) (by rw [nI_clamp (by omega)]; exact hT) ⟨hino, fun e3 => ?_, fun e3 => plain (Or.inl (fun z => e3 (EO.mpr z)))⟩⟩
      have h3 := EO.mp e3
      refine pk_lt 0 L.length (fun el => lnk h3 (fun z => by rw [z.1] at el; exact absurd el (Nat.lt_irrefl 0))) (fun el => ?_)
      have hnil : L = [] := List.eq_nil_of_length_eq_zero (by omega)
      by_cases hfl : fl = 0
      · exact br_t hfl (plain (Or.inr ⟨hnil, hfl⟩))
      · exact br_f hfl (lnk h3 (fun z => hfl z.2))
def vw_ok (g : vg_G) (fl r : Int32) : Prop := (∃ o, vg_gd g o ∧ (fl ≠ 0 → g.ki o ≠ 3) ∧ r = nI o) ∨ r = -1 ∨ r = -2 ∨ r = -5
theorem ov_k3 {o : Nat} (hI : iv_I g) (h : g.ki o ≠ 3) : g.ki (vg_ov g.mo o) ≠ 3 := by
  unfold vg_ov
  split
  · rename_i e
    have := (hI.2.1 _ e).1
    omega
  · exact h
theorem vw_loop {t : Nat} {fl : Int32} (hI : iv_I g) (hR : vy_R g aM aB aC aZ aN aT aS aI aH) (ht : g.tp = t + 1) :
    ∀ (m turn x k : Nat) (L : List Nat), turn + m = 25 → L.length + turn ≤ 5 + 5 * k → k ≤ 4 → vg_gd g x → (fl ≠ 0 → g.ki x ≠ 3) → (∀ s, s ∈ L → 1 ≤ s ∧ s ≤ 15) →
    ∃ r : Int32, vw_ok g fl r ∧ (∀ (post : Int32 → SX → Prop) a, vg_stk a L → (∀ c a', post r (vx_S g c a')) → wX_walk_44 post fl (m + 1) (nI x) (nI k) (nI turn) (vg_tv g.tp) (nI g.cu) (nI L.length) (vg_cv g.fm) (vg_cv g.ro) (vg_cv g.de) (vg_cm g.mo) (vg_cv g.ki) (vg_cv g.sz) (vg_cv g.ef) (vg_cv g.wp) g.hd (vg_cv g.nd) (vg_cv g.oF) (vg_cv g.oH) (vg_cv g.po) (vg_cv g.dr) (vg_cv g.dl) a) ∧
      (∀ (post : Int32 → SY → Prop) pl nm a, vg_stk a L → (∀ c a', post r (vy_S g c pl nm aM aB aC aZ aN aT aS aI aH a')) → wY_walk_23 post fl (m + 1) (nI x) (nI k) (vg_tv g.tp) (nI g.cu) (nI L.length) pl nm (vg_cv g.fm) (vg_cv g.de) (vg_cv g.ro) aM aB (vg_cv g.ki) aC aZ (vg_cv g.wp) aN aT aS aI (vg_cv g.dr) (vg_cv g.dl) aH (vg_cv g.po) (vg_cv g.oH) a) := by
  intro m
  induction m with
  | zero =>
    intro turn x k L hm hlen hk hx h3x hL
    have hl0 : L.length = 0 := by omega
    have hnil : L = [] := List.eq_nil_of_length_eq_zero hl0
    subst hnil
    have e : turn = 25 := by omega
    subst e
    exact ⟨nI x, Or.inl ⟨x, hx, h3x, rfl⟩, fun post a _ h => br_t (by decide) (h _ _), fun post pl nm a _ h => br_t (by decide) (h _ _)⟩
  | succ m ih =>
    intro turn x k L hm hlen hk hx h3x hL
    cases L with
    | nil =>
      exact ⟨nI x, Or.inl ⟨x, hx, h3x, rfl⟩, fun post a _ h => br_f (fun z => by have := (vn_ge25 (by omega)).mp z; omega) (br_t (by decide) (h _ _)), fun post pl nm a _ h => br_t (by decide) (h _ _)⟩
    | cons s L =>
      have hll : (s :: L).length = L.length + 1 := rfl
      have hs := hL s (List.mem_cons_self)
      have hL' : ∀ s, s ∈ L → 1 ≤ s ∧ s ≤ 15 := fun y hy => hL y (List.mem_cons_of_mem s hy)
      have hq := vq_le (fm := g.fm) (nd := g.nd) (p := x) (n := s)
      by_cases hk1 : g.ki x = 1
      · by_cases h15 : s = 15
        · obtain ⟨r, ok, hX, hY⟩ := ih (turn + 1) (vg_ab g x) k L (by omega) (by omega) hk (ab_gd hI hx hk1).1 (fun _ => by have := (ab_gd hI hx hk1).2; omega) hL'
          refine ⟨r, ok, fun post a hst h => vx_step hI ht hx hs.1 hs.2 (by omega) hk (by omega) hst (Or.inr (Or.inr (Or.inl h15))) (fun z => absurd hk1 z) (fun _ _ => hX post a hst.2 h) (fun _ z => absurd h15 z) (fun _ z => absurd h15 z) (fun _ z => absurd h15 z) (fun _ z => absurd h15 z), fun post pl nm a hst h => vy_step hI hR ht hx hs.1 hs.2 hk (by omega) hst (fun z => absurd hk1 z) (fun _ _ => hY post pl nm a hst.2 h) (fun _ z => absurd h15 z) (fun _ z => absurd h15 z) (fun _ z => absurd h15 z) (fun _ z => absurd h15 z)⟩
        · by_cases he : vg_eq g.fm g.nd x s = 0
          · refine ⟨-1, Or.inr (Or.inl rfl), fun post a hst h => vx_step hI ht hx hs.1 hs.2 (by omega) hk (by omega) hst ?_ (fun z => absurd hk1 z) (fun _ z => absurd z h15) (fun _ _ _ => h _ _) (fun _ _ z => absurd he z) (fun _ _ z => absurd he z) (fun _ _ z => absurd he z), fun post pl nm a hst h => vy_step hI hR ht hx hs.1 hs.2 hk (by omega) hst (fun z => absurd hk1 z) (fun _ z => absurd z h15) (fun _ _ _ => h _ _) (fun _ _ z => absurd he z) (fun _ _ z => absurd he z) (fun _ _ z => absurd he z)⟩
            by_cases h4 : 4 ≤ k
            · exact Or.inr (Or.inr (Or.inr h4))
            · exact Or.inl (by omega)
          · have hne := vq_in he
            have htg := tg_gd hI hx hk1 (by have := hq (by omega) hs.1; omega) hne
            have hLk : L.length + 5 ≤ 25 ∨ g.ki x ≠ 1 ∨ s = 15 ∨ 4 ≤ k := by
              by_cases h4 : 4 ≤ k
              · exact Or.inr (Or.inr (Or.inr h4))
              · exact Or.inl (by omega)
            by_cases hc : g.ki (g.nd (15 * x + vg_eq g.fm g.nd x s)) ≠ 3 ∨ (L = [] ∧ fl = 0)
            · obtain ⟨r, ok, hX, hY⟩ := ih (turn + 1) (vg_ov g.mo (g.nd (15 * x + vg_eq g.fm g.nd x s))) k L (by omega) (by omega) hk (ov_gd hI htg.1) (fun hf => ov_k3 hI (hc.elim id (fun w => absurd w.2 hf))) hL'
              exact ⟨r, ok, fun post a hst h => vx_step hI ht hx hs.1 hs.2 (by omega) hk (by omega) hst hLk (fun z => absurd hk1 z) (fun _ z => absurd z h15) (fun _ _ z => absurd z he) (fun _ _ _ _ => hX post a hst.2 h) (fun _ _ _ z1 z2 => absurd hc (fun w => w.elim (fun v => v z1) z2)) (fun _ _ _ z1 z2 => absurd hc (fun w => w.elim (fun v => v z1) z2)), fun post pl nm a hst h => vy_step hI hR ht hx hs.1 hs.2 hk (by omega) hst (fun z => absurd hk1 z) (fun _ z => absurd z h15) (fun _ _ z => absurd z he) (fun _ _ _ _ => hY post pl nm a hst.2 h) (fun _ _ _ z1 z2 => absurd hc (fun w => w.elim (fun v => v z1) z2)) (fun _ _ _ z1 z2 => absurd hc (fun w => w.elim (fun v => v z1) z2))⟩
            · by_cases h4 : 4 ≤ k
              · exact ⟨-5, Or.inr (Or.inr (Or.inr rfl)), fun post a hst h => vx_step hI ht hx hs.1 hs.2 (by omega) hk (by omega) hst hLk (fun z => absurd hk1 z) (fun _ z => absurd z h15) (fun _ _ z => absurd z he) (fun _ _ _ z => absurd z hc) (fun _ _ _ _ _ _ => h _ _) (fun _ _ _ _ _ z => absurd h4 (by omega)), fun post pl nm a hst h => vy_step hI hR ht hx hs.1 hs.2 hk (by omega) hst (fun z => absurd hk1 z) (fun _ z => absurd z h15) (fun _ _ z => absurd z he) (fun _ _ _ z => absurd z hc) (fun _ _ _ _ _ _ => h _ _) (fun _ _ _ _ _ z => absurd h4 (by omega))⟩
              · have h3 : g.ki (g.nd (15 * x + vg_eq g.fm g.nd x s)) = 3 := Classical.byContradiction (fun z => hc (Or.inl z))
                have ho := htg.1.1
                have hst3 := st_f hI ho h3
                have hl5 := (hI.2.2.2.2.2.2.2.2.2.2.1 _ ho h3).1
                have hsl := sq_len (vw_st g (g.nd (15 * x + vg_eq g.fm g.nd x s))) (g.sz (g.nd (15 * x + vg_eq g.fm g.nd x s))) 0
                have hgx : vg_gd g (vw_nx g (g.nd (15 * x + vg_eq g.fm g.nd x s)) x t) := by
                  unfold vw_nx
                  split
                  · exact hx
                  · exact (tp_gd hI ht).1
                have h3n : fl ≠ 0 → g.ki (vw_nx g (g.nd (15 * x + vg_eq g.fm g.nd x s)) x t) ≠ 3 := by
                  intro _
                  unfold vw_nx
                  split
                  · omega
                  · have := (tp_gd hI ht).2; omega
                obtain ⟨r, ok, hX, hY⟩ := ih (turn + 1) (vw_nx g (g.nd (15 * x + vg_eq g.fm g.nd x s)) x t) (k + 1) (vg_sq (vw_st g (g.nd (15 * x + vg_eq g.fm g.nd x s))) 0 (g.sz (g.nd (15 * x + vg_eq g.fm g.nd x s))) ++ L) (by omega) (by simp only [List.length_append]; omega) (by omega) hgx h3n (fun y hy => by
                  rcases List.mem_append.mp hy with hy | hy
                  · exact sq_all _ (fun s => 1 ≤ s ∧ s ≤ 15) _ 0 (fun j _ hj hj0 => ⟨by omega, (hst3 j (by omega)).2.1⟩) y hy
                  · exact hL' y hy)
                exact ⟨r, ok, fun post a hst h => vx_step hI ht hx hs.1 hs.2 (by omega) hk (by omega) hst hLk (fun z => absurd hk1 z) (fun _ z => absurd z h15) (fun _ _ z => absurd z he) (fun _ _ _ z => absurd z hc) (fun _ _ _ _ _ z => absurd z h4) (fun _ _ _ _ _ _ a' ha' => hX post a' ha' h), fun post pl nm a hst h => vy_step hI hR ht hx hs.1 hs.2 hk (by omega) hst (fun z => absurd hk1 z) (fun _ z => absurd z h15) (fun _ _ z => absurd z he) (fun _ _ _ z => absurd z hc) (fun _ _ _ _ _ z => absurd z h4) (fun _ _ _ _ _ _ a' ha' => hY post pl nm a' ha' h)⟩
      · refine ⟨-2, Or.inr (Or.inr (Or.inl rfl)), fun post a hst h => vx_step hI ht hx hs.1 hs.2 (by omega) hk (by omega) hst (Or.inr (Or.inl hk1)) (fun _ => h _ _) (fun z => absurd z hk1) (fun z => absurd z hk1) (fun z => absurd z hk1) (fun z => absurd z hk1) (fun z => absurd z hk1), fun post pl nm a hst h => vy_step hI hR ht hx hs.1 hs.2 hk (by omega) hst (fun _ => h _ _) (fun z => absurd z hk1) (fun z => absurd z hk1) (fun z => absurd z hk1) (fun z => absurd z hk1) (fun z => absurd z hk1)⟩
/-- the two walks give one answer -/
theorem vw_walk {p n : Nat} (fl : Int32) (hI : iv_I g) (hR : vy_R g aM aB aC aZ aN aT aS aI aH) (ht : g.tp ≠ 0) (hp : p < 2) (hn : n ≤ g.dl p) :
    ∃ r : Int32, vw_ok g fl r ∧ (∀ (post : Int32 → SX → Prop) ac ah, (∀ c a', post r (vx_S g c a')) → wpX_walk post (vx_S g ac ah) (nI p) (nI n) fl) ∧
      (∀ (post : Int32 → SY → Prop) lf pl nm aD, (∀ c a', post r (vy_S g c pl nm aM aB aC aZ aN aT aS aI aH a')) → wpY_walk post (vy_S g lf pl nm aM aB aC aZ aN aT aS aI aH aD) (nI p) (nI n) fl) := by
  obtain ⟨t, ht1⟩ : ∃ t, g.tp = t + 1 := ⟨g.tp - 1, by omega⟩
  have hl := hI.1.2.2.2.2.2.2.2.2.2.2.2.2.2.2.2 p
  have hdr := hI.2.2.2.2.2.2.2.2.2.2.2.1 p
  have hf : ∀ i, i < n → (vg_cv g.dr) (5 * p + i) = nI ((fun i => g.dr (5 * p + i)) i) ∧ (fun i => g.dr (5 * p + i)) i ≤ 15 := fun i hi => ⟨rfl, hI.1.2.2.2.2.2.2.2.2.2.2.2.2.2.2.1 (5 * p + i)⟩
  have hgx : vg_gd g (if 0 < n ∧ (fun i => g.dr (5 * p + i)) 0 = 0 then g.cu else 10 * t) := by
    split
    · exact (cu_gd hI ht).1
    · exact (tp_gd hI ht1).1
  have h3x : fl ≠ 0 → g.ki (if 0 < n ∧ (fun i => g.dr (5 * p + i)) 0 = 0 then g.cu else 10 * t) ≠ 3 := by
    intro _
    split
    · have := (cu_gd hI ht).2; omega
    · have := (tp_gd hI ht1).2; omega
  have hsl := sq_len (fun i => g.dr (5 * p + i)) n 0
  obtain ⟨r, ok, hX, hY⟩ := vw_loop (fl := fl) hI hR ht1 25 0 (if 0 < n ∧ (fun i => g.dr (5 * p + i)) 0 = 0 then g.cu else 10 * t) 0 (vg_sq (fun i => g.dr (5 * p + i)) 0 n ++ []) (by omega) (by simp only [List.length_append, List.length_nil]; omega) (by omega) hgx h3x (fun y hy => by
    rcases List.mem_append.mp hy with hy | hy
    · exact sq_all _ (fun s => 1 ≤ s ∧ s ≤ 15) _ 0 (fun j _ hj hj0 => ⟨by omega, (hf j (by omega)).2⟩) y hy
    · exact absurd hy (List.not_mem_nil))
  refine ⟨r, ok, fun post ac ah h => ?_, fun post lf pl nm aD h => ?_⟩
  · unfold wpX_walk vx_S
    refine nm_r (vn_c5 p) ?_
    refine vx_start_draft (g := g) (ac := ac) (ah := ah) (f := fun i => g.dr (5 * p + i)) ht1 (by omega) (by omega) hf ?_
    refine vx_put_draft (g := g) (ah := ah) (f := fun i => g.dr (5 * p + i)) (L := []) (by omega) (by simp only [List.length_nil]; omega) hf trivial (fun a ha => ⟨26, hX post a ha h⟩)
  · unfold wpY_walk vy_S
    rw [vn_ml5]
    refine vy_plan_draft (pl := pl) (nm := nm) (aD := aD) (f := fun i => g.dr (5 * p + i)) (L := []) ht1 (fun i h1 h2 z => by have := hdr i hp (by omega) z; omega) (by omega) (by simp only [List.length_nil]; omega) hf trivial (fun a ha => ⟨26, hY post pl nm a ha h⟩)
end VW30
