section VZ47
variable {g : vg_G} {ac : Int32} {ah : Nat → Int32} {lf pl nm : Int32} {aM aB aC aZ aN aT aS aI aH aD : Nat → Int32}
theorem od_1 : ∀ w, w < 4 → ((nI w &&& 1) = 0 ↔ ¬ (w = 1 ∨ w = 3)) := by decide
theorem i_vc_open {k : Nat} {u : SX} {v : SY} (I : i_Rel k u v) (hk : k + 3 ≤ 1536) (v1 : Int32) : wpX_open (fun r u' => wpY_open (fun r' v' => r' = r ∧ i_Rel (k + 3) u' v') v v1) u v1 := by
  obtain ⟨g, ac, ah, lf, pl, nm, aM, aB, aC, aZ, aN, aT, aS, aI, aH, aD, hI, hR, rfl, rfl⟩ := I
  have same : ∀ ac ah lf pl nm aD, i_Rel (k + 3) (vx_S g ac ah) (vy_S g lf pl nm aM aB aC aZ aN aT aS aI aH aD) := fun _ _ _ _ _ _ => vz_mk hI hR
  unfold wpX_open vx_S
  by_cases ht : g.tp = 0
  · refine br_t ((vz_t1 hI).mpr ht) ?_
    unfold wpY_open vy_S
    exact br_t ((vz_t3 hI).mpr ht) ⟨rfl, same _ _ _ _ _ _⟩
  · have nt3 : ¬ vg_tv g.tp < 0 := fun z => ht ((vz_t3 hI).mp z)
    refine br_f (fun z => ht ((vz_t1 hI).mp z)) ?_
    rcases pk_ix v1 (n := 4) (by decide) with h2 | h2 | ⟨w, hw, rfl⟩
    · refine br_t h2 ?_
      unfold wpY_open vy_S
      exact br_f nt3 (vy_out1 4 (by omega) (Or.inl h2) (br_f (by decide) ⟨rfl, same _ _ _ _ _ _⟩))
    · have h3 : ¬ v1 < 0 := fun z => absurd (Int32.lt_of_le_of_lt h2 z) (by decide)
      have h4 : ¬ v1 ≤ 3 := fun z => absurd (Int32.le_trans h2 z) (by decide)
      refine br_f h3 (br_f h4 ?_)
      unfold wpY_open vy_S
      exact br_f nt3 (vy_out1 4 (by omega) (Or.inr h2) (br_f (by decide) ⟨rfl, same _ _ _ _ _ _⟩))
    · obtain ⟨r, ok, hX, hY⟩ := vw_walk (p := 0) (n := g.dl 0) 1 hI hR ht (by omega) (Nat.le_refl _)
      have E1 : nI w = 1 ↔ w = 1 := vn_e1 (by omega)
      have E3 : nI w = 3 ↔ w = 3 := vn_e3 (by omega)
      refine br_f (nI_pos (by omega)) (br_t ((vn_le3 (by omega)).mpr (by omega)) ?_)
      by_cases hB : r = -1 ∧ (w = 1 ∨ w = 3)
      · obtain ⟨hr1, hw13⟩ := hB
        subst hr1
        have hn : (-1 : Int32) < 0 := by decide
        have odd : ¬ (nI w &&& 1) = 0 := fun z => (od_1 w hw).mp z hw13
        have XW : ∀ (post : Int32 → SX → Prop) c a', wX_open_48 post (nI w) (-1) (vg_tv g.tp) (nI g.cu) c (vg_cv g.fm) (vg_cv g.ro) (vg_cv g.de) (vg_cm g.mo) (vg_cv g.ki) (vg_cv g.sz) (vg_cv g.ef) (vg_cv g.wp) g.hd (vg_cv g.nd) (vg_cv g.oF) (vg_cv g.oH) (vg_cv g.po) (vg_cv g.dr) (vg_cv g.dl) (a') → ((-1 : Int32) = -1 → ((nI w = 1 → wX_open_48 post (nI w) (-1) (vg_tv g.tp) (nI g.cu) c (vg_cv g.fm) (vg_cv g.ro) (vg_cv g.de) (vg_cm g.mo) (vg_cv g.ki) (vg_cv g.sz) (vg_cv g.ef) (vg_cv g.wp) g.hd (vg_cv g.nd) (vg_cv g.oF) (vg_cv g.oH) (vg_cv g.po) (vg_cv g.dr) (vg_cv g.dl) (a')) ∧ (¬ nI w = 1 → ((nI w = 3 → wX_open_48 post (nI w) (-1) (vg_tv g.tp) (nI g.cu) c (vg_cv g.fm) (vg_cv g.ro) (vg_cv g.de) (vg_cm g.mo) (vg_cv g.ki) (vg_cv g.sz) (vg_cv g.ef) (vg_cv g.wp) g.hd (vg_cv g.nd) (vg_cv g.oF) (vg_cv g.oH) (vg_cv g.po) (vg_cv g.dr) (vg_cv g.dl) (a')) ∧ (¬ nI w = 3 → wX_open_74 post (nI w) (-1) (vg_tv g.tp) (nI g.cu) c (vg_cv g.fm) (vg_cv g.ro) (vg_cv g.de) (vg_cm g.mo) (vg_cv g.ki) (vg_cv g.sz) (vg_cv g.ef) (vg_cv g.wp) g.hd (vg_cv g.nd) (vg_cv g.oF) (vg_cv g.oH) (vg_cv g.po) (vg_cv g.dr) (vg_cv g.dl) (a')))))) ∧ (¬ (-1 : Int32) = -1 → wX_open_74 post (nI w) (-1) (vg_tv g.tp) (nI g.cu) c (vg_cv g.fm) (vg_cv g.ro) (vg_cv g.de) (vg_cm g.mo) (vg_cv g.ki) (vg_cv g.sz) (vg_cv g.ef) (vg_cv g.wp) g.hd (vg_cv g.nd) (vg_cv g.oF) (vg_cv g.oH) (vg_cv g.po) (vg_cv g.dr) (vg_cv g.dl) (a')) := by
          intro post c a' h
          refine br_t rfl (br_c (fun _ => h) (fun z => br_t (E3.mpr (hw13.resolve_left (fun y => z (E1.mpr y)))) h))
        rcases vw_place (p := 0) hI hR ht (by omega) with ⟨x, hx, hkx, h1, h14, hX2, hY2⟩ | ⟨r2, hr2, hX2, hY2⟩
        · have hxl := hx.1
          have hx0 : ¬ nI x < 0 := nI_pos (by omega)
          have hq := vq_le (fm := g.fm) (nd := g.nd) (p := x) h14 h1
          have fn := fi_neg hI hxl hkx h1 h14
          have YP : ∀ (post : Int32 → SY → Prop), (∀ c a', ((0 ≤ vg_fi g x (vg_ls g 0) → wY_open_69 post (nI w) (-1) (vg_tv g.tp) (nI g.cu) c (nI x) (nI (vg_ls g 0)) (vg_cv g.fm) (vg_cv g.de) (vg_cv g.ro) aM aB (vg_cv g.ki) aC aZ (vg_cv g.wp) aN aT aS aI (vg_cv g.dr) (vg_cv g.dl) aH (vg_cv g.po) (vg_cv g.oH) (a')) ∧ (¬ 0 ≤ vg_fi g x (vg_ls g 0) → wY_open_70 post (nI w) (-1) 1 (vg_tv g.tp) (nI g.cu) c (nI x) (nI (vg_ls g 0)) (vg_cv g.fm) (vg_cv g.de) (vg_cv g.ro) aM aB (vg_cv g.ki) aC aZ (vg_cv g.wp) aN aT aS aI (vg_cv g.dr) (vg_cv g.dl) aH (vg_cv g.po) (vg_cv g.oH) (a')))) → wpY_open post (vy_S g lf pl nm aM aB aC aZ aN aT aS aI aH aD) (nI w) := by
            intro post h
            unfold wpY_open vy_S
            refine br_f nt3 (vy_out0 4 hw (by omega) (br_t rfl ?_))
            refine hY _ lf pl nm aD (fun c2 a2 => br_t rfl (br_f odd ?_))
            refine hY2 _ c2 pl nm a2 (fun c3 a3 => br_t rfl ?_)
            exact vy_find (lf := c3) (pl := nI x) (nm := nI (vg_ls g 0)) (aD := a3) hI hR.2.1 hxl hkx h1 h14 (h c3 a3)
          refine hX _ ac ah (fun c a' => XW _ c a' ?_)
          unfold wX_open_48
          refine hX2 _ c a' (fun c3 a3 => br_f hx0 ?_)
          refine vx_nameAt (g := g) (ac := c3) (ah := a3) (p := 0) hI (by omega) hxl h1 h14 ?_
          refine pk_eq (vg_eq g.fm g.nd x (vg_ls g 0)) 0 (fun e => ?_) (fun e => ?_)
          · have nf : ¬ 0 ≤ vg_fi g x (vg_ls g 0) := fun z => fn.2.mp z e
            refine vx_onw (g := g) (ac := c3) (ah := a3) hI hx (by omega) h14 (fun hro => ?_) (fun hro hh => ?_) (fun hro hh hf => ?_) (fun hro hh hf => ?_)
            · exact YP _ (fun c4 a4 => br_f nf (vy_onw hI hR hx hkx hw13 h1 h14 e (fun _ => ⟨rfl, same _ _ _ _ _ _⟩) (fun z => absurd z hro) (fun z => absurd z hro) (fun z => absurd z hro)))
            · exact YP _ (fun c4 a4 => br_f nf (vy_onw hI hR hx hkx hw13 h1 h14 e (fun z => absurd hro z) (fun _ _ => ⟨rfl, same _ _ _ _ _ _⟩) (fun _ z => absurd z hh) (fun _ z => absurd z hh)))
            · exact YP _ (fun c4 a4 => br_f nf (vy_onw hI hR hx hkx hw13 h1 h14 e (fun z => absurd hro z) (fun _ z => absurd hh z) (fun _ _ _ => ⟨rfl, same _ _ _ _ _ _⟩) (fun _ _ z => absurd hf z)))
            · exact YP _ (fun c4 a4 => br_f nf (vy_onw hI hR hx hkx hw13 h1 h14 e (fun z => absurd hro z) (fun _ z => absurd hh z) (fun _ _ z => absurd z hf) (fun _ _ _ c' z' n' t' i' h' hR' => ⟨rfl, vz_mk (iv_on hI hx hkx h1 h14 e hf (by omega)) hR'⟩)))
          · have yf : 0 ≤ vg_fi g x (vg_ls g 0) := fn.2.mpr e
            refine vx_opn (g := g) (ac := c3) (ah := a3) hn ?_
            exact YP _ (fun c4 a4 => br_t yf (vy_opn hn ⟨rfl, same _ _ _ _ _ _⟩))
        · refine hX _ ac ah (fun c a' => XW _ c a' ?_)
          unfold wX_open_48
          refine hX2 _ c a' (fun c3 a3 => br_t hr2 ?_)
          refine vx_opn (g := g) (ac := c3) (ah := a3) hn ?_
          unfold wpY_open vy_S
          refine br_f nt3 (vy_out0 4 hw (by omega) (br_t rfl ?_))
          refine hY _ lf pl nm aD (fun c2 a2 => br_t rfl (br_f odd ?_))
          exact hY2 _ c2 pl nm a2 (fun c4 a4 => br_f (fun z => by rw [z] at hr2; exact absurd hr2 (by decide)) (vy_opn hn ⟨rfl, same _ _ _ _ _ _⟩))
      · have XW : ∀ (post : Int32 → SX → Prop) c a', wX_open_74 post (nI w) r (vg_tv g.tp) (nI g.cu) c (vg_cv g.fm) (vg_cv g.ro) (vg_cv g.de) (vg_cm g.mo) (vg_cv g.ki) (vg_cv g.sz) (vg_cv g.ef) (vg_cv g.wp) g.hd (vg_cv g.nd) (vg_cv g.oF) (vg_cv g.oH) (vg_cv g.po) (vg_cv g.dr) (vg_cv g.dl) (a') → (r = -1 → ((nI w = 1 → wX_open_48 post (nI w) r (vg_tv g.tp) (nI g.cu) c (vg_cv g.fm) (vg_cv g.ro) (vg_cv g.de) (vg_cm g.mo) (vg_cv g.ki) (vg_cv g.sz) (vg_cv g.ef) (vg_cv g.wp) g.hd (vg_cv g.nd) (vg_cv g.oF) (vg_cv g.oH) (vg_cv g.po) (vg_cv g.dr) (vg_cv g.dl) (a')) ∧ (¬ nI w = 1 → ((nI w = 3 → wX_open_48 post (nI w) r (vg_tv g.tp) (nI g.cu) c (vg_cv g.fm) (vg_cv g.ro) (vg_cv g.de) (vg_cm g.mo) (vg_cv g.ki) (vg_cv g.sz) (vg_cv g.ef) (vg_cv g.wp) g.hd (vg_cv g.nd) (vg_cv g.oF) (vg_cv g.oH) (vg_cv g.po) (vg_cv g.dr) (vg_cv g.dl) (a')) ∧ (¬ nI w = 3 → wX_open_74 post (nI w) r (vg_tv g.tp) (nI g.cu) c (vg_cv g.fm) (vg_cv g.ro) (vg_cv g.de) (vg_cm g.mo) (vg_cv g.ki) (vg_cv g.sz) (vg_cv g.ef) (vg_cv g.wp) g.hd (vg_cv g.nd) (vg_cv g.oF) (vg_cv g.oH) (vg_cv g.po) (vg_cv g.dr) (vg_cv g.dl) (a')))))) ∧ (¬ r = -1 → wX_open_74 post (nI w) r (vg_tv g.tp) (nI g.cu) c (vg_cv g.fm) (vg_cv g.ro) (vg_cv g.de) (vg_cm g.mo) (vg_cv g.ki) (vg_cv g.sz) (vg_cv g.ef) (vg_cv g.wp) g.hd (vg_cv g.nd) (vg_cv g.oF) (vg_cv g.oH) (vg_cv g.po) (vg_cv g.dr) (vg_cv g.dl) (a')) := by
          intro post c a' h
          refine br_c (fun e => ?_) (fun _ => h)
          have hw13 : ¬ (w = 1 ∨ w = 3) := fun z => hB ⟨e, z⟩
          exact br_f (fun z => hw13 (Or.inl (E1.mp z))) (br_f (fun z => hw13 (Or.inr (E3.mp z))) h)
        have YW : ∀ (post : Int32 → SY → Prop), (∀ c a', wY_open_69 post (nI w) r (vg_tv g.tp) (nI g.cu) c pl nm (vg_cv g.fm) (vg_cv g.de) (vg_cv g.ro) aM aB (vg_cv g.ki) aC aZ (vg_cv g.wp) aN aT aS aI (vg_cv g.dr) (vg_cv g.dl) aH (vg_cv g.po) (vg_cv g.oH) (a')) → wpY_open post (vy_S g lf pl nm aM aB aC aZ aN aT aS aI aH aD) (nI w) := by
          intro post h
          unfold wpY_open vy_S
          refine br_f nt3 (vy_out0 4 hw (by omega) (br_t rfl ?_))
          refine hY _ lf pl nm aD (fun c2 a2 => br_c (fun e => ?_) (fun _ => h c2 a2))
          have hw13 : ¬ (w = 1 ∨ w = 3) := fun z => hB ⟨e, z⟩
          exact br_t ((od_1 w hw).mpr hw13) (h c2 a2)
        rcases vw_neg3 ok with hr | ⟨x, hx, hx3, rfl⟩
        · refine hX _ ac ah (fun c a' => XW _ c a' (vx_opn hr ?_))
          exact YW _ (fun c2 a2 => vy_opn hr ⟨rfl, same _ _ _ _ _ _⟩)
        · have hxl := hx.1
          have hk3 : g.ki x ≠ 3 := hx3 (by decide)
          have hkb := hI.1.2.2.2.2.2.2.1 x
          have hk0 := hx.2.1
          have hk2 : g.ki x ≠ 1 → g.ki x = 2 := fun z => by omega
          have hxr : g.ki x ≠ 1 → x % 10 ≠ 0 := by
            intro z e
            have := (hI.2.1 (x / 10) (by omega)).1
            rw [show 10 * (x / 10) = x by omega] at this
            exact z this
          have hx0 : g.ki x ≠ 1 → x ≠ 0 := fun z e => hxr z (by omega)
          have hw3 : w ≤ 3 := by omega
          refine hX _ ac ah (fun c a' => XW _ c a' (vx_op hI hx hw3 (fun h1 => ?_) (fun h1 hz hro => ?_) (fun h1 hc hh => ?_) (fun h1 hc hh => ?_)))
          · exact YW _ (fun c2 a2 => vy_op hI hR hx hw3 hx0 hk2 (fun _ => ⟨rfl, same _ _ _ _ _ _⟩) (fun z => absurd h1 z) (fun z => absurd h1 z) (fun z => absurd h1 z))
          · exact YW _ (fun c2 a2 => vy_op hI hR hx hw3 hx0 hk2 (fun z => absurd z h1) (fun _ _ _ => ⟨rfl, same _ _ _ _ _ _⟩) (fun _ z => absurd z (fun y => y.elim hz hro)) (fun _ z => absurd z (fun y => y.elim hz hro)))
          · exact YW _ (fun c2 a2 => vy_op hI hR hx hw3 hx0 hk2 (fun z => absurd z h1) (fun _ y1 y2 => absurd hc (fun y => y.elim y1 y2)) (fun _ _ _ => ⟨rfl, same _ _ _ _ _ _⟩) (fun _ _ z => absurd z hh))
          · exact YW _ (fun c2 a2 => vy_op hI hR hx hw3 hx0 hk2 (fun z => absurd z h1) (fun _ y1 y2 => absurd hc (fun y => y.elim y1 y2)) (fun _ _ z => absurd hh z) (fun _ _ _ z' i' h' hR' => ⟨rfl, vz_mk (iv_op hI hx (hxr h1) (hk2 h1) hw3) hR'⟩))
/-! resize -/
theorem sub_le {a b c : Nat} (ha : a < 100) (hb : b < 100) (hc : c < 100) : nI a - nI b ≤ nI c ↔ a ≤ c + b := by
  rw [Int32.le_iff_toInt_le, pk_sub_toInt (by omega) (by omega), nI_toInt (by omega)]
  omega
theorem ssz_g {o n : Nat} (hI : iv_I g) (ho : o < 40) (hk : g.ki o = 2) (hn : n ≤ 20) (h : g.sz o ≤ n) : vy_S (vg_ssz g o n) lf pl nm aM aB aC aZ aN aT aS aI aH aD = vy_S g lf pl nm aM aB aC aZ aN aT aS aI aH aD := by
  have hfl := hI.2.2.2.2.2.2.2.2.2.1 o ho hk
  have hlt : g.wp o < 2 ^ ((n + 3) / 4) := Nat.lt_of_lt_of_le hfl (Nat.pow_le_pow_right (by decide) (by omega))
  have hmod : g.wp o % 2 ^ ((n + 3) / 4) = g.wp o := Nat.mod_eq_of_lt hlt
  have hwp : (vg_ssz g o n).wp = g.wp := by rw [ssz_wp, hmod]; exact un_id rfl
  have hde : (vg_ssz g o n).de = g.de := by
    rw [ssz_de, hmod]
    split
    · exact un_id (by omega)
    · rfl
  unfold vy_S
  rw [hwp, hde]
  rfl
theorem vy_rszL {post : Int32 → SY → Prop} {o n : Nat} (ho : o < 40) (hn : n ≤ 20) : ∀ r i a, r = n - i → i ≤ 20 → post 0 (vy_S g lf pl nm aM aB aC (upd aZ o (nI n)) aN aT aS (vg_fl a (fun _ => 0) (20 * o + i) (20 * o + n)) aH aD) → wY_resize_109 post (nI n) (nI o) (vg_tv g.tp) (nI g.cu) lf pl nm (r + 1) (nI i) (vg_cv g.fm) (vg_cv g.de) (vg_cv g.ro) aM aB (vg_cv g.ki) aC aZ (vg_cv g.wp) aN aT aS a (vg_cv g.dr) (vg_cv g.dl) aH (vg_cv g.po) (vg_cv g.oH) aD := by
  intro r
  induction r with
  | zero =>
    intro i a hr hi h
    rw [fl_nil (by omega)] at h
    refine br_t ((nI_leI (by omega) (by omega)).mpr (by omega)) ?_
    unfold wY_resize_134
    exact ⟨vp_in_nI ho (by decide), nm_r (e' := upd aZ o (nI n)) (by rw [vn_b8 (by omega), nI_clamp (by omega)]) h⟩
  | succ r ih =>
    intro i a hr hi h
    have eI : 20 * nI o + nI i = nI (20 * o + i) := by rw [vn_ml20, nI_add]
    refine br_f (fun z => by have := (nI_leI (by omega) (by omega)).mp z; omega) ⟨by rw [eI]; exact vp_in_nI (by omega) (by decide), nm_r (e' := vg_ug a (20 * o + i) 0) (by rw [eI, nI_clamp (by omega)]; rfl) (nm_r (nI_1 i) (ih (i + 1) _ (by omega) (by omega) ?_))⟩
    rw [← Nat.add_assoc, fl_step (h := fun _ => (0 : Int32)) (by omega)]
    exact h
theorem upd_upd {a : Nat → Int32} {k : Nat} {x y : Int32} : upd (upd a k x) k y = upd a k y := by
  funext j
  rw [up_ap, up_ap, up_ap]
  split <;> rfl
theorem vy_rsz {post : Int32 → SY → Prop} {o n : Nat} (hI : iv_I g) (hR : vy_R g aM aB aC aZ aN aT aS aI aH) (ho : o < 40) (hk : g.ki o = 2) (hn : n ≤ 20) (h : ∀ z' i', vy_R (vg_ssz g o n) aM aB aC z' aN aT aS i' aH → post 0 (vy_S (vg_ssz g o n) lf pl nm aM aB aC z' aN aT aS i' aH aD)) : wY_resize_82 post (nI n) (nI o) (vg_tv g.tp) (nI g.cu) lf pl nm (vg_cv g.fm) (vg_cv g.de) (vg_cv g.ro) aM aB (vg_cv g.ki) aC aZ (vg_cv g.wp) aN aT aS aI (vg_cv g.dr) (vg_cv g.dl) aH (vg_cv g.po) (vg_cv g.oH) aD := by
  have hs := hI.1.2.2.2.2.2.2.2.1 o
  have hlk := hI.2.2.2.2.2.2.2.2.2.2.1
  have hz : aZ (nI o).toNatClampNeg = nI (g.sz o) := by rw [nI_clamp (by omega)]; exact (hR.2.2.1 o ho hk).1
  have hi : vp_in (nI o) 40 := vp_in_nI ho (by decide)
  unfold wY_resize_82
  rw [hz]
  refine ⟨hi, pk_le (g.sz o) n (fun e => ⟨hi, nm_e ⟨n - g.sz o + 1, ?_⟩⟩) (fun e => ?_)⟩
  · have h2 := h (upd aZ o (nI n)) (vg_fl aI (fun _ => 0) (20 * o + g.sz o) (20 * o + n)) ⟨hR.1, yr_ssz_d hR.2.1 hk, yr_ssz_f hR.2.2.1 hk hs hn (fun z => by omega) (fun _ => ⟨rfl, rfl⟩), yr_ssz_l hR.2.2.2.1 hlk hk hn, hR.2.2.2.2⟩
    rw [ssz_g hI ho hk hn e] at h2
    exact vy_rszL (g := g) (lf := lf) (pl := pl) (nm := nm) (aD := aD) ho hn (n - g.sz o) (g.sz o) aI rfl hs h2
  · have h2 := h (upd aZ o (nI n)) (vg_fl aI (fun _ => 0) (20 * o + n) (20 * o + 20)) ⟨hR.1, yr_ssz_d hR.2.1 hk, yr_ssz_f hR.2.2.1 hk hs hn (fun _ => ⟨rfl, rfl⟩) (fun z => by omega), yr_ssz_l hR.2.2.2.1 hlk hk hn, hR.2.2.2.2⟩
    refine vy_cutTo (g := g) (lf := lf) (pl := pl) (nm := nm) (aD := aD) hI.1 ho hn ?_
    unfold wY_resize_134
    exact ⟨hi, nm_r (e' := upd aZ o (nI n)) (by rw [vn_b8 (by omega), nI_clamp (by omega)]; exact upd_upd) h2⟩
theorem i_vc_resize {k : Nat} {u : SX} {v : SY} (I : i_Rel k u v) (hk : k + 3 ≤ 1536) (v1 : Int32) (v2 : Int32) : wpX_resize (fun r u' => wpY_resize (fun r' v' => r' = r ∧ i_Rel (k + 3) u' v') v v1 v2) u v1 v2 := by
  obtain ⟨g, ac, ah, lf, pl, nm, aM, aB, aC, aZ, aN, aT, aS, aI, aH, aD, hI, hR, rfl, rfl⟩ := I
  have same : ∀ ac ah lf pl nm aD, i_Rel (k + 3) (vx_S g ac ah) (vy_S g lf pl nm aM aB aC aZ aN aT aS aI aH aD) := fun _ _ _ _ _ _ => vz_mk hI hR
  unfold wpX_resize vx_S
  by_cases hx : v1 < 0 ∨ nI 5 ≤ v1
  · refine vx_mayWrite0 (g := g) (ac := ac) (ah := ah) hx (br_t rfl ?_)
    unfold wpY_resize vy_S
    exact vy_closed0 (g := g) (lf := lf) (pl := pl) (nm := nm) (aD := aD) hx (br_f (by decide) ⟨rfl, same _ _ _ _ _ _⟩)
  · rcases pk_ix v1 (n := 5) (by decide) with h | h | ⟨h, hh, rfl⟩
    · exact absurd (Or.inl h) hx
    · exact absurd (Or.inr h) hx
    · have hi : vp_in (nI h) 5 := vp_in_nI hh (by decide)
      have hwb := hI.1.2.2.2.2.2.2.2.2.2.2.2.2.1 h
      have hob := hI.1.2.2.2.2.2.2.2.2.2.2.2.1 h
      have hW : vg_cv g.oH (nI h).toNatClampNeg = nI (g.oH h) := cv_at (by omega)
      refine vx_mayWrite1 (g := g) (ac := ac) (ah := ah) hI hh (fun ho how => br_f (by decide) ?_) (fun hc => br_t rfl ?_)
      · have hn := hI.2.2.2.2.2.2.2.2.2.2.2.2.1 h hh ho
        have nw : ¬ nI (g.oH h) = 0 := fun z => how ((vn_e0 (by omega)).mp z)
        have eH : aH (nI h).toNatClampNeg = nI (g.oF h) := by rw [nI_clamp (by omega), hR.2.2.2.2 h hh, if_neg ho]
        rcases pk_ix v2 (n := 21) (by decide) with h2 | h2 | ⟨n, hn2, rfl⟩
        · refine br_t h2 ?_
          unfold wpY_resize vy_S
          refine vy_closed1 (g := g) (lf := lf) (pl := pl) (nm := nm) (aD := aD) hI hR.2.2.2.2 hh (fun _ => br_t rfl ⟨hi, ?_⟩) (fun z => absurd z ho)
          rw [hW]
          exact br_f nw (vy_out1 21 (by omega) (Or.inl h2) (br_f (by decide) ⟨rfl, same _ _ _ _ _ _⟩))
        · have h3 : ¬ v2 < 0 := fun z => absurd (Int32.lt_of_le_of_lt h2 z) (by decide)
          have h4 : ¬ v2 ≤ 20 := fun z => absurd (Int32.le_trans h2 z) (by decide)
          refine br_f h3 (br_f h4 ?_)
          unfold wpY_resize vy_S
          refine vy_closed1 (g := g) (lf := lf) (pl := pl) (nm := nm) (aD := aD) hI hR.2.2.2.2 hh (fun _ => br_t rfl ⟨hi, ?_⟩) (fun z => absurd z ho)
          rw [hW]
          exact br_f nw (vy_out1 21 (by omega) (Or.inr h2) (br_f (by decide) ⟨rfl, same _ _ _ _ _ _⟩))
        · have hsb := hI.1.2.2.2.2.2.2.2.1 (g.oF h)
          have hfb := hI.1.1 (g.oF h / 10)
          have hbk := hI.2.2.2.2.2.2.2.2.2.2.2.2.2.1 (g.oF h / 10) (by omega)
          have hYf := hR.2.2.1 (g.oF h) hob hn.2.1
          have hio : vp_in (nI (g.oF h)) 40 := vp_in_nI hob (by decide)
          have hid : vp_in (nI (g.oF h / 10)) 4 := vp_in_nI (by omega) (by decide)
          have hfr : vg_fr g (g.oF h / 10) ≤ 32 := by unfold vg_fr; omega
          have EF : vg_cv g.fm (nI (g.oF h / 10)).toNatClampNeg = 0 ↔ g.fm (g.oF h / 10) = 0 := by
            rw [cv_at (by omega)]
            exact vn_e0 (by omega)
          have SL := sub_le (a := (n + 3) / 4) (b := (g.sz (g.oF h) + 3) / 4) (c := vg_fr g (g.oF h / 10)) (by omega) (by omega) (by omega)
          have YY : ∀ (post : Int32 → SY → Prop), (g.fm (g.oF h / 10) = 0 → ¬ (n + 3) / 4 ≤ vg_fr g (g.oF h / 10) + (g.sz (g.oF h) + 3) / 4 → post (-7) (vy_S g lf pl nm aM aB aC aZ aN aT aS aI aH aD)) → ((g.fm (g.oF h / 10) = 0 → (n + 3) / 4 ≤ vg_fr g (g.oF h / 10) + (g.sz (g.oF h) + 3) / 4) → ∀ z' i', vy_R (vg_ssz g (g.oF h) n) aM aB aC z' aN aT aS i' aH → post 0 (vy_S (vg_ssz g (g.oF h) n) lf pl nm aM aB aC z' aN aT aS i' aH aD)) → wpY_resize post (vy_S g lf pl nm aM aB aC aZ aN aT aS aI aH aD) (nI h) (nI n) := by
            intro post h7 h0
            unfold wpY_resize vy_S
            refine vy_closed1 (g := g) (lf := lf) (pl := pl) (nm := nm) (aD := aD) hI hR.2.2.2.2 hh (fun _ => br_t rfl ⟨hi, ?_⟩) (fun z => absurd z ho)
            rw [hW]
            refine br_f nw (vy_out0 21 hn2 (by omega) (br_t rfl ⟨hi, nm_r eH ⟨vz_4, hio, vz_4, nm_r (e' := nI ((n + 3) / 4) - nI ((g.sz (g.oF h) + 3) / 4)) ?_ ⟨vz_10, ?_⟩⟩⟩))
            · rw [nI_clamp (by omega), hYf.1, vn_ar3, vn_ar3, vn_d4 (by omega), vn_d4 (by omega)]
            · rw [vn_d10 (by omega)]
              refine ⟨hid, fun ef => ⟨vz_10, ?_⟩, fun ef => vy_rsz hI hR hob hn.2.1 (by omega) (h0 (fun z => absurd (EF.mpr z) ef))⟩
              refine vy_rest (lf := lf) (pl := pl) (nm := nm) (aD := aD) hI hR (by omega) ?_
              exact ⟨fun e => vy_rsz hI hR hob hn.2.1 (by omega) (h0 (fun _ => SL.mp e)), fun e => h7 (EF.mp ef) (fun z => e (SL.mpr z))⟩
          have done : (g.fm (g.oF h / 10) = 0 → (n + 3) / 4 ≤ vg_fr g (g.oF h / 10) + (g.sz (g.oF h) + 3) / 4) → wX_resize_70 (fun r u' => wpY_resize (fun r' v' => r' = r ∧ i_Rel (k + 3) u' v') (vy_S g lf pl nm aM aB aC aZ aN aT aS aI aH aD) (nI h) (nI n)) (nI n) (nI (g.oF h)) (vg_tv g.tp) (nI g.cu) ac (vg_cv g.fm) (vg_cv g.ro) (vg_cv g.de) (vg_cm g.mo) (vg_cv g.ki) (vg_cv g.sz) (vg_cv g.ef) (vg_cv g.wp) g.hd (vg_cv g.nd) (vg_cv g.oF) (vg_cv g.oH) (vg_cv g.po) (vg_cv g.dr) (vg_cv g.dl) ah := by
            intro hc
            unfold wX_resize_70
            refine vx_setSize (g := g) (ac := ac) (ah := ah) hI.1 hob (by omega) ?_
            have hIs : iv_I (vg_ssz g (g.oF h) n) := iv_ssz hI hob hn.2.1 (by omega) (fun hf => by have := hc hf; unfold vg_fr at this; omega)
            exact YY _ (fun hf hz => absurd (hc hf) hz) (fun _ z' i' hR' => ⟨rfl, vz_mk hIs hR'⟩)
          refine br_f (nI_pos (by omega)) (br_t ((vn_le20 (by omega)).mpr (by omega)) ⟨hi, nm_r (cv_at (by omega)) (vx_diskOf (by omega) ⟨hid, fun ef => ?_, fun ef => done (fun z => absurd (EF.mpr z) ef)⟩)⟩)
          refine vx_partsIn (by omega) ⟨hio, ?_⟩
          rw [cv_at (f := g.sz) (by omega)]
          refine vx_partsIn (by omega) ?_
          refine vx_freeBlocks (g := g) (ac := ac) (ah := ah) hI (by omega) ⟨fun e => done (fun _ => SL.mp e), fun e => ?_⟩
          exact YY _ (fun _ _ => ⟨rfl, same _ _ _ _ _ _⟩) (fun hz => absurd (hz (EF.mp ef)) (fun y => e (SL.mpr y)))
      · unfold wpY_resize vy_S
        refine vy_closed1 (g := g) (lf := lf) (pl := pl) (nm := nm) (aD := aD) hI hR.2.2.2.2 hh (fun ho => br_t rfl ⟨hi, ?_⟩) (fun _ => br_f (by decide) ⟨rfl, same _ _ _ _ _ _⟩)
        rw [hW]
        exact br_t (by rw [hc.resolve_left ho]; rfl) ⟨rfl, same _ _ _ _ _ _⟩
end VZ47
