section VZ41
variable {g : vg_G} {ac : Int32} {ah : Nat → Int32} {lf pl nm : Int32} {aM aB aC aZ aN aT aS aI aH aD : Nat → Int32}
theorem clr_ke {d f : Nat} : vg_un (vg_fl g.ki (fun _ => 0) (10 * d) (10 * d + 10)) (10 * d) 1 = (vg_clr g d f).ki := by
  rw [clr_ki]
  funext j
  rw [un_ap, fl_ap]
  by_cases e : j = 10 * d
  · rw [if_pos e, if_pos (by omega), if_pos e]
  · rw [if_neg e]
    by_cases e1 : 10 * d ≤ j ∧ j < 10 * d + 10
    · rw [if_pos e1, if_pos e1, if_neg e]
    · rw [if_neg e1, if_neg e1]
theorem clr_R {d f : Nat} (hI : iv_I g) (hd : d < 4) (hm : g.mo d = 0) (hR : vy_R g aM aB aC aZ aN aT aS aI aH) : vy_R (vg_clr g d f) aM aB (vg_fl aC (fun _ => 0) (10 * d) (10 * d + 10)) aZ aN aT aS aI aH :=
  ⟨hR.1, yr_clr_d hR.2.1, yr_clr_f hR.2.2.1, yr_clr_l hR.2.2.2.1, hR.2.2.2.2⟩
theorem clr_S {d f : Nat} {c : Nat → Int32} (hI : iv_I g) (hd : d < 4) : vy_S (vg_clr g d f) lf pl nm aM aB c aZ aN aT aS aI aH aD = ((vg_tv g.tp), (nI g.cu), lf, pl, nm, (vg_cv (vg_un g.fm d f)), (vg_cv (vg_un g.de d 0)), (vg_cv (vg_un g.ro d 0)), aM, aB, (vg_cv (vg_un (vg_fl g.ki (fun _ => 0) (10 * d) (10 * d + 10)) (10 * d) 1)), c, aZ, (vg_cv g.wp), aN, aT, aS, aI, (vg_cv g.dr), (vg_cv g.dl), aH, (vg_cv g.po), (vg_cv g.oH), aD) := by
  have hw : (vg_clr g d f).wp = g.wp := by
    rw [clr_wp]
    exact un_id (hI.2.1 d hd).2.1
  rw [clr_ke (f := f)]
  unfold vy_S
  rw [hw]
  rfl
theorem i_vc_make {k : Nat} {u : SX} {v : SY} (I : i_Rel k u v) (hk : k + 3 ≤ 1536) (v1 : Int32) (v2 : Int32) : wpX_make (fun r u' => wpY_make (fun r' v' => r' = r ∧ i_Rel (k + 3) u' v') v v1 v2) u v1 v2 := by
  obtain ⟨g, ac, ah, lf, pl, nm, aM, aB, aC, aZ, aN, aT, aS, aI, aH, aD, hI, hR, rfl, rfl⟩ := I
  have same : i_Rel (k + 3) (vx_S g ac ah) (vy_S g lf pl nm aM aB aC aZ aN aT aS aI aH aD) := vz_mk hI hR
  unfold wpX_make vx_S
  by_cases hx : v1 < 0 ∨ nI 4 ≤ v1
  · refine vx_isDisk0 hx (br_t rfl ?_)
    unfold wpY_make vy_S
    exact vy_out1 4 (by omega) hx (br_f (by decide) ⟨rfl, same⟩)
  · rcases pk_ix v1 (n := 4) (by decide) with h | h | ⟨d, hd, rfl⟩
    · exact absurd (Or.inl h) hx
    · exact absurd (Or.inr h) hx
    · have hi : vp_in (nI d) 4 := vp_in_nI hd (by decide)
      refine vx_isDisk1 hd (br_f (by decide) ?_)
      rcases pk_ix v2 (n := 3) (by decide) with h2 | h2 | ⟨f, hf, rfl⟩
      · refine br_t h2 ?_
        unfold wpY_make vy_S
        exact vy_out0 4 hd (by omega) (br_t rfl (vy_out1 3 (by omega) (Or.inl h2) (br_f (by decide) ⟨rfl, same⟩)))
      · have h3 : ¬ v2 < 0 := fun z => absurd (Int32.lt_of_le_of_lt h2 z) (by decide)
        have h4 : ¬ v2 ≤ 2 := fun z => absurd (Int32.le_trans h2 z) (by decide)
        refine br_f h3 (br_f h4 ?_)
        unfold wpY_make vy_S
        exact vy_out0 4 hd (by omega) (br_t rfl (vy_out1 3 (by omega) (Or.inr h2) (br_f (by decide) ⟨rfl, same⟩)))
      · have hmm := hR.1 d hd
        refine br_f (nI_pos (by omega)) (br_t ((vn_le2 (by omega)).mpr (by omega)) ?_)
        refine vx_isMounted (g := g) (ac := ac) (ah := ah) hI hd (fun hm => br_t rfl ?_) (fun hm => br_f (by decide) ?_)
        · refine vx_clearDisk (g := g) (ac := ac) (ah := ah) hd ?_
          have fin : i_Rel (k + 3) (vx_S (vg_clr g d f) ac ah) (vy_S (vg_clr g d f) lf pl nm aM aB (vg_fl aC (fun _ => 0) (10 * d) (10 * d + 10)) aZ aN aT aS aI aH aD) := vz_mk (iv_clr hI hd (by omega) hm) (clr_R hI hd hm hR)
          rw [clr_S hI hd] at fin
          rw [if_pos hm] at hmm
          unfold wpY_make vy_S
          refine vy_out0 4 hd (by omega) (br_t rfl (vy_out0 3 hf (by omega) (br_t rfl ⟨hi, ?_⟩)))
          rw [nI_clamp (n := d) (by omega), hmm.1]
          refine br_t rfl ?_
          refine vy_clean (g := g) (lf := lf) (pl := pl) (nm := nm) (aD := aD) hd ⟨hi, nm_r (e' := vg_cv (vg_un g.fm d f)) (by rw [vn_b8 (by omega)]; exact cv_up _ _ _) ⟨hi, nm_r (e' := vg_cv (vg_un g.ro d 0)) (by rw [vn_bo0]; exact cv_up _ _ 0) ⟨rfl, fin⟩⟩⟩
        · rw [if_neg hm] at hmm
          unfold wpY_make vy_S
          refine vy_out0 4 hd (by omega) (br_t rfl (vy_out0 3 hf (by omega) (br_t rfl ⟨hi, ?_⟩)))
          rw [nI_clamp (n := d) (by omega), hmm.1]
          exact br_f (by decide) ⟨rfl, same⟩
theorem yr_m_top {d : Nat} (hI : iv_I g) (hR : vy_R g aM aB aC aZ aN aT aS aI aH) (hd : d < 4) (ht : g.tp = 0) : vy_R (vg_sCU (vg_sMO (vg_sTP g (d + 1)) (vg_un g.mo d 1)) (10 * d)) (upd aM d 1) aB aC aZ aN aT aS aI aH := by
  refine ⟨fun e he => ?_, hR.2.1, hR.2.2.1, hR.2.2.2.1, hR.2.2.2.2⟩
  have h1 := hR.1 e he
  have hm : (vg_sCU (vg_sMO (vg_sTP g (d + 1)) (vg_un g.mo d 1)) (10 * d)).mo e = if e = d then 1 else g.mo e := rfl
  rw [hm, up_ap]
  by_cases e1 : e = d
  · rw [if_pos e1, if_pos e1]
    exact ⟨by decide, fun z => by omega⟩
  · rw [if_neg e1, if_neg e1]
    exact h1
theorem yr_m_set {d m : Nat} {x y : Int32} (hR : vy_R g aM aB aC aZ aN aT aS aI aH) (hx : x = if m = 0 then 0 else 1) (hy : 2 ≤ m → y = nI (m - 2)) : vy_R (vg_sMO g (vg_un g.mo d m)) (upd aM d x) (upd aB d y) aC aZ aN aT aS aI aH := by
  refine ⟨fun e he => ?_, hR.2.1, hR.2.2.1, hR.2.2.2.1, hR.2.2.2.2⟩
  have h1 := hR.1 e he
  have hm : (vg_sMO g (vg_un g.mo d m)).mo e = if e = d then m else g.mo e := rfl
  rw [hm, up_ap, up_ap]
  by_cases e1 : e = d
  · rw [if_pos e1, if_pos e1, if_pos e1]
    exact ⟨hx, hy⟩
  · rw [if_neg e1, if_neg e1, if_neg e1]
    exact h1
theorem yr_m_un {d : Nat} (hR : vy_R g aM aB aC aZ aN aT aS aI aH) : vy_R (vg_sMO g (vg_un g.mo d 0)) (upd aM d 0) aB aC aZ aN aT aS aI aH := by
  refine ⟨fun e he => ?_, hR.2.1, hR.2.2.1, hR.2.2.2.1, hR.2.2.2.2⟩
  have h1 := hR.1 e he
  have hm : (vg_sMO g (vg_un g.mo d 0)).mo e = if e = d then 0 else g.mo e := rfl
  rw [hm, up_ap]
  by_cases e1 : e = d
  · rw [if_pos e1, if_pos e1]
    exact ⟨rfl, fun z => by omega⟩
  · rw [if_neg e1, if_neg e1]
    exact h1
theorem cm_up (f : vg_F) (k m : Nat) {x : Int32} (h : x = vg_mv m) : upd (vg_cm f) k x = vg_cm (vg_un f k m) := by
  funext j
  unfold upd vg_cm vg_un
  split
  · exact h
  · rfl
theorem i_vc_mount {k : Nat} {u : SX} {v : SY} (I : i_Rel k u v) (hk : k + 3 ≤ 1536) (v1 : Int32) : wpX_mount (fun r u' => wpY_mount (fun r' v' => r' = r ∧ i_Rel (k + 3) u' v') v v1) u v1 := by
  obtain ⟨g, ac, ah, lf, pl, nm, aM, aB, aC, aZ, aN, aT, aS, aI, aH, aD, hI, hR, rfl, rfl⟩ := I
  have same : ∀ ac ah lf pl nm aD, i_Rel (k + 3) (vx_S g ac ah) (vy_S g lf pl nm aM aB aC aZ aN aT aS aI aH aD) := fun _ _ _ _ _ _ => vz_mk hI hR
  unfold wpX_mount vx_S
  by_cases hx : v1 < 0 ∨ nI 4 ≤ v1
  · refine vx_isDisk0 hx (br_t rfl ?_)
    unfold wpY_mount vy_S
    exact vy_out1 4 (by omega) hx (br_f (by decide) ⟨rfl, same _ _ _ _ _ _⟩)
  · rcases pk_ix v1 (n := 4) (by decide) with h | h | ⟨d, hd, rfl⟩
    · exact absurd (Or.inl h) hx
    · exact absurd (Or.inr h) hx
    · have hi : vp_in (nI d) 4 := vp_in_nI hd (by decide)
      have hmm := (hR.1 d hd).1
      refine vx_isDisk1 hd (br_f (by decide) ?_)
      refine vx_isMounted (g := g) (ac := ac) (ah := ah) hI hd (fun hm => br_t rfl ?_) (fun hm => br_f (by decide) ?_)
      · rw [if_pos hm] at hmm
        by_cases ht : g.tp = 0
        · refine br_t ((vz_t1 hI).mpr ht) ⟨hi, nm_r (e' := vg_cm (vg_un g.mo d 1)) (by rw [nI_clamp (by omega)]; exact cm_up _ _ 1 mv_1.symm) (vx_rootOf ?_)⟩
          unfold wpY_mount vy_S
          refine vy_out0 4 hd (by omega) (br_t rfl ⟨hi, ?_⟩)
          rw [nI_clamp (n := d) (by omega), hmm]
          refine br_t rfl (br_f (fun z => (vz_t2 hI).mp z ht) ⟨hi, nm_r (e' := upd aM d 1) (by rw [vn_bo1]) (nm_r (vn_ml10 d) ⟨rfl, ?_⟩)⟩)
          have fin : i_Rel (k + 3) (vx_S (vg_sCU (vg_sMO (vg_sTP g (d + 1)) (vg_un g.mo d 1)) (10 * d)) ac ah) (vy_S (vg_sCU (vg_sMO (vg_sTP g (d + 1)) (vg_un g.mo d 1)) (10 * d)) lf pl nm (upd aM d 1) aB aC aZ aN aT aS aI aH aD) := vz_mk (iv_top hI hd ht) (yr_m_top hI hR hd ht)
          have hXS : vx_S (vg_sCU (vg_sMO (vg_sTP g (d + 1)) (vg_un g.mo d 1)) (10 * d)) ac ah = ((nI d), (nI (10 * d)), ac, (vg_cv g.fm), (vg_cv g.ro), (vg_cv g.de), (vg_cm (vg_un g.mo d 1)), (vg_cv g.ki), (vg_cv g.sz), (vg_cv g.ef), (vg_cv g.wp), g.hd, (vg_cv g.nd), (vg_cv g.oF), (vg_cv g.oH), (vg_cv g.po), (vg_cv g.dr), (vg_cv g.dl), ah) := by
            unfold vx_S
            rw [show (vg_sCU (vg_sMO (vg_sTP g (d + 1)) (vg_un g.mo d 1)) (10 * d)).tp = d + 1 from rfl, tv_s]
            rfl
          have hYS : vy_S (vg_sCU (vg_sMO (vg_sTP g (d + 1)) (vg_un g.mo d 1)) (10 * d)) lf pl nm (upd aM d 1) aB aC aZ aN aT aS aI aH aD = ((nI d), (nI (10 * d)), lf, pl, nm, (vg_cv g.fm), (vg_cv g.de), (vg_cv g.ro), (upd aM d 1), aB, (vg_cv g.ki), aC, aZ, (vg_cv g.wp), aN, aT, aS, aI, (vg_cv g.dr), (vg_cv g.dl), aH, (vg_cv g.po), (vg_cv g.oH), aD) := by
            unfold vy_S
            rw [show (vg_sCU (vg_sMO (vg_sTP g (d + 1)) (vg_un g.mo d 1)) (10 * d)).tp = d + 1 from rfl, tv_s]
            rfl
          rw [hXS, hYS] at fin
          exact fin
        · have t2 := (vz_t2 hI).mpr ht
          obtain ⟨r, ok, hX, hY⟩ := vw_walk (p := 0) (n := g.dl 0) 1 hI hR ht (by omega) (Nat.le_refl _)
          have YY : ∀ (post : Int32 → SY → Prop), (∀ c a', (0 ≤ r → (vp_in r 40 ∧ ((vg_cv g.ki r.toNatClampNeg = 1 → (¬ (10 : Int32) = 0 ∧ (((r - r / 10 * 10) = 0 → post (-8) (vy_S g c pl nm aM aB aC aZ aN aT aS aI aH a')) ∧ (¬ (r - r / 10 * 10) = 0 → wpY_covering (fun r_36 => ((r_36 < 0 → (vp_in (nI d) 4 ∧ (∀ a_mounted_63 : Nat → Int32, a_mounted_63 = upd aM (nI d).toNatClampNeg (vp_nar .boolean 1) → (vp_in (nI d) 4 ∧ (∀ a_below_65 : Nat → Int32, a_below_65 = upd aB (nI d).toNatClampNeg r → post 0 (vy_S g c pl nm a_mounted_63 a_below_65 aC aZ aN aT aS aI aH a')))))) ∧ (¬ r_36 < 0 → post (-8) (vy_S g c pl nm aM aB aC aZ aN aT aS aI aH a')))) (vy_S g c pl nm aM aB aC aZ aN aT aS aI aH a') r)))) ∧ (¬ vg_cv g.ki r.toNatClampNeg = 1 → post (-2) (vy_S g c pl nm aM aB aC aZ aN aT aS aI aH a'))))) ∧ (¬ 0 ≤ r → post r (vy_S g c pl nm aM aB aC aZ aN aT aS aI aH a'))) → wpY_mount post (vy_S g lf pl nm aM aB aC aZ aN aT aS aI aH aD) (nI d) := by
            intro post h
            unfold wpY_mount vy_S
            refine vy_out0 4 hd (by omega) (br_t rfl ⟨hi, ?_⟩)
            have hmm' : aM (nI d).toNatClampNeg = 0 := by rw [nI_clamp (by omega)]; exact hmm
            refine br_t hmm' (br_t t2 ?_)
            exact hY _ lf pl nm aD (fun c a' => h c a')
          refine br_f (fun z => ht ((vz_t1 hI).mp z)) ?_
          unfold wpX_directoryAt
          refine ⟨vp_in_nI (n := 0) (by omega) (by decide), ?_⟩
          rcases vw_neg ok with hr | ⟨x, hxg, rfl⟩
          · refine hX _ ac ah (fun c a' => br_t hr (br_f (Int32.not_le.mpr hr) ?_))
            exact YY _ (fun c2 a2 => br_f (Int32.not_le.mpr hr) ⟨rfl, same _ _ _ _ _ _⟩)
          · have hxl := hxg.1
            have EK := vz_k1 hI hxl
            have hix : vp_in (nI x) 40 := vp_in_nI hxl (by decide)
            have h0 : 0 ≤ nI x := nI_pos' (by omega)
            have er : nI x - nI x / 10 * 10 = 0 ↔ x % 10 = 0 := by rw [vn_rem10 (by omega)]; exact vn_e0 (by omega)
            by_cases hkx : g.ki x = 1
            · refine hX _ ac ah (fun c a' => br_f (nI_pos (by omega)) ⟨hix, br_t (EK.mpr hkx) (br_t h0 ?_)⟩)
              refine vx_isRoot (by omega) (fun hr => br_f (by decide) ?_) (fun hr => br_t rfl ?_)
              · exact YY _ (fun c2 a2 => br_t h0 ⟨hix, br_t (EK.mpr hkx) ⟨vz_10, br_t (er.mpr hr) ⟨rfl, same _ _ _ _ _ _⟩⟩⟩)
              · refine vx_isCovered (g := g) (ac := c) (ah := a') hI hxl (fun hc => br_t rfl ⟨hi, nm_r (e' := vg_cm (vg_un g.mo d (x + 2))) (by rw [nI_clamp (by omega)]; exact cm_up _ _ _ (mv_2 x).symm) ?_⟩) (fun hc => br_f (by decide) ?_)
                · refine YY _ (fun c2 a2 => br_t h0 ⟨hix, br_t (EK.mpr hkx) ⟨vz_10, br_f (fun z => hr (er.mp z)) ?_⟩⟩)
                  refine vy_covering (lf := c2) (pl := pl) (nm := nm) (aD := a2) hI hR.1 hxl (fun z => absurd z hc) (fun _ => br_t (by decide) ⟨hi, nm_r (e' := upd aM d 1) (by rw [vn_bo1, nI_clamp (by omega)]) ⟨hi, nm_r (e' := upd aB d (nI x)) (by rw [nI_clamp (by omega)]) ⟨rfl, ?_⟩⟩⟩)
                  exact vz_mk (g := vg_sMO g (vg_un g.mo d (x + 2))) (ac := c) (ah := a') (lf := c2) (pl := pl) (nm := nm) (aD := a2) (iv_mnt hI hd ht hm hxl hr hkx hxg.2.2 (co_no hc)) (yr_m_set hR (by rw [if_neg (by omega)]) (fun _ => congrArg nI (by omega)))
                · refine YY _ (fun c2 a2 => br_t h0 ⟨hix, br_t (EK.mpr hkx) ⟨vz_10, br_f (fun z => hr (er.mp z)) ?_⟩⟩)
                  exact vy_covering (lf := c2) (pl := pl) (nm := nm) (aD := a2) hI hR.1 hxl (fun _ => br_f (nI_pos (by omega)) ⟨rfl, same _ _ _ _ _ _⟩) (fun z => absurd hc z)
            · refine hX _ ac ah (fun c a' => br_f (nI_pos (by omega)) ⟨hix, br_f (fun z => hkx (EK.mp z)) (br_f (by decide) ?_)⟩)
              exact YY _ (fun c2 a2 => br_t h0 ⟨hix, br_f (fun z => hkx (EK.mp z)) ⟨rfl, same _ _ _ _ _ _⟩⟩)
      · rw [if_neg hm] at hmm
        unfold wpY_mount vy_S
        refine vy_out0 4 hd (by omega) (br_t rfl ⟨hi, ?_⟩)
        rw [nI_clamp (n := d) (by omega), hmm]
        exact br_f (by decide) ⟨rfl, same _ _ _ _ _ _⟩
end VZ41
