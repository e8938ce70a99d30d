section VZ43
variable {g : vg_G} {ac : Int32} {ah : Nat → Int32} {lf pl nm : Int32} {aM aB aC aZ aN aT aS aI aH aD : Nat → Int32}
theorem i_vc_about {k : Nat} {u : SX} {v : SY} (I : i_Rel k u v) (hk : k + 3 ≤ 1536) (v1 : Int32) (v2 : Int32) : wpX_about (fun r u' => wpY_about (fun r' v' => r' = r ∧ i_Rel (k + 3) u' v') v (lw_bz v1) v2) u (lw_bz v1) v2 := by
  obtain ⟨g, ac, ah, lf, pl, nm, aM, aB, aC, aZ, aN, aT, aS, aI, aH, aD, hI, hR, rfl, rfl⟩ := I
  have same : ∀ ac ah lf pl nm aD, i_Rel (k + 3) (vx_S g ac ah) (vy_S g lf pl nm aM aB aC aZ aN aT aS aI aH aD) := fun _ _ _ _ _ _ => vz_mk hI hR
  generalize lw_bz v1 = fl
  unfold wpX_about vx_S
  by_cases ht : g.tp = 0
  · refine br_t ((vz_t1 hI).mpr ht) ?_
    unfold wpY_about vy_S
    exact br_t ((vz_t3 hI).mpr ht) ⟨rfl, same _ _ _ _ _ _⟩
  · have nt3 : ¬ vg_tv g.tp < 0 := fun z => ht ((vz_t3 hI).mp z)
    refine br_f (fun z => ht ((vz_t1 hI).mp z)) ?_
    rcases pk_ix v2 (n := 5) (by decide) with h2 | h2 | ⟨w, hw, rfl⟩
    · refine br_t h2 ?_
      unfold wpY_about vy_S
      exact br_f nt3 (vy_out1 5 (by omega) (Or.inl h2) (br_f (by decide) ⟨rfl, same _ _ _ _ _ _⟩))
    · have h3 : ¬ v2 < 0 := fun z => absurd (Int32.lt_of_le_of_lt h2 z) (by decide)
      have h4 : ¬ v2 ≤ 4 := fun z => absurd (Int32.le_trans h2 z) (by decide)
      refine br_f h3 (br_f h4 ?_)
      unfold wpY_about vy_S
      exact br_f nt3 (vy_out1 5 (by omega) (Or.inr h2) (br_f (by decide) ⟨rfl, same _ _ _ _ _ _⟩))
    · obtain ⟨r, ok, hX, hY⟩ := vw_walk (p := 0) (n := g.dl 0) fl hI hR ht (by omega) (Nat.le_refl _)
      refine br_f (nI_pos (by omega)) (br_t ((vn_le4 (by omega)).mpr (by omega)) ?_)
      rcases vw_neg ok with hr | ⟨x, hx, rfl⟩
      · refine hX _ ac ah (fun c a' => br_f (Int32.not_le.mpr hr) ?_)
        unfold wpY_about vy_S
        refine br_f nt3 (vy_out0 5 hw (by omega) (br_t rfl ?_))
        exact hY _ lf pl nm aD (fun c2 a2 => br_f (Int32.not_le.mpr hr) ⟨rfl, same _ _ _ _ _ _⟩)
      · have hxl := hx.1
        have hix : vp_in (nI x) 40 := vp_in_nI hxl (by decide)
        have h0 : 0 ≤ nI x := nI_pos' (by omega)
        have hkb := hI.1.2.2.2.2.2.2.1 x
        have hsb := hI.1.2.2.2.2.2.2.2.1 x
        have heb := hI.1.2.2.2.2.2.2.2.2.1 x
        have EK := vz_k1 hI hxl
        have hw5 : w = 0 ∨ w = 1 ∨ w = 2 ∨ w = 3 ∨ w = 4 := by omega
        rcases hw5 with e | e | e | e | e
        · subst e
          refine hX _ ac ah (fun c a' => br_t h0 (br_f (by decide) (br_f (by decide) (br_t rfl ⟨hix, ?_⟩))))
          unfold wpY_about vy_S
          refine br_f nt3 (vy_out0 5 hw (by omega) (br_t rfl ?_))
          exact hY _ lf pl nm aD (fun c2 a2 => br_t h0 (br_f (by decide) (br_f (by decide) (br_t rfl ⟨hix, rfl, same _ _ _ _ _ _⟩))))
        · subst e
          refine hX _ ac ah (fun c a' => br_t h0 (br_f (by decide) (br_f (by decide) (br_f (by decide) (br_t rfl ⟨hix, ?_⟩)))))
          unfold wpY_about vy_S
          refine br_f nt3 (vy_out0 5 hw (by omega) (br_t rfl ?_))
          refine hY _ lf pl nm aD (fun c2 a2 => br_t h0 (br_f (by decide) (br_f (by decide) (br_f (by decide) (br_t rfl ⟨hix, fun e1 => ⟨hix, ?_, same _ _ _ _ _ _⟩, fun e1 => ⟨hix, ?_, same _ _ _ _ _ _⟩⟩)))))
          · rw [cv_at (by omega), nI_clamp (by omega)]
            exact (hR.2.1 x hxl (EK.mp e1)).1
          · rw [cv_at (by omega), nI_clamp (by omega)]
            have hn1 : g.ki x ≠ 1 := fun z => e1 (EK.mpr z)
            have hn0 := hx.2.1
            have h23 : g.ki x = 2 ∨ g.ki x = 3 := by omega
            rcases h23 with h | h
            · exact (hR.2.2.1 x hxl h).1
            · exact (hR.2.2.2.1 x hxl h).1
        · subst e
          refine hX _ ac ah (fun c a' => br_t h0 (br_f (by decide) (br_f (by decide) (br_f (by decide) (br_f (by decide) (br_t rfl ⟨hix, ?_⟩))))))
          unfold wpY_about vy_S
          refine br_f nt3 (vy_out0 5 hw (by omega) (br_t rfl ?_))
          refine hY _ lf pl nm aD (fun c2 a2 => br_t h0 (br_f (by decide) (br_f (by decide) (br_f (by decide) (br_f (by decide) (br_t rfl ⟨vz_10, fun e1 => ?_, fun e1 => ?_⟩))))))
          · rw [vn_rem10 (by omega)] at e1
            have hr := (vn_e0 (by omega)).mp e1
            have h3 := (hI.2.1 (x / 10) (by omega)).2.2
            rw [show 10 * (x / 10) = x by omega] at h3
            rw [cv_at (by omega), h3]
            exact ⟨rfl, same _ _ _ _ _ _⟩
          · rw [vn_rem10 (by omega)] at e1
            have hr : x % 10 ≠ 0 := fun z => e1 ((vn_e0 (by omega)).mpr z)
            have h3 := hI.2.2.2.2.2.2.1 x hxl hr hx.2.1
            rw [cv_at (by omega), h3]
            exact vy_entries (lf := c2) (pl := pl) (nm := nm) (aD := a2) hI hR.2.1 hxl (by omega) ⟨rfl, same _ _ _ _ _ _⟩
        · subst e
          refine hX _ ac ah (fun c a' => br_t h0 (br_f (by decide) (br_f (by decide) (br_f (by decide) (br_f (by decide) (br_f (by decide) (br_t rfl ?_)))))))
          refine vx_blocksOf (g := g) (ac := c) (ah := a') hI hxl ?_
          unfold wpY_about vy_S
          refine br_f nt3 (vy_out0 5 hw (by omega) (br_t rfl ?_))
          refine hY _ lf pl nm aD (fun c2 a2 => br_t h0 (br_f (by decide) (br_f (by decide) (br_f (by decide) (br_f (by decide) (br_f (by decide) (br_t rfl ?_)))))))
          exact vy_blocks (lf := c2) (pl := pl) (nm := nm) (aD := a2) hI hR hxl ⟨rfl, same _ _ _ _ _ _⟩
        · subst e
          refine hX _ ac ah (fun c a' => br_t h0 (br_f (by decide) (br_t (by decide) ?_)))
          refine vx_diskOf (by omega) ?_
          unfold wpY_about vy_S
          refine br_f nt3 (vy_out0 5 hw (by omega) (br_t rfl ?_))
          refine hY _ lf pl nm aD (fun c2 a2 => br_t h0 (br_f (by decide) (br_t (by decide) ⟨vz_10, ?_, same _ _ _ _ _ _⟩)))
          exact vn_d10 (by omega)
theorem vx_nameL {post : Int32 → SX → Prop} {x : Nat} {v1 : Int32} (hI : iv_I g) (hx : x < 40) (hk : g.ki x = 1) : ∀ d n, 1 ≤ n → n + d = 15 → (∀ m, n ≤ m → m < 15 → g.nd (15 * x + m) ≠ 0 → nI (vg_bl g.nd x m) = v1 → post (nI m) (vx_S g ac ah)) → ((∀ m, n ≤ m → m < 15 → g.nd (15 * x + m) ≠ 0 → nI (vg_bl g.nd x m) ≠ v1) → post 0 (vx_S g ac ah)) → wX_name_28 post v1 (nI x) (vg_tv g.tp) (nI g.cu) ac (vg_cv g.fm) (vg_cv g.ro) (vg_cv g.de) (vg_cm g.mo) (vg_cv g.ki) (vg_cv g.sz) (vg_cv g.ef) (vg_cv g.wp) g.hd (vg_cv g.nd) (vg_cv g.oF) (vg_cv g.oH) (vg_cv g.po) (vg_cv g.dr) (vg_cv g.dl) ah (d + 1) (nI (vg_bl g.nd x n)) (nI n) := by
  intro d
  induction d with
  | zero =>
    intro n _ hn _ h0
    exact br_t ((vn_gt14 (by omega)).mpr (by omega)) (h0 (fun m a b => by omega))
  | succ d ih =>
    intro n h1n hn h1 h0
    have hb := hI.1.2.2.2.2.2.2.2.2.2.2.1 (15 * x + n)
    have eI := vn_i15 x n
    have e1 : vg_cv g.nd (nI x * 15 + nI n).toNatClampNeg = 0 ↔ g.nd (15 * x + n) = 0 := by
      rw [eI, cv_at (by omega)]
      exact vn_e0 (by omega)
    have nxt : (g.nd (15 * x + n) ≠ 0 → nI (vg_bl g.nd x n) ≠ v1) → wX_name_28 post v1 (nI x) (vg_tv g.tp) (nI g.cu) ac (vg_cv g.fm) (vg_cv g.ro) (vg_cv g.de) (vg_cm g.mo) (vg_cv g.ki) (vg_cv g.sz) (vg_cv g.ef) (vg_cv g.wp) g.hd (vg_cv g.nd) (vg_cv g.oF) (vg_cv g.oH) (vg_cv g.po) (vg_cv g.dr) (vg_cv g.dl) ah (d + 1) (nI (vg_bl g.nd x (n + 1))) (nI (n + 1)) := by
      intro hh
      refine ih (n + 1) (by omega) (by omega) (fun m a b => h1 m (by omega) b) (fun hz => h0 (fun m a b => ?_))
      by_cases em : m = n
      · subst em; exact hh
      · exact hz m (by omega) b
    refine br_f (fun z => by have := (vn_gt14 (by omega)).mp z; omega) ⟨by rw [eI]; exact vp_in_nI (by omega) (by decide), fun e => ?_, fun e => ?_⟩
    · have h2 := nxt (fun z => absurd (e1.mp e) z)
      rw [bl_s, if_pos (e1.mp e), Nat.add_zero] at h2
      exact nm_r (nI_1 n) h2
    · have hne : g.nd (15 * x + n) ≠ 0 := fun z => e (e1.mpr z)
      by_cases ev : nI (vg_bl g.nd x n) = v1
      · exact br_t ev (h1 n (Nat.le_refl _) (by omega) hne ev)
      · have h2 := nxt (fun _ => ev)
        rw [bl_s, if_neg hne] at h2
        exact br_f ev (nm_r (nI_1 _) (nm_r (nI_1 n) h2))
theorem i_vc_name {k : Nat} {u : SX} {v : SY} (I : i_Rel k u v) (hk : k + 3 ≤ 1536) (v1 : Int32) : wpX_name (fun r u' => wpY_name (fun r' v' => r' = r ∧ i_Rel (k + 3) u' v') v v1) u v1 := by
  obtain ⟨g, ac, ah, lf, pl, nm, aM, aB, aC, aZ, aN, aT, aS, aI, aH, aD, hI, hR, rfl, rfl⟩ := I
  have same : ∀ ac ah lf pl nm aD, i_Rel (k + 3) (vx_S g ac ah) (vy_S g lf pl nm aM aB aC aZ aN aT aS aI aH aD) := fun _ _ _ _ _ _ => vz_mk hI hR
  unfold wpX_name vx_S
  by_cases ht : g.tp = 0
  · refine br_t ((vz_t1 hI).mpr ht) ?_
    unfold wpY_name vy_S
    exact br_f (fun z => (vz_t2 hI).mp z ht) ⟨rfl, same _ _ _ _ _ _⟩
  · have t2 := (vz_t2 hI).mpr ht
    obtain ⟨r, ok, hX, hY⟩ := vw_walk (p := 0) (n := g.dl 0) 1 hI hR ht (by omega) (Nat.le_refl _)
    refine br_f (fun z => ht ((vz_t1 hI).mp z)) ?_
    unfold wpX_directoryAt
    refine ⟨vp_in_nI (n := 0) (by omega) (by decide), ?_⟩
    rcases vw_neg ok with hr | ⟨x, hx, rfl⟩
    · refine hX _ ac ah (fun c a' => br_t hr (br_f (Int32.not_le.mpr hr) ?_))
      unfold wpY_name vy_S
      refine br_t t2 ?_
      exact hY _ lf pl nm aD (fun c2 a2 => br_f (Int32.not_le.mpr hr) ⟨rfl, same _ _ _ _ _ _⟩)
    · have hxl := hx.1
      have EK := vz_k1 hI hxl
      have hix : vp_in (nI x) 40 := vp_in_nI hxl (by decide)
      have h0 : 0 ≤ nI x := nI_pos' (by omega)
      by_cases hkx : g.ki x = 1
      · have hcn := hI.2.2.2.2.1 x hxl hkx
        have hsb := hI.1.2.2.2.2.2.2.2.1 x
        have hc := (hR.2.1 x hxl hkx).1
        have z0 : g.nd (15 * x + 0) = 0 := by
          apply Classical.byContradiction
          intro hne
          exact (hI.2.2.2.1 x 0 hxl hkx (by omega) hne).1 rfl
        have b1 : vg_bl g.nd x 1 = 0 := by rw [bl_s, if_pos z0]; rfl
        have YY : ∀ (post : Int32 → SY → Prop), (∀ c2 a2, wpY_out (fun r_31 => ((r_31 = 0 → (vp_in ((6 * nI x) + v1) 240 ∧ post (aN ((6 * nI x) + v1).toNatClampNeg) (vy_S g c2 pl nm aM aB aC aZ aN aT aS aI aH a2))) ∧ (¬ r_31 = 0 → post 0 (vy_S g c2 pl nm aM aB aC aZ aN aT aS aI aH a2)))) v1 (nI (g.sz x))) → wpY_name post (vy_S g lf pl nm aM aB aC aZ aN aT aS aI aH aD) v1 := by
          intro post h
          unfold wpY_name vy_S
          refine br_t t2 ?_
          refine hY _ lf pl nm aD (fun c2 a2 => br_t h0 ⟨hix, br_t (EK.mpr hkx) ⟨hix, ?_⟩⟩)
          have hc' : aC (nI x).toNatClampNeg = nI (g.sz x) := by rw [nI_clamp (by omega)]; exact hc
          rw [hc']
          exact h c2 a2
        refine hX _ ac ah (fun c a' => br_f (nI_pos (by omega)) ⟨hix, br_t (EK.mpr hkx) (br_t h0 ⟨15, ?_⟩)⟩)
        have go := vx_nameL (g := g) (ac := c) (ah := a') (v1 := v1) (post := fun r u' => wpY_name (fun r' v' => r' = r ∧ i_Rel (k + 3) u' v') (vy_S g lf pl nm aM aB aC aZ aN aT aS aI aH aD) v1) hI hxl hkx 14 1 (by omega) (by omega) (fun m hm1 hm hne hv => ?_) (fun hno => ?_)
        · rw [b1] at go
          exact go
        · refine YY _ (fun c2 a2 => ?_)
          have hbl := bl_lt (nd := g.nd) (p := x) (m := m) (k := 15) hm hne
          rw [← hv]
          refine vy_out0 (g.sz x) (by omega) (by omega) (br_t rfl ?_)
          rw [vn_i6, nI_clamp (by omega)]
          exact ⟨vp_in_nI (by omega) (by decide), ((hR.2.1 x hxl hkx).2 m hm hne).1, same _ _ _ _ _ _⟩
        · refine YY _ (fun c2 a2 => ?_)
          rcases pk_ix v1 (n := g.sz x) (by omega) with h | h | ⟨j, hj, hv⟩
          · exact vy_out1 (g.sz x) (by omega) (Or.inl h) (br_f (by decide) ⟨rfl, same _ _ _ _ _ _⟩)
          · exact vy_out1 (g.sz x) (by omega) (Or.inr h) (br_f (by decide) ⟨rfl, same _ _ _ _ _ _⟩)
          · exfalso
            obtain ⟨m, hm, hne, hbl⟩ := bl_at (nd := g.nd) (p := x) (i := j) (m := 15) (by omega)
            have hm0 := (hI.2.2.2.1 x m hxl hkx hm hne).1
            exact hno m (by omega) hm hne (by rw [hbl, hv])
      · refine hX _ ac ah (fun c a' => br_f (nI_pos (by omega)) ⟨hix, br_f (fun z => hkx (EK.mp z)) (br_f (by decide) ?_)⟩)
        unfold wpY_name vy_S
        refine br_t t2 ?_
        exact hY _ lf pl nm aD (fun c2 a2 => br_t h0 ⟨hix, br_f (fun z => hkx (EK.mp z)) ⟨rfl, same _ _ _ _ _ _⟩⟩)
end VZ43
