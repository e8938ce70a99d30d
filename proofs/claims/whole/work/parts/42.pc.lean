section VZ42
variable {g : vg_G} {ac : Int32} {ah : Nat → Int32} {lf pl nm : Int32} {aM aB aC aZ aN aT aS aI aH aD : Nat → Int32}
theorem bo_0 : ∀ b, b < 2 → nI b ||| 0 = nI b := by decide
theorem bo_1 : ∀ b, b < 2 → nI b ||| 1 = nI 1 := by decide
theorem vy_un82 {post : Int32 → SY → Prop} {d : Nat} (hI : iv_I g) (hM : yr_m g aM aB) (hd : d < 4) : ∀ r i b, i + r = 4 → b < 2 → ((b = 1 ∨ ∃ e, i ≤ e ∧ e < 4 ∧ 2 ≤ g.mo e ∧ (g.mo e - 2) / 10 = d) → post (-8) (vy_S g lf pl nm aM aB aC aZ aN aT aS aI aH aD)) → (¬ (b = 1 ∨ ∃ e, i ≤ e ∧ e < 4 ∧ 2 ≤ g.mo e ∧ (g.mo e - 2) / 10 = d) → g.tp ≠ d + 1 ∧ post 0 (vy_S g lf pl nm (upd aM d 0) aB aC aZ aN aT aS aI aH aD)) → wY_unmount_82 post (nI d) (vg_tv g.tp) (nI g.cu) lf pl nm (vg_cv g.fm) (vg_cv g.de) (vg_cv g.ro) aM aB (vg_cv g.ki) aC aZ (vg_cv g.wp) aN aT aS aI (vg_cv g.dr) (vg_cv g.dl) aH (vg_cv g.po) (vg_cv g.oH) aD (r + 1) (nI b) (nI i) := by
  intro r
  induction r with
  | zero =>
    intro i b hi hb h1 h0
    refine br_t ((vn_ge4 (by omega)).mpr (by omega)) (pk_eq b 0 (fun e => ⟨vp_in_nI hd (by decide), nm_r (e' := upd aM d 0) (by rw [vn_bo0, nI_clamp (by omega)]) ?_⟩) (fun e => h1 (Or.inl (by omega))))
    have h2 := h0 (fun z => z.elim (fun w => by omega) (fun ⟨e, a, b, _⟩ => by omega))
    have hmd := hI.2.2.2.2.2.2.2.2.2.2.2.2.2.2.1.1 d hd
    exact br_f (fun z => h2.1 (hmd.mp ((tv_mo hI hd).mp z.symm))) h2.2
  | succ r ih =>
    intro i b hi hb h1 h0
    have hmb := hI.1.2.2.2.1 i
    have hm := hM i (by omega)
    have nxt : ∀ b', b' < 2 → (b' = 1 ↔ b = 1 ∨ (2 ≤ g.mo i ∧ (g.mo i - 2) / 10 = d)) → wY_unmount_82 post (nI d) (vg_tv g.tp) (nI g.cu) lf pl nm (vg_cv g.fm) (vg_cv g.de) (vg_cv g.ro) aM aB (vg_cv g.ki) aC aZ (vg_cv g.wp) aN aT aS aI (vg_cv g.dr) (vg_cv g.dl) aH (vg_cv g.po) (vg_cv g.oH) aD (r + 1) (nI b') (nI (i + 1)) := by
      intro b' hb' hiff
      refine ih (i + 1) b' (by omega) hb' (fun hc => h1 ?_) (fun hc => h0 (fun hc2 => hc ?_))
      · rcases hc with hc | ⟨e, a1, a2, a3, a4⟩
        · rcases hiff.mp hc with z | z
          · exact Or.inl z
          · exact Or.inr ⟨i, Nat.le_refl _, by omega, z⟩
        · exact Or.inr ⟨e, by omega, a2, a3, a4⟩
      · rcases hc2 with hc2 | ⟨e, a1, a2, a3, a4⟩
        · exact Or.inl (hiff.mpr (Or.inl hc2))
        · by_cases ee : e = i
          · subst ee; exact Or.inl (hiff.mpr (Or.inr ⟨a3, a4⟩))
          · exact Or.inr ⟨e, by omega, a2, a3, a4⟩
    refine br_f (fun z => by have := (vn_ge4 (by omega)).mp z; omega) ⟨vp_in_nI (by omega) (by decide), ?_⟩
    rw [nI_clamp (by omega), hm.1]
    by_cases e0 : g.mo i = 0
    · rw [if_pos e0]
      exact br_t rfl (nm_r (bo_0 b hb) (nm_r (nI_1 i) (nxt b hb ⟨fun z => Or.inl z, fun z => z.elim id (fun w => by omega)⟩)))
    · rw [if_neg e0]
      refine br_f (by decide) ?_
      by_cases e1 : g.mo i = 1
      · exact br_t ((tv_mo hI (by omega)).mpr e1) (nm_r (bo_0 b hb) (nm_r (nI_1 i) (nxt b hb ⟨fun z => Or.inl z, fun z => z.elim id (fun w => by omega)⟩)))
      · refine br_f (fun z => e1 ((tv_mo hI (by omega)).mp z)) ⟨vp_in_nI (by omega) (by decide), vz_10, ?_⟩
        rw [hm.2 (by omega), vn_d10 (by omega)]
        refine pk_eq ((g.mo i - 2) / 10) d (fun e2 => nm_r (bo_1 b hb) (nm_r (nI_1 i) (nxt 1 (by omega) ⟨fun _ => Or.inr ⟨by omega, e2⟩, fun _ => rfl⟩))) (fun e2 => nm_r (bo_0 b hb) (nm_r (nI_1 i) (nxt b hb ⟨fun z => Or.inl z, fun z => z.elim id (fun w => absurd w.2 e2)⟩)))
theorem vy_un39 {post : Int32 → SY → Prop} {d : Nat} (hI : iv_I g) (hH : yr_h g aH) (hd : d < 4) : ∀ r i b, i + r = 5 → b < 2 → (∀ b', b' < 2 → (b' = 1 ↔ b = 1 ∨ ∃ h, i ≤ h ∧ h < 5 ∧ g.oF h ≠ 0 ∧ g.oF h / 10 = d) → ∃ n, wY_unmount_82 post (nI d) (vg_tv g.tp) (nI g.cu) lf pl nm (vg_cv g.fm) (vg_cv g.de) (vg_cv g.ro) aM aB (vg_cv g.ki) aC aZ (vg_cv g.wp) aN aT aS aI (vg_cv g.dr) (vg_cv g.dl) aH (vg_cv g.po) (vg_cv g.oH) aD n (nI b') 0) → wY_unmount_39 post (nI d) (vg_tv g.tp) (nI g.cu) lf pl nm (vg_cv g.fm) (vg_cv g.de) (vg_cv g.ro) aM aB (vg_cv g.ki) aC aZ (vg_cv g.wp) aN aT aS aI (vg_cv g.dr) (vg_cv g.dl) aH (vg_cv g.po) (vg_cv g.oH) aD (r + 1) (nI b) (nI i) := by
  intro r
  induction r with
  | zero =>
    intro i b hi hb h
    exact br_t ((vn_ge5 (by omega)).mpr (by omega)) (h b hb ⟨fun z => Or.inl z, fun z => z.elim id (fun ⟨e, a, b, _⟩ => by omega)⟩)
  | succ r ih =>
    intro i b hi hb h
    have hF := hI.1.2.2.2.2.2.2.2.2.2.2.2.1 i
    have hn := yh_neg hI hH (h := i) (by omega)
    have nxt : ∀ b', b' < 2 → (b' = 1 ↔ b = 1 ∨ (g.oF i ≠ 0 ∧ g.oF i / 10 = d)) → wY_unmount_39 post (nI d) (vg_tv g.tp) (nI g.cu) lf pl nm (vg_cv g.fm) (vg_cv g.de) (vg_cv g.ro) aM aB (vg_cv g.ki) aC aZ (vg_cv g.wp) aN aT aS aI (vg_cv g.dr) (vg_cv g.dl) aH (vg_cv g.po) (vg_cv g.oH) aD (r + 1) (nI b') (nI (i + 1)) := by
      intro b' hb' hiff
      refine ih (i + 1) b' (by omega) hb' (fun b2 hb2 hc => h b2 hb2 ⟨fun z => ?_, fun z => ?_⟩)
      · rcases hc.mp z with w | ⟨e, a1, a2, a3⟩
        · rcases hiff.mp w with w | w
          · exact Or.inl w
          · exact Or.inr ⟨i, Nat.le_refl _, by omega, w⟩
        · exact Or.inr ⟨e, by omega, a2, a3⟩
      · rcases z with z | ⟨e, a1, a2, a3⟩
        · exact hc.mpr (Or.inl (hiff.mpr (Or.inl z)))
        · by_cases ee : e = i
          · subst ee; exact hc.mpr (Or.inl (hiff.mpr (Or.inr a3)))
          · exact hc.mpr (Or.inr ⟨e, by omega, a2, a3⟩)
    refine br_f (fun z => by have := (vn_ge5 (by omega)).mp z; omega) ⟨vp_in_nI (by omega) (by decide), ?_⟩
    rw [nI_clamp (by omega)]
    refine ⟨fun e => ?_, fun e => ⟨vp_in_nI (by omega) (by decide), vz_10, ?_⟩⟩
    · exact nm_r (bo_0 b hb) (nm_r (nI_1 i) (nxt b hb ⟨fun z => Or.inl z, fun z => z.elim id (fun w => absurd (hn.mp e) w.1)⟩))
    · have h0 : g.oF i ≠ 0 := fun z => e (hn.mpr z)
      have eH : aH i = nI (g.oF i) := by rw [hH i (by omega), if_neg h0]
      rw [eH, vn_d10 (by omega)]
      refine pk_eq (g.oF i / 10) d (fun e2 => nm_r (bo_1 b hb) (nm_r (nI_1 i) (nxt 1 (by omega) ⟨fun _ => Or.inr ⟨h0, e2⟩, fun _ => rfl⟩))) (fun e2 => nm_r (bo_0 b hb) (nm_r (nI_1 i) (nxt b hb ⟨fun z => Or.inl z, fun z => z.elim id (fun w => absurd w.2 e2)⟩)))
theorem i_vc_unmount {k : Nat} {u : SX} {v : SY} (I : i_Rel k u v) (hk : k + 3 ≤ 1536) (v1 : Int32) : wpX_unmount (fun r u' => wpY_unmount (fun r' v' => r' = r ∧ i_Rel (k + 3) u' v') v v1) u v1 := by
  obtain ⟨g, ac, ah, lf, pl, nm, aM, aB, aC, aZ, aN, aT, aS, aI, aH, aD, hI, hR, rfl, rfl⟩ := I
  have same : ∀ ac ah lf pl nm aD, i_Rel (k + 3) (vx_S g ac ah) (vy_S g lf pl nm aM aB aC aZ aN aT aS aI aH aD) := fun _ _ _ _ _ _ => vz_mk hI hR
  unfold wpX_unmount vx_S
  by_cases hx : v1 < 0 ∨ nI 4 ≤ v1
  · refine vx_isDisk0 hx (br_t rfl ?_)
    unfold wpY_unmount vy_S
    exact vy_out1 4 (by omega) hx (br_f (by decide) ⟨rfl, same _ _ _ _ _ _⟩)
  · rcases pk_ix v1 (n := 4) (by decide) with h | h | ⟨d, hd, rfl⟩
    · exact absurd (Or.inl h) hx
    · exact absurd (Or.inr h) hx
    · have hi : vp_in (nI d) 4 := vp_in_nI hd (by decide)
      have hcb := hI.1.2.2.2.2.2.1
      have hmm := (hR.1 d hd).1
      refine vx_isDisk1 hd (br_f (by decide) ?_)
      refine vx_isMounted (g := g) (ac := ac) (ah := ah) hI hd (fun hm => br_t rfl ?_) (fun hm => br_f (by decide) ?_)
      · rw [if_pos hm] at hmm
        unfold wpY_unmount vy_S
        refine vy_out0 4 hd (by omega) (br_t rfl ⟨hi, ?_⟩)
        rw [nI_clamp (n := d) (by omega), hmm]
        exact br_t rfl ⟨rfl, same _ _ _ _ _ _⟩
      · rw [if_neg hm] at hmm
        have YY : ∀ (post : Int32 → SY → Prop), ((g.cu / 10 = d ∨ (∃ h, h < 5 ∧ g.oF h ≠ 0 ∧ g.oF h / 10 = d) ∨ (∃ e, e < 4 ∧ 2 ≤ g.mo e ∧ (g.mo e - 2) / 10 = d)) → post (-8) (vy_S g lf pl nm aM aB aC aZ aN aT aS aI aH aD)) → (¬ (g.cu / 10 = d ∨ (∃ h, h < 5 ∧ g.oF h ≠ 0 ∧ g.oF h / 10 = d) ∨ (∃ e, e < 4 ∧ 2 ≤ g.mo e ∧ (g.mo e - 2) / 10 = d)) → post 0 (vy_S g lf pl nm (upd aM d 0) aB aC aZ aN aT aS aI aH aD)) → wpY_unmount post (vy_S g lf pl nm aM aB aC aZ aN aT aS aI aH aD) (nI d) := by
          intro post h1 h0
          have go : ∀ b, b < 2 → (b = 1 ↔ g.cu / 10 = d) → wY_unmount_39 post (nI d) (vg_tv g.tp) (nI g.cu) lf pl nm (vg_cv g.fm) (vg_cv g.de) (vg_cv g.ro) aM aB (vg_cv g.ki) aC aZ (vg_cv g.wp) aN aT aS aI (vg_cv g.dr) (vg_cv g.dl) aH (vg_cv g.po) (vg_cv g.oH) aD 6 (nI b) (nI 0) := by
            intro b hb hbc
            refine vy_un39 hI hR.2.2.2.2 hd 5 0 b (by omega) hb (fun b' hb' hiff => ⟨5, vy_un82 hI hR.1 hd 4 0 b' (by omega) hb' (fun hc => h1 ?_) (fun hc => ?_)⟩)
            · rcases hc with hc | ⟨e, _, a2, a3⟩
              · rcases hiff.mp hc with z | ⟨e, _, a2, a3⟩
                · exact Or.inl (hbc.mp z)
                · exact Or.inr (Or.inl ⟨e, a2, a3⟩)
              · exact Or.inr (Or.inr ⟨e, a2, a3⟩)
            · have hnb : ¬ (g.cu / 10 = d ∨ (∃ h, h < 5 ∧ g.oF h ≠ 0 ∧ g.oF h / 10 = d) ∨ (∃ e, e < 4 ∧ 2 ≤ g.mo e ∧ (g.mo e - 2) / 10 = d)) := by
                intro hz
                apply hc
                rcases hz with z | ⟨e, a2, a3⟩ | ⟨e, a2, a3⟩
                · exact Or.inl (hiff.mpr (Or.inl (hbc.mpr z)))
                · exact Or.inl (hiff.mpr (Or.inr ⟨e, Nat.zero_le _, a2, a3⟩))
                · exact Or.inr ⟨e, Nat.zero_le _, a2, a3⟩
              refine ⟨fun htp => hnb ?_, h0 hnb⟩
              rcases iv_topb hI htp with z | z
              · exact Or.inl z
              · exact Or.inr (Or.inr z)
          unfold wpY_unmount vy_S
          refine vy_out0 4 hd (by omega) (br_t rfl ⟨hi, ?_⟩)
          rw [nI_clamp (n := d) (by omega), hmm]
          refine br_f (by decide) ⟨vz_10, ?_⟩
          rw [vn_d10 (by omega)]
          exact pk_eq (g.cu / 10) d (fun e => ⟨6, go 1 (by omega) ⟨fun _ => e, fun _ => rfl⟩⟩) (fun e => ⟨6, go 0 (by omega) ⟨fun z => by omega, fun z => absurd z e⟩⟩)
        refine vx_hasOpen (g := g) (ac := ac) (ah := ah) hI hd (fun ho => br_f (by decide) ?_) (fun ho => br_t rfl (vx_diskOf (by omega) ?_))
        · exact YY _ (fun _ => ⟨rfl, same _ _ _ _ _ _⟩) (fun z => absurd (Or.inr (Or.inl ho)) z)
        · refine pk_eq (g.cu / 10) d (fun e => ?_) (fun e => ?_)
          · exact YY _ (fun _ => ⟨rfl, same _ _ _ _ _ _⟩) (fun z => absurd (Or.inl e) z)
          · refine vx_carries (g := g) (ac := ac) (ah := ah) hI hd (fun hc => br_f (by decide) ?_) (fun hc => br_t rfl ⟨hi, nm_r (e' := vg_cm (vg_un g.mo d 0)) (by rw [nI_clamp (by omega)]; exact cm_up _ _ 0 mv_0.symm) ?_⟩)
            · exact YY _ (fun _ => ⟨rfl, same _ _ _ _ _ _⟩) (fun z => absurd (Or.inr (Or.inr hc)) z)
            · have hnb : ¬ (g.cu / 10 = d ∨ (∃ h, h < 5 ∧ g.oF h ≠ 0 ∧ g.oF h / 10 = d) ∨ (∃ e, e < 4 ∧ 2 ≤ g.mo e ∧ (g.mo e - 2) / 10 = d)) := by
                intro hz
                rcases hz with z | ⟨h, a, b, c⟩ | ⟨e2, a, b, c⟩
                · exact e z
                · exact ho h a b c
                · exact hc e2 a b c
              have htp : g.tp ≠ d + 1 := by
                intro htp
                apply hnb
                rcases iv_topb hI htp with z | z
                · exact Or.inl z
                · exact Or.inr (Or.inr z)
              exact YY _ (fun z => absurd z hnb) (fun _ => ⟨rfl, vz_mk (g := vg_sMO g (vg_un g.mo d 0)) (ac := ac) (ah := ah) (lf := lf) (pl := pl) (nm := nm) (aD := aD) (iv_unm hI hd htp e ho hc) (yr_m_un hR)⟩)
/-! handles -/
theorem iv_pos {q : vg_F} (hI : iv_I g) (hq : ∀ j, q j ≤ 20) : iv_I (vg_hnp g g.oF g.oH q) :=
  iv_hnd hI hI.2.2.2.2.2.2.2.2.2.2.2.2.1 hI.1.2.2.2.2.2.2.2.2.2.2.2.1 hI.1.2.2.2.2.2.2.2.2.2.2.2.2.1 hq
theorem un_20 {h p : Nat} (hI : iv_I g) (hp : p ≤ 20) : ∀ j, vg_un g.po h p j ≤ 20 := by
  intro j
  have := hI.1.2.2.2.2.2.2.2.2.2.2.2.2.2.1 j
  rw [un_ap]
  split <;> omega
theorem i_vc_seek {k : Nat} {u : SX} {v : SY} (I : i_Rel k u v) (hk : k + 3 ≤ 1536) (v1 : Int32) (v2 : Int32) : wpX_seek (fun r u' => wpY_seek (fun r' v' => r' = r ∧ i_Rel (k + 3) u' v') v v1 v2) u v1 v2 := by
  obtain ⟨g, ac, ah, lf, pl, nm, aM, aB, aC, aZ, aN, aT, aS, aI, aH, aD, hI, hR, rfl, rfl⟩ := I
  have same : ∀ ac ah lf pl nm aD, i_Rel (k + 3) (vx_S g ac ah) (vy_S g lf pl nm aM aB aC aZ aN aT aS aI aH aD) := fun _ _ _ _ _ _ => vz_mk hI hR
  unfold wpX_seek vx_S
  by_cases hx : v1 < 0 ∨ nI 5 ≤ v1
  · refine vx_isOpen0 (g := g) (ac := ac) (ah := ah) hx (br_t rfl ?_)
    unfold wpY_seek vy_S
    exact vy_closed0 (g := g) (lf := lf) (pl := pl) (nm := nm) (aD := aD) hx (br_f (by decide) ⟨rfl, same _ _ _ _ _ _⟩)
  · rcases pk_ix v1 (n := 5) (by decide) with h | h | ⟨h, hh, rfl⟩
    · exact absurd (Or.inl h) hx
    · exact absurd (Or.inr h) hx
    · have hi : vp_in (nI h) 5 := vp_in_nI hh (by decide)
      refine vx_isOpen1 (g := g) (ac := ac) (ah := ah) hI hh (fun ho => br_f (by decide) ?_) (fun ho => br_t rfl ?_)
      · rcases pk_ix v2 (n := 21) (by decide) with h2 | h2 | ⟨p, hp, rfl⟩
        · refine br_t h2 ?_
          unfold wpY_seek vy_S
          exact vy_closed1 (g := g) (lf := lf) (pl := pl) (nm := nm) (aD := aD) hI hR.2.2.2.2 hh (fun _ => br_t rfl (vy_out1 21 (by omega) (Or.inl h2) (br_f (by decide) ⟨rfl, same _ _ _ _ _ _⟩))) (fun z => absurd z ho)
        · have h3 : ¬ v2 < 0 := fun z => absurd (Int32.lt_of_le_of_lt h2 z) (by decide)
          have h4 : ¬ v2 ≤ 20 := fun z => absurd (Int32.le_trans h2 z) (by decide)
          refine br_f h3 (br_f h4 ?_)
          unfold wpY_seek vy_S
          exact vy_closed1 (g := g) (lf := lf) (pl := pl) (nm := nm) (aD := aD) hI hR.2.2.2.2 hh (fun _ => br_t rfl (vy_out1 21 (by omega) (Or.inr h2) (br_f (by decide) ⟨rfl, same _ _ _ _ _ _⟩))) (fun z => absurd z ho)
        · refine br_f (nI_pos (by omega)) (br_t ((vn_le20 (by omega)).mpr (by omega)) ⟨hi, nm_r (cv_uI (by omega)) ?_⟩)
          unfold wpY_seek vy_S
          refine vy_closed1 (g := g) (lf := lf) (pl := pl) (nm := nm) (aD := aD) hI hR.2.2.2.2 hh (fun _ => br_t rfl (vy_out0 21 hp (by omega) (br_t rfl ⟨hi, nm_r (e' := vg_cv (vg_un g.po h p)) (by rw [vn_b8 (by omega)]; exact cv_uI (by omega)) ⟨rfl, ?_⟩⟩))) (fun z => absurd z ho)
          exact vz_mk (g := vg_hnp g g.oF g.oH (vg_un g.po h p)) (ac := ac) (ah := ah) (lf := lf) (pl := pl) (nm := nm) (aD := aD) (iv_pos hI (un_20 hI (by omega))) hR
      · unfold wpY_seek vy_S
        exact vy_closed1 (g := g) (lf := lf) (pl := pl) (nm := nm) (aD := aD) hI hR.2.2.2.2 hh (fun z => absurd ho z) (fun _ => br_f (by decide) ⟨rfl, same _ _ _ _ _ _⟩)
theorem i_vc_read {k : Nat} {u : SX} {v : SY} (I : i_Rel k u v) (hk : k + 3 ≤ 1536) (v1 : Int32) : wpX_read (fun r u' => wpY_read (fun r' v' => r' = r ∧ i_Rel (k + 3) u' v') v v1) u v1 := by
  obtain ⟨g, ac, ah, lf, pl, nm, aM, aB, aC, aZ, aN, aT, aS, aI, aH, aD, hI, hR, rfl, rfl⟩ := I
  have same : ∀ ac ah lf pl nm aD, i_Rel (k + 3) (vx_S g ac ah) (vy_S g lf pl nm aM aB aC aZ aN aT aS aI aH aD) := fun _ _ _ _ _ _ => vz_mk hI hR
  unfold wpX_read vx_S
  by_cases hx : v1 < 0 ∨ nI 5 ≤ v1
  · refine vx_isOpen0 (g := g) (ac := ac) (ah := ah) hx (br_t rfl ?_)
    unfold wpY_read vy_S
    exact vy_closed0 (g := g) (lf := lf) (pl := pl) (nm := nm) (aD := aD) hx (br_f (by decide) ⟨rfl, same _ _ _ _ _ _⟩)
  · rcases pk_ix v1 (n := 5) (by decide) with h | h | ⟨h, hh, rfl⟩
    · exact absurd (Or.inl h) hx
    · exact absurd (Or.inr h) hx
    · have hi : vp_in (nI h) 5 := vp_in_nI hh (by decide)
      have hwb := hI.1.2.2.2.2.2.2.2.2.2.2.2.2.1 h
      have hpb := hI.1.2.2.2.2.2.2.2.2.2.2.2.2.2.1 h
      have hob := hI.1.2.2.2.2.2.2.2.2.2.2.2.1 h
      have hsb := hI.1.2.2.2.2.2.2.2.1 (g.oF h)
      have hW : vg_cv g.oH (nI h).toNatClampNeg = nI (g.oH h) := cv_at (by omega)
      have hP : vg_cv g.po (nI h).toNatClampNeg = nI (g.po h) := cv_at (by omega)
      refine vx_isOpen1 (g := g) (ac := ac) (ah := ah) hI hh (fun ho => br_f (by decide) ?_) (fun ho => br_t rfl ?_)
      · have hn := hI.2.2.2.2.2.2.2.2.2.2.2.2.1 h hh ho
        have hYf := hR.2.2.1 (g.oF h) hob hn.2.1
        have eH : aH (nI h).toNatClampNeg = nI (g.oF h) := by rw [nI_clamp (by omega), hR.2.2.2.2 h hh, if_neg ho]
        have bad : 1 < g.oH h → wpY_read (fun r' v' => r' = (-13 : Int64) ∧ i_Rel (k + 3) (vx_S g ac ah) v') (vy_S g lf pl nm aM aB aC aZ aN aT aS aI aH aD) (nI h) := by
          intro hw
          unfold wpY_read vy_S
          refine vy_closed1 (g := g) (lf := lf) (pl := pl) (nm := nm) (aD := aD) hI hR.2.2.2.2 hh (fun _ => br_t rfl ⟨hi, ?_⟩) (fun z => absurd z ho)
          rw [hW]
          exact br_f (fun z => by have := (vn_le1 (by omega)).mp z; omega) ⟨rfl, same _ _ _ _ _ _⟩
        have YY : ∀ (post : Int64 → SY → Prop), g.oH h ≤ 1 → ((g.po h < g.sz (g.oF h) → post ((aI (20 * g.oF h + g.po h)).toInt64) (vy_S (vg_hnp g g.oF g.oH (vg_un g.po h (g.po h + 1))) lf pl nm aM aB aC aZ aN aT aS aI aH aD)) ∧ (¬ g.po h < g.sz (g.oF h) → post 0 (vy_S g lf pl nm aM aB aC aZ aN aT aS aI aH aD))) → wpY_read post (vy_S g lf pl nm aM aB aC aZ aN aT aS aI aH aD) (nI h) := by
          intro post hw hp
          unfold wpY_read vy_S
          refine vy_closed1 (g := g) (lf := lf) (pl := pl) (nm := nm) (aD := aD) hI hR.2.2.2.2 hh (fun _ => br_t rfl ⟨hi, ?_⟩) (fun z => absurd z ho)
          rw [hW, eH, nI_clamp (n := g.oF h) (by omega), hYf.1]
          have eI : 20 * nI (g.oF h) + nI (g.po h) = nI (20 * g.oF h + g.po h) := by rw [vn_ml20, nI_add]
          refine br_t ((vn_le1 (by omega)).mpr hw) ⟨hi, nm_r hP ⟨hi, vp_in_nI hob (by decide), ?_⟩⟩
          refine pk_lt (g.po h) (g.sz (g.oF h)) (fun e => ⟨hi, hi, nm_r (e' := vg_cv (vg_un g.po h (g.po h + 1))) (by rw [hP, nI_1, vn_b8 (by omega)]; exact cv_uI (by omega)) ⟨hi, ?_⟩⟩) (fun e => hp.2 (by omega))
          rw [eI, nI_clamp (by omega)]
          exact ⟨vp_in_nI (by omega) (by decide), hp.1 e⟩
        refine ⟨hi, ?_⟩
        rw [hW]
        refine pk_eq (g.oH h) 2 (fun e => bad (by omega)) (fun e => ⟨hi, pk_eq (g.oH h) 3 (fun e2 => bad (by omega)) (fun e2 => ⟨hi, nm_r (cv_at (by omega)) ⟨hi, nm_r hP ⟨vp_in_nI hob (by decide), ?_⟩⟩⟩)⟩)
        rw [cv_at (f := g.sz) (by omega)]
        refine pk_lt (g.po h) (g.sz (g.oF h)) (fun e3 => ⟨hi, nm_r (e' := vg_cv (vg_un g.po h (g.po h + 1))) (by rw [nI_1]; exact cv_uI (by omega)) ?_⟩) (fun e3 => ?_)
        · rw [vn_i20, nI_clamp (n := 20 * g.oF h + g.po h) (by omega)]
          refine ⟨vp_in_nI (by omega) (by decide), ?_⟩
          have hv := hYf.2 (g.po h) (by omega)
          rw [if_pos e3] at hv
          refine YY _ (by omega) ⟨fun _ => ⟨by rw [hv], ?_⟩, fun z => absurd e3 z⟩
          exact vz_mk (g := vg_hnp g g.oF g.oH (vg_un g.po h (g.po h + 1))) (ac := ac) (ah := ah) (lf := lf) (pl := pl) (nm := nm) (aD := aD) (iv_pos hI (un_20 hI (by omega))) hR
        · exact YY _ (by omega) ⟨fun z => by omega, fun _ => ⟨rfl, same _ _ _ _ _ _⟩⟩
      · unfold wpY_read vy_S
        exact vy_closed1 (g := g) (lf := lf) (pl := pl) (nm := nm) (aD := aD) hI hR.2.2.2.2 hh (fun z => absurd ho z) (fun _ => br_f (by decide) ⟨rfl, same _ _ _ _ _ _⟩)
theorem i_vc_close {k : Nat} {u : SX} {v : SY} (I : i_Rel k u v) (hk : k + 3 ≤ 1536) (v1 : Int32) : wpX_close (fun r u' => wpY_close (fun r' v' => r' = r ∧ i_Rel (k + 3) u' v') v v1) u v1 := by
  obtain ⟨g, ac, ah, lf, pl, nm, aM, aB, aC, aZ, aN, aT, aS, aI, aH, aD, hI, hR, rfl, rfl⟩ := I
  have same : ∀ ac ah lf pl nm aD, i_Rel (k + 3) (vx_S g ac ah) (vy_S g lf pl nm aM aB aC aZ aN aT aS aI aH aD) := fun _ _ _ _ _ _ => vz_mk hI hR
  unfold wpX_close vx_S
  by_cases hx : v1 < 0 ∨ nI 5 ≤ v1
  · refine vx_isOpen0 (g := g) (ac := ac) (ah := ah) hx (br_t rfl ?_)
    unfold wpY_close vy_S
    exact vy_closed0 (g := g) (lf := lf) (pl := pl) (nm := nm) (aD := aD) hx (br_f (by decide) ⟨rfl, same _ _ _ _ _ _⟩)
  · rcases pk_ix v1 (n := 5) (by decide) with h | h | ⟨h, hh, rfl⟩
    · exact absurd (Or.inl h) hx
    · exact absurd (Or.inr h) hx
    · have hi : vp_in (nI h) 5 := vp_in_nI hh (by decide)
      have hob := hI.1.2.2.2.2.2.2.2.2.2.2.2.1 h
      refine vx_isOpen1 (g := g) (ac := ac) (ah := ah) hI hh (fun ho => br_f (by decide) ?_) (fun ho => br_t rfl ?_)
      · have hn := hI.2.2.2.2.2.2.2.2.2.2.2.2.1 h hh ho
        have hI1 : iv_I (vg_hnp g (vg_un g.oF h 0) g.oH g.po) := by
          refine iv_hnd hI (fun j hj hne => ?_) (fun j => ?_) hI.1.2.2.2.2.2.2.2.2.2.2.2.2.1 hI.1.2.2.2.2.2.2.2.2.2.2.2.2.2.1
          · rw [un_ap] at hne ⊢
            by_cases e : j = h
            · rw [if_pos e] at hne; exact absurd rfl hne
            · rw [if_neg e] at hne ⊢; exact hI.2.2.2.2.2.2.2.2.2.2.2.2.1 j hj hne
          · have := hI.1.2.2.2.2.2.2.2.2.2.2.2.1 j
            rw [un_ap]; split <;> omega
        have hR1 : vy_R (vg_hnp g (vg_un g.oF h 0) g.oH g.po) aM aB aC aZ aN aT aS aI (upd aH h (-1)) := by
          refine ⟨hR.1, hR.2.1, hR.2.2.1, hR.2.2.2.1, fun j hj => ?_⟩
          have hm : (vg_hnp g (vg_un g.oF h 0) g.oH g.po).oF j = if j = h then 0 else g.oF j := rfl
          rw [hm, up_ap]
          by_cases e : j = h
          · rw [if_pos e, if_pos e, if_pos rfl]
          · rw [if_neg e, if_neg e]; exact hR.2.2.2.2 j hj
        have fin : iv_I (vg_gon (vg_hnp g (vg_un g.oF h 0) g.oH g.po) (g.oF h)) := iv_gon (iv_w hI1) hob hn.1 (by show g.ki (g.oF h) ≠ 0; rw [hn.2.1]; decide) (fun z => by have z2 : g.ki (g.oF h) = 1 := z; omega)
        have eH : aH (nI h).toNatClampNeg = nI (g.oF h) := by rw [nI_clamp (by omega), hR.2.2.2.2 h hh, if_neg ho]
        refine ⟨hi, nm_r (cv_at (by omega)) ⟨hi, nm_r (cv_uI (x := 0) (by omega)) ?_⟩⟩
        refine vx_endIfGone (g := vg_hnp g (vg_un g.oF h 0) g.oH g.po) (ac := ac) (ah := ah) hI1.1 hob ?_
        unfold wpY_close vy_S
        refine vy_closed1 (g := g) (lf := lf) (pl := pl) (nm := nm) (aD := aD) hI hR.2.2.2.2 hh (fun _ => br_t rfl ⟨hi, nm_r eH ⟨hi, nm_r (e' := upd aH h (-1)) (by rw [vn_nbm, nI_clamp (by omega)]) ?_⟩⟩) (fun z => absurd z ho)
        refine vy_let (g := vg_hnp g (vg_un g.oF h 0) g.oH g.po) (lf := lf) (pl := pl) (nm := nm) (aD := aD) hI1 hR1.2.1 hR1.2.2.2.2 hob hn.1 (by show g.ki (g.oF h) ≠ 0; rw [hn.2.1]; decide) ⟨rfl, ?_⟩
        exact vz_mk (g := vg_gon (vg_hnp g (vg_un g.oF h 0) g.oH g.po) (g.oF h)) (ac := ac) (ah := ah) (lf := lf) (pl := pl) (nm := nm) (aD := aD) fin (gon_R hR1)
      · unfold wpY_close vy_S
        exact vy_closed1 (g := g) (lf := lf) (pl := pl) (nm := nm) (aD := aD) hI hR.2.2.2.2 hh (fun z => absurd ho z) (fun _ => br_f (by decide) ⟨rfl, same _ _ _ _ _ _⟩)
end VZ42
