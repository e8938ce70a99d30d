section VZ45
variable {g : vg_G} {ac : Int32} {ah : Nat → Int32} {lf pl nm : Int32} {aM aB aC aZ aN aT aS aI aH aD : Nat → Int32}
theorem i_vc_entry {k : Nat} {u : SX} {v : SY} (I : i_Rel k u v) (hk : k + 3 ≤ 1536) : wpX_entry (fun r u' => wpY_entry (fun r' v' => r' = r ∧ i_Rel (k + 3) u' v') v) u := by
  obtain ⟨g, ac, ah, lf, pl, nm, aM, aB, aC, aZ, aN, aT, aS, aI, aH, aD, hI, hR, rfl, rfl⟩ := I
  have same : ∀ ac ah lf pl nm aD, i_Rel (k + 3) (vx_S g ac ah) (vy_S g lf pl nm aM aB aC aZ aN aT aS aI aH aD) := fun _ _ _ _ _ _ => vz_mk hI hR
  unfold wpX_entry vx_S
  by_cases ht : g.tp = 0
  · refine br_t ((vz_t1 hI).mpr ht) ?_
    unfold wpY_entry vy_S
    exact br_f (fun z => (vz_t2 hI).mp z ht) ⟨rfl, same _ _ _ _ _ _⟩
  · have t2 := (vz_t2 hI).mpr ht
    obtain ⟨r, ok, hX, hY⟩ := vw_walk (p := 1) (n := g.dl 1) 0 hI hR ht (by omega) (Nat.le_refl _)
    refine br_f (fun z => ht ((vz_t1 hI).mp z)) ?_
    rcases vw_neg ok with hr | ⟨t, htg, rfl⟩
    · refine hX _ ac ah (fun c a' => br_f (Int32.not_le.mpr hr) ?_)
      unfold wpY_entry vy_S
      refine br_t t2 ?_
      exact hY _ lf pl nm aD (fun c2 a2 => br_f (Int32.not_le.mpr hr) ⟨rfl, same _ _ _ _ _ _⟩)
    · have htl := htg.1
      have EK := vz_k1 hI htl
      have hit : vp_in (nI t) 40 := vp_in_nI htl (by decide)
      have h0 : 0 ≤ nI t := nI_pos' (by omega)
      have hkb := hI.1.2.2.2.2.2.2.1 t
      have hfb := hI.1.1 (t / 10)
      have E3 : vg_cv g.ki (nI t).toNatClampNeg = 3 ↔ g.ki t = 3 := by
        rw [cv_at (by omega)]
        exact vn_e3 (by omega)
      have EF : vg_cv g.fm (nI (t / 10)).toNatClampNeg = 1 ↔ g.fm (t / 10) = 1 := by
        rw [cv_at (by omega)]
        exact vn_e1 (by omega)
      have hid : vp_in (nI (t / 10)) 4 := vp_in_nI (by omega) (by decide)
      have EDt : nI t / 10 = nI (t / 10) := vn_d10 (by omega)
      by_cases hk1 : g.ki t = 1
      · refine hX _ ac ah (fun c a' => br_t h0 ⟨hit, br_t (EK.mpr hk1) ?_⟩)
        unfold wpY_entry vy_S
        refine br_t t2 ?_
        exact hY _ lf pl nm aD (fun c2 a2 => br_t h0 ⟨hit, br_t (EK.mpr hk1) ⟨rfl, same _ _ _ _ _ _⟩⟩)
      · have nk1 : ¬ vg_cv g.ki (nI t).toNatClampNeg = 1 := fun z => hk1 (EK.mp z)
        refine hX _ ac ah (fun c a' => br_t h0 ⟨hit, br_f nk1 ?_⟩)
        rcases vw_new hI hR with ⟨x, _, hx, hkx, h1, h14, he, hro, hX2, hY2⟩ | ⟨r, hr, hX2, hY2⟩
        · have hxl := hx.1
          have hq := vq_0 h1 he
          have hl := hI.1.2.2.2.2.2.2.2.2.2.2.2.2.2.2.2 0
          have hsx := hI.1.2.2.2.2.2.2.2.1 x
          have hcn := hI.2.2.2.2.1 x hxl hkx
          have hcx := (hR.2.1 x hxl hkx).1
          have hix : vp_in (nI x) 40 := vp_in_nI hxl (by decide)
          have hx0 : 0 ≤ nI x := nI_pos' (by omega)
          have EDx : nI x / 10 = nI (x / 10) := vn_d10 (by omega)
          have YY : ∀ (post : Int32 → SY → Prop), (∀ c2 a2, ((t / 10 = x / 10 → ((g.fm (t / 10) = 1 → ((g.ki t = 3 → post (-9) (vy_S g c2 (nI x) (nI (vg_ls g 0)) aM aB aC aZ aN aT aS aI aH a2)) ∧ (g.ki t ≠ 3 → ((g.sz x = 6 → post (-7) (vy_S g c2 (nI x) (nI (vg_ls g 0)) aM aB aC aZ aN aT aS aI aH a2)) ∧ (g.sz x ≠ 6 → ∀ c' n' t', vy_R (vg_put g x (vg_ls g 0) t) aM aB c' aZ n' t' aS aI aH → post 0 (vy_S (vg_put g x (vg_ls g 0) t) c2 (nI x) (nI (vg_ls g 0)) aM aB c' aZ n' t' aS aI aH a2)))))) ∧ (g.fm (t / 10) ≠ 1 → post (-9) (vy_S g c2 (nI x) (nI (vg_ls g 0)) aM aB aC aZ aN aT aS aI aH a2)))) ∧ (t / 10 ≠ x / 10 → post (-11) (vy_S g c2 (nI x) (nI (vg_ls g 0)) aM aB aC aZ aN aT aS aI aH a2)))) → wpY_entry post (vy_S g lf pl nm aM aB aC aZ aN aT aS aI aH aD) := by
            intro post h
            unfold wpY_entry vy_S
            refine br_t t2 ?_
            refine hY _ lf pl nm aD (fun c2 a2 => br_t h0 ⟨hit, br_f nk1 ?_⟩)
            refine hY2 _ c2 pl nm a2 (fun c3 a3 => br_t rfl ⟨vz_10, vz_10, ?_⟩)
            rw [EDt, EDx]
            have h3 := h c3 a3
            refine pk_eq (t / 10) (x / 10) (fun e => ⟨vz_10, hid, fun ef => ⟨hit, fun e3 => ?_, fun e3 => ⟨hix, ?_⟩⟩, fun ef => ?_⟩) (fun e => h3.2 e)
            · exact ((h3.1 e).1 (EF.mp ef)).1 (E3.mp e3)
            · have h4 := ((h3.1 e).1 (EF.mp ef)).2 (fun z => e3 (E3.mpr z))
              have hcx' : aC (nI x).toNatClampNeg = nI (g.sz x) := by rw [nI_clamp (by omega)]; exact hcx
              rw [hcx']
              refine pk_eq (g.sz x) 6 (fun e6 => h4.1 e6) (fun e6 => ?_)
              refine vy_insert (g := g) (lf := c3) (pl := nI x) (nm := nI (vg_ls g 0)) (aD := a3) hI.1 hR hI.2.2.2.2.1 hxl hkx (by omega) hq.1 htl ?_ (by omega) (fun c' n' t' hR' => h4.2 e6 c' n' t' hR')
              intro z
              have := (hI.2.1 0 (by omega)).1
              have e9 : g.ki (10 * 0) = 1 := this
              rw [z] at hk1
              exact hk1 e9
            · exact (h3.1 e).2 (fun z => ef (EF.mpr z))
          refine hX2 _ c a' (fun c3 a3 => br_t hx0 ?_)
          refine vx_diskOf (by omega) (vx_diskOf (by omega) ?_)
          refine pk_eq (t / 10) (x / 10) (fun e => vx_diskOf (by omega) ⟨hid, fun ef => ⟨hit, fun e3 => ?_, fun e3 => ⟨hix, ?_⟩⟩, fun ef => ?_⟩) (fun e => ?_)
          · exact YY _ (fun c2 a2 => ⟨fun _ => ⟨fun _ => ⟨fun _ => ⟨rfl, same _ _ _ _ _ _⟩, fun z => absurd (E3.mp e3) z⟩, fun z => absurd (EF.mp ef) z⟩, fun z => absurd e z⟩)
          · have hsx' : vg_cv g.sz (nI x).toNatClampNeg = nI (g.sz x) := cv_at (by omega)
            have n3 : g.ki t ≠ 3 := fun z => e3 (E3.mpr z)
            rw [hsx']
            refine pk_lt (g.sz x) 6 (fun e6 => ?_) (fun e6 => ?_)
            · refine vx_lastStep (g := g) (ac := c3) (ah := a3) (p := 0) hl (by omega) ?_
              refine vx_addEntry (g := g) (ac := c3) (ah := a3) hxl (by omega) htl ?_
              have hIe : iv_I (vg_inc (vg_put g x (vg_ls g 0) t) t) := iv_ent hI hxl hkx h1 h14 hq.1 (by rw [← e]; exact EF.mp ef) (by omega) htl e (by have := htg.2.1; omega)
              refine YY _ (fun c2 a2 => ⟨fun _ => ⟨fun _ => ⟨fun z => absurd z n3, fun _ => ⟨fun z => by omega, fun _ c' n' t' hR' => ⟨rfl, ?_⟩⟩⟩, fun z => absurd (EF.mp ef) z⟩, fun z => absurd e z⟩)
              rw [← S_inc (t := t)]
              exact vz_mk hIe (R_inc hR')
            · exact YY _ (fun c2 a2 => ⟨fun _ => ⟨fun _ => ⟨fun z => absurd z n3, fun _ => ⟨fun _ => ⟨rfl, same _ _ _ _ _ _⟩, fun z => by omega⟩⟩, fun z => absurd (EF.mp ef) z⟩, fun z => absurd e z⟩)
          · exact YY _ (fun c2 a2 => ⟨fun _ => ⟨fun z => absurd (EF.mpr z) ef, fun _ => ⟨rfl, same _ _ _ _ _ _⟩⟩, fun z => absurd e z⟩)
          · exact YY _ (fun c2 a2 => ⟨fun z => absurd z e, fun _ => ⟨rfl, same _ _ _ _ _ _⟩⟩)
        · refine hX2 _ c a' (fun c3 a3 => br_f (Int32.not_le.mpr hr) ?_)
          unfold wpY_entry vy_S
          refine br_t t2 ?_
          refine hY _ lf pl nm aD (fun c2 a2 => br_t h0 ⟨hit, br_f nk1 ?_⟩)
          exact hY2 _ c2 pl nm a2 (fun c4 p4 n4 a4 => br_f (fun z => by rw [z] at hr; exact absurd hr (by decide)) ⟨rfl, same _ _ _ _ _ _⟩)
theorem iv_del {x m t : Nat} (hI : iv_I g) (hx : x < 40) (hk : g.ki x = 1) (hm : m < 15) (ht : g.nd (15 * x + m) = t) (ht0 : t ≠ 0) (hdir : g.ki t = 1 → g.sz t = 0 ∧ t ≠ g.cu ∧ ¬ vg_co g.mo t < 4) : iv_I (vg_gon (vg_dec (vg_rem g x m) t) t) ∧ t < 40 ∧ t % 10 ≠ 0 ∧ g.ki t ≠ 0 := by
  have htl : t < 40 := by rw [← ht]; exact hI.1.2.2.2.2.2.2.2.2.2.2.1 _
  have hna := hI.2.2.1 (15 * x + m) (by omega) (by rw [ht]; exact ht0)
  rw [ht] at hna
  have hnb := (hI.2.2.2.1 x m hx hk hm (by rw [ht]; exact ht0)).2
  rw [ht] at hnb
  refine ⟨iv_gon (iv_rem hI hx hk hm ht ht0) htl hna.2 hnb (fun z => ?_), htl, hna.2, hnb⟩
  have z1 : g.ki t = 1 := z
  have h1 := hdir z1
  have hd1 := hI.2.2.2.2.2.2.2.1 t htl hna.2 z1 (by omega)
  have hcn := hI.2.2.2.2.1 x hx hk
  have hbl := bl_lt (nd := g.nd) (p := x) (m := m) (k := 15) hm (by rw [ht]; exact ht0)
  have htx : t ≠ x := by intro e; rw [e] at h1; omega
  have e1 : (vg_dec (vg_rem g x m) t).ef t = g.ef t - 1 := un_s _ _ _
  have e2 : (vg_dec (vg_rem g x m) t).sz t = g.sz t := un_n _ _ htx
  exact ⟨by rw [e1]; omega, by rw [e2]; exact h1.1, h1.2.1, co_no h1.2.2⟩
/-- an entry goes on the reference's side -/
theorem vy_drop {post : SY → Prop} {x m t : Nat} (hI : iv_I g) (hR : vy_R g aM aB aC aZ aN aT aS aI aH) (hx : x < 40) (hk : g.ki x = 1) (hm : m < 15) (ht : g.nd (15 * x + m) = t) (ht0 : t ≠ 0) (htl : t < 40) (htr : t % 10 ≠ 0) (hka : g.ki t ≠ 0)
    (Q : SY → Prop) (hQ : ∀ c' n' t', wpY_let post (vy_S (vg_rem g x m) lf pl nm aM aB c' aZ n' t' aS aI aH aD) (nI t) → Q (vy_S (vg_rem g x m) lf pl nm aM aB c' aZ n' t' aS aI aH aD))
    (h : ∀ c' n' t', vy_R (vg_gon (vg_dec (vg_rem g x m) t) t) aM aB c' aZ n' t' aS aI aH → post (vy_S (vg_gon (vg_dec (vg_rem g x m) t) t) lf pl nm aM aB c' aZ n' t' aS aI aH aD)) :
    wpY_delete Q (vy_S g lf pl nm aM aB aC aZ aN aT aS aI aH aD) (nI x) (nI (6 * x + vg_bl g.nd x m)) := by
  refine vy_delete hI.1 hR hI.2.2.2.2.1 hx hk hm (by rw [ht]; exact ht0) (fun c' n' t' hR' => hQ c' n' t' ?_)
  rw [← S_dec (t := t)]
  have hR2 := R_dec (t := t) hR'
  exact vy_let (iv_rem hI hx hk hm ht ht0) hR2.2.1 hR2.2.2.2.2 htl htr hka (h c' n' t' (gon_R hR2))
theorem i_vc_remove {k : Nat} {u : SX} {v : SY} (I : i_Rel k u v) (hk : k + 3 ≤ 1536) : wpX_remove (fun r u' => wpY_remove (fun r' v' => r' = r ∧ i_Rel (k + 3) u' v') v) u := by
  obtain ⟨g, ac, ah, lf, pl, nm, aM, aB, aC, aZ, aN, aT, aS, aI, aH, aD, hI, hR, rfl, rfl⟩ := I
  have same : ∀ ac ah lf pl nm aD, i_Rel (k + 3) (vx_S g ac ah) (vy_S g lf pl nm aM aB aC aZ aN aT aS aI aH aD) := fun _ _ _ _ _ _ => vz_mk hI hR
  unfold wpX_remove
  rcases vw_old hI hR with ⟨x, ht, hx, hkx, h1, h14, he, hX, hY⟩ | ⟨r, hr, hX, hY⟩
  · have hxl := hx.1
    have hq := vq_le (fm := g.fm) (nd := g.nd) (p := x) h14 h1
    have hne := vq_in he
    have htg := tg_gd hI hx hkx (by omega) hne
    have hcn := hI.2.2.2.2.1 x hxl hkx
    have hbl := bl_lt (nd := g.nd) (p := x) (m := vg_eq g.fm g.nd x (vg_ls g 0)) (k := 15) (by omega) hne
    have hT := ((hR.2.1 x hxl hkx).2 _ (by omega) hne).2
    have EI := vn_i15 x (vg_eq g.fm g.nd x (vg_ls g 0))
    have hx0 : 0 ≤ nI x := nI_pos' (by omega)
    generalize hm : vg_eq g.fm g.nd x (vg_ls g 0) = m at *
    generalize ho : g.nd (15 * x + m) = t at *
    have htl := htg.1.1
    have hrb := hI.1.2.1 (x / 10)
    have EK := vz_k1 hI htl
    have ER : vg_cv g.ro (nI (x / 10)).toNatClampNeg = 0 ↔ g.ro (x / 10) = 0 := by
      rw [cv_at (by omega)]
      exact vn_e0 (by omega)
    have hid : vp_in (nI (x / 10)) 4 := vp_in_nI (by omega) (by decide)
    have hit : vp_in (nI t) 40 := vp_in_nI htl (by decide)
    have EN : vg_cv g.nd (nI x * 15 + nI m).toNatClampNeg = nI t := by rw [EI, cv_at (by omega), ho]
    have YY : ∀ (post : Int32 → SY → Prop), (∀ c2 a2, ((g.ki t = 1 → post (-3) (vy_S g c2 (nI x) (nI (vg_ls g 0)) aM aB aC aZ aN aT aS aI aH a2)) ∧ (g.ki t ≠ 1 → ((g.ro (x / 10) = 0 → ∀ c' n' t', vy_R (vg_gon (vg_dec (vg_rem g x m) t) t) aM aB c' aZ n' t' aS aI aH → post 0 (vy_S (vg_gon (vg_dec (vg_rem g x m) t) t) c2 (nI x) (nI (vg_ls g 0)) aM aB c' aZ n' t' aS aI aH a2)) ∧ (g.ro (x / 10) ≠ 0 → post (-6) (vy_S g c2 (nI x) (nI (vg_ls g 0)) aM aB aC aZ aN aT aS aI aH a2)))))) → wpY_remove post (vy_S g lf pl nm aM aB aC aZ aN aT aS aI aH aD) := by
      intro post h
      unfold wpY_remove
      refine hY _ lf pl nm aD (fun c2 a2 => br_t (nI_pos' (by omega)) ⟨vp_in_nI (by omega) (by decide), nm_r (e' := nI t) (by rw [nI_clamp (by omega)]; exact hT) ⟨hit, fun ek => (h c2 a2).1 (EK.mp ek), fun ek => ⟨vz_10, ?_⟩⟩⟩)
      rw [vn_d10 (by omega), htg.2.2.1]
      refine ⟨hid, fun er => ?_, fun er => ((h c2 a2).2 (fun z => ek (EK.mpr z))).2 (fun z => er (ER.mpr z))⟩
      refine vy_drop (post := fun u => post 0 u) hI hR hxl hkx (by omega) ho (by omega) htl htg.2.1 htg.1.2.1 _ (fun c' n' t' hl => ?_) (((h c2 a2).2 (fun z => ek (EK.mpr z))).1 (ER.mp er))
      exact hl
    refine hX _ ac ah (fun c a' => br_t hx0 ?_)
    refine vx_nameAt (g := g) (ac := c) (ah := a') (p := 0) hI (by omega) hxl h1 h14 ?_
    rw [hm, EN]
    refine ⟨by rw [EI]; exact vp_in_nI (by omega) (by decide), hit, fun ek => ?_, fun ek => vx_diskOf (by omega) ⟨hid, fun er => ?_, fun er => ?_⟩⟩
    · exact YY _ (fun c2 a2 => ⟨fun _ => ⟨rfl, same _ _ _ _ _ _⟩, fun z => absurd (EK.mp ek) z⟩)
    · have n1 : g.ki t ≠ 1 := fun z => ek (EK.mpr z)
      have hdel := iv_del hI hxl hkx (by omega) ho (by omega) (fun z => absurd z n1)
      refine vx_dropEntry (g := g) (ac := c) (ah := a') hI hxl hkx (by omega) ho (by omega) ?_
      exact YY _ (fun c2 a2 => ⟨fun z => absurd z n1, fun _ => ⟨fun _ c' n' t' hR' => ⟨rfl, vz_mk hdel.1 hR'⟩, fun z => absurd (ER.mp er) z⟩⟩)
    · exact YY _ (fun c2 a2 => ⟨fun z => absurd (EK.mpr z) ek, fun _ => ⟨fun z => absurd (ER.mpr z) er, fun _ => ⟨rfl, same _ _ _ _ _ _⟩⟩⟩)
  · refine hX _ ac ah (fun c a' => br_f (Int32.not_le.mpr hr) ?_)
    unfold wpY_remove
    exact hY _ lf pl nm aD (fun c2 p2 n2 a2 => br_f (Int32.not_le.mpr hr) ⟨rfl, same _ _ _ _ _ _⟩)
theorem i_vc_prune {k : Nat} {u : SX} {v : SY} (I : i_Rel k u v) (hk : k + 3 ≤ 1536) : wpX_prune (fun r u' => wpY_prune (fun r' v' => r' = r ∧ i_Rel (k + 3) u' v') v) u := by
  obtain ⟨g, ac, ah, lf, pl, nm, aM, aB, aC, aZ, aN, aT, aS, aI, aH, aD, hI, hR, rfl, rfl⟩ := I
  have same : ∀ ac ah lf pl nm aD, i_Rel (k + 3) (vx_S g ac ah) (vy_S g lf pl nm aM aB aC aZ aN aT aS aI aH aD) := fun _ _ _ _ _ _ => vz_mk hI hR
  unfold wpX_prune
  rcases vw_old hI hR with ⟨x, ht, hx, hkx, h1, h14, he, hX, hY⟩ | ⟨r, hr, hX, hY⟩
  · have hxl := hx.1
    have hq := vq_le (fm := g.fm) (nd := g.nd) (p := x) h14 h1
    have hne := vq_in he
    have htg := tg_gd hI hx hkx (by omega) hne
    have hcn := hI.2.2.2.2.1 x hxl hkx
    have hbl := bl_lt (nd := g.nd) (p := x) (m := vg_eq g.fm g.nd x (vg_ls g 0)) (k := 15) (by omega) hne
    have hT := ((hR.2.1 x hxl hkx).2 _ (by omega) hne).2
    have EI := vn_i15 x (vg_eq g.fm g.nd x (vg_ls g 0))
    have hx0 : 0 ≤ nI x := nI_pos' (by omega)
    generalize hm : vg_eq g.fm g.nd x (vg_ls g 0) = m at *
    generalize ho : g.nd (15 * x + m) = t at *
    have htl := htg.1.1
    have hcb := hI.1.2.2.2.2.2.1
    have hrb := hI.1.2.1 (x / 10)
    have hsb := hI.1.2.2.2.2.2.2.2.1 t
    have EK := vz_k1 hI htl
    have ER : vg_cv g.ro (nI (x / 10)).toNatClampNeg = 0 ↔ g.ro (x / 10) = 0 := by
      rw [cv_at (by omega)]
      exact vn_e0 (by omega)
    have hid : vp_in (nI (x / 10)) 4 := vp_in_nI (by omega) (by decide)
    have hit : vp_in (nI t) 40 := vp_in_nI htl (by decide)
    have EN : vg_cv g.nd (nI x * 15 + nI m).toNatClampNeg = nI t := by rw [EI, cv_at (by omega), ho]
    have YY : ∀ (post : Int32 → SY → Prop), (∀ c2 a2, ((g.ki t ≠ 1 → post (-2) (vy_S g c2 (nI x) (nI (vg_ls g 0)) aM aB aC aZ aN aT aS aI aH a2)) ∧ (g.ki t = 1 → (((vg_co g.mo t < 4 ∨ t = g.cu) → post (-8) (vy_S g c2 (nI x) (nI (vg_ls g 0)) aM aB aC aZ aN aT aS aI aH a2)) ∧ (¬ (vg_co g.mo t < 4 ∨ t = g.cu) → ((g.ro (x / 10) = 0 → ((g.sz t = 0 → ∀ c' n' t', vy_R (vg_gon (vg_dec (vg_rem g x m) t) t) aM aB c' aZ n' t' aS aI aH → post 0 (vy_S (vg_gon (vg_dec (vg_rem g x m) t) t) c2 (nI x) (nI (vg_ls g 0)) aM aB c' aZ n' t' aS aI aH a2)) ∧ (g.sz t ≠ 0 → post (-10) (vy_S g c2 (nI x) (nI (vg_ls g 0)) aM aB aC aZ aN aT aS aI aH a2)))) ∧ (g.ro (x / 10) ≠ 0 → post (-6) (vy_S g c2 (nI x) (nI (vg_ls g 0)) aM aB aC aZ aN aT aS aI aH a2)))))))) → wpY_prune post (vy_S g lf pl nm aM aB aC aZ aN aT aS aI aH aD) := by
      intro post h
      unfold wpY_prune
      refine hY _ lf pl nm aD (fun c2 a2 => br_t (nI_pos' (by omega)) ⟨vp_in_nI (by omega) (by decide), nm_r (e' := nI t) (by rw [nI_clamp (by omega)]; exact hT) ⟨hit, fun ek => ?_, fun ek => (h c2 a2).1 (fun z => ek (EK.mpr z))⟩⟩)
      have hk1 := EK.mp ek
      have h2 := (h c2 a2).2 hk1
      refine vy_covering (lf := c2) (pl := nI x) (nm := nI (vg_ls g 0)) (aD := a2) hI hR.1 htl (fun hc => br_t (nI_pos' (by omega)) (h2.1 (Or.inl hc))) (fun hc => br_f (by decide) ?_)
      refine pk_eq g.cu t (fun e => h2.1 (Or.inr e.symm)) (fun e => ⟨vz_10, ?_⟩)
      have h3 := h2.2 (fun z => z.elim hc (fun w => e w.symm))
      rw [vn_d10 (by omega), htg.2.2.1]
      refine ⟨hid, fun er => ⟨hit, ?_⟩, fun er => h3.2 (fun z => er (ER.mpr z))⟩
      have hct : aC (nI t).toNatClampNeg = nI (g.sz t) := by rw [nI_clamp (by omega)]; exact (hR.2.1 t htl hk1).1
      rw [hct]
      refine pk_le (g.sz t) 0 (fun e0 => ?_) (fun e0 => (h3.1 (ER.mp er)).2 (by omega))
      refine vy_drop (post := fun u => post 0 u) hI hR hxl hkx (by omega) ho (by omega) htl htg.2.1 htg.1.2.1 _ (fun c' n' t' hl => ?_) ((h3.1 (ER.mp er)).1 (by omega))
      exact hl
    refine hX _ ac ah (fun c a' => br_t hx0 ?_)
    refine vx_nameAt (g := g) (ac := c) (ah := a') (p := 0) hI (by omega) hxl h1 h14 ?_
    rw [hm]
    refine ⟨by rw [EI]; exact vp_in_nI (by omega) (by decide), nm_r EN ⟨hit, fun ek => ?_, fun ek => ?_⟩⟩
    · have hk1 := EK.mp ek
      refine vx_isInUse (g := g) (ac := c) (ah := a') hI htl (fun hu => br_f (by decide) ?_) (fun hu => br_t rfl (vx_diskOf (by omega) ⟨hid, fun er => ⟨hit, ?_⟩, fun er => ?_⟩))
      · exact YY _ (fun c2 a2 => ⟨fun z => absurd hk1 z, fun _ => ⟨fun _ => ⟨rfl, same _ _ _ _ _ _⟩, fun z => absurd hu z⟩⟩)
      · have hst : vg_cv g.sz (nI t).toNatClampNeg = nI (g.sz t) := cv_at (by omega)
        rw [hst]
        refine pk_le (g.sz t) 0 (fun e0 => ?_) (fun e0 => ?_)
        · have hdel := iv_del hI hxl hkx (by omega) ho (by omega) (fun _ => ⟨by omega, fun z => hu (Or.inr z), fun z => hu (Or.inl z)⟩)
          refine vx_dropEntry (g := g) (ac := c) (ah := a') hI hxl hkx (by omega) ho (by omega) ?_
          exact YY _ (fun c2 a2 => ⟨fun z => absurd hk1 z, fun _ => ⟨fun z => absurd z hu, fun _ => ⟨fun _ => ⟨fun _ c' n' t' hR' => ⟨rfl, vz_mk hdel.1 hR'⟩, fun z => by omega⟩, fun z => absurd (ER.mp er) z⟩⟩⟩)
        · exact YY _ (fun c2 a2 => ⟨fun z => absurd hk1 z, fun _ => ⟨fun z => absurd z hu, fun _ => ⟨fun _ => ⟨fun z => by omega, fun _ => ⟨rfl, same _ _ _ _ _ _⟩⟩, fun z => absurd (ER.mp er) z⟩⟩⟩)
      · exact YY _ (fun c2 a2 => ⟨fun z => absurd hk1 z, fun _ => ⟨fun z => absurd z hu, fun _ => ⟨fun z => absurd (ER.mpr z) er, fun _ => ⟨rfl, same _ _ _ _ _ _⟩⟩⟩⟩)
    · exact YY _ (fun c2 a2 => ⟨fun _ => ⟨rfl, same _ _ _ _ _ _⟩, fun z => absurd (EK.mpr z) ek⟩)
  · refine hX _ ac ah (fun c a' => br_f (Int32.not_le.mpr hr) ?_)
    unfold wpY_prune
    exact hY _ lf pl nm aD (fun c2 p2 n2 a2 => br_f (Int32.not_le.mpr hr) ⟨rfl, same _ _ _ _ _ _⟩)
end VZ45
