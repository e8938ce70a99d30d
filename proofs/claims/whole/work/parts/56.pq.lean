section VZ56
variable {g : vg_G} {ac : Int32} {ah : Nat → Int32} {lf pl nm : Int32} {aM aB aC aZ aN aT aS aI aH aD : Nat → Int32}
theorem i_vc_rename {k : Nat} {u : SX} {v : SY} (I : i_Rel k u v) (hk : k + 3 ≤ 1536) : wpX_rename (fun r u' => wpY_rename (fun r' v' => r' = r ∧ i_Rel (k + 3) u' v') v) u := by
  obtain ⟨g, ac, ah, lf, pl, nm, aM, aB, aC, aZ, aN, aT, aS, aI, aH, aD, hI, hR, rfl, rfl⟩ := I
  have same : ∀ ac ah lf pl nm aD, i_Rel (k + 3) (vx_S g ac ah) (vy_S g lf pl nm aM aB aC aZ aN aT aS aI aH aD) := fun _ _ _ _ _ _ => vz_mk hI hR
  unfold wpX_rename
  rcases vw_old hI hR with ⟨x, htp, hx, hkx, h1, h14, he, hX, hY⟩ | ⟨r, hr, hX, hY⟩
  · have hxl := hx.1
    have hq := vq_le (fm := g.fm) (nd := g.nd) (p := x) h14 h1
    have hne := vq_in he
    have htg := tg_gd hI hx hkx (by omega) hne
    have cx := hI.2.2.2.2.1 x hxl hkx
    have bx := bl_lt (nd := g.nd) (p := x) (m := vg_eq g.fm g.nd x (vg_ls g 0)) (k := 15) (by omega) hne
    have hT := ((hR.2.1 x hxl hkx).2 _ (by omega) hne).2
    have hx0 : 0 ≤ nI x := nI_pos' (by omega)
    have hm1 : 1 ≤ vg_eq g.fm g.nd x (vg_ls g 0) := by omega
    generalize hm : vg_eq g.fm g.nd x (vg_ls g 0) = m at *
    generalize ho : g.nd (15 * x + m) = t at *
    have htl := htg.1.1
    have hrb := hI.1.2.1 (x / 10)
    have EK := vz_k1 hI htl
    have hit : vp_in (nI t) 40 := vp_in_nI htl (by decide)
    have hid : vp_in (nI (x / 10)) 4 := vp_in_nI (by omega) (by decide)
    have ER : vg_cv g.ro (nI (x / 10)).toNatClampNeg = 0 ↔ g.ro (x / 10) = 0 := by
      rw [cv_at (by omega)]
      exact vn_e0 (by omega)
    have ht0 : t ≠ 0 := by have := htg.2.1; omega
    have EDt : nI t / 10 = nI (x / 10) := by rw [vn_d10 (by omega), htg.2.2.1]
    refine hX _ ac ah (fun c a' => br_t hx0 ?_)
    refine vx_nameAt (g := g) (ac := c) (ah := a') (p := 0) hI (by omega) hxl h1 h14 ?_
    rw [hm]
    rcases vw_place (p := 1) hI hR htp (by omega) with ⟨y, hy, hky, k1, k14, hX2, hY2⟩ | ⟨r2, hr2, hX2, hY2⟩
    · have hyl := hy.1
      have hy0 : 0 ≤ nI y := nI_pos' (by omega)
      have EDy : nI y / 10 = nI (y / 10) := vn_d10 (by omega)
      have hqy := vq_le (fm := g.fm) (nd := g.nd) (p := y) k14 k1
      have fn := fi_neg hI hyl hky k1 k14
      -- the reference's way down to its four ends
      have YY : ∀ (post : Int32 → SY → Prop), (y / 10 ≠ x / 10 → ∀ c a', post (-11) (vy_S g c (nI y) (nI (vg_ls g 1)) aM aB aC aZ aN aT aS aI aH a')) → (y / 10 = x / 10 → g.ro (x / 10) ≠ 0 → ∀ c a', post (-6) (vy_S g c (nI y) (nI (vg_ls g 1)) aM aB aC aZ aN aT aS aI aH a')) → (y / 10 = x / 10 → g.ro (x / 10) = 0 → vg_co g.mo t < 4 → ∀ c a', post (-8) (vy_S g c (nI y) (nI (vg_ls g 1)) aM aB aC aZ aN aT aS aI aH a')) → (y / 10 = x / 10 → g.ro (x / 10) = 0 → ¬ vg_co g.mo t < 4 → vg_ud g.ki g.nd t 10 y = 1 → ∀ c a', post (-12) (vy_S g c (nI y) (nI (vg_ls g 1)) aM aB aC aZ aN aT aS aI aH a')) → (y / 10 = x / 10 → g.ro (x / 10) = 0 → ¬ vg_co g.mo t < 4 → vg_ud g.ki g.nd t 10 y = 0 → ∀ c a', wY_rename_123 post (nI (6 * x + vg_bl g.nd x m)) (nI x) (nI t) (vg_tv g.tp) (nI g.cu) c (nI y) (nI (vg_ls g 1)) (vg_cv g.fm) (vg_cv g.de) (vg_cv g.ro) aM aB (vg_cv g.ki) aC aZ (vg_cv g.wp) aN aT aS aI (vg_cv g.dr) (vg_cv g.dl) aH (vg_cv g.po) (vg_cv g.oH) (a')) → wpY_rename post (vy_S g lf pl nm aM aB aC aZ aN aT aS aI aH aD) := by
        intro post g11 g6 g8 g12 g0
        unfold wpY_rename
        refine hY _ lf pl nm aD (fun c2 a2 => br_t (nI_pos' (by omega)) ⟨vp_in_nI (by omega) (by decide), nm_r (e' := nI t) (by rw [nI_clamp (by omega)]; exact hT) ?_⟩)
        refine hY2 _ c2 (nI x) (nI (vg_ls g 0)) a2 (fun c3 a3 => br_t rfl ⟨vz_10, vz_10, ?_⟩)
        rw [EDy, EDt]
        refine pk_eq (y / 10) (x / 10) (fun e => ⟨vz_10, hid, fun er => ⟨hit, fun ek => ?_, fun ek => ?_⟩, fun er => g6 e (fun z => er (ER.mpr z)) c3 a3⟩) (fun e => g11 e c3 a3)
        · unfold wY_rename_85
          refine br_f (by decide) ?_
          refine vy_covering (lf := c3) (pl := nI y) (nm := nI (vg_ls g 1)) (aD := a3) hI hR.1 htl (fun hc => br_f (nI_pos (by omega)) (g8 e (ER.mp er) hc c3 a3)) (fun hc => br_t (by decide) ?_)
          unfold wY_rename_103
          refine br_f (by decide) ?_
          exact vy_under (lf := c3) (pl := nI y) (nm := nI (vg_ls g 1)) (aD := a3) hI hR.2.1 htl hyl hky (fun hu => br_f (by decide) (g12 e (ER.mp er) hc hu c3 a3)) (fun hu => br_t rfl (g0 e (ER.mp er) hc hu c3 a3))
        · have n1 : g.ki t ≠ 1 := fun z => ek (EK.mpr z)
          have nc : ¬ vg_co g.mo t < 4 := by
            intro hc
            have h5 := co_in hc
            have h6 := hI.2.2.2.2.2.2.2.2.2.2.2.2.2.2.1.2.1 _ hc (by omega)
            rw [h5] at h6
            exact n1 h6.2.1
          unfold wY_rename_85
          refine br_t rfl ?_
          unfold wY_rename_103
          exact br_t rfl (g0 e (ER.mp er) nc (ud_nd hI n1 10 y hyl hky) c3 a3)
      refine hX2 _ c a' (fun c3 a3 => br_t hy0 ?_)
      refine vx_refusal (g := g) (ac := c3) (ah := a3) hI hx (by omega) ho htl hy hky (fun e => br_f (by decide) ?_) (fun e er => br_f (by decide) ?_) (fun e er hc => br_f (by decide) ?_) (fun e er hc hu => br_f (by decide) ?_) (fun e er hc hu => br_t rfl ?_)
      · exact YY _ (fun _ _ _ => ⟨rfl, same _ _ _ _ _ _⟩) (fun z => absurd z.symm e) (fun z => absurd z.symm e) (fun z => absurd z.symm e) (fun z => absurd z.symm e)
      · exact YY _ (fun z => absurd e.symm z) (fun _ _ _ _ => ⟨rfl, same _ _ _ _ _ _⟩) (fun _ z => absurd z er) (fun _ z => absurd z er) (fun _ z => absurd z er)
      · exact YY _ (fun z => absurd e.symm z) (fun _ z => absurd er z) (fun _ _ _ _ _ => ⟨rfl, same _ _ _ _ _ _⟩) (fun _ _ z => absurd hc z) (fun _ _ z => absurd hc z)
      · exact YY _ (fun z => absurd e.symm z) (fun _ z => absurd er z) (fun _ _ z => absurd z hc) (fun _ _ _ _ _ _ => ⟨rfl, same _ _ _ _ _ _⟩) (fun _ _ _ z => absurd z (by omega))
      · have hd : y / 10 = x / 10 := e.symm
        -- both are free to move
        have Y0 : ∀ (post : Int32 → SY → Prop), (∀ c a', wY_rename_123 post (nI (6 * x + vg_bl g.nd x m)) (nI x) (nI t) (vg_tv g.tp) (nI g.cu) c (nI y) (nI (vg_ls g 1)) (vg_cv g.fm) (vg_cv g.de) (vg_cv g.ro) aM aB (vg_cv g.ki) aC aZ (vg_cv g.wp) aN aT aS aI (vg_cv g.dr) (vg_cv g.dl) aH (vg_cv g.po) (vg_cv g.oH) (a')) → wpY_rename post (vy_S g lf pl nm aM aB aC aZ aN aT aS aI aH aD) := fun post h => YY post (fun z => absurd hd z) (fun _ z => absurd er z) (fun _ _ z => absurd z hc) (fun _ _ _ z => absurd z (by omega)) (fun _ _ _ _ => h)
        have hbx1 : 1 ≤ g.sz x := by omega
        refine vx_nameAt (g := g) (ac := c3) (ah := a3) (p := 1) hI (by omega) hyl k1 k14 ?_
        refine pk_eq (vg_eq g.fm g.nd y (vg_ls g 1)) 0 (fun en => ?_) (fun en => ?_)
        · -- a name that is not there
          have hq0 := vq_0 k1 en
          have nf : ¬ 0 ≤ vg_fi g y (vg_ls g 1) := fun z => fn.2.mp z en
          have frr := fr_rem (m := m) (t := t) hI hxl hkx hbx1
          have bmy := bd_mono (f := g.fm (x / 10)) (s := g.sz y)
          have cy := hI.2.2.2.2.1 y hyl hky
          have hsy : (vg_rem g x m).sz y = if y = x then g.sz x - 1 else g.sz y := un_ap _ _ _ _
          have YS : ∀ (post : Int32 → SY → Prop), ((6 ≤ (vg_rem g x m).sz y ∨ vg_fr (vg_dec (vg_rem g x m) t) (x / 10) < vg_bd (g.fm (x / 10)) ((vg_rem g x m).sz y + 1) - vg_bd (g.fm (x / 10)) ((vg_rem g x m).sz y)) → ∀ c2 a2 c' n2 t', vy_R g aM aB c' aZ n2 t' aS aI aH → post (-7) (vy_S g c2 (nI y) (nI (vg_ls g 1)) aM aB c' aZ n2 t' aS aI aH a2)) → (¬ (6 ≤ (vg_rem g x m).sz y ∨ vg_fr (vg_dec (vg_rem g x m) t) (x / 10) < vg_bd (g.fm (x / 10)) ((vg_rem g x m).sz y + 1) - vg_bd (g.fm (x / 10)) ((vg_rem g x m).sz y)) → ∀ c2 a2 c' n2 t', vy_R (vg_put (vg_rem g x m) y (vg_ls g 1) t) aM aB c' aZ n2 t' aS aI aH → post 0 (vy_S (vg_put (vg_rem g x m) y (vg_ls g 1) t) c2 (nI y) (nI (vg_ls g 1)) aM aB c' aZ n2 t' aS aI aH a2)) → wpY_rename post (vy_S g lf pl nm aM aB aC aZ aN aT aS aI aH aD) := by
            intro post q7 q0
            refine Y0 post (fun c2 a2 => ?_)
            unfold wY_rename_123
            refine vy_find (lf := c2) (pl := nI y) (nm := nI (vg_ls g 1)) (aD := a2) hI hR.2.1 hyl hky k1 k14 (br_f nf ?_)
            exact vy_shift (lf := c2) (aD := a2) hI hR hxl hkx (by omega) ho ht0 htl hyl hky hd (by omega) hq0.1 (fun hz c' n2 t' hR' => q7 hz c2 a2 c' n2 t' hR') (fun hz c' n2 t' hR' => q0 hz c2 a2 c' n2 t' hR')
          refine vx_moveNew (g := g) (ac := c3) (ah := a3) hI hx hkx (by omega) ho ht0 hy hky hd (by omega) (fun hxy hf => ?_) (fun hf => ?_)
          · rw [if_neg (fun z => hxy z.symm)] at hsy
            refine YS _ (fun _ c2 a2 c' n2 t' hR' => ⟨rfl, vz_mk hI hR'⟩) (fun hz => absurd ?_ hz)
            rw [hsy, frr]
            exact hf
          · have hz : ¬ (6 ≤ (vg_rem g x m).sz y ∨ vg_fr (vg_dec (vg_rem g x m) t) (x / 10) < vg_bd (g.fm (x / 10)) ((vg_rem g x m).sz y + 1) - vg_bd (g.fm (x / 10)) ((vg_rem g x m).sz y)) := by
              rw [hsy, frr]
              by_cases exy : y = x
              · rw [if_pos exy, show g.sz x - 1 + 1 = g.sz x by omega]
                omega
              · rw [if_neg exy]
                intro hw
                exact hf ⟨fun z => exy z.symm, hw⟩
            have hIm := iv_sh hI hx hkx hm1 (by omega) ho ht0 hy hky hd k1 k14 en (by omega) (by omega) hu
            exact YS _ (fun w => absurd w hz) (fun _ c2 a2 c' n2 t' hR' => ⟨rfl, vz_mk hIm hR'⟩)
        · -- onto an entry
          have hny := vq_in en
          have htg2 := tg_gd hI hy hky (by omega) hny
          have cy := hI.2.2.2.2.1 y hyl hky
          have hby := bl_lt (nd := g.nd) (p := y) (m := vg_eq g.fm g.nd y (vg_ls g 1)) (k := 15) (by omega) hny
          have hT2 := ((hR.2.1 y hyl hky).2 _ (by omega) hny).2
          have yf : 0 ≤ vg_fi g y (vg_ls g 1) := fn.2.mpr en
          have hfi : vg_fi g y (vg_ls g 1) = nI (6 * y + vg_bl g.nd y (vg_eq g.fm g.nd y (vg_ls g 1))) := by
            unfold vg_fi
            rw [if_neg en]
          generalize hn : vg_eq g.fm g.nd y (vg_ls g 1) = n at *
          generalize hs : g.nd (15 * y + n) = s at *
          have hsl := htg2.1.1
          have hs0 : s ≠ 0 := by have := htg2.2.1; omega
          have hij : 6 * y + vg_bl g.nd y n = 6 * x + vg_bl g.nd x m ↔ x = y ∧ m = n := by
            constructor
            · intro w
              have e1 : x = y := by omega
              subst e1
              exact ⟨rfl, (bl_inj (nd := g.nd) (p := x) (m := m) (k := n) (by rw [ho]; exact ht0) (by rw [hs]; exact hs0) (by omega))⟩
            · intro ⟨w1, w2⟩
              subst w1 w2
              rfl
          have YO : ∀ (post : Int32 → SY → Prop), (x = y → m = n → ∀ c2 a2 c' n2 t', vy_R (vg_put (vg_rem g x m) y (vg_ls g 1) t) aM aB c' aZ n2 t' aS aI aH → post 0 (vy_S (vg_put (vg_rem g x m) y (vg_ls g 1) t) c2 (nI y) (nI (vg_ls g 1)) aM aB c' aZ n2 t' aS aI aH a2)) → (¬ (x = y ∧ m = n) → s = t → ∀ c2 a2, post 0 (vy_S g c2 (nI y) (nI (vg_ls g 1)) aM aB aC aZ aN aT aS aI aH a2)) → (¬ (x = y ∧ m = n) → s ≠ t → ∀ c2 a2, wpY_replace (fun r_95 u => post r_95 u) (vy_S g c2 (nI y) (nI (vg_ls g 1)) aM aB aC aZ aN aT aS aI aH a2) (nI x) (nI (6 * x + vg_bl g.nd x m)) (nI (6 * y + vg_bl g.nd y n))) → wpY_rename post (vy_S g lf pl nm aM aB aC aZ aN aT aS aI aH aD) := by
            intro post qA qB qC
            refine Y0 post (fun c2 a2 => ?_)
            unfold wY_rename_123
            refine vy_find (lf := c2) (pl := nI y) (nm := nI (vg_ls g 1)) (aD := a2) hI hR.2.1 hyl hky k1 k14 (br_t yf ?_)
            rw [hfi]
            refine pk_eq (6 * y + vg_bl g.nd y n) (6 * x + vg_bl g.nd x m) (fun w => ?_) (fun w => ⟨vp_in_nI (by omega) (by decide), nm_r (e' := nI s) (by rw [nI_clamp (by omega)]; exact hT2) (pk_eq s t (fun w2 => qB (fun w3 => w (hij.mpr w3)) w2 c2 a2) (fun w2 => qC (fun w3 => w (hij.mpr w3)) w2 c2 a2))⟩)
            obtain ⟨w1, w2⟩ := hij.mp w
            subst w1
            refine vy_delete (g := g) (lf := c2) (pl := nI x) (nm := nI (vg_ls g 1)) (aD := a2) hI.1 hR hI.2.2.2.2.1 hxl hkx (by omega) (by rw [ho]; exact ht0) (fun c' n2 t' hR' => ?_)
            have hX3 := iv_rem hI hxl hkx (by omega) ho ht0
            have hfree : (vg_rem g x m).nd (15 * x + vg_ls g 1) = 0 := by
              rw [rem_nd, un_ap]
              by_cases el : vg_ls g 1 = m
              · rw [if_pos (by omega)]
              · rw [if_neg (by omega)]
                apply Classical.byContradiction
                intro hnz
                have hh : vg_eq g.fm g.nd x (vg_ls g 1) = vg_ls g 1 := by unfold vg_eq; rw [if_pos hnz]
                omega
            exact vy_insert (g := vg_rem g x m) (lf := c2) (pl := nI x) (nm := nI (vg_ls g 1)) (aD := a2) (bd_rem hI.1) hR' (cn_dec hX3.2.2.2.2.1) hxl hkx (by omega) hfree htl ht0 (by rw [rem_sz, un_s]; omega) (fun c4 n4 t4 hR4 => qA rfl w2 c2 a2 c4 n4 t4 hR4)
          have core : t ≠ s → (g.ki t = 1 ↔ g.ki s = 1) → (g.ki s = 1 → ¬ (vg_co g.mo s < 4 ∨ s = g.cu) ∧ g.sz s = 0) → iv_I (vz_dp g y n s) ∧ (vz_dp g y n s).nd (15 * x + m) = t ∧ (vz_dp g y n s).ki x = 1 ∧ (vz_dp g y n s).ki y = 1 ∧ iv_I (vg_put (vg_rem (vz_dp g y n s) x m) y (vg_ls g 1) t) ∧ (vg_rem (vz_dp g y n s) x m).nd (15 * y + vg_ls g 1) = 0 ∧ (vg_rem (vz_dp g y n s) x m).sz y ≤ 5 := by
            intro hts _ hsc
            have hdel := iv_del hI hyl hky (by omega) hs hs0 (fun z => ⟨(hsc z).2, fun w => (hsc z).1 (Or.inr w), fun w => (hsc z).1 (Or.inl w)⟩)
            have hrp := iv_rp (s := s) hI hdel.1 hxl hkx hm1 (by omega) ho ht0 hyl hky hd k1 k14 hn (by omega) (by omega) hs hs0 hts (fun z => (hsc z).2) hu
            exact ⟨hdel.1, hrp⟩
          have nxm : t ≠ s → ¬ (x = y ∧ m = n) := by
            intro hts w
            rw [w.1, w.2, hs] at ho
            exact hts ho.symm
          refine vx_moveOnto (g := g) (ac := c3) (ah := a3) hI hxl hkx (by omega) ho ht0 htl hyl hky (by omega) hs hs0 hsl (by omega) (fun w1 w2 w3 => ?_) (fun w1 w2 => ?_) (fun w1 w2 w3 => ?_) (fun w1 w2 w3 => ?_) (fun w1 w2 w3 w4 => ?_) (fun w1 w2 w3 w4 w5 => ?_) (fun w1 w2 w3 => ?_)
          · have hIm : iv_I (vg_put (vg_rem g x m) y (vg_ls g 1) t) := by
              subst w2
              have hfree : (vg_rem g x m).nd (15 * x + vg_ls g 1) = 0 ∧ (g.fm (x / 10) = 0 → ∀ m', 1 ≤ m' → m' ≤ 14 → (m' = vg_ls g 1 + 7 ∨ vg_ls g 1 = m' + 7) → (vg_rem g x m).nd (15 * x + m') = 0) := by
                have hdp := dp_eq (s := s) hI hxl hkx k1 k14 hn (by omega)
                rw [dp_nd, ← w3] at hdp
                exact hdp
              have hbk := hI.2.2.2.2.2.2.2.2.2.2.2.2.2.1 (x / 10) (by omega)
              have hszE : (vg_put (vg_rem g x m) x (vg_ls g 1) t).sz = g.sz := by
                rw [put_sz, rem_sz, un_s, un_un]
                exact un_id (by omega)
              refine iv_mov hI hxl hkx hm1 (by omega) ho ht0 hxl hkx rfl k1 k14 hfree.1 hfree.2 (by rw [rem_sz, un_s]; omega) ?_ (fun _ => hu)
              rw [hszE]
              exact hbk
            exact YO _ (fun _ _ c2 a2 c' n2 t' hR' => ⟨rfl, vz_mk hIm hR'⟩) (fun z => absurd ⟨w2, w3⟩ z) (fun z => absurd ⟨w2, w3⟩ z)
          · exact YO _ (fun z1 z2 => absurd ⟨z1, z2⟩ w2) (fun _ _ _ _ => ⟨rfl, same _ _ _ _ _ _⟩) (fun _ z => absurd w1.symm z)
          · exact YO _ (fun z1 z2 => absurd ⟨z1, z2⟩ (nxm w1)) (fun _ z => absurd z.symm w1) (fun _ _ c2 a2 => vy_replace hI hR hxl hkx hm1 (by omega) ho ht0 htl hyl hky (by omega) (by omega) hs hs0 hsl htg2.2.1 htg2.1.2.1 (fun _ _ => ⟨rfl, same _ _ _ _ _ _⟩) (fun z => absurd w2 z) (fun _ z => absurd z w3) (fun _ z => absurd z w3) (fun z => absurd (z.mp w2) w3))
          · exact YO _ (fun z1 z2 => absurd ⟨z1, z2⟩ (nxm w1)) (fun _ z => absurd z.symm w1) (fun _ _ c2 a2 => vy_replace hI hR hxl hkx hm1 (by omega) ho ht0 htl hyl hky (by omega) (by omega) hs hs0 hsl htg2.2.1 htg2.1.2.1 (fun z => absurd z w2) (fun _ _ => ⟨rfl, same _ _ _ _ _ _⟩) (fun z => absurd z w2) (fun z => absurd z w2) (fun z => absurd (z.mpr w3) w2))
          · exact YO _ (fun z1 z2 => absurd ⟨z1, z2⟩ (nxm w1)) (fun _ z => absurd z.symm w1) (fun _ _ c2 a2 => vy_replace hI hR hxl hkx hm1 (by omega) ho ht0 htl hyl hky (by omega) (by omega) hs hs0 hsl htg2.2.1 htg2.1.2.1 (fun _ z => absurd w3 z) (fun z => absurd w2 z) (fun _ _ _ => ⟨rfl, same _ _ _ _ _ _⟩) (fun _ _ z => absurd w4 z) (fun _ z => absurd w4 (z w3).1))
          · exact YO _ (fun z1 z2 => absurd ⟨z1, z2⟩ (nxm w1)) (fun _ z => absurd z.symm w1) (fun _ _ c2 a2 => vy_replace hI hR hxl hkx hm1 (by omega) ho ht0 htl hyl hky (by omega) (by omega) hs hs0 hsl htg2.2.1 htg2.1.2.1 (fun _ z => absurd w3 z) (fun z => absurd w2 z) (fun _ _ z => absurd z w4) (fun _ _ _ _ => ⟨rfl, same _ _ _ _ _ _⟩) (fun _ z => absurd (z w3).2 w5))
          · have hcore := core w1 w2 w3
            refine ⟨hcore.1, hcore.2.1, hcore.2.2.1, ?_⟩
            exact YO _ (fun z1 z2 => absurd ⟨z1, z2⟩ (nxm w1)) (fun _ z => absurd z.symm w1) (fun _ _ c2 a2 => vy_replace hI hR hxl hkx hm1 (by omega) ho ht0 htl hyl hky (by omega) (by omega) hs hs0 hsl htg2.2.1 htg2.1.2.1 (fun z1 z2 => absurd (w2.mp z1) z2) (fun z1 z2 => absurd (w2.mpr z2) z1) (fun _ z1 z2 => absurd z2 (w3 z1).1) (fun _ z1 _ z2 => absurd (w3 z1).2 z2) (fun _ _ => ⟨hcore.1, hcore.2.1, hcore.2.2.1, hcore.2.2.2.1, hcore.2.2.2.2.2.1, hcore.2.2.2.2.2.2, fun c' n2 t' hR' => ⟨rfl, vz_mk hcore.2.2.2.2.1 hR'⟩⟩))
    · refine hX2 _ c a' (fun c3 a3 => br_f (Int32.not_le.mpr hr2) ?_)
      unfold wpY_rename
      refine hY _ lf pl nm aD (fun c2 a2 => br_t (nI_pos' (by omega)) ⟨vp_in_nI (by omega) (by decide), nm_e ?_⟩)
      exact hY2 _ c2 (nI x) (nI (vg_ls g 0)) a2 (fun c4 a4 => br_f (fun z => by rw [z] at hr2; exact absurd hr2 (by decide)) ⟨rfl, same _ _ _ _ _ _⟩)
  · refine hX _ ac ah (fun c a' => br_f (Int32.not_le.mpr hr) ?_)
    unfold wpY_rename
    exact hY _ lf pl nm aD (fun c2 p2 n2 a2 => br_f (Int32.not_le.mpr hr) ⟨rfl, same _ _ _ _ _ _⟩)
end VZ56
