section VZ44
variable {g : vg_G} {ac : Int32} {ah : Nat → Int32} {lf pl nm : Int32} {aM aB aC aZ aN aT aS aI aH aD : Nat → Int32}
theorem vq_0 {fm nd : vg_F} {p n : Nat} (h1 : 1 ≤ n) (h : vg_eq fm nd p n = 0) : nd (15 * p + n) = 0 ∧ (fm (p / 10) = 0 → ∀ m, 1 ≤ m → m ≤ 14 → (m = n + 7 ∨ n = m + 7) → nd (15 * p + m) = 0) := by
  unfold vg_eq at h
  by_cases e : nd (15 * p + n) ≠ 0
  · rw [if_pos e] at h; omega
  · rw [if_neg e] at h
    refine ⟨Classical.byContradiction e, fun hf m hm1 hm hc => ?_⟩
    rw [if_neg (fun z => z hf)] at h
    by_cases e2 : nd (15 * p + vg_oth n) ≠ 0
    · rw [if_pos e2] at h
      unfold vg_oth at h
      split at h <;> omega
    · have e3 : vg_oth n = m := by
        unfold vg_oth
        split <;> omega
      rw [e3] at e2
      exact Classical.byContradiction e2
theorem iv_nw {x k : Nat} (hI : iv_I g) (hx : vg_gd g x) (hk : g.ki x = 1) (h1 : 1 ≤ vg_ls g 0) (h14 : vg_ls g 0 ≤ 14) (he : vg_eq g.fm g.nd x (vg_ls g 0) = 0) (hf : ¬ vg_fu g x k) (hk1 : 1 ≤ k) (hk3 : k ≤ 3) : iv_I (vg_new g x (vg_ls g 0) (10 * (x / 10) + vg_us g (x / 10)) k) ∧ 10 * (x / 10) + vg_us g (x / 10) < 40 ∧ (10 * (x / 10) + vg_us g (x / 10)) / 10 = x / 10 ∧ (10 * (x / 10) + vg_us g (x / 10)) % 10 ≠ 0 ∧ g.ki (10 * (x / 10) + vg_us g (x / 10)) = 0 := by
  have hxl := hx.1
  have hu : vg_us g (x / 10) < 10 := Classical.byContradiction (fun z => hf (Or.inl z))
  have hs : ¬ 6 ≤ g.sz x := fun z => hf (Or.inr (Or.inl z))
  have hr : ¬ vg_fr g (x / 10) < vg_ne g x k := fun z => hf (Or.inr (Or.inr z))
  have hu0 := us_0 (g := g) (d := x / 10) hu
  have hbk := hI.2.2.2.2.2.2.2.2.2.2.2.2.2.1 (x / 10) (by omega)
  have bm := bd_mono (f := g.fm (x / 10)) (s := g.sz x)
  have hq := vq_0 h1 he
  have hrt : (10 * (x / 10) + vg_us g (x / 10)) % 10 ≠ 0 := by
    intro e
    have := (hI.2.1 (x / 10) (by omega)).1
    rw [show 10 * (x / 10) + vg_us g (x / 10) = 10 * (x / 10) by omega] at hu0
    omega
  refine ⟨?_, by omega, by omega, hrt, hu0⟩
  unfold vg_new
  refine iv_new hI hxl hk h1 h14 hq.1 hq.2 (by omega) (by omega) (by omega) hu0 hk1 hk3 ?_
  unfold vg_fr vg_ne at hr
  split <;> (rename_i ek; simp only [ek] at hr; try simp only [if_pos, if_neg, reduceIte] at hr; omega)
theorem i_vc_directory {k : Nat} {u : SX} {v : SY} (I : i_Rel k u v) (hk : k + 3 ≤ 1536) : wpX_directory (fun r u' => wpY_directory (fun r' v' => r' = r ∧ i_Rel (k + 3) u' v') v) u := by
  obtain ⟨g, ac, ah, lf, pl, nm, aM, aB, aC, aZ, aN, aT, aS, aI, aH, aD, hI, hR, rfl, rfl⟩ := I
  have same : ∀ ac ah lf pl nm aD, i_Rel (k + 3) (vx_S g ac ah) (vy_S g lf pl nm aM aB aC aZ aN aT aS aI aH aD) := fun _ _ _ _ _ _ => vz_mk hI hR
  unfold wpX_directory
  rcases vw_new hI hR with ⟨x, ht, hx, hkx, h1, h14, he, hro, hX, hY⟩ | ⟨r, hr, hX, hY⟩
  · have hxl := hx.1
    have hq := vq_0 h1 he
    refine hX _ ac ah (fun c a' => br_t (nI_pos' (by omega)) ?_)
    refine vx_addObject (g := g) (ac := c) (ah := a') (k := 1) hI hxl (by omega) (by omega) (by omega) (fun hf => br_f (by decide) ?_) (fun hf => ?_)
    · unfold wpY_directory
      refine hY _ lf pl nm aD (fun c2 a2 => br_t rfl ?_)
      exact vy_create (lf := c2) (aD := a2) (k := 1) hI hR hxl hkx (by omega) hq.1 (by omega) (by omega) (fun _ => br_f (by decide) ⟨rfl, same _ _ _ _ _ _⟩) (fun z => absurd hf z)
    · have hn := iv_nw hI hx hkx h1 h14 he hf (by omega) (by omega)
      refine br_t (nI_pos' (by omega)) ?_
      unfold wpY_directory
      refine hY _ lf pl nm aD (fun c2 a2 => br_t rfl ?_)
      exact vy_create (lf := c2) (aD := a2) (k := 1) hI hR hxl hkx (by omega) hq.1 (by omega) (by omega) (fun z => absurd z hf) (fun _ c' z' n' t' i' hR' => br_t (nI_pos' (by omega)) ⟨rfl, vz_mk hn.1 hR'⟩)
  · refine hX _ ac ah (fun c a' => br_f (Int32.not_le.mpr hr) ?_)
    unfold wpY_directory
    exact hY _ lf pl nm aD (fun c2 p2 n2 a2 => br_f (fun z => by rw [z] at hr; exact absurd hr (by decide)) ⟨rfl, same _ _ _ _ _ _⟩)
theorem vx_lnkL {post : Int32 → SX → Prop} {o : Nat} {S : Nat → Int32} (ho : o < 40) : ∀ r i H, i + r = 5 → post 0 ((vg_tv g.tp), (nI g.cu), ac, (vg_cv g.fm), (vg_cv g.ro), (vg_cv g.de), (vg_cm g.mo), (vg_cv g.ki), S, (vg_cv g.ef), (vg_cv g.wp), (vg_fl H (fun j => vg_cv g.dr (5 + (j - 20 * o))) (20 * o + i) (20 * o + 5)), (vg_cv g.nd), (vg_cv g.oF), (vg_cv g.oH), (vg_cv g.po), (vg_cv g.dr), (vg_cv g.dl), ah) → wX_link_53 post (nI o) (vg_tv g.tp) (nI g.cu) ac (r + 1) (nI i) (vg_cv g.fm) (vg_cv g.ro) (vg_cv g.de) (vg_cm g.mo) (vg_cv g.ki) S (vg_cv g.ef) (vg_cv g.wp) H (vg_cv g.nd) (vg_cv g.oF) (vg_cv g.oH) (vg_cv g.po) (vg_cv g.dr) (vg_cv g.dl) ah := by
  intro r
  induction r with
  | zero =>
    intro i H hi h
    have e : i = 5 := by omega
    subst e
    rw [fl_nil (Nat.le_refl _)] at h
    exact br_t (by decide) h
  | succ r ih =>
    intro i H hi h
    have eI := vn_i20 o i
    have eJ : 5 + nI i = nI (5 + i) := vn_al5 i
    refine br_f (fun z => by have := (vn_ge5 (by omega)).mp z; omega) ⟨by rw [eJ]; exact vp_in_nI (by omega) (by decide), by rw [eI]; exact vp_in_nI (by omega) (by decide), nm_r (e' := vg_ug H (20 * o + i) ((fun j => vg_cv g.dr (5 + (j - 20 * o))) (20 * o + i))) ?_ (nm_r (nI_1 i) (ih (i + 1) _ (by omega) ?_))⟩
    · rw [eI, eJ, nI_clamp (n := 20 * o + i) (by omega), nI_clamp (n := 5 + i) (by omega), ug_up]
      show vg_ug H (20 * o + i) (vg_cv g.dr (5 + i)) = vg_ug H (20 * o + i) (vg_cv g.dr (5 + (20 * o + i - 20 * o)))
      rw [show 20 * o + i - 20 * o = i by omega]
    · rw [← Nat.add_assoc, fl_step (h := fun j => vg_cv g.dr (5 + (j - 20 * o))) (by omega)]
      exact h
theorem vy_lnkL {post : Int32 → SY → Prop} {o : Nat} (hb : iv_bd g) (ho : o < 40) : ∀ r i a, r = g.dl 1 - i → i ≤ g.dl 1 → post 0 (vy_S g lf pl nm aM aB aC aZ aN aT (vg_fl a (fun j => vg_cv g.dr (5 + (j - 5 * o))) (5 * o + i) (5 * o + g.dl 1)) aI aH aD) → wY_link_55 post (nI o) (vg_tv g.tp) (nI g.cu) lf pl nm (r + 1) (nI i) (vg_cv g.fm) (vg_cv g.de) (vg_cv g.ro) aM aB (vg_cv g.ki) aC aZ (vg_cv g.wp) aN aT a aI (vg_cv g.dr) (vg_cv g.dl) aH (vg_cv g.po) (vg_cv g.oH) aD := by
  have hl := hb.2.2.2.2.2.2.2.2.2.2.2.2.2.2.2 1
  intro r
  induction r with
  | zero =>
    intro i a hr hi h
    rw [fl_nil (by omega)] at h
    refine br_t ?_ h
    show nI (g.dl 1) ≤ nI i
    exact (nI_leI (by omega) (by omega)).mpr (by omega)
  | succ r ih =>
    intro i a hr hi h
    have eI : 5 * nI o + nI i = nI (5 * o + i) := by rw [vn_ml5, nI_add]
    have eJ : 5 + nI i = nI (5 + i) := vn_al5 i
    have hdr := hb.2.2.2.2.2.2.2.2.2.2.2.2.2.2.1 (5 + i)
    refine br_f ?_ ⟨by rw [eJ]; exact vp_in_nI (by omega) (by decide), by rw [eI]; exact vp_in_nI (by omega) (by decide), nm_r (e' := vg_ug a (5 * o + i) ((fun j => vg_cv g.dr (5 + (j - 5 * o))) (5 * o + i))) ?_ (nm_r (nI_1 i) (ih (i + 1) _ (by omega) (by omega) ?_))⟩
    · show ¬ nI (g.dl 1) ≤ nI i
      intro z
      have := (nI_leI (by omega) (by omega)).mp z
      omega
    · rw [eI, eJ, nI_clamp (n := 5 * o + i) (by omega), cv_at (k := 5 + i) (by omega), vn_nb (by omega), ug_up]
      show vg_ug a (5 * o + i) (nI (g.dr (5 + i))) = vg_ug a (5 * o + i) (nI (g.dr (5 + (5 * o + i - 5 * o))))
      rw [show 5 * o + i - 5 * o = i by omega]
    · rw [← Nat.add_assoc, fl_step (h := fun j => vg_cv g.dr (5 + (j - 5 * o))) (by omega)]
      exact h
theorem stp_R {o : Nat} (hI : iv_I g) (ho : o < 40) (hk : g.ki o = 3) (hR : vy_R g aM aB aC aZ aN aT aS aI aH) : vy_R (vg_stp g o (g.dl 1) (fun i => vg_cv g.dr (5 + i))) aM aB aC (upd aZ o (nI (g.dl 1))) aN aT (vg_fl aS (fun j => vg_cv g.dr (5 + (j - 5 * o))) (5 * o) (5 * o + g.dl 1)) aI aH := by
  have hl := hI.1.2.2.2.2.2.2.2.2.2.2.2.2.2.2.2 1
  refine ⟨hR.1, fun q hq hkq => ?_, fun q hq hkq => ?_, fun q hq hkq => ?_, hR.2.2.2.2⟩
  · have hkq' : g.ki q = 1 := hkq
    rw [stp_sz, stp_nd, un_n _ _ (by intro e; rw [e] at hkq'; omega)]
    exact hR.2.1 q hq hkq'
  · have hkq' : g.ki q = 2 := hkq
    have e : q ≠ o := by intro e; rw [e] at hkq'; omega
    rw [stp_sz, un_n _ _ e, up_ap, if_neg e]
    have h1 := hR.2.2.1 q hq hkq'
    refine ⟨h1.1, fun i hi => ?_⟩
    rw [stp_hd]
    (try dsimp only)
    rw [if_neg (show ¬ (20 * o ≤ 20 * q + i ∧ 20 * q + i < 20 * o + 5) by omega)]
    exact h1.2 i hi
  · have hkq' : g.ki q = 3 := hkq
    rw [stp_sz, un_ap, up_ap]
    by_cases e : q = o
    · subst e
      rw [if_pos rfl, if_pos rfl]
      refine ⟨rfl, fun i hi => ?_⟩
      rw [stp_hd, fl_ap]
      (try dsimp only)
      rw [if_pos (by omega), if_pos (by omega), show 5 * q + i - 5 * q = i by omega, show 20 * q + i - 20 * q = i by omega]
    · rw [if_neg e, if_neg e]
      have h1 := hR.2.2.2.1 q hq hkq'
      have hsl := (hI.2.2.2.2.2.2.2.2.2.2.1 q hq hkq').1
      refine ⟨h1.1, fun i hi => ?_⟩
      rw [stp_hd, fl_ap]
      (try dsimp only)
      rw [if_neg (by omega), if_neg (show ¬ (20 * o ≤ 20 * q + i ∧ 20 * q + i < 20 * o + 5) by omega)]
      exact h1.2 i hi
theorem vx_lnk {post : Int32 → SX → Prop} {o : Nat} (hb : iv_bd g) (ho : o < 40) (h : post 0 (vx_S (vg_stp g o (g.dl 1) (fun i => vg_cv g.dr (5 + i))) ac ah)) : ∃ n, wX_link_53 post (nI o) (vg_tv g.tp) (nI g.cu) ac n 0 (vg_cv g.fm) (vg_cv g.ro) (vg_cv g.de) (vg_cm g.mo) (vg_cv g.ki) (upd (vg_cv g.sz) (nI o).toNatClampNeg (vg_cv g.dl 1)) (vg_cv g.ef) (vg_cv g.wp) g.hd (vg_cv g.nd) (vg_cv g.oF) (vg_cv g.oH) (vg_cv g.po) (vg_cv g.dr) (vg_cv g.dl) ah := by
  have e : upd (vg_cv g.sz) (nI o).toNatClampNeg (vg_cv g.dl 1) = vg_cv (vg_un g.sz o (g.dl 1)) := cv_uI (by omega)
  rw [e]
  exact ⟨6, vx_lnkL (g := g) (ac := ac) (ah := ah) ho 5 0 g.hd (by omega) h⟩
theorem vy_lnk {post : Int32 → SY → Prop} {o : Nat} (hI : iv_I g) (ho : o < 40) (hk : g.ki o = 3) (hR : vy_R g aM aB aC aZ aN aT aS aI aH) (h : ∀ z' s', vy_R (vg_stp g o (g.dl 1) (fun i => vg_cv g.dr (5 + i))) aM aB aC z' aN aT s' aI aH → post 0 (vy_S (vg_stp g o (g.dl 1) (fun i => vg_cv g.dr (5 + i))) lf pl nm aM aB aC z' aN aT s' aI aH aD)) : ∃ n, wY_link_55 post (nI o) (vg_tv g.tp) (nI g.cu) lf pl nm n 0 (vg_cv g.fm) (vg_cv g.de) (vg_cv g.ro) aM aB (vg_cv g.ki) aC (upd aZ (nI o).toNatClampNeg (vp_nar .byte (vg_cv g.dl 1))) (vg_cv g.wp) aN aT aS aI (vg_cv g.dr) (vg_cv g.dl) aH (vg_cv g.po) (vg_cv g.oH) aD := by
  have hl := hI.1.2.2.2.2.2.2.2.2.2.2.2.2.2.2.2 1
  have e : upd aZ (nI o).toNatClampNeg (vp_nar .byte (vg_cv g.dl 1)) = upd aZ o (nI (g.dl 1)) := by
    rw [nI_clamp (by omega), cv_ap, vn_nb (by omega)]
  rw [e]
  exact ⟨g.dl 1 - 0 + 1, vy_lnkL (g := g) (lf := lf) (pl := pl) (nm := nm) (aD := aD) hI.1 ho (g.dl 1 - 0) 0 aS rfl (Nat.zero_le _) (h _ _ (stp_R hI ho hk hR))⟩
theorem iv_sp {o : Nat} (hI : iv_I g) (ho : o < 40) (hk : g.ki o = 3) : iv_I (vg_stp g o (g.dl 1) (fun i => vg_cv g.dr (5 + i))) := by
  have hl := hI.1.2.2.2.2.2.2.2.2.2.2.2.2.2.2.2 1
  have hdr := hI.2.2.2.2.2.2.2.2.2.2.2.1 1
  refine iv_stp hI ho hk hl (fun i hi => ⟨g.dr (5 + i), hI.1.2.2.2.2.2.2.2.2.2.2.2.2.2.2.1 _, rfl, fun z => hdr i (by omega) hi z⟩)
theorem i_vc_link {k : Nat} {u : SX} {v : SY} (I : i_Rel k u v) (hk : k + 3 ≤ 1536) : wpX_link (fun r u' => wpY_link (fun r' v' => r' = r ∧ i_Rel (k + 3) u' v') v) u := by
  obtain ⟨g, ac, ah, lf, pl, nm, aM, aB, aC, aZ, aN, aT, aS, aI, aH, aD, hI, hR, rfl, rfl⟩ := I
  have same : ∀ ac ah lf pl nm aD, i_Rel (k + 3) (vx_S g ac ah) (vy_S g lf pl nm aM aB aC aZ aN aT aS aI aH aD) := fun _ _ _ _ _ _ => vz_mk hI hR
  unfold wpX_link
  rcases vw_new hI hR with ⟨x, ht, hx, hkx, h1, h14, he, hro, hX, hY⟩ | ⟨r, hr, hX, hY⟩
  · have hxl := hx.1
    have hq := vq_0 h1 he
    have hfb := hI.1.1 (x / 10)
    have hid : vp_in (nI (x / 10)) 4 := vp_in_nI (by omega) (by decide)
    have EF : vg_cv g.fm (nI (x / 10)).toNatClampNeg = 0 ↔ g.fm (x / 10) = 0 := by
      rw [cv_at (by omega)]
      exact vn_e0 (by omega)
    have ED : nI x / 10 = nI (x / 10) := vn_d10 (by omega)
    refine hX _ ac ah (fun c a' => br_t (nI_pos' (by omega)) ?_)
    refine vx_diskOf (by omega) ⟨hid, fun ef => ?_, fun ef => ?_⟩
    · unfold wpY_link
      refine hY _ lf pl nm aD (fun c2 a2 => br_t rfl ⟨vz_10, ?_⟩)
      rw [ED]
      exact ⟨hid, br_t ef ⟨rfl, same _ _ _ _ _ _⟩⟩
    · refine vx_addObject (g := g) (ac := c) (ah := a') (k := 3) hI hxl (by omega) (by omega) (by omega) (fun hf => br_f (by decide) ?_) (fun hf => ?_)
      · unfold wpY_link
        refine hY _ lf pl nm aD (fun c2 a2 => br_t rfl ⟨vz_10, ?_⟩)
        rw [ED]
        refine ⟨hid, br_f ef ?_⟩
        exact vy_create (lf := c2) (aD := a2) (k := 3) hI hR hxl hkx (by omega) hq.1 (by omega) (by omega) (fun _ => br_f (by decide) ⟨rfl, same _ _ _ _ _ _⟩) (fun z => absurd hf z)
      · have hn := iv_nw hI hx hkx h1 h14 he hf (by omega) (by omega)
        have hko : (vg_new g x (vg_ls g 0) (10 * (x / 10) + vg_us g (x / 10)) 3).ki (10 * (x / 10) + vg_us g (x / 10)) = 3 := un_s _ _ _
        have hdl : (vg_new g x (vg_ls g 0) (10 * (x / 10) + vg_us g (x / 10)) 3).dl = g.dl := rfl
        have hio : vp_in (nI (10 * (x / 10) + vg_us g (x / 10))) 40 := vp_in_nI hn.2.1 (by decide)
        refine br_t (nI_pos' (by omega)) ⟨hio, nm_e ?_⟩
        refine vx_lnk (g := vg_new g x (vg_ls g 0) (10 * (x / 10) + vg_us g (x / 10)) 3) (ac := c) (ah := a') hn.1.1 hn.2.1 ?_
        unfold wpY_link
        refine hY _ lf pl nm aD (fun c2 a2 => br_t rfl ⟨vz_10, ?_⟩)
        rw [ED]
        refine ⟨hid, br_f ef ?_⟩
        refine vy_create (lf := c2) (aD := a2) (k := 3) hI hR hxl hkx (by omega) hq.1 (by omega) (by omega) (fun z => absurd z hf) (fun _ c' z' n' t' i' hR' => br_t (nI_pos' (by omega)) ⟨hio, nm_e ?_⟩)
        refine vy_lnk (g := vg_new g x (vg_ls g 0) (10 * (x / 10) + vg_us g (x / 10)) 3) (lf := c2) (pl := nI x) (nm := nI (vg_ls g 0)) (aD := a2) hn.1 hn.2.1 hko hR' (fun z2 s2 hR2 => ⟨rfl, vz_mk (iv_sp hn.1 hn.2.1 hko) hR2⟩)
  · refine hX _ ac ah (fun c a' => br_f (Int32.not_le.mpr hr) ?_)
    unfold wpY_link
    exact hY _ lf pl nm aD (fun c2 p2 n2 a2 => br_f (fun z => by rw [z] at hr; exact absurd hr (by decide)) ⟨rfl, same _ _ _ _ _ _⟩)
end VZ44
