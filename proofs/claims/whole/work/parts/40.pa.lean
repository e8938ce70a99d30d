section VZ40
/-- the relation: one ghost state pictures both -/
def i_Rel (_ : Nat) (u : SX) (v : SY) : Prop := vz_R u v
theorem i_up {k : Nat} {u : SX} {v : SY} (h : i_Rel k u v) : i_Rel (k + 3) u v := h
variable {g : vg_G} {ac : Int32} {ah : Nat → Int32} {lf pl nm : Int32} {aM aB aC aZ aN aT aS aI aH aD : Nat → Int32}
def vz_dd (g : vg_G) (p s : Nat) : vg_G := vg_sDL (vg_sDR g (vg_un g.dr (5 * p + g.dl p) s)) (vg_un g.dl p (g.dl p + 1))
theorem iv_dd {p s : Nat} (hI : iv_I g) (hp : p < 2) (hs : s < 16) (hl : g.dl p < 5) (hz : ¬ (s = 0 ∧ 0 < g.dl p)) : iv_I (vz_dd g p s) := by
  have hdr := hI.2.2.2.2.2.2.2.2.2.2.2.1
  refine iv_dft hI (fun j => ?_) (fun j => ?_) (fun q i hq hi he => ?_)
  · have := hI.1.2.2.2.2.2.2.2.2.2.2.2.2.2.2.1 j
    rw [un_ap]; split <;> omega
  · have := hI.1.2.2.2.2.2.2.2.2.2.2.2.2.2.2.2 j
    rw [un_ap]; split <;> omega
  · have hlq := hI.1.2.2.2.2.2.2.2.2.2.2.2.2.2.2.2 q
    rw [un_ap] at hi he
    by_cases e : q = p
    · subst e
      rw [if_pos rfl] at hi
      by_cases e2 : i = g.dl q
      · rw [if_pos (by omega)] at he; omega
      · rw [if_neg (by omega)] at he; exact hdr q i hq (by omega) he
    · rw [if_neg e] at hi
      rw [if_neg (by omega)] at he
      exact hdr q i hq hi he
theorem vx_stp {post : Int32 → SX → Prop} {p s : Nat} (hI : iv_I g) (hp : p < 2) (hs : s < 16) (h0 : (5 ≤ g.dl p ∨ s = 0 ∧ 0 < g.dl p) → post 0 (vx_S g ac ah)) (h1 : ¬ (5 ≤ g.dl p ∨ s = 0 ∧ 0 < g.dl p) → post 1 (vx_S (vz_dd g p s) ac ah)) : wX_step_9 post (nI s) (nI p) (vg_tv g.tp) (nI g.cu) ac (vg_cv g.fm) (vg_cv g.ro) (vg_cv g.de) (vg_cm g.mo) (vg_cv g.ki) (vg_cv g.sz) (vg_cv g.ef) (vg_cv g.wp) g.hd (vg_cv g.nd) (vg_cv g.oF) (vg_cv g.oH) (vg_cv g.po) (vg_cv g.dr) (vg_cv g.dl) ah := by
  have hl := hI.1.2.2.2.2.2.2.2.2.2.2.2.2.2.2.2 p
  have hip : vp_in (nI p) 2 := vp_in_nI hp (by decide)
  have st : ¬ (5 ≤ g.dl p ∨ s = 0 ∧ 0 < g.dl p) → wX_step_45 post (nI s) (nI p) (nI (g.dl p)) (vg_tv g.tp) (nI g.cu) ac (vg_cv g.fm) (vg_cv g.ro) (vg_cv g.de) (vg_cm g.mo) (vg_cv g.ki) (vg_cv g.sz) (vg_cv g.ef) (vg_cv g.wp) g.hd (vg_cv g.nd) (vg_cv g.oF) (vg_cv g.oH) (vg_cv g.po) (vg_cv g.dr) (vg_cv g.dl) ah := by
    intro hn
    have eI : nI p * 5 + nI (g.dl p) = nI (5 * p + g.dl p) := by rw [vn_c5, nI_add]
    unfold wX_step_45
    exact ⟨by rw [eI]; exact vp_in_nI (by omega) (by decide), nm_r (cv_uJ (by omega) eI) ⟨hip, nm_r (e' := vg_cv (vg_un g.dl p (g.dl p + 1))) (by rw [nI_1]; exact cv_uI (by omega)) (h1 hn)⟩⟩
  unfold wX_step_9
  refine ⟨hip, nm_r (cv_at (by omega)) (br_f (nI_pos (by omega)) (br_f (fun z => by have := (vn_gt15 (by omega)).mp z; omega) (pk_le 5 (g.dl p) (fun e => h0 (Or.inl e)) (fun e => pk_eq s 0 (fun e2 => pk_le (g.dl p) 0 (fun e3 => st (by omega)) (fun e3 => h0 (Or.inr ⟨e2, by omega⟩))) (fun e2 => st (by omega))))))⟩
theorem vy_stp {post : Int32 → SY → Prop} {p s : Nat} (hI : iv_I g) (hp : p < 2) (hs : s < 16) (h0 : (5 ≤ g.dl p ∨ s = 0 ∧ 0 < g.dl p) → post 0 (vy_S g lf pl nm aM aB aC aZ aN aT aS aI aH aD)) (h1 : ¬ (5 ≤ g.dl p ∨ s = 0 ∧ 0 < g.dl p) → post 1 (vy_S (vz_dd g p s) lf pl nm aM aB aC aZ aN aT aS aI aH aD)) : wY_step_9 post (nI s) (nI p) (vg_tv g.tp) (nI g.cu) lf pl nm (vg_cv g.fm) (vg_cv g.de) (vg_cv g.ro) aM aB (vg_cv g.ki) aC aZ (vg_cv g.wp) aN aT aS aI (vg_cv g.dr) (vg_cv g.dl) aH (vg_cv g.po) (vg_cv g.oH) aD := by
  have hl := hI.1.2.2.2.2.2.2.2.2.2.2.2.2.2.2.2 p
  have hip : vp_in (nI p) 2 := vp_in_nI hp (by decide)
  have st : ¬ (s = 0 ∧ 0 < g.dl p) → wY_step_32 post (nI s) (nI p) (vg_tv g.tp) (nI g.cu) lf pl nm (vg_cv g.fm) (vg_cv g.de) (vg_cv g.ro) aM aB (vg_cv g.ki) aC aZ (vg_cv g.wp) aN aT aS aI (vg_cv g.dr) (vg_cv g.dl) aH (vg_cv g.po) (vg_cv g.oH) aD := by
    intro hn
    have eI : 5 * nI p + nI (g.dl p) = nI (5 * p + g.dl p) := by rw [vn_ml5, nI_add]
    unfold wY_step_32
    rw [cv_at (by omega)]
    refine ⟨hip, pk_eq (g.dl p) 5 (fun e => h0 (Or.inl (by omega))) (fun e => ⟨hip, hip, nm_r (e' := vg_cv (vg_un g.dl p (g.dl p + 1))) (by rw [nI_1, vn_b8 (by omega)]; exact cv_uI (by omega)) ⟨by rw [eI]; exact vp_in_nI (by omega) (by decide), nm_r (e' := vg_cv (vg_un g.dr (5 * p + g.dl p) s)) (by rw [vn_b8 (by omega)]; exact cv_uJ (by omega) eI) (h1 (by omega))⟩⟩)⟩
  unfold wY_step_9
  refine vy_out0 16 hs (by omega) (br_t rfl (pk_eq s 0 (fun e => ⟨hip, ?_⟩) (fun e => st (by omega))))
  rw [cv_at (by omega)]
  exact pk_lt 0 (g.dl p) (fun e2 => h0 (Or.inr ⟨e, e2⟩)) (fun e2 => st (by omega))
theorem vx_stpo {post : Int32 → SX → Prop} {p : Nat} {x : Int32} (hp : p < 2) (hx : x < 0 ∨ nI 16 ≤ x) (h : post 0 (vx_S g ac ah)) : wX_step_9 post x (nI p) (vg_tv g.tp) (nI g.cu) ac (vg_cv g.fm) (vg_cv g.ro) (vg_cv g.de) (vg_cm g.mo) (vg_cv g.ki) (vg_cv g.sz) (vg_cv g.ef) (vg_cv g.wp) g.hd (vg_cv g.nd) (vg_cv g.oF) (vg_cv g.oH) (vg_cv g.po) (vg_cv g.dr) (vg_cv g.dl) ah := by
  unfold wX_step_9
  refine ⟨vp_in_nI hp (by decide), nm_e ?_⟩
  by_cases e : x < 0
  · exact br_t e h
  · refine br_f e (br_t ?_ h)
    have h2 := hx.resolve_left e
    exact Int32.lt_of_lt_of_le (by decide) h2
theorem vx_stpb {post : Int32 → SX → Prop} {b x : Int32} {p : Nat} (hb : (b = 0 ∧ p = 0) ∨ (b ≠ 0 ∧ p = 1)) (h : wX_step_9 post x (nI p) (vg_tv g.tp) (nI g.cu) ac (vg_cv g.fm) (vg_cv g.ro) (vg_cv g.de) (vg_cm g.mo) (vg_cv g.ki) (vg_cv g.sz) (vg_cv g.ef) (vg_cv g.wp) g.hd (vg_cv g.nd) (vg_cv g.oF) (vg_cv g.oH) (vg_cv g.po) (vg_cv g.dr) (vg_cv g.dl) ah) : wpX_step post (vx_S g ac ah) b x := by
  unfold wpX_step vx_S
  rcases hb with ⟨e, rfl⟩ | ⟨e, rfl⟩
  · exact br_t e h
  · exact br_f e h
theorem vy_stpb {post : Int32 → SY → Prop} {b x : Int32} {p : Nat} (hb : (b = 0 ∧ p = 0) ∨ (b ≠ 0 ∧ p = 1)) (h : wY_step_9 post x (nI p) (vg_tv g.tp) (nI g.cu) lf pl nm (vg_cv g.fm) (vg_cv g.de) (vg_cv g.ro) aM aB (vg_cv g.ki) aC aZ (vg_cv g.wp) aN aT aS aI (vg_cv g.dr) (vg_cv g.dl) aH (vg_cv g.po) (vg_cv g.oH) aD) : wpY_step post (vy_S g lf pl nm aM aB aC aZ aN aT aS aI aH aD) b x := by
  unfold wpY_step vy_S
  rcases hb with ⟨e, rfl⟩ | ⟨e, rfl⟩
  · exact br_t e h
  · exact br_f e h
theorem vy_stpo {post : Int32 → SY → Prop} {p : Nat} {x : Int32} (hx : x < 0 ∨ nI 16 ≤ x) (h : post 0 (vy_S g lf pl nm aM aB aC aZ aN aT aS aI aH aD)) : wY_step_9 post x (nI p) (vg_tv g.tp) (nI g.cu) lf pl nm (vg_cv g.fm) (vg_cv g.de) (vg_cv g.ro) aM aB (vg_cv g.ki) aC aZ (vg_cv g.wp) aN aT aS aI (vg_cv g.dr) (vg_cv g.dl) aH (vg_cv g.po) (vg_cv g.oH) aD := by
  unfold wY_step_9
  exact vy_out1 16 (by omega) hx (br_f (by decide) h)
theorem i_vc_step {k : Nat} {u : SX} {v : SY} (I : i_Rel k u v) (hk : k + 3 ≤ 1536) (v1 : Int32) (v2 : Int32) : wpX_step (fun r u' => wpY_step (fun r' v' => r' = r ∧ i_Rel (k + 3) u' v') v (lw_bz v1) v2) u (lw_bz v1) v2 := by
  obtain ⟨g, ac, ah, lf, pl, nm, aM, aB, aC, aZ, aN, aT, aS, aI, aH, aD, hI, hR, rfl, rfl⟩ := I
  obtain ⟨p, hp, hb⟩ : ∃ p, p < 2 ∧ ((lw_bz v1 = 0 ∧ p = 0) ∨ (lw_bz v1 ≠ 0 ∧ p = 1)) := by
    rcases lw_bz_01 v1 with e | e
    · exact ⟨0, by omega, Or.inl ⟨e, rfl⟩⟩
    · exact ⟨1, by omega, Or.inr ⟨by rw [e]; decide, rfl⟩⟩
  refine vx_stpb hb ?_
  by_cases hx : v2 < 0 ∨ nI 16 ≤ v2
  · exact vx_stpo hp hx (vy_stpb hb (vy_stpo hx ⟨rfl, vz_mk hI hR⟩))
  · rcases pk_ix v2 (n := 16) (by decide) with h | h | ⟨s, hs, rfl⟩
    · exact absurd (Or.inl h) hx
    · exact absurd (Or.inr h) hx
    · refine vx_stp hI hp hs (fun hc => vy_stpb hb ?_) (fun hc => vy_stpb hb ?_)
      · exact vy_stp hI hp hs (fun _ => ⟨rfl, vz_mk hI hR⟩) (fun z => absurd hc z)
      · exact vy_stp hI hp hs (fun z => absurd z hc) (fun _ => ⟨rfl, vz_mk (g := vz_dd g p s) (iv_dd hI hp hs (by omega) (by omega)) hR⟩)
theorem i_vc_wipe {k : Nat} {u : SX} {v : SY} (I : i_Rel k u v) (hk : k + 3 ≤ 1536) : wpX_wipe (fun u' => wpY_wipe (fun v' => i_Rel (k + 3) u' v') v) u := by
  obtain ⟨g, ac, ah, lf, pl, nm, aM, aB, aC, aZ, aN, aT, aS, aI, aH, aD, hI, hR, rfl, rfl⟩ := I
  have hI' : iv_I (vg_sDL (vg_sDR g g.dr) (vg_un (vg_un g.dl 0 0) 1 0)) := by
    refine iv_dft hI (fun j => hI.1.2.2.2.2.2.2.2.2.2.2.2.2.2.2.1 j) (fun j => ?_) (fun q i hq hi _ => ?_)
    · have := hI.1.2.2.2.2.2.2.2.2.2.2.2.2.2.2.2 j
      rw [un_ap, un_ap]
      split
      · omega
      · split <;> omega
    · exfalso
      rw [un_ap, un_ap] at hi
      by_cases e : q = 1
      · rw [if_pos e] at hi; omega
      · rw [if_neg e, if_pos (by omega)] at hi; omega
  unfold wpX_wipe vx_S
  refine nm_r (cv_up g.dl 0 0) (nm_r (cv_up _ 1 0) ?_)
  unfold wpY_wipe vy_S
  refine nm_r (e' := vg_cv (vg_un g.dl 0 0)) (by rw [vn_nb0]; exact cv_up g.dl 0 0) (nm_r (e' := vg_cv (vg_un (vg_un g.dl 0 0) 1 0)) (by rw [vn_nb0]; exact cv_up _ 1 0) ?_)
  exact vz_mk (g := vg_sDL (vg_sDR g g.dr) (vg_un (vg_un g.dl 0 0) 1 0)) (ac := ac) (ah := ah) (lf := lf) (pl := pl) (nm := nm) (aD := aD) hI' hR
theorem i_vc_sync {k : Nat} {u : SX} {v : SY} (I : i_Rel k u v) (hk : k + 3 ≤ 1536) (v1 : Int32) : wpX_sync (fun r u' => wpY_sync (fun r' v' => r' = r ∧ i_Rel (k + 3) u' v') v v1) u v1 := by
  obtain ⟨g, ac, ah, lf, pl, nm, aM, aB, aC, aZ, aN, aT, aS, aI, aH, aD, hI, hR, rfl, rfl⟩ := I
  unfold wpX_sync vx_S
  by_cases hx : v1 < 0 ∨ nI 4 ≤ v1
  · refine vx_isDisk0 hx (br_t rfl ?_)
    unfold wpY_sync vy_S
    exact vy_out1 4 (by omega) hx (br_f (by decide) ⟨rfl, vz_mk (ac := ac) (ah := ah) (lf := lf) (pl := pl) (nm := nm) (aD := aD) hI hR⟩)
  · rcases pk_ix v1 (n := 4) (by decide) with h | h | ⟨d, hd, rfl⟩
    · exact absurd (Or.inl h) hx
    · exact absurd (Or.inr h) hx
    · have hi : vp_in (nI d) 4 := vp_in_nI hd (by decide)
      refine vx_isDisk1 hd (br_f (by decide) ⟨hi, nm_e ⟨hi, nm_r (cv_uI (x := 0) (by omega)) ?_⟩⟩)
      unfold wpY_sync vy_S
      refine vy_out0 4 hd (by omega) (br_t rfl ⟨hi, nm_e ⟨hi, nm_r (e' := vg_cv (vg_un g.de d 0)) (by rw [vn_nb0]; exact cv_uI (x := 0) (by omega)) ⟨rfl, ?_⟩⟩⟩)
      exact vz_mk (g := vg_sDE g (vg_un g.de d 0)) (ac := ac) (ah := ah) (lf := lf) (pl := pl) (nm := nm) (aD := aD) (iv_syn hI) hR
theorem i_vc_free {k : Nat} {u : SX} {v : SY} (I : i_Rel k u v) (hk : k + 3 ≤ 1536) (v1 : Int32) : wpX_free (fun r => wpY_free (fun r' => r' = r ∧ i_Rel (k + 3) u v) v v1) u v1 := by
  have I2 := I
  obtain ⟨g, ac, ah, lf, pl, nm, aM, aB, aC, aZ, aN, aT, aS, aI, aH, aD, hI, hR, rfl, rfl⟩ := I
  unfold wpX_free
  by_cases hx : v1 < 0 ∨ nI 4 ≤ v1
  · refine vx_isDisk0 hx (br_t rfl ?_)
    unfold wpY_free
    exact vy_out1 4 (by omega) hx (br_f (by decide) ⟨rfl, I2⟩)
  · rcases pk_ix v1 (n := 4) (by decide) with h | h | ⟨d, hd, rfl⟩
    · exact absurd (Or.inl h) hx
    · exact absurd (Or.inr h) hx
    · refine vx_isDisk1 hd (br_f (by decide) ?_)
      refine vx_freeBlocks (g := g) (ac := ac) (ah := ah) hI hd ?_
      unfold wpY_free
      refine vy_out0 4 hd (by omega) (br_t rfl ?_)
      exact vy_rest (lf := lf) (pl := pl) (nm := nm) (aD := aD) hI hR hd ⟨rfl, I2⟩
theorem i_vc_enter {k : Nat} {u : SX} {v : SY} (I : i_Rel k u v) (hk : k + 3 ≤ 1536) : wpX_enter (fun r u' => wpY_enter (fun r' v' => r' = r ∧ i_Rel (k + 3) u' v') v) u := by
  obtain ⟨g, ac, ah, lf, pl, nm, aM, aB, aC, aZ, aN, aT, aS, aI, aH, aD, hI, hR, rfl, rfl⟩ := I
  unfold wpX_enter vx_S
  by_cases ht : g.tp = 0
  · refine br_t ((vz_t1 hI).mpr ht) ?_
    unfold wpY_enter vy_S
    exact br_f (fun z => (vz_t2 hI).mp z ht) ⟨rfl, vz_mk (ac := ac) (ah := ah) (lf := lf) (pl := pl) (nm := nm) (aD := aD) hI hR⟩
  · have t2 := (vz_t2 hI).mpr ht
    obtain ⟨r, ok, hX, hY⟩ := vw_walk (p := 0) (n := g.dl 0) 1 hI hR ht (by omega) (Nat.le_refl _)
    refine br_f (fun z => ht ((vz_t1 hI).mp z)) ?_
    unfold wpX_directoryAt
    refine ⟨vp_in_nI (n := 0) (by omega) (by decide), ?_⟩
    rcases vw_neg ok with hr | ⟨x, hx, rfl⟩
    · refine hX _ ac ah (fun c a' => br_t hr (br_f (Int32.not_le.mpr hr) ?_))
      unfold wpY_enter vy_S
      refine br_t t2 ?_
      exact hY _ lf pl nm aD (fun c2 a2 => br_f (Int32.not_le.mpr hr) ⟨rfl, vz_mk (ac := c) (ah := a') (lf := c2) (pl := pl) (nm := nm) (aD := a2) hI hR⟩)
    · have hxl := hx.1
      have EK := vz_k1 hI hxl
      have hix : vp_in (nI x) 40 := vp_in_nI hxl (by decide)
      have h0 : 0 ≤ nI x := nI_pos' (by omega)
      by_cases hkx : g.ki x = 1
      · refine hX _ ac ah (fun c a' => br_f (nI_pos (by omega)) ⟨hix, br_t (EK.mpr hkx) (br_t h0 ?_)⟩)
        unfold wpY_enter vy_S
        refine br_t t2 ?_
        exact hY _ lf pl nm aD (fun c2 a2 => br_t h0 ⟨hix, br_t (EK.mpr hkx) ⟨rfl, vz_mk (g := vg_sCU g x) (ac := c) (ah := a') (lf := c2) (pl := pl) (nm := nm) (aD := a2) (iv_cur hI hxl hkx ht hx.2.2) hR⟩⟩)
      · refine hX _ ac ah (fun c a' => br_f (nI_pos (by omega)) ⟨hix, br_f (fun z => hkx (EK.mp z)) (br_f (by decide) ?_)⟩)
        unfold wpY_enter vy_S
        refine br_t t2 ?_
        exact hY _ lf pl nm aD (fun c2 a2 => br_t h0 ⟨hix, br_f (fun z => hkx (EK.mp z)) ⟨rfl, vz_mk (ac := c) (ah := a') (lf := c2) (pl := pl) (nm := nm) (aD := a2) hI hR⟩⟩)
end VZ40
