section VZ52
variable {g : vg_G} {ac : Int32} {ah : Nat → Int32} {lf pl nm : Int32} {aM aB aC aZ aN aT aS aI aH aD : Nat → Int32}
theorem cb_0 {x : Nat → Int32} {s a b : Nat} : vg_cb x s a b 0 = x := by
  funext j
  rw [cb_ap, if_neg (by omega)]
theorem ct_0 {x : Nat → Int32} {a b : Nat} : vg_ct x a b 0 = x := by
  funext j
  rw [ct_ap, if_neg (by omega)]
theorem cp_0 {x : Nat → Int32} {s a b : Nat} : vg_cp x s a b 0 = x := by
  funext j
  rw [cp_ap, if_neg (by omega)]
theorem pck_G {a b : Nat} (ha : a < 4) (hb : b < 4) (hab : a ≠ b) : vg_pck (vg_sKI g (vg_un (vg_fl g.ki (fun _ => 0) (10 * b) (10 * b + 10)) (10 * b) 1)) a b 10 = vg_pck g a b 10 := by
  refine vg_ext (by simp only [pck_fm, sKI_fm]) (by simp only [pck_ro, sKI_ro]) (by simp only [pck_de, sKI_de]) (by simp only [pck_mo, sKI_mo]) (by simp only [pck_tp, sKI_tp]) (by simp only [pck_cu, sKI_cu]) ?_ (by simp only [pck_sz, sKI_sz]) (by simp only [pck_ef, sKI_ef]) (by simp only [pck_wp, sKI_wp]) (by simp only [pck_hd, sKI_hd]) ((pck_nd _ _ _ _).trans (pck_nd g a b 10).symm) (by simp only [pck_oF, sKI_oF]) (by simp only [pck_oH, sKI_oH]) (by simp only [pck_po, sKI_po]) (by simp only [pck_dr, sKI_dr]) (by simp only [pck_dl, sKI_dl])
  rw [pck_ki, pck_ki, sKI_ki]
  funext j
  rw [un_ap, un_ap, fl_ap, fl_ap]
  by_cases e : 10 * b ≤ j ∧ j < 10 * b + 10
  · rw [if_pos e, if_pos e, if_neg (by omega), if_neg (by omega)]
  · rw [if_neg e, if_neg e, if_neg (by omega), if_neg e]
theorem cb_c1 {a b : Nat} (ha : a < 4) (hb : b < 4) (hab : a ≠ b) : vg_cb (vg_fl aC (fun _ => 0) (10 * b) (10 * b + 10)) 10 a b 10 = vg_cb aC 10 a b 10 := by
  funext j
  rw [cb_ap, cb_ap, fl_ap, fl_ap]
  by_cases e : 10 * b ≤ j ∧ j < 10 * b + 10
  · rw [if_pos e, if_pos e, if_neg (by omega)]
  · rw [if_neg e, if_neg e, if_neg e]
theorem vy_pck {post : Int32 → SY → Prop} {a b : Nat} (hI : iv_I g) (ha : a < 4) (hb : b < 4) (hab : a ≠ b) (h : post 0 (vy_S (vg_pck g a b 10) lf pl nm aM aB (vg_cb aC 10 a b 10) (vg_cb aZ 10 a b 10) (vg_cb aN 60 a b 60) (vg_ct aT a b 60) (vg_cb aS 50 a b 50) (vg_cp aI 200 a b 200) aH aD)) : ∃ n, wY_pack_112 post (nI a) (nI b) n 0 (vg_tv g.tp) (nI g.cu) lf pl nm (vg_cv (vg_un g.fm b (g.fm a))) (vg_cv (vg_un g.de b 0)) (vg_cv (vg_un g.ro b 1)) aM aB (vg_cv (vg_un (vg_fl g.ki (fun _ => 0) (10 * b) (10 * b + 10)) (10 * b) 1)) (vg_fl aC (fun _ => 0) (10 * b) (10 * b + 10)) aZ (vg_cv g.wp) aN aT aS aI (vg_cv g.dr) (vg_cv g.dl) aH (vg_cv g.po) (vg_cv g.oH) aD := by
  rw [← pck_G ha hb hab, ← cb_c1 ha hb hab] at h
  have go := vy_pckL (g := vg_sKI g (vg_un (vg_fl g.ki (fun _ => 0) (10 * b) (10 * b + 10)) (10 * b) 1)) (fun j => ?_) (fun j => hI.1.2.2.2.2.2.2.2.2.2.1 j) ha hb hab h 10 0 (by omega)
  · have z := pck_0 (g := vg_sKI g (vg_un (vg_fl g.ki (fun _ => 0) (10 * b) (10 * b + 10)) (10 * b) 1)) (a := a) (b := b)
    rw [z.1, z.2.2.2.1] at go
    simp only [Nat.mul_zero, cb_0, ct_0, cp_0] at go
    exact ⟨11, go⟩
  · have h1 := hI.1.2.2.2.2.2.2.1 j
    rw [sKI_ki, un_ap, fl_ap]
    split
    · omega
    · split <;> omega
theorem vy_pk34 {post : Int32 → SY → Prop} {a b : Nat} (hI : iv_I g) (hH : yr_h g aH) (ha : a < 4) (hb : b < 4) (hab : a ≠ b) (hl : ∀ j, g.fm j ≤ 2) : ∀ r i c, i + r = 5 → c < 2 → ((c = 1 ∨ ∃ h, i ≤ h ∧ h < 5 ∧ g.oF h ≠ 0 ∧ g.oF h / 10 = a) → post (-8) (vy_S g lf pl nm aM aB aC aZ aN aT aS aI aH aD)) → (¬ (c = 1 ∨ ∃ h, i ≤ h ∧ h < 5 ∧ g.oF h ≠ 0 ∧ g.oF h / 10 = a) → post 0 (vy_S (vg_pck g a b 10) lf pl nm aM aB (vg_cb aC 10 a b 10) (vg_cb aZ 10 a b 10) (vg_cb aN 60 a b 60) (vg_ct aT a b 60) (vg_cb aS 50 a b 50) (vg_cp aI 200 a b 200) aH aD)) → wY_pack_34 post (nI a) (nI b) (vg_tv g.tp) (nI g.cu) lf pl nm (vg_cv g.fm) (vg_cv g.de) (vg_cv g.ro) aM aB (vg_cv g.ki) aC aZ (vg_cv g.wp) aN aT aS aI (vg_cv g.dr) (vg_cv g.dl) aH (vg_cv g.po) (vg_cv g.oH) aD (r + 1) (nI c) (nI i) := by
  intro r
  induction r with
  | zero =>
    intro i c hi hc h1 h0
    refine br_t ((vn_ge5 (by omega)).mpr (by omega)) (pk_eq c 0 (fun e => ?_) (fun e => h1 (Or.inl (by omega))))
    have h2 := h0 (fun z => z.elim (fun w => by omega) (fun ⟨e, a, b, _⟩ => by omega))
    have hia : vp_in (nI a) 4 := vp_in_nI ha (by decide)
    have hib : vp_in (nI b) 4 := vp_in_nI hb (by decide)
    have hfa := hl a
    refine vy_clean (g := g) (lf := lf) (pl := pl) (nm := nm) (aD := aD) hb ⟨hia, hib, nm_r (e' := vg_cv (vg_un g.fm b (g.fm a))) ?_ ⟨hib, nm_r (e' := vg_cv (vg_un g.ro b 1)) ?_ ?_⟩⟩
    · show upd (vg_cv g.fm) (nI b).toNatClampNeg (vp_nar .byte (vg_cv g.fm (nI a).toNatClampNeg)) = _
      rw [cv_at (by omega), vn_nb (by omega)]
      exact cv_uI (by omega)
    · show upd (vg_cv g.ro) (nI b).toNatClampNeg (vp_nar .boolean 1) = _
      rw [vn_bo1]
      exact cv_uI (x := 1) (by omega)
    · exact vy_pck hI ha hb hab h2
  | succ r ih =>
    intro i c hi hc h1 h0
    have hF := hI.1.2.2.2.2.2.2.2.2.2.2.2.1 i
    have hn := yh_neg hI hH (h := i) (by omega)
    have nxt : ∀ c', c' < 2 → (c' = 1 ↔ c = 1 ∨ (g.oF i ≠ 0 ∧ g.oF i / 10 = a)) → wY_pack_34 post (nI a) (nI b) (vg_tv g.tp) (nI g.cu) lf pl nm (vg_cv g.fm) (vg_cv g.de) (vg_cv g.ro) aM aB (vg_cv g.ki) aC aZ (vg_cv g.wp) aN aT aS aI (vg_cv g.dr) (vg_cv g.dl) aH (vg_cv g.po) (vg_cv g.oH) aD (r + 1) (nI c') (nI (i + 1)) := by
      intro c' hc' hiff
      refine ih (i + 1) c' (by omega) hc' (fun hz => h1 ?_) (fun hz => h0 (fun hz2 => hz ?_))
      · rcases hz with w | ⟨e, a1, a2, a3⟩
        · rcases hiff.mp w with w | w
          · exact Or.inl w
          · exact Or.inr ⟨i, Nat.le_refl _, by omega, w⟩
        · exact Or.inr ⟨e, by omega, a2, a3⟩
      · rcases hz2 with z | ⟨e, a1, a2, a3⟩
        · exact Or.inl (hiff.mpr (Or.inl z))
        · by_cases ee : e = i
          · subst ee; exact Or.inl (hiff.mpr (Or.inr a3))
          · exact Or.inr ⟨e, by omega, a2, a3⟩
    refine br_f (fun z => by have := (vn_ge5 (by omega)).mp z; omega) ⟨vp_in_nI (by omega) (by decide), ?_⟩
    rw [nI_clamp (by omega)]
    refine ⟨fun e => ?_, fun e => ⟨vp_in_nI (by omega) (by decide), vz_10, ?_⟩⟩
    · exact nm_r (bo_0 c hc) (nm_r (nI_1 i) (nxt c hc ⟨fun z => Or.inl z, fun z => z.elim id (fun w => absurd (hn.mp e) w.1)⟩))
    · have h0' : g.oF i ≠ 0 := fun z => e (hn.mpr z)
      have eH : aH i = nI (g.oF i) := by rw [hH i (by omega), if_neg h0']
      rw [eH, vn_d10 (by omega)]
      refine pk_eq (g.oF i / 10) a (fun e2 => nm_r (bo_1 c hc) (nm_r (nI_1 i) (nxt 1 (by omega) ⟨fun _ => Or.inr ⟨h0', e2⟩, fun _ => rfl⟩))) (fun e2 => nm_r (bo_0 c hc) (nm_r (nI_1 i) (nxt c hc ⟨fun z => Or.inl z, fun z => z.elim id (fun w => absurd w.2 e2)⟩)))
theorem i_vc_pack {k : Nat} {u : SX} {v : SY} (I : i_Rel k u v) (hk : k + 3 ≤ 1536) (v1 : Int32) (v2 : Int32) : wpX_pack (fun r u' => wpY_pack (fun r' v' => r' = r ∧ i_Rel (k + 3) u' v') v v1 v2) u v1 v2 := by
  obtain ⟨g, ac, ah, lf, pl, nm, aM, aB, aC, aZ, aN, aT, aS, aI, aH, aD, hI, hR, rfl, rfl⟩ := I
  have same : ∀ ac ah lf pl nm aD, i_Rel (k + 3) (vx_S g ac ah) (vy_S g lf pl nm aM aB aC aZ aN aT aS aI aH aD) := fun _ _ _ _ _ _ => vz_mk hI hR
  unfold wpX_pack vx_S
  by_cases hx : v1 < 0 ∨ nI 4 ≤ v1
  · refine vx_isDisk0 hx (br_t rfl ?_)
    unfold wpY_pack vy_S
    exact vy_out1 4 (by omega) hx (br_f (by decide) ⟨rfl, same _ _ _ _ _ _⟩)
  · rcases pk_ix v1 (n := 4) (by decide) with h | h | ⟨a, ha, rfl⟩
    · exact absurd (Or.inl h) hx
    · exact absurd (Or.inr h) hx
    · refine vx_isDisk1 ha (br_f (by decide) ?_)
      by_cases hx2 : v2 < 0 ∨ nI 4 ≤ v2
      · refine vx_isDisk0 hx2 (br_t rfl ?_)
        unfold wpY_pack vy_S
        exact vy_out0 4 ha (by omega) (br_t rfl (vy_out1 4 (by omega) hx2 (br_f (by decide) ⟨rfl, same _ _ _ _ _ _⟩)))
      · rcases pk_ix v2 (n := 4) (by decide) with h | h | ⟨b, hb, rfl⟩
        · exact absurd (Or.inl h) hx2
        · exact absurd (Or.inr h) hx2
        · have hia : vp_in (nI a) 4 := vp_in_nI ha (by decide)
          have hib : vp_in (nI b) 4 := vp_in_nI hb (by decide)
          refine vx_isDisk1 hb (br_f (by decide) ?_)
          refine pk_eq a b (fun e => ?_) (fun hab => ?_)
          · unfold wpY_pack vy_S
            exact vy_out0 4 ha (by omega) (br_t rfl (vy_out0 4 hb (by omega) (br_t rfl (br_t (by rw [e]) ⟨rfl, same _ _ _ _ _ _⟩))))
          · have hmm := (hR.1 b hb).1
            have YY : ∀ (post : Int32 → SY → Prop), ((g.mo b ≠ 0 ∨ ∃ h, h < 5 ∧ g.oF h ≠ 0 ∧ g.oF h / 10 = a) → post (-8) (vy_S g lf pl nm aM aB aC aZ aN aT aS aI aH aD)) → (¬ (g.mo b ≠ 0 ∨ ∃ h, h < 5 ∧ g.oF h ≠ 0 ∧ g.oF h / 10 = a) → post 0 (vy_S (vg_pck g a b 10) lf pl nm aM aB (vg_cb aC 10 a b 10) (vg_cb aZ 10 a b 10) (vg_cb aN 60 a b 60) (vg_ct aT a b 60) (vg_cb aS 50 a b 50) (vg_cp aI 200 a b 200) aH aD)) → wpY_pack post (vy_S g lf pl nm aM aB aC aZ aN aT aS aI aH aD) (nI a) (nI b) := by
              intro post h1 h0
              have go : ∀ c, c < 2 → (c = 1 ↔ g.mo b ≠ 0) → wY_pack_34 post (nI a) (nI b) (vg_tv g.tp) (nI g.cu) lf pl nm (vg_cv g.fm) (vg_cv g.de) (vg_cv g.ro) aM aB (vg_cv g.ki) aC aZ (vg_cv g.wp) aN aT aS aI (vg_cv g.dr) (vg_cv g.dl) aH (vg_cv g.po) (vg_cv g.oH) aD 6 (nI c) (nI 0) := by
                intro c hc hcm
                refine vy_pk34 hI hR.2.2.2.2 ha hb hab hI.1.1 5 0 c (by omega) hc (fun hz => h1 ?_) (fun hz => h0 (fun hz2 => hz ?_))
                · rcases hz with z | ⟨h, _, a2, a3⟩
                  · exact Or.inl (hcm.mp z)
                  · exact Or.inr ⟨h, a2, a3⟩
                · rcases hz2 with z | ⟨h, a2, a3⟩
                  · exact Or.inl (hcm.mpr z)
                  · exact Or.inr ⟨h, Nat.zero_le _, a2, a3⟩
              unfold wpY_pack vy_S
              refine vy_out0 4 ha (by omega) (br_t rfl (vy_out0 4 hb (by omega) (br_t rfl (br_f (fun z => hab ((nI_eq (by omega) (by omega)).mp z)) ⟨hib, ?_⟩))))
              by_cases em : g.mo b = 0
              · rw [if_pos em] at hmm
                exact nm_r (e' := nI 0) (by rw [nI_clamp (by omega), hmm]; rfl) ⟨6, go 0 (by omega) ⟨fun z => by omega, fun z => absurd em z⟩⟩
              · rw [if_neg em] at hmm
                exact nm_r (e' := nI 1) (by rw [nI_clamp (by omega), hmm]; rfl) ⟨6, go 1 (by omega) ⟨fun _ => em, fun _ => rfl⟩⟩
            refine vx_isMounted (g := g) (ac := ac) (ah := ah) hI hb (fun hm => br_t rfl ?_) (fun hm => br_f (by decide) ?_)
            · refine vx_hasOpen (g := g) (ac := ac) (ah := ah) hI ha (fun ho => br_f (by decide) ?_) (fun ho => br_t rfl ⟨hia, hib, nm_r (e' := vg_cv (vg_un g.fm b (g.fm a))) (by rw [cv_at (by omega)]; exact cv_uI (by omega)) ⟨hib, nm_r (e' := vg_cv (vg_un g.ro b 1)) (by rw [vn_bo1]; exact cv_uI (x := 1) (by omega)) ⟨hib, nm_r (e' := vg_cv (vg_un g.de b 0)) (cv_uI (x := 0) (by omega)) ?_⟩⟩⟩)
              · exact YY _ (fun _ => ⟨rfl, same _ _ _ _ _ _⟩) (fun z => absurd (Or.inr ho) z)
              · refine vx_pck (g := g) (ac := ac) (ah := ah) hI ha hb hab ?_
                refine YY _ (fun z => absurd z (fun y => y.elim (fun w => w hm) (fun ⟨h, a1, a2, a3⟩ => ho h a1 a2 a3))) (fun _ => ⟨rfl, ?_⟩)
                exact vz_mk (iv_pck hI ha hb hab hm) ⟨hR.1, yr_pck_d hI hR.2.1 ha hb, yr_pck_f hI hR.2.2.1 ha hb, yr_pck_l hI hR.2.2.2.1 ha hb, hR.2.2.2.2⟩
            · exact YY _ (fun _ => ⟨rfl, same _ _ _ _ _ _⟩) (fun z => absurd (Or.inl hm) z)
end VZ52
