section VZ51
variable {g : vg_G} {ac : Int32} {ah : Nat → Int32} {lf pl nm : Int32} {aM aB aC aZ aN aT aS aI aH aD : Nat → Int32}
theorem vy_cp158 {post : SY → Prop} {o p : Nat} {I0 : Nat → Int32} (ho : o < 40) (hp : p < 40) (hop : o ≠ p) : ∀ r i a, i + r = 20 → (∀ x, x < 20 → a (20 * o + x) = I0 (20 * o + x)) → post (vy_S g lf pl nm aM aB aC aZ aN aT aS (vg_fl a (fun j => I0 (j - 20 * p + 20 * o)) (20 * p + i) (20 * p + 20)) aH aD) → wY_copy_158 post (nI o) (nI p) (vg_tv g.tp) (nI g.cu) lf pl nm (r + 1) (nI i) (vg_cv g.fm) (vg_cv g.de) (vg_cv g.ro) aM aB (vg_cv g.ki) aC aZ (vg_cv g.wp) aN aT aS a (vg_cv g.dr) (vg_cv g.dl) aH (vg_cv g.po) (vg_cv g.oH) aD := by
  intro r
  induction r with
  | zero =>
    intro i a hi _ h
    have e : i = 20 := by omega
    subst e
    rw [fl_nil (Nat.le_refl _)] at h
    exact br_t (by decide) h
  | succ r ih =>
    intro i a hi hH h
    have eO : 20 * nI o + nI i = nI (20 * o + i) := by rw [vn_ml20, nI_add]
    have eP : 20 * nI p + nI i = nI (20 * p + i) := by rw [vn_ml20, nI_add]
    have e9 : 20 * p + i - 20 * p + 20 * o = 20 * o + i := by omega
    refine br_f (fun z => by have := (vn_ge20 (by omega)).mp z; omega) ⟨by rw [eO]; exact vp_in_nI (by omega) (by decide), by rw [eP]; exact vp_in_nI (by omega) (by decide), nm_r (e' := vg_ug a (20 * p + i) (I0 (20 * o + i))) (by rw [eO, eP, nI_clamp (n := 20 * p + i) (by omega), nI_clamp (n := 20 * o + i) (by omega), hH i (by omega)]; rfl) (nm_r (nI_1 i) (ih (i + 1) _ (by omega) (fun x hx => ?_) ?_))⟩
    · show (if 20 * o + x = 20 * p + i then I0 (20 * o + i) else a (20 * o + x)) = _
      rw [if_neg (by omega)]
      exact hH x hx
    · have h2 := fl_step (f := a) (h := fun j => I0 (j - 20 * p + 20 * o)) (a := 20 * p + i) (b := 20 * p + 20) (by omega)
      (try dsimp only at h2)
      rw [e9] at h2
      rw [← Nat.add_assoc, h2]
      exact h
theorem vy_cp125 {post : SY → Prop} {o p : Nat} {S0 : Nat → Int32} (ho : o < 40) (hp : p < 40) (hop : o ≠ p) : ∀ r i a, i + r = 5 → (∀ x, x < 5 → a (5 * o + x) = S0 (5 * o + x)) → post (vy_S g lf pl nm aM aB aC aZ aN aT (vg_fl a (fun j => vp_nar .byte (S0 (j - 5 * p + 5 * o))) (5 * p + i) (5 * p + 5)) (vg_fl aI (fun j => aI (j - 20 * p + 20 * o)) (20 * p + 0) (20 * p + 20)) aH aD) → wY_copy_125 post (nI o) (nI p) (vg_tv g.tp) (nI g.cu) lf pl nm (r + 1) (nI i) (vg_cv g.fm) (vg_cv g.de) (vg_cv g.ro) aM aB (vg_cv g.ki) aC aZ (vg_cv g.wp) aN aT a aI (vg_cv g.dr) (vg_cv g.dl) aH (vg_cv g.po) (vg_cv g.oH) aD := by
  intro r
  induction r with
  | zero =>
    intro i a hi _ h
    have e : i = 5 := by omega
    subst e
    rw [fl_nil (f := a) (Nat.le_refl _)] at h
    exact br_t (by decide) ⟨21, vy_cp158 (g := g) (lf := lf) (pl := pl) (nm := nm) (aD := aD) (I0 := aI) ho hp hop 20 0 aI (by omega) (fun _ _ => rfl) h⟩
  | succ r ih =>
    intro i a hi hH h
    have eO : 5 * nI o + nI i = nI (5 * o + i) := by rw [vn_ml5, nI_add]
    have eP : 5 * nI p + nI i = nI (5 * p + i) := by rw [vn_ml5, nI_add]
    have e9 : 5 * p + i - 5 * p + 5 * o = 5 * o + i := by omega
    refine br_f (fun z => by have := (vn_ge5 (by omega)).mp z; omega) ⟨by rw [eO]; exact vp_in_nI (by omega) (by decide), by rw [eP]; exact vp_in_nI (by omega) (by decide), nm_r (e' := vg_ug a (5 * p + i) (vp_nar .byte (S0 (5 * o + i)))) (by rw [eO, eP, nI_clamp (n := 5 * p + i) (by omega), nI_clamp (n := 5 * o + i) (by omega), hH i (by omega)]; rfl) (nm_r (nI_1 i) (ih (i + 1) _ (by omega) (fun x hx => ?_) ?_))⟩
    · show (if 5 * o + x = 5 * p + i then vp_nar .byte (S0 (5 * o + i)) else a (5 * o + x)) = _
      rw [if_neg (by omega)]
      exact hH x hx
    · have h2 := fl_step (f := a) (h := fun j => vp_nar .byte (S0 (j - 5 * p + 5 * o))) (a := 5 * p + i) (b := 5 * p + 5) (by omega)
      (try dsimp only at h2)
      rw [e9] at h2
      rw [← Nat.add_assoc, h2]
      exact h
theorem nar_b8 (z : Int32) : vp_nar .byte z.toInt8.toInt32 = vp_nar .byte z := by
  rw [vp_nar_byte, vp_nar_byte]
  simp
theorem vy_cp50 {post : SY → Prop} {o p : Nat} {N0 T0 : Nat → Int32} (ho : o < 40) (hp : p < 40) (hop : o ≠ p) : ∀ r i a t, i + r = 6 → (∀ x, x < 6 → a (6 * o + x) = N0 (6 * o + x)) → (∀ x, x < 6 → t (6 * o + x) = T0 (6 * o + x)) → post (vy_S g lf pl nm aM aB aC aZ (vg_fl a (fun j => vp_nar .byte (N0 (j - 6 * p + 6 * o))) (6 * p + i) (6 * p + 6)) (vg_fl t (fun j => vp_nar .byte (T0 (j - 6 * p + 6 * o) - nI (10 * (o / 10)) + nI (10 * (p / 10)))) (6 * p + i) (6 * p + 6)) (vg_fl aS (fun j => vp_nar .byte (aS (j - 5 * p + 5 * o))) (5 * p + 0) (5 * p + 5)) (vg_fl aI (fun j => aI (j - 20 * p + 20 * o)) (20 * p + 0) (20 * p + 20)) aH aD) → wY_copy_50 post (nI o) (nI p) (vg_tv g.tp) (nI g.cu) lf pl nm (r + 1) (nI i) (vg_cv g.fm) (vg_cv g.de) (vg_cv g.ro) aM aB (vg_cv g.ki) aC aZ (vg_cv g.wp) a t aS aI (vg_cv g.dr) (vg_cv g.dl) aH (vg_cv g.po) (vg_cv g.oH) aD := by
  intro r
  induction r with
  | zero =>
    intro i a t hi _ _ h
    have e : i = 6 := by omega
    subst e
    rw [fl_nil (f := a) (Nat.le_refl _), fl_nil (f := t) (Nat.le_refl _)] at h
    exact br_t (by decide) ⟨6, vy_cp125 (g := g) (lf := lf) (pl := pl) (nm := nm) (aD := aD) (S0 := aS) ho hp hop 5 0 aS (by omega) (fun _ _ => rfl) h⟩
  | succ r ih =>
    intro i a t hi hN hT h
    have eO := vn_i6 o i
    have eP := vn_i6 p i
    have e9 : 6 * p + i - 6 * p + 6 * o = 6 * o + i := by omega
    have i1 : vp_in (6 * nI o + nI i) 240 := by rw [eO]; exact vp_in_nI (by omega) (by decide)
    have i2 : vp_in (6 * nI p + nI i) 240 := by rw [eP]; exact vp_in_nI (by omega) (by decide)
    refine br_f (fun z => by have := (vn_ge6 (by omega)).mp z; omega) ⟨i1, i2, nm_r (e' := vg_ug a (6 * p + i) (vp_nar .byte (N0 (6 * o + i)))) (by rw [eO, eP, nI_clamp (n := 6 * p + i) (by omega), nI_clamp (n := 6 * o + i) (by omega), hN i (by omega)]; rfl) ⟨i1, vz_10, vz_10, i2, nm_r (e' := vg_ug t (6 * p + i) (vp_nar .byte (T0 (6 * o + i) - nI (10 * (o / 10)) + nI (10 * (p / 10))))) (by rw [eO, eP, nI_clamp (n := 6 * p + i) (by omega), nI_clamp (n := 6 * o + i) (by omega), hT i (by omega), vn_d10 (by omega), vn_d10 (by omega), vn_c10, vn_c10, nar_b8]; rfl) (nm_r (nI_1 i) (ih (i + 1) _ _ (by omega) (fun x hx => ?_) (fun x hx => ?_) ?_))⟩⟩
    · show (if 6 * o + x = 6 * p + i then vp_nar .byte (N0 (6 * o + i)) else a (6 * o + x)) = _
      rw [if_neg (by omega)]
      exact hN x hx
    · show (if 6 * o + x = 6 * p + i then vp_nar .byte (T0 (6 * o + i) - nI (10 * (o / 10)) + nI (10 * (p / 10))) else t (6 * o + x)) = _
      rw [if_neg (by omega)]
      exact hT x hx
    · have h2 := fl_step (f := a) (h := fun j => vp_nar .byte (N0 (j - 6 * p + 6 * o))) (a := 6 * p + i) (b := 6 * p + 6) (by omega)
      have h3 := fl_step (f := t) (h := fun j => vp_nar .byte (T0 (j - 6 * p + 6 * o) - nI (10 * (o / 10)) + nI (10 * (p / 10)))) (a := 6 * p + i) (b := 6 * p + 6) (by omega)
      (try dsimp only at h2)
      (try dsimp only at h3)
      rw [e9] at h2 h3
      rw [← Nat.add_assoc, h2, h3]
      exact h
theorem vy_copy {post : SY → Prop} {o p : Nat} (ho : o < 40) (hp : p < 40) (hop : o ≠ p) (hk : g.ki o < 128) (hw : g.wp o < 128) (h : post (vy_S (vg_cpo g o p) lf pl nm aM aB (upd aC p (vp_nar .byte (aC o))) (upd aZ p (vp_nar .byte (aZ o))) (vg_fl aN (fun j => vp_nar .byte (aN (j - 6 * p + 6 * o))) (6 * p + 0) (6 * p + 6)) (vg_fl aT (fun j => vp_nar .byte (aT (j - 6 * p + 6 * o) - nI (10 * (o / 10)) + nI (10 * (p / 10)))) (6 * p + 0) (6 * p + 6)) (vg_fl aS (fun j => vp_nar .byte (aS (j - 5 * p + 5 * o))) (5 * p + 0) (5 * p + 5)) (vg_fl aI (fun j => aI (j - 20 * p + 20 * o)) (20 * p + 0) (20 * p + 20)) aH aD)) : wpY_copy post (vy_S g lf pl nm aM aB aC aZ aN aT aS aI aH aD) (nI o) (nI p) := by
  have hio : vp_in (nI o) 40 := vp_in_nI ho (by decide)
  have hip : vp_in (nI p) 40 := vp_in_nI hp (by decide)
  unfold wpY_copy vy_S
  refine ⟨hio, hip, nm_r (e' := vg_cv (vg_un g.ki p (g.ki o))) (by rw [cv_at (k := o) (by omega), vn_nb hk]; exact cv_uI (by omega)) ⟨hio, hip, nm_r (e' := upd aC p (vp_nar .byte (aC o))) (by rw [nI_clamp (n := p) (by omega), nI_clamp (n := o) (by omega)]) ⟨hio, hip, nm_r (e' := upd aZ p (vp_nar .byte (aZ o))) (by rw [nI_clamp (n := p) (by omega), nI_clamp (n := o) (by omega)]) ⟨hio, hip, nm_r (e' := vg_cv (vg_un g.wp p (g.wp o))) (by rw [cv_at (k := o) (by omega), vn_nb hw]; exact cv_uI (by omega)) ⟨7, ?_⟩⟩⟩⟩⟩
  exact vy_cp50 (g := vg_cpo g o p) (lf := lf) (pl := pl) (nm := nm) (aD := aD) (N0 := aN) (T0 := aT) ho hp hop 6 0 aN aT (by omega) (fun _ _ => rfl) (fun _ _ => rfl) h
/-! the arrays, one object further -/
theorem cb_u {x : Nat → Int32} {a b i : Nat} (ha : a < 4) (hb : b < 4) (hab : a ≠ b) (hi : i < 10) : upd (vg_cb x 10 a b i) (10 * b + i) (vp_nar .byte (vg_cb x 10 a b i (10 * a + i))) = vg_cb x 10 a b (i + 1) := by
  funext j
  rw [up_ap, cb_ap, cb_ap, cb_ap, if_neg (show ¬ (10 * b ≤ 10 * a + i ∧ 10 * a + i < 10 * b + i) by omega)]
  by_cases e : j = 10 * b + i
  · rw [if_pos e, if_pos (by omega), e, show 10 * b + i - 10 * b + 10 * a = 10 * a + i by omega]
  · rw [if_neg e]
    by_cases e1 : 10 * b ≤ j ∧ j < 10 * b + i
    · rw [if_pos e1, if_pos (by omega)]
    · rw [if_neg e1, if_neg (by omega)]
theorem cb_f {x : Nat → Int32} {a b i s S : Nat} (hS : S = 10 * s) (ha : a < 4) (hb : b < 4) (hab : a ≠ b) (hi : i < 10) (hs : s = 5 ∨ s = 6) : vg_fl (vg_cb x S a b (s * i)) (fun j => vp_nar .byte (vg_cb x S a b (s * i) (j - s * (10 * b + i) + s * (10 * a + i)))) (s * (10 * b + i) + 0) (s * (10 * b + i) + s) = vg_cb x S a b (s * (i + 1)) := by
  subst hS
  funext j
  rw [fl_ap]
  (try dsimp only)
  rw [cb_ap, cb_ap, cb_ap]
  rcases hs with e | e
  · subst e
    by_cases e : 5 * (10 * b + i) + 0 ≤ j ∧ j < 5 * (10 * b + i) + 5
    · rw [if_pos e, if_neg (by omega), if_pos (by omega), show j - 5 * (10 * b + i) + 5 * (10 * a + i) = j - 10 * 5 * b + 10 * 5 * a by omega]
    · rw [if_neg e]
      by_cases e1 : 10 * 5 * b ≤ j ∧ j < 10 * 5 * b + 5 * i
      · rw [if_pos e1, if_pos (by omega)]
      · rw [if_neg e1, if_neg (by omega)]
  · subst e
    by_cases e : 6 * (10 * b + i) + 0 ≤ j ∧ j < 6 * (10 * b + i) + 6
    · rw [if_pos e, if_neg (by omega), if_pos (by omega), show j - 6 * (10 * b + i) + 6 * (10 * a + i) = j - 10 * 6 * b + 10 * 6 * a by omega]
    · rw [if_neg e]
      by_cases e1 : 10 * 6 * b ≤ j ∧ j < 10 * 6 * b + 6 * i
      · rw [if_pos e1, if_pos (by omega)]
      · rw [if_neg e1, if_neg (by omega)]
theorem ct_f {x : Nat → Int32} {a b i : Nat} (ha : a < 4) (hb : b < 4) (hab : a ≠ b) (hi : i < 10) : vg_fl (vg_ct x a b (6 * i)) (fun j => vp_nar .byte (vg_ct x a b (6 * i) (j - 6 * (10 * b + i) + 6 * (10 * a + i)) - nI (10 * ((10 * a + i) / 10)) + nI (10 * ((10 * b + i) / 10)))) (6 * (10 * b + i) + 0) (6 * (10 * b + i) + 6) = vg_ct x a b (6 * (i + 1)) := by
  funext j
  rw [fl_ap]
  (try dsimp only)
  rw [ct_ap, ct_ap, ct_ap, show (10 * a + i) / 10 = a by omega, show (10 * b + i) / 10 = b by omega]
  by_cases e : 6 * (10 * b + i) + 0 ≤ j ∧ j < 6 * (10 * b + i) + 6
  · rw [if_pos e, if_neg (by omega), if_pos (by omega), show j - 6 * (10 * b + i) + 6 * (10 * a + i) = j - 60 * b + 60 * a by omega]
  · rw [if_neg e]
    by_cases e1 : 60 * b ≤ j ∧ j < 60 * b + 6 * i
    · rw [if_pos e1, if_pos (by omega)]
    · rw [if_neg e1, if_neg (by omega)]
theorem cp_f {x : Nat → Int32} {a b i : Nat} (ha : a < 4) (hb : b < 4) (hab : a ≠ b) (hi : i < 10) : vg_fl (vg_cp x 200 a b (20 * i)) (fun j => vg_cp x 200 a b (20 * i) (j - 20 * (10 * b + i) + 20 * (10 * a + i))) (20 * (10 * b + i) + 0) (20 * (10 * b + i) + 20) = vg_cp x 200 a b (20 * (i + 1)) := by
  funext j
  rw [fl_ap]
  (try dsimp only)
  rw [cp_ap, cp_ap, cp_ap]
  by_cases e : 20 * (10 * b + i) + 0 ≤ j ∧ j < 20 * (10 * b + i) + 20
  · rw [if_pos e, if_neg (by omega), if_pos (by omega), show j - 20 * (10 * b + i) + 20 * (10 * a + i) = j - 200 * b + 200 * a by omega]
  · rw [if_neg e]
    by_cases e1 : 200 * b ≤ j ∧ j < 200 * b + 20 * i
    · rw [if_pos e1, if_pos (by omega)]
    · rw [if_neg e1, if_neg (by omega)]
theorem vy_pckL {post : Int32 → SY → Prop} {a b : Nat} (hk : ∀ j, g.ki j ≤ 3) (hw : ∀ j, g.wp j < 32) (ha : a < 4) (hb : b < 4) (hab : a ≠ b) (h : post 0 (vy_S (vg_pck g a b 10) lf pl nm aM aB (vg_cb aC 10 a b 10) (vg_cb aZ 10 a b 10) (vg_cb aN 60 a b 60) (vg_ct aT a b 60) (vg_cb aS 50 a b 50) (vg_cp aI 200 a b 200) aH aD)) : ∀ r i, i + r = 10 → wY_pack_112 post (nI a) (nI b) (r + 1) (nI i) (vg_tv (vg_pck g a b i).tp) (nI (vg_pck g a b i).cu) lf pl nm (vg_cv (vg_pck g a b i).fm) (vg_cv (vg_pck g a b i).de) (vg_cv (vg_pck g a b i).ro) aM aB (vg_cv (vg_pck g a b i).ki) (vg_cb aC 10 a b i) (vg_cb aZ 10 a b i) (vg_cv (vg_pck g a b i).wp) (vg_cb aN 60 a b (6 * i)) (vg_ct aT a b (6 * i)) (vg_cb aS 50 a b (5 * i)) (vg_cp aI 200 a b (20 * i)) (vg_cv (vg_pck g a b i).dr) (vg_cv (vg_pck g a b i).dl) aH (vg_cv (vg_pck g a b i).po) (vg_cv (vg_pck g a b i).oH) aD := by
  intro r
  induction r with
  | zero =>
    intro i hi
    have e : i = 10 := by omega
    subst e
    exact br_t (by decide) h
  | succ r ih =>
    intro i hi
    have e1 : 10 * nI a + nI i = nI (10 * a + i) := by rw [vn_ml10, nI_add]
    have e2 : 10 * nI b + nI i = nI (10 * b + i) := by rw [vn_ml10, nI_add]
    refine br_f (fun z => by have := (vn_ge10 (by omega)).mp z; omega) ?_
    rw [e1, e2]
    refine vy_copy (g := vg_pck g a b i) (lf := lf) (pl := pl) (nm := nm) (aD := aD) (by omega) (by omega) (by omega) ?_ ?_ ?_
    · rw [pck_ki]
      (try dsimp only)
      have h1 := hk (10 * a + i - 10 * b + 10 * a)
      have h2 := hk (10 * a + i)
      split <;> omega
    · rw [pck_wp]
      (try dsimp only)
      have h1 := hw (10 * a + i - 10 * b + 10 * a)
      have h2 := hw (10 * a + i)
      split <;> omega
    · rw [pck_st ha hb hab (by omega), cb_u ha hb hab (by omega), cb_u ha hb hab (by omega), cb_f (s := 6) (S := 60) rfl ha hb hab (by omega) (Or.inr rfl), ct_f ha hb hab (by omega), cb_f (s := 5) (S := 50) rfl ha hb hab (by omega) (Or.inl rfl), cp_f ha hb hab (by omega)]
      exact nm_r (nI_1 i) (ih (i + 1) (by omega))
end VZ51
