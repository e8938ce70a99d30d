section VY21
variable {g : vg_G} {lf pl nm : Int32} {aM aB aC aZ aN aT aS aI aH aD : Nat → Int32}
theorem vn_rem7 {a : Nat} (h : a < 2147483648) : nI a - nI a / 7 * 7 = nI (a % 7) := pk_rem (d := 7) h (by decide) (by decide)
theorem vy_parI {post : Int32 → Prop} {J : Int32 → Prop} {p x : Nat} (hI : iv_I g) (hY : yr_d g aC aN aT) (hp : p < 40) (hk : g.ki p = 1) :
    ∀ r i, i + r = g.sz p → ((∃ j, i ≤ j ∧ j < g.sz p ∧ aT (6 * p + j) = nI x) → post (nI p)) → ((∀ j, i ≤ j → j < g.sz p → aT (6 * p + j) ≠ nI x) → J (nI (p + 1))) → wY_parent_27 post J (nI x) (nI p) (vg_tv g.tp) (nI g.cu) lf pl nm (vg_cv g.fm) (vg_cv g.de) (vg_cv g.ro) aM aB (vg_cv g.ki) aC aZ (vg_cv g.wp) aN aT aS aI (vg_cv g.dr) (vg_cv g.dl) aH (vg_cv g.po) (vg_cv g.oH) aD (r + 1) (nI (6 * p + i)) := by
  have hs := (hI.2.2.2.2.1 p hp hk).2
  have hc := (hY p hp hk).1
  have hi : vp_in (nI p) 40 := vp_in_nI hp (by decide)
  have eN : 6 * nI p + aC (nI p).toNatClampNeg = nI (6 * p + g.sz p) := by rw [nI_clamp (by omega), hc, vn_i6]
  have eK : vg_cv g.ki (nI p).toNatClampNeg = 1 := by rw [nI_clamp (by omega), cv_ap, hk]; rfl
  intro r
  induction r with
  | zero =>
    intro i hi2 _ h0
    refine ⟨hi, br_t ?_ (nm_r (nI_1 p) (h0 (fun j a b => by omega)))⟩
    rw [eN]
    exact (nI_leI (by omega) (by omega)).mpr (by omega)
  | succ r ih =>
    intro i hi2 h1 h0
    refine ⟨hi, br_f ?_ ⟨hi, br_t eK ⟨vp_in_nI (by omega) (by decide), ?_⟩⟩⟩
    · rw [eN]
      intro z
      have := (nI_leI (by omega) (by omega)).mp z
      omega
    · rw [nI_clamp (by omega)]
      refine br_c (fun e => h1 ⟨i, Nat.le_refl _, by omega, e⟩) (fun e => nm_r (nI_1 _) (ih (i + 1) (by omega) (fun ⟨j, a, b, c⟩ => h1 ⟨j, by omega, b, c⟩) (fun h => h0 (fun j a b => ?_))))
      by_cases ej : j = i
      · subst ej; exact e
      · exact h j (by omega) b
theorem si_pos {p x : Nat} (hI : iv_I g) (hY : yr_d g aC aN aT) (hp : p < 40) (hk : g.ki p = 1) (hx : x < 40) (hx0 : x ≠ 0) : (∃ j, j < g.sz p ∧ aT (6 * p + j) = nI x) ↔ 0 < vg_dc g.nd p x := by
  rw [← si_dc hI hY hp hk hx hx0]
  constructor
  · intro ⟨j, hj, e⟩
    have := sm_mem (f := fun i => if aT (6 * p + i) = nI x then 1 else 0) hj
    (try dsimp only at this)
    rw [if_pos e] at this
    exact this
  · intro h
    obtain ⟨j, hj, h1⟩ := sm_pos h
    (try dsimp only at h1)
    by_cases e : aT (6 * p + j) = nI x
    · exact ⟨j, hj, e⟩
    · rw [if_neg e] at h1; omega
theorem vy_parL {post : Int32 → Prop} {x : Nat} (hI : iv_I g) (hY : yr_d g aC aN aT) (hx : x < 40) (hx0 : x % 10 ≠ 0) (hk : g.ki x = 1) (h : post (nI (vg_par g.ki g.nd x))) :
    ∀ d i, i + d = 10 → i ≤ vg_fs (fun i => decide (g.ki (10 * (x / 10) + i) = 1 ∧ 0 < vg_dc g.nd (10 * (x / 10) + i) x)) 10 0 → wY_parent_8 post (nI x) (vg_tv g.tp) (nI g.cu) lf pl nm (vg_cv g.fm) (vg_cv g.de) (vg_cv g.ro) aM aB (vg_cv g.ki) aC aZ (vg_cv g.wp) aN aT aS aI (vg_cv g.dr) (vg_cv g.dl) aH (vg_cv g.po) (vg_cv g.oH) aD (d + 1) (nI (10 * (x / 10) + i)) := by
  have hpar := par_sp hI hx hx0 hk
  have hf : vg_fs (fun i => decide (g.ki (10 * (x / 10) + i) = 1 ∧ 0 < vg_dc g.nd (10 * (x / 10) + i) x)) 10 0 < 10 := by
    have := hpar.2.1
    unfold vg_par at this
    omega
  have eX : nI x / 10 * 10 + 10 = nI (10 * (x / 10) + 10) := by rw [vn_d10 (by omega), vn_c10, vn_ar10]
  intro d
  induction d with
  | zero =>
    intro i hi hle
    omega
  | succ d ih =>
    intro i hi hle
    have hkb := hI.1.2.2.2.2.2.2.1 (10 * (x / 10) + i)
    have nxt : ¬ (g.ki (10 * (x / 10) + i) = 1 ∧ 0 < vg_dc g.nd (10 * (x / 10) + i) x) → wY_parent_8 post (nI x) (vg_tv g.tp) (nI g.cu) lf pl nm (vg_cv g.fm) (vg_cv g.de) (vg_cv g.ro) aM aB (vg_cv g.ki) aC aZ (vg_cv g.wp) aN aT aS aI (vg_cv g.dr) (vg_cv g.dl) aH (vg_cv g.po) (vg_cv g.oH) aD (d + 1) (nI (10 * (x / 10) + i + 1)) := by
      intro hn
      rw [Nat.add_assoc]
      refine ih (i + 1) (by omega) ?_
      apply Classical.byContradiction
      intro hlt
      have e2 : vg_fs (fun i => decide (g.ki (10 * (x / 10) + i) = 1 ∧ 0 < vg_dc g.nd (10 * (x / 10) + i) x)) 10 0 = i := by omega
      have h3 := of_decide_eq_true (fs_sp (P := fun i => decide (g.ki (10 * (x / 10) + i) = 1 ∧ 0 < vg_dc g.nd (10 * (x / 10) + i) x)) (k := 10) (i := 0) (by omega))
      rw [e2] at h3
      exact hn h3
    refine ⟨vz_10, br_f ?_ (nm_r (vn_ml6 _) ?_)⟩
    · rw [eX]
      intro z
      have := (nI_leI (by omega) (by omega)).mp z
      omega
    · by_cases hkp : g.ki (10 * (x / 10) + i) = 1
      · refine ⟨_, vy_parI hI hY (by omega) hkp (g.sz (10 * (x / 10) + i)) 0 (by omega) (fun ⟨j, _, b, c⟩ => ?_) (fun hno => nxt (fun z => ?_))⟩
        · have hd := (si_pos hI hY (by omega) hkp hx (by omega)).mp ⟨j, b, c⟩
          have e2 : vg_fs (fun i => decide (g.ki (10 * (x / 10) + i) = 1 ∧ 0 < vg_dc g.nd (10 * (x / 10) + i) x)) 10 0 ≤ i := fs_lt (Nat.zero_le _) (by omega) (decide_eq_true ⟨hkp, hd⟩)
          have e3 : 10 * (x / 10) + i = vg_par g.ki g.nd x := by unfold vg_par; omega
          rw [e3]
          exact h
        · obtain ⟨j, hj, e⟩ := (si_pos hI hY (by omega) hkp hx (by omega)).mpr z.2
          exact hno j (Nat.zero_le _) hj e
      · have hi3 : vp_in (nI (10 * (x / 10) + i)) 40 := vp_in_nI (by omega) (by decide)
        have eK : ¬ vg_cv g.ki (nI (10 * (x / 10) + i)).toNatClampNeg = 1 := by
          rw [nI_clamp (by omega), cv_ap, vn_e1 (by omega)]
          exact hkp
        exact ⟨1, hi3, br_c (fun _ => nm_r (nI_1 _) (nxt (fun z => hkp z.1))) (fun _ => ⟨hi3, br_f eK (nm_r (nI_1 _) (nxt (fun z => hkp z.1)))⟩)⟩
theorem vy_parent {post : Int32 → Prop} {x : Nat} (hI : iv_I g) (hY : yr_d g aC aN aT) (hx : x < 40) (hx0 : x % 10 ≠ 0) (hk : g.ki x = 1) (h : post (nI (vg_par g.ki g.nd x))) : wpY_parent post (vy_S g lf pl nm aM aB aC aZ aN aT aS aI aH aD) (nI x) := by
  unfold wpY_parent vy_S
  refine ⟨vz_10, nm_r (e' := nI (10 * (x / 10) + 0)) (by rw [vn_d10 (by omega), vn_c10]; rfl) ⟨_, vy_parL hI hY hx hx0 hk h 10 0 (by omega) (Nat.zero_le _)⟩⟩
theorem tv_mo {i : Nat} (hI : iv_I g) (hi : i < 4) : nI i = vg_tv g.tp ↔ g.mo i = 1 := by
  have ht := hI.2.2.2.2.2.2.2.2.2.2.2.2.2.2.1.1 i hi
  have htb := hI.1.2.2.2.2.1
  rw [ht]
  cases htp : g.tp with
  | zero =>
    rw [tv_0]
    exact ⟨fun z => ((vn_n1 (by omega)).mp z).elim, fun z => by omega⟩
  | succ k =>
    rw [tv_s, nI_eq (by omega) (by omega)]
    omega
theorem vy_above {post : Int32 → Prop} {x : Nat} (hI : iv_I g) (hR : vy_R g aM aB aC aZ aN aT aS aI aH) (hgd : vg_gd g x) (hk : g.ki x = 1) (h : post (nI (vg_ab g x))) : wpY_above post (vy_S g lf pl nm aM aB aC aZ aN aT aS aI aH aD) (nI x) := by
  have hx := hgd.1
  have low : ∀ n y, y < 40 → y % 10 ≠ 0 → g.ki y = 1 → post (nI (vg_par g.ki g.nd y)) → wY_above_2 post (vg_tv g.tp) (nI g.cu) lf pl nm (vg_cv g.fm) (vg_cv g.de) (vg_cv g.ro) aM aB (vg_cv g.ki) aC aZ (vg_cv g.wp) aN aT aS aI (vg_cv g.dr) (vg_cv g.dl) aH (vg_cv g.po) (vg_cv g.oH) aD (n + 1) (nI y) := by
    intro n y hy hy0 hky hp
    have e : ¬ nI y - nI y / 10 * 10 = 0 := by
      rw [vn_rem10 (by omega), vn_e0 (by omega)]
      exact hy0
    refine ⟨vz_10, br_f e ?_⟩
    unfold wY_above_33
    exact ⟨vz_10, br_f e (vy_parent (lf := lf) (pl := pl) (nm := nm) (aD := aD) hI hR.2.1 hy hy0 hky hp)⟩
  unfold wpY_above vy_S
  unfold vg_ab at h
  by_cases e0 : x % 10 = 0
  · rw [if_pos e0] at h
    have e : nI x - nI x / 10 * 10 = 0 := by
      rw [vn_rem10 (by omega), e0]
      rfl
    refine ⟨2, vz_10, br_t e ⟨vz_10, ?_⟩⟩
    rw [vn_d10 (by omega)]
    by_cases e1 : g.mo (x / 10) ≤ 1
    · rw [if_pos e1] at h
      have e2 : g.mo (x / 10) = 1 := by have := hgd.2.2; omega
      refine br_t ((tv_mo hI (by omega)).mpr e2) ?_
      unfold wY_above_33
      exact ⟨vz_10, br_t e h⟩
    · rw [if_neg e1] at h
      have hm := hR.1 (x / 10) (by omega)
      have hmb := hI.1.2.2.2.1 (x / 10)
      have h1 := hI.2.2.2.2.2.2.2.2.2.2.2.2.2.2.1.2.1 (x / 10) (by omega) (by omega)
      refine br_f (fun z => e1 (by have := (tv_mo hI (by omega)).mp z; omega)) ⟨vz_10, vp_in_nI (by omega) (by decide), nm_r (e' := nI (g.mo (x / 10) - 2)) (by rw [nI_clamp (by omega)]; exact hm.2 (by omega)) ?_⟩
      exact low 0 _ (by omega) h1.1 h1.2.1 h
  · rw [if_neg e0] at h
    exact ⟨1, low 0 x hx e0 hk h⟩
def vg_fi (g : vg_G) (p n : Nat) : Int32 := if vg_eq g.fm g.nd p n = 0 then -1 else nI (6 * p + vg_bl g.nd p (vg_eq g.fm g.nd p n))
theorem vy_findL {post : Int32 → Prop} {p n z : Nat} (hI : iv_I g) (hY : yr_d g aC aN aT) (hp : p < 40) (hk : g.ki p = 1) (h1 : 1 ≤ n) (hn : n ≤ 14) (hz : z < 2) (ez : z = 1 ↔ g.fm (p / 10) = 0) (h : post (vg_fi g p n)) :
    ∀ r i, i + r = g.sz p → (vg_eq g.fm g.nd p n = 0 ∨ i ≤ vg_bl g.nd p (vg_eq g.fm g.nd p n)) → wY_find_24 post (nI p) (nI n) (nI z) (vg_tv g.tp) (nI g.cu) lf pl nm (vg_cv g.fm) (vg_cv g.de) (vg_cv g.ro) aM aB (vg_cv g.ki) aC aZ (vg_cv g.wp) aN aT aS aI (vg_cv g.dr) (vg_cv g.dl) aH (vg_cv g.po) (vg_cv g.oH) aD (r + 1) (nI (6 * p + i)) := by
  have hcn := hI.2.2.2.2.1 p hp hk
  have htb := hI.2.2.2.2.2.1
  have hc := (hY p hp hk).1
  have hi : vp_in (nI p) 40 := vp_in_nI hp (by decide)
  have eN : 6 * nI p + aC (nI p).toNatClampNeg = nI (6 * p + g.sz p) := by rw [nI_clamp (by omega), hc, vn_i6]
  unfold vg_fi at h
  intro r
  induction r with
  | zero =>
    intro i hi2 hle
    refine ⟨hi, br_t ?_ ?_⟩
    · rw [eN]
      exact (nI_leI (by omega) (by omega)).mpr (by omega)
    · by_cases e : vg_eq g.fm g.nd p n = 0
      · rw [if_pos e] at h; exact h
      · have h2 := vq_in e
        have h3 := vq_le (fm := g.fm) (nd := g.nd) (p := p) hn h1
        have h4 := bl_lt (nd := g.nd) (p := p) (m := vg_eq g.fm g.nd p n) (k := 15) (by omega) h2
        omega
  | succ r ih =>
    intro i hi2 hle
    obtain ⟨m, hm, hne, hbl⟩ := bl_at (nd := g.nd) (p := p) (i := i) (m := 15) (by omega)
    have hm1 := (hI.2.2.2.1 p m hp hk hm hne).1
    have hN := ((hY p hp hk).2 m hm hne).1
    rw [hbl] at hN
    have hq := vq_iff (g := g) (p := p) (n := n) (m := m) htb hp hk h1 hn (by omega) (by omega) hne
    have yes : vg_eq g.fm g.nd p n = m → post (nI (6 * p + i)) := by
      intro e
      rw [if_neg (by omega), e, hbl] at h
      exact h
    have no : ¬ vg_eq g.fm g.nd p n = m → wY_find_24 post (nI p) (nI n) (nI z) (vg_tv g.tp) (nI g.cu) lf pl nm (vg_cv g.fm) (vg_cv g.de) (vg_cv g.ro) aM aB (vg_cv g.ki) aC aZ (vg_cv g.wp) aN aT aS aI (vg_cv g.dr) (vg_cv g.dl) aH (vg_cv g.po) (vg_cv g.oH) aD (r + 1) (nI (6 * p + i) + 1) := by
      intro e
      rw [nI_1, Nat.add_assoc]
      refine ih (i + 1) (by omega) ?_
      rcases hle with hle | hle
      · left; exact hle
      · by_cases e2 : vg_eq g.fm g.nd p n = 0
        · left; exact e2
        · right
          have h2 := vq_in e2
          by_cases e3 : vg_bl g.nd p (vg_eq g.fm g.nd p n) = i
          · exact absurd (bl_inj h2 hne (by omega)) e
          · omega
    refine ⟨hi, br_f ?_ ⟨vp_in_nI (by omega) (by decide), ?_⟩⟩
    · rw [eN]
      intro y
      have := (nI_leI (by omega) (by omega)).mp y
      omega
    · rw [nI_clamp (by omega), hN]
      refine pk_eq m n (fun e => yes (hq.mpr (Or.inl e))) (fun e => ?_)
      refine pk_eq z 0 (fun e2 => nm_e (no (fun w => ?_))) (fun e2 => ⟨vp_in_nI (by omega) (by decide), vz_7, vz_7, ?_⟩)
      · rcases hq.mp w with w | w
        · exact e w
        · have := ez.mpr w.1; omega
      · rw [vn_s1 (by omega), vn_s1 (by omega), vn_rem7 (a := m - 1) (by omega), vn_rem7 (a := n - 1) (by omega)]
        refine pk_eq ((m - 1) % 7) ((n - 1) % 7) (fun e3 => yes (hq.mpr (Or.inr ⟨ez.mp (by omega), e3⟩))) (fun e3 => nm_e (no (fun w => ?_)))
        rcases hq.mp w with w | w
        · exact e w
        · exact e3 w.2
theorem vy_find {post : Int32 → Prop} {p n : Nat} (hI : iv_I g) (hY : yr_d g aC aN aT) (hp : p < 40) (hk : g.ki p = 1) (h1 : 1 ≤ n) (hn : n ≤ 14) (h : post (vg_fi g p n)) : wpY_find post (vy_S g lf pl nm aM aB aC aZ aN aT aS aI aH aD) (nI p) (nI n) := by
  have hf := hI.1.1 (p / 10)
  have EF : vg_cv g.fm (nI (p / 10)).toNatClampNeg = 0 ↔ g.fm (p / 10) = 0 := by
    rw [nI_clamp (by omega), cv_ap]
    exact vn_e0 (by omega)
  unfold wpY_find vy_S
  rw [vn_d10 (by omega)]
  refine ⟨vz_10, vp_in_nI (by omega) (by decide), fun ef => nm_r (vn_ml6 p) ⟨g.sz p + 1, ?_⟩, fun ef => nm_r (vn_ml6 p) ⟨g.sz p + 1, ?_⟩⟩
  · exact vy_findL (z := 1) hI hY hp hk h1 hn (by omega) ⟨fun _ => EF.mp ef, fun _ => rfl⟩ h (g.sz p) 0 (by omega) (Or.inr (Nat.zero_le _))
  · exact vy_findL (z := 0) hI hY hp hk h1 hn (by omega) ⟨fun y => by omega, fun y => absurd (EF.mpr y) ef⟩ h (g.sz p) 0 (by omega) (Or.inr (Nat.zero_le _))
/-! the plan of a way -/
theorem vy_plan_draftL {post : Int32 → SY → Prop} {b n x t lo : Nat} {f : Nat → Nat} {L : List Nat} (ht : g.tp = t + 1) (hlo : lo = 0 ∨ lo = 1) (hlon : lo ≤ n) (hf0 : lo = 1 → f 0 = 0) (hfn : ∀ i, lo ≤ i → i < n → f i ≠ 0) (hb : b + n ≤ 10) (hL : L.length + n ≤ 60) (hf : ∀ i, i < n → (vg_cv g.dr) (b + i) = nI (f i) ∧ f i ≤ 15)
    (h : ∀ a, vg_stk a (vg_sq f 0 n ++ L) → post (nI (if lo = 1 then x else 10 * t)) (vy_S g (nI (vg_sq f 0 n ++ L).length) pl nm aM aB aC aZ aN aT aS aI aH a)) :
    ∀ k j a, j = lo + k → j ≤ n → vg_stk a (vg_sq f j (n - j) ++ L) → wY_plan_40 post (nI x) 0 (nI b) (nI lo) (vg_tv g.tp) (nI g.cu) pl nm (k + 1) (nI j - 1) (nI (vg_sq f j (n - j) ++ L).length) (vg_cv g.fm) (vg_cv g.de) (vg_cv g.ro) aM aB (vg_cv g.ki) aC aZ (vg_cv g.wp) aN aT aS aI (vg_cv g.dr) (vg_cv g.dl) aH (vg_cv g.po) (vg_cv g.oH) a := by
  intro k
  induction k with
  | zero =>
    intro j a hj hjn hs
    have e : j = lo := by omega
    subst e
    have hsq : vg_sq f j (n - j) = vg_sq f 0 n := by
      rcases hlo with e | e
      · subst e; rfl
      · subst e
        rw [show n = n - 1 + 1 by omega, sq_s, if_pos (hf0 rfl)]
        rfl
    rw [hsq] at hs ⊢
    have h2 := h a hs
    rcases hlo with e | e
    · subst e
      rw [if_neg (by decide)] at h2
      refine br_t rfl ?_
      unfold wY_plan_52
      refine br_t (by decide) (br_t rfl ?_)
      have e9 : 10 * vg_tv g.tp = nI (10 * t) := by rw [ht, tv_s, vn_ml10]
      rw [e9]
      exact h2
    · subst e
      rw [if_pos rfl] at h2
      refine br_f (by decide) ?_
      unfold wY_plan_52
      exact br_t (by decide) (br_f (by decide) h2)
  | succ k ih =>
    intro j a hj hjn hs
    obtain ⟨j, rfl⟩ : ∃ i, j = i + 1 := ⟨j - 1, by omega⟩
    rw [nI_pred]
    have h1 := hf j (by omega)
    have e0 := hfn j (by omega) (by omega)
    have eI : nI b + nI j = nI (b + j) := nI_add b j
    have e1 : (vg_cv g.dr) (nI b + nI j).toNatClampNeg = nI (f j) := by rw [eI, nI_clamp (by omega)]; exact h1.1
    have hlen : (vg_sq f (j + 1) (n - (j + 1)) ++ L).length ≤ n - (j + 1) + L.length := by
      have := sq_len f (n - (j + 1)) (j + 1)
      simp only [List.length_append]
      omega
    have hs2 : vg_sq f j (n - j) = f j :: vg_sq f (j + 1) (n - (j + 1)) := by
      rw [show n - j = n - (j + 1) + 1 by omega, sq_s, if_neg e0]
    have hp := stk_push (s := f j) hs
    have e3 : f j :: (vg_sq f (j + 1) (n - (j + 1)) ++ L) = vg_sq f j (n - j) ++ L := by rw [hs2]; rfl
    have e4 : (vg_sq f (j + 1) (n - (j + 1)) ++ L).length + 1 = (vg_sq f j (n - j) ++ L).length := by rw [← e3]; rfl
    rw [e3] at hp
    have go := ih j _ (by omega) (by omega) hp
    rcases hlo with e | e
    · subst e
      refine br_t rfl ?_
      unfold wY_plan_52
      refine br_f (fun z => nI_pos (by omega) z) (nm_r (e' := nI (vg_sq f j (n - j) ++ L).length) (by rw [← e4]; exact nI_1 _) ?_)
      refine br_t rfl ⟨by rw [eI]; exact vp_in_nI (by omega) (by decide), vp_in_nI (by omega) (by decide), nm_r (e' := upd a (vg_sq f (j + 1) (n - (j + 1)) ++ L).length (nI (f j))) (by rw [nI_clamp (by omega), e1, vn_nb (by omega)]) (nm_r (vn_sub1 j) ?_)⟩
      exact go
    · subst e
      refine br_f (by decide) ?_
      unfold wY_plan_52
      refine br_f (fun z => by have := (vn_lt1 (by omega)).mp z; omega) (nm_r (e' := nI (vg_sq f j (n - j) ++ L).length) (by rw [← e4]; exact nI_1 _) ?_)
      refine br_t rfl ⟨by rw [eI]; exact vp_in_nI (by omega) (by decide), vp_in_nI (by omega) (by decide), nm_r (e' := upd a (vg_sq f (j + 1) (n - (j + 1)) ++ L).length (nI (f j))) (by rw [nI_clamp (by omega), e1, vn_nb (by omega)]) (nm_r (vn_sub1 j) ?_)⟩
      exact go
theorem vy_plan_draft {post : Int32 → SY → Prop} {b n x t : Nat} {f : Nat → Nat} {L : List Nat} (ht : g.tp = t + 1) (hfn : ∀ i, 1 ≤ i → i < n → f i ≠ 0) (hb : b + n ≤ 10) (hL : L.length + n ≤ 60) (hf : ∀ i, i < n → (vg_cv g.dr) (b + i) = nI (f i) ∧ f i ≤ 15) (hs : vg_stk aD L)
    (h : ∀ a, vg_stk a (vg_sq f 0 n ++ L) → post (nI (if 0 < n ∧ f 0 = 0 then x else 10 * t)) (vy_S g (nI (vg_sq f 0 n ++ L).length) pl nm aM aB aC aZ aN aT aS aI aH a)) :
    wpY_plan post (vy_S g (nI L.length) pl nm aM aB aC aZ aN aT aS aI aH aD) (nI x) (nI n) 0 (nI b) := by
  have hs0 : vg_stk aD (vg_sq f n (n - n) ++ L) := by rw [Nat.sub_self]; exact hs
  have el : vg_sq f n (n - n) ++ L = L := by rw [Nat.sub_self]; rfl
  unfold wpY_plan vy_S
  refine pk_le n 0 (fun z => ?_) (fun z => ?_)
  · rw [if_neg (by omega)] at h
    have := vy_plan_draftL (lo := 0) (x := x) ht (Or.inl rfl) (Nat.zero_le _) (fun w => by omega) (fun i a b => by omega) hb hL hf (fun a ha => by rw [if_neg (by decide)]; exact h a ha) n n aD (by omega) (Nat.le_refl _) hs0
    rw [el] at this
    exact nm_e ⟨_, this⟩
  · have h0 := hf 0 (by omega)
    have e1 : (vg_cv g.dr) (nI b).toNatClampNeg = nI (f 0) := by rw [nI_clamp (by omega)]; exact h0.1
    have hin : vp_in (nI b) 10 := vp_in_nI (by omega) (by decide)
    have low : wY_plan_25 post (nI x) (nI n) 0 (nI b) (nI (f 0)) (vg_tv g.tp) (nI g.cu) (nI L.length) pl nm (vg_cv g.fm) (vg_cv g.de) (vg_cv g.ro) aM aB (vg_cv g.ki) aC aZ (vg_cv g.wp) aN aT aS aI (vg_cv g.dr) (vg_cv g.dl) aH (vg_cv g.po) (vg_cv g.oH) aD := by
      unfold wY_plan_25
      refine pk_eq (f 0) 0 (fun e => ?_) (fun e => ?_)
      · rw [if_pos ⟨z, e⟩] at h
        have := vy_plan_draftL (lo := 1) (x := x) ht (Or.inr rfl) (by omega) (fun _ => e) (fun i a b => hfn i a b) hb hL hf (fun a ha => by rw [if_pos rfl]; exact h a ha) (n - 1) n aD (by omega) (Nat.le_refl _) hs0
        rw [el] at this
        exact nm_e ⟨_, this⟩
      · rw [if_neg (fun w => e w.2)] at h
        have := vy_plan_draftL (lo := 0) (x := x) ht (Or.inl rfl) (Nat.zero_le _) (fun w => by omega) (fun i a b => by
          by_cases ei : i = 0
          · subst ei; exact e
          · exact hfn i (by omega) b) hb hL hf (fun a ha => by rw [if_neg (by decide)]; exact h a ha) n n aD (by omega) (Nat.le_refl _) hs0
        rw [el] at this
        exact nm_e ⟨_, this⟩
    refine br_t rfl ⟨hin, ?_⟩
    rw [e1]
    exact low
theorem vy_plan_stepsL {post : Int32 → SY → Prop} {b n x t lo : Nat} {f : Nat → Nat} {L : List Nat} (ht : g.tp = t + 1) (hlo : lo = 0 ∨ lo = 1) (hlon : lo ≤ n) (hf0 : lo = 1 → f 0 = 0) (hfn : ∀ i, lo ≤ i → i < n → f i ≠ 0) (hb : b + n ≤ 200) (hL : L.length + n ≤ 60) (hf : ∀ i, i < n → (aS) (b + i) = nI (f i) ∧ f i ≤ 15)
    (h : ∀ a, vg_stk a (vg_sq f 0 n ++ L) → post (nI (if lo = 1 then x else 10 * t)) (vy_S g (nI (vg_sq f 0 n ++ L).length) pl nm aM aB aC aZ aN aT aS aI aH a)) :
    ∀ k j a, j = lo + k → j ≤ n → vg_stk a (vg_sq f j (n - j) ++ L) → wY_plan_40 post (nI x) 1 (nI b) (nI lo) (vg_tv g.tp) (nI g.cu) pl nm (k + 1) (nI j - 1) (nI (vg_sq f j (n - j) ++ L).length) (vg_cv g.fm) (vg_cv g.de) (vg_cv g.ro) aM aB (vg_cv g.ki) aC aZ (vg_cv g.wp) aN aT aS aI (vg_cv g.dr) (vg_cv g.dl) aH (vg_cv g.po) (vg_cv g.oH) a := by
  intro k
  induction k with
  | zero =>
    intro j a hj hjn hs
    have e : j = lo := by omega
    subst e
    have hsq : vg_sq f j (n - j) = vg_sq f 0 n := by
      rcases hlo with e | e
      · subst e; rfl
      · subst e
        rw [show n = n - 1 + 1 by omega, sq_s, if_pos (hf0 rfl)]
        rfl
    rw [hsq] at hs ⊢
    have h2 := h a hs
    rcases hlo with e | e
    · subst e
      rw [if_neg (by decide)] at h2
      refine br_t rfl ?_
      unfold wY_plan_52
      refine br_t (by decide) (br_t rfl ?_)
      have e9 : 10 * vg_tv g.tp = nI (10 * t) := by rw [ht, tv_s, vn_ml10]
      rw [e9]
      exact h2
    · subst e
      rw [if_pos rfl] at h2
      refine br_f (by decide) ?_
      unfold wY_plan_52
      exact br_t (by decide) (br_f (by decide) h2)
  | succ k ih =>
    intro j a hj hjn hs
    obtain ⟨j, rfl⟩ : ∃ i, j = i + 1 := ⟨j - 1, by omega⟩
    rw [nI_pred]
    have h1 := hf j (by omega)
    have e0 := hfn j (by omega) (by omega)
    have eI : nI b + nI j = nI (b + j) := nI_add b j
    have e1 : (aS) (nI b + nI j).toNatClampNeg = nI (f j) := by rw [eI, nI_clamp (by omega)]; exact h1.1
    have hlen : (vg_sq f (j + 1) (n - (j + 1)) ++ L).length ≤ n - (j + 1) + L.length := by
      have := sq_len f (n - (j + 1)) (j + 1)
      simp only [List.length_append]
      omega
    have hs2 : vg_sq f j (n - j) = f j :: vg_sq f (j + 1) (n - (j + 1)) := by
      rw [show n - j = n - (j + 1) + 1 by omega, sq_s, if_neg e0]
    have hp := stk_push (s := f j) hs
    have e3 : f j :: (vg_sq f (j + 1) (n - (j + 1)) ++ L) = vg_sq f j (n - j) ++ L := by rw [hs2]; rfl
    have e4 : (vg_sq f (j + 1) (n - (j + 1)) ++ L).length + 1 = (vg_sq f j (n - j) ++ L).length := by rw [← e3]; rfl
    rw [e3] at hp
    have go := ih j _ (by omega) (by omega) hp
    rcases hlo with e | e
    · subst e
      refine br_t rfl ?_
      unfold wY_plan_52
      refine br_f (fun z => nI_pos (by omega) z) (nm_r (e' := nI (vg_sq f j (n - j) ++ L).length) (by rw [← e4]; exact nI_1 _) ?_)
      refine br_f (by decide) ⟨by rw [eI]; exact vp_in_nI (by omega) (by decide), vp_in_nI (by omega) (by decide), nm_r (e' := upd a (vg_sq f (j + 1) (n - (j + 1)) ++ L).length (nI (f j))) (by rw [nI_clamp (by omega), e1, vn_nb (by omega)]) (nm_r (vn_sub1 j) ?_)⟩
      exact go
    · subst e
      refine br_f (by decide) ?_
      unfold wY_plan_52
      refine br_f (fun z => by have := (vn_lt1 (by omega)).mp z; omega) (nm_r (e' := nI (vg_sq f j (n - j) ++ L).length) (by rw [← e4]; exact nI_1 _) ?_)
      refine br_f (by decide) ⟨by rw [eI]; exact vp_in_nI (by omega) (by decide), vp_in_nI (by omega) (by decide), nm_r (e' := upd a (vg_sq f (j + 1) (n - (j + 1)) ++ L).length (nI (f j))) (by rw [nI_clamp (by omega), e1, vn_nb (by omega)]) (nm_r (vn_sub1 j) ?_)⟩
      exact go
theorem vy_plan_steps {post : Int32 → SY → Prop} {b n x t : Nat} {f : Nat → Nat} {L : List Nat} (ht : g.tp = t + 1) (hfn : ∀ i, 1 ≤ i → i < n → f i ≠ 0) (hb : b + n ≤ 200) (hL : L.length + n ≤ 60) (hf : ∀ i, i < n → (aS) (b + i) = nI (f i) ∧ f i ≤ 15) (hs : vg_stk aD L)
    (h : ∀ a, vg_stk a (vg_sq f 0 n ++ L) → post (nI (if 0 < n ∧ f 0 = 0 then x else 10 * t)) (vy_S g (nI (vg_sq f 0 n ++ L).length) pl nm aM aB aC aZ aN aT aS aI aH a)) :
    wpY_plan post (vy_S g (nI L.length) pl nm aM aB aC aZ aN aT aS aI aH aD) (nI x) (nI n) 1 (nI b) := by
  have hs0 : vg_stk aD (vg_sq f n (n - n) ++ L) := by rw [Nat.sub_self]; exact hs
  have el : vg_sq f n (n - n) ++ L = L := by rw [Nat.sub_self]; rfl
  unfold wpY_plan vy_S
  refine pk_le n 0 (fun z => ?_) (fun z => ?_)
  · rw [if_neg (by omega)] at h
    have := vy_plan_stepsL (lo := 0) (x := x) ht (Or.inl rfl) (Nat.zero_le _) (fun w => by omega) (fun i a b => by omega) hb hL hf (fun a ha => by rw [if_neg (by decide)]; exact h a ha) n n aD (by omega) (Nat.le_refl _) hs0
    rw [el] at this
    exact nm_e ⟨_, this⟩
  · have h0 := hf 0 (by omega)
    have e1 : (aS) (nI b).toNatClampNeg = nI (f 0) := by rw [nI_clamp (by omega)]; exact h0.1
    have hin : vp_in (nI b) 200 := vp_in_nI (by omega) (by decide)
    have low : wY_plan_25 post (nI x) (nI n) 1 (nI b) (nI (f 0)) (vg_tv g.tp) (nI g.cu) (nI L.length) pl nm (vg_cv g.fm) (vg_cv g.de) (vg_cv g.ro) aM aB (vg_cv g.ki) aC aZ (vg_cv g.wp) aN aT aS aI (vg_cv g.dr) (vg_cv g.dl) aH (vg_cv g.po) (vg_cv g.oH) aD := by
      unfold wY_plan_25
      refine pk_eq (f 0) 0 (fun e => ?_) (fun e => ?_)
      · rw [if_pos ⟨z, e⟩] at h
        have := vy_plan_stepsL (lo := 1) (x := x) ht (Or.inr rfl) (by omega) (fun _ => e) (fun i a b => hfn i a b) hb hL hf (fun a ha => by rw [if_pos rfl]; exact h a ha) (n - 1) n aD (by omega) (Nat.le_refl _) hs0
        rw [el] at this
        exact nm_e ⟨_, this⟩
      · rw [if_neg (fun w => e w.2)] at h
        have := vy_plan_stepsL (lo := 0) (x := x) ht (Or.inl rfl) (Nat.zero_le _) (fun w => by omega) (fun i a b => by
          by_cases ei : i = 0
          · subst ei; exact e
          · exact hfn i (by omega) b) hb hL hf (fun a ha => by rw [if_neg (by decide)]; exact h a ha) n n aD (by omega) (Nat.le_refl _) hs0
        rw [el] at this
        exact nm_e ⟨_, this⟩
    refine br_f (by decide) ⟨hin, ?_⟩
    rw [e1]
    exact low
end VY21
