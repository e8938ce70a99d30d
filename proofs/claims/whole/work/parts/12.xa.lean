section VX12
theorem vn_c5 (a : Nat) : nI a * 5 = nI (5 * a) := by rw [vn_mr5, Nat.mul_comm]
theorem vn_c10 (a : Nat) : nI a * 10 = nI (10 * a) := by rw [vn_mr10, Nat.mul_comm]
theorem vn_c15 (a : Nat) : nI a * 15 = nI (15 * a) := by rw [vn_mr15, Nat.mul_comm]
theorem vn_c20 (a : Nat) : nI a * 20 = nI (20 * a) := by rw [vn_mr20, Nat.mul_comm]
theorem vn_i15 (p n : Nat) : nI p * 15 + nI n = nI (15 * p + n) := by rw [vn_c15, nI_add]
theorem vn_i20 (p n : Nat) : nI p * 20 + nI n = nI (20 * p + n) := by rw [vn_c20, nI_add]
theorem vn_i10 (p n : Nat) : nI p * 10 + nI n = nI (10 * p + n) := by rw [vn_c10, nI_add]
theorem vn_rem10 {o : Nat} (h : o < 2147483648) : nI o - nI o / 10 * 10 = nI (o % 10) := pk_rem (d := 10) h (by decide) (by decide)
theorem vz_10 : ¬ (10 : Int32) = 0 := by decide
theorem vz_4 : ¬ (4 : Int32) = 0 := by decide
theorem vz_7 : ¬ (7 : Int32) = 0 := by decide
/-- the component's picture of g -/
def vx_S (g : vg_G) (ac : Int32) (ah : Nat → Int32) : SX := ((vg_tv g.tp), (nI g.cu), ac, (vg_cv g.fm), (vg_cv g.ro), (vg_cv g.de), (vg_cm g.mo), (vg_cv g.ki), (vg_cv g.sz), (vg_cv g.ef), (vg_cv g.wp), g.hd, (vg_cv g.nd), (vg_cv g.oF), (vg_cv g.oH), (vg_cv g.po), (vg_cv g.dr), (vg_cv g.dl), ah)
variable {g : vg_G} {ac : Int32} {ah : Nat → Int32}
theorem vx_rootOf {post : Int32 → Prop} {d : Nat} (h : post (nI (10 * d))) : wpX_rootOf post (nI d) := by
  unfold wpX_rootOf
  rw [vn_c10]
  exact h
theorem vx_isDisk1 {post : Int32 → Prop} {d : Nat} (hd : d < 4) (h : post 1) : wpX_isDisk post (nI d) :=
  br_f (nI_pos (by omega)) (br_f (nI_ge (b := 4) hd (by decide)) h)
theorem vx_isDisk0 {post : Int32 → Prop} {x : Int32} (hx : x < 0 ∨ nI 4 ≤ x) (h : post 0) : wpX_isDisk post x := by
  by_cases e : x < 0
  · exact br_t e h
  · exact br_f e (br_t (hx.resolve_left e) h)
theorem vx_diskOf {post : Int32 → Prop} {o : Nat} (ho : o < 100) (h : post (nI (o / 10))) : wpX_diskOf post (nI o) := by
  unfold wpX_diskOf
  rw [vn_d10 (by omega)]
  exact ⟨vz_10, h⟩
theorem vx_isRoot {post : Int32 → Prop} {o : Nat} (ho : o < 100) (h1 : o % 10 = 0 → post 1) (h0 : o % 10 ≠ 0 → post 0) : wpX_isRoot post (nI o) := by
  unfold wpX_isRoot
  rw [vn_rem10 (by omega), vn_e0 (by omega)]
  exact ⟨vz_10, h1, h0⟩
theorem vx_isMounted {post : Int32 → Prop} {d : Nat} (hI : iv_I g) (hd : d < 4) (h0 : g.mo d = 0 → post 0) (h1 : g.mo d ≠ 0 → post 1) : wpX_isMounted post (vx_S g ac ah) (nI d) := by
  unfold wpX_isMounted vx_S
  have hm := hI.1.2.2.2.1 d
  have e : vg_cm g.mo (nI d).toNatClampNeg = -2 ↔ g.mo d = 0 := by
    rw [nI_clamp (by omega)]
    exact mv_eqm (by omega)
  exact ⟨vp_in_nI hd (by decide), fun h => h0 (e.mp h), fun h => h1 (fun z => h (e.mpr z))⟩
theorem vx_hasL {post : Int32 → Prop} {p x : Nat} (hI : iv_I g) (hp : p < 40) (hx : x < 40) : ∀ d n, 1 ≤ n → n + d = 15 → ((∃ m, n ≤ m ∧ m < 15 ∧ g.nd (15 * p + m) = x) → post 1) → ((∀ m, n ≤ m → m < 15 → g.nd (15 * p + m) ≠ x) → post 0) → wX_hasEntryFor_2 post (nI p) (nI x) (vg_tv g.tp) (nI g.cu) ac (vg_cv g.fm) (vg_cv g.ro) (vg_cv g.de) (vg_cm g.mo) (vg_cv g.ki) (vg_cv g.sz) (vg_cv g.ef) (vg_cv g.wp) g.hd (vg_cv g.nd) (vg_cv g.oF) (vg_cv g.oH) (vg_cv g.po) (vg_cv g.dr) (vg_cv g.dl) ah (d + 1) (nI n) := by
  intro d
  induction d with
  | zero =>
    intro n _ hn _ h0
    exact br_t ((vn_gt14 (by omega)).mpr (by omega)) (h0 (fun m h1 h2 => by omega))
  | succ d ih =>
    intro n h1n hn h1 h0
    have hb := hI.1.2.2.2.2.2.2.2.2.2.2.1 (15 * p + n)
    have eI := vn_i15 p n
    have e1 : vg_cv g.nd (nI p * 15 + nI n).toNatClampNeg = nI x ↔ g.nd (15 * p + n) = x := by
      rw [eI, nI_clamp (by omega)]
      exact nI_eq (by omega) (by omega)
    refine br_f (fun z => by have := (vn_gt14 (by omega)).mp z; omega) ⟨by rw [eI]; exact vp_in_nI (by omega) (by decide), fun e => h1 ⟨n, Nat.le_refl _, by omega, e1.mp e⟩, fun e => nm_r (nI_1 n) ?_⟩
    refine ih (n + 1) (by omega) (by omega) (fun ⟨m, a, b, c⟩ => h1 ⟨m, by omega, b, c⟩) (fun h => h0 (fun m a b => ?_))
    by_cases em : m = n
    · subst em; exact fun z => e (e1.mpr z)
    · exact h m (by omega) b
theorem vx_hasEntryFor {post : Int32 → Prop} {p x : Nat} (hI : iv_I g) (hp : p < 40) (hk : g.ki p = 1) (hx : x < 40) (hx0 : x ≠ 0) (h1 : 0 < vg_dc g.nd p x → post 1) (h0 : ¬ 0 < vg_dc g.nd p x → post 0) : wpX_hasEntryFor post (vx_S g ac ah) (nI p) (nI x) := by
  unfold wpX_hasEntryFor vx_S
  refine ⟨_, vx_hasL hI hp hx 14 1 (by omega) (by omega) (fun ⟨m, _, b, c⟩ => h1 (dc_1 b c)) (fun h => h0 (fun z => ?_))⟩
  obtain ⟨n, hn, e⟩ := dc_e z
  by_cases e0 : n = 0
  · subst e0
    have := (hI.2.2.2.1 p 0 hp hk (by omega) (by rw [e]; exact hx0)).1
    exact this rfl
  · exact h n (by omega) hn e
theorem vx_aboveL {post : Int32 → Prop} {x : Nat} (hI : iv_I g) (hx : x < 40) (hx0 : x % 10 ≠ 0) (hk : g.ki x = 1) (h : post (nI (vg_par g.ki g.nd x))) : ∀ d i, i + d = 10 → i ≤ vg_fs (fun i => decide (g.ki (10 * (x / 10) + i) = 1 ∧ 0 < vg_dc g.nd (10 * (x / 10) + i) x)) 10 0 → wX_directoryAbove_37 post (nI x) (nI (10 * (x / 10))) (vg_tv g.tp) (nI g.cu) ac (vg_cv g.fm) (vg_cv g.ro) (vg_cv g.de) (vg_cm g.mo) (vg_cv g.ki) (vg_cv g.sz) (vg_cv g.ef) (vg_cv g.wp) g.hd (vg_cv g.nd) (vg_cv g.oF) (vg_cv g.oH) (vg_cv g.po) (vg_cv g.dr) (vg_cv g.dl) ah (d + 1) (nI (10 * (x / 10) + i)) := by
  have hpar := par_sp hI hx hx0 hk
  have hf : vg_fs (fun i => decide (g.ki (10 * (x / 10) + i) = 1 ∧ 0 < vg_dc g.nd (10 * (x / 10) + i) x)) 10 0 < 10 := by
    have := hpar.2.1
    unfold vg_par at this
    omega
  intro d
  induction d with
  | zero =>
    intro i hi hle
    omega
  | succ d ih =>
    intro i hi hle
    have hb := hI.1.2.2.2.2.2.2.1 (10 * (x / 10) + i)
    have e1 : vg_cv g.ki (nI (10 * (x / 10) + i)).toNatClampNeg = 1 ↔ g.ki (10 * (x / 10) + i) = 1 := by
      rw [nI_clamp (by omega)]
      exact vn_e1 (by omega)
    have nxt : ¬ (g.ki (10 * (x / 10) + i) = 1 ∧ 0 < vg_dc g.nd (10 * (x / 10) + i) x) → wX_directoryAbove_37 post (nI x) (nI (10 * (x / 10))) (vg_tv g.tp) (nI g.cu) ac (vg_cv g.fm) (vg_cv g.ro) (vg_cv g.de) (vg_cm g.mo) (vg_cv g.ki) (vg_cv g.sz) (vg_cv g.ef) (vg_cv g.wp) g.hd (vg_cv g.nd) (vg_cv g.oF) (vg_cv g.oH) (vg_cv g.po) (vg_cv g.dr) (vg_cv g.dl) ah (d + 1) (nI (10 * (x / 10) + i) + 1) := by
      intro hn
      rw [nI_1 (10 * (x / 10) + i), Nat.add_assoc]
      refine ih (i + 1) (by omega) ?_
      apply Classical.byContradiction
      intro hlt
      have e2 : vg_fs (fun i => decide (g.ki (10 * (x / 10) + i) = 1 ∧ 0 < vg_dc g.nd (10 * (x / 10) + i) x)) 10 0 = i := by omega
      have h3 := of_decide_eq_true (fs_sp (P := fun i => decide (g.ki (10 * (x / 10) + i) = 1 ∧ 0 < vg_dc g.nd (10 * (x / 10) + i) x)) (k := 10) (i := 0) (by omega))
      rw [e2] at h3
      exact hn h3
    refine br_f (fun z => by rw [vn_ar10] at z; have := (nI_leI (by omega) (by omega)).mp z; omega) ⟨vp_in_nI (by omega) (by decide), fun e => ?_, fun e => nm_e (nxt (fun z => e (e1.mpr z.1)))⟩
    refine vx_hasEntryFor (g := g) (ac := ac) (ah := ah) hI (by omega) (e1.mp e) hx (by omega) (fun hd => ?_) (fun hd => ?_)
    · refine br_f (by decide) ?_
      have e2 : vg_fs (fun i => decide (g.ki (10 * (x / 10) + i) = 1 ∧ 0 < vg_dc g.nd (10 * (x / 10) + i) x)) 10 0 ≤ i := fs_lt (Nat.zero_le _) (by omega) (decide_eq_true ⟨e1.mp e, hd⟩)
      have e3 : 10 * (x / 10) + i = vg_par g.ki g.nd x := by unfold vg_par; omega
      rw [e3]
      exact h
    · exact br_t rfl (nm_e (nxt (fun z => hd z.2)))
theorem vx_directoryAbove {post : Int32 → Prop} {x : Nat} (hI : iv_I g) (hgd : vg_gd g x) (hk : g.ki x = 1) (h : post (nI (vg_ab g x))) : wpX_directoryAbove post (vx_S g ac ah) (nI x) := by
  have hx := hgd.1
  have low : ∀ y x1 : Nat, y < 40 → y % 10 ≠ 0 → g.ki y = 1 → post (nI (vg_par g.ki g.nd y)) → wX_directoryAbove_20 post (nI x1) (nI y) (vg_tv g.tp) (nI g.cu) ac (vg_cv g.fm) (vg_cv g.ro) (vg_cv g.de) (vg_cm g.mo) (vg_cv g.ki) (vg_cv g.sz) (vg_cv g.ef) (vg_cv g.wp) g.hd (vg_cv g.nd) (vg_cv g.oF) (vg_cv g.oH) (vg_cv g.po) (vg_cv g.dr) (vg_cv g.dl) ah := by
    intro y x1 hy hy0 hky hp
    unfold wX_directoryAbove_20
    refine br_t (nI_pos' (by omega)) ⟨vz_10, nm_r (e' := nI (10 * (y / 10))) ?_ ⟨11, ?_⟩⟩
    · rw [vn_rem10 (by omega), pk_sub (by omega)]
      exact congrArg nI (by omega)
    · have := vx_aboveL (ac := ac) (ah := ah) hI hy hy0 hky hp 10 0 (by omega) (Nat.zero_le _)
      rw [Nat.add_zero] at this
      exact this
  unfold wpX_directoryAbove vx_S
  refine vx_isRoot (by omega) (fun hr => br_f (by decide) ?_) (fun hr => br_t rfl ?_)
  · refine vx_diskOf (by omega) ⟨vp_in_nI (by omega) (by decide), ?_⟩
    have hm := hI.1.2.2.2.1 (x / 10)
    rw [nI_clamp (by omega)]
    show wX_directoryAbove_20 post (nI x) (vg_mv (g.mo (x / 10))) (vg_tv g.tp) (nI g.cu) ac (vg_cv g.fm) (vg_cv g.ro) (vg_cv g.de) (vg_cm g.mo) (vg_cv g.ki) (vg_cv g.sz) (vg_cv g.ef) (vg_cv g.wp) g.hd (vg_cv g.nd) (vg_cv g.oF) (vg_cv g.oH) (vg_cv g.po) (vg_cv g.dr) (vg_cv g.dl) ah
    unfold vg_ab at h
    rw [if_pos hr] at h
    by_cases e : g.mo (x / 10) ≤ 1
    · rw [if_pos e] at h
      unfold wX_directoryAbove_20
      refine br_f (fun z => ?_) h
      have := (mv_ge (by omega)).mp z
      omega
    · rw [if_neg e] at h
      have h1 := hI.2.2.2.2.2.2.2.2.2.2.2.2.2.2.1.2.1 (x / 10) (by omega) (by omega)
      obtain ⟨k, ek⟩ : ∃ k, g.mo (x / 10) = k + 2 := ⟨g.mo (x / 10) - 2, by omega⟩
      rw [ek, mv_2]
      rw [ek] at h h1
      exact low k x (by omega) h1.1 h1.2.1 h
  · unfold vg_ab at h
    rw [if_neg hr] at h
    exact low x x hx hr hk h
theorem vx_equalName {post : Int32 → Prop} {p n : Nat} (hI : iv_I g) (hp : p < 40) (h1 : 1 ≤ n) (hn : n ≤ 14) (h : post (nI (vg_eq g.fm g.nd p n))) : wpX_equalName post (vx_S g ac ah) (nI p) (nI n) := by
  have hf := hI.1.1 (p / 10)
  have E : ∀ m, m < 15 → (vg_cv g.nd (nI (15 * p) + nI m).toNatClampNeg = 0 ↔ g.nd (15 * p + m) = 0) := by
    intro m hm
    have := hI.1.2.2.2.2.2.2.2.2.2.2.1 (15 * p + m)
    rw [nI_add, nI_clamp (by omega), cv_ap]
    exact vn_e0 (by omega)
  have IN : ∀ m, m < 15 → vp_in (nI (15 * p) + nI m) 600 := by
    intro m hm
    rw [nI_add]
    exact vp_in_nI (by omega) (by decide)
  have EF : vg_cv g.fm (nI (p / 10)).toNatClampNeg = 0 ↔ g.fm (p / 10) = 0 := by
    rw [nI_clamp (by omega), cv_ap]
    exact vn_e0 (by omega)
  have low : ∀ m, m < 15 → (g.nd (15 * p + m) = 0 → post 0) → (g.nd (15 * p + m) ≠ 0 → post (nI m)) → wX_equalName_49 post (nI (15 * p)) (nI m) (vg_tv g.tp) (nI g.cu) ac (vg_cv g.fm) (vg_cv g.ro) (vg_cv g.de) (vg_cm g.mo) (vg_cv g.ki) (vg_cv g.sz) (vg_cv g.ef) (vg_cv g.wp) g.hd (vg_cv g.nd) (vg_cv g.oF) (vg_cv g.oH) (vg_cv g.po) (vg_cv g.dr) (vg_cv g.dl) ah := by
    intro m hm a b
    unfold wX_equalName_49
    exact ⟨IN m hm, fun e => a ((E m hm).mp e), fun e => b (fun z => e ((E m hm).mpr z))⟩
  unfold vg_eq vg_oth at h
  unfold wpX_equalName vx_S
  refine nm_r (vn_c15 p) ⟨IN n (by omega), fun e => ?_, fun e => ?_⟩
  · rw [if_neg (fun z => z ((E n (by omega)).mp e))] at h
    refine vx_diskOf (by omega) ⟨vp_in_nI (by omega) (by decide), fun ef => ?_, fun ef => ?_⟩
    · rw [if_neg (fun z => z (EF.mp ef))] at h
      by_cases h7 : 7 < n
      · rw [if_pos h7] at h
        refine br_f (fun z => by have := (vn_le7 (by omega)).mp z; omega) ?_
        rw [vn_s7 (by omega)]
        refine low (n - 7) (by omega) (fun z => ?_) (fun z => ?_)
        · rw [if_neg (fun y => y z)] at h; exact h
        · rw [if_pos z] at h; exact h
      · rw [if_neg h7] at h
        refine br_t ((vn_le7 (by omega)).mpr (by omega)) ?_
        rw [vn_ar7]
        refine low (n + 7) (by omega) (fun z => ?_) (fun z => ?_)
        · rw [if_neg (fun y => y z)] at h; exact h
        · rw [if_pos z] at h; exact h
    · rw [if_pos (fun z => ef (EF.mpr z))] at h
      exact h
  · rw [if_pos (fun z => e ((E n (by omega)).mpr z))] at h
    exact h
theorem vx_rootOverL {post : Int32 → Prop} {x : Nat} (hI : iv_I g) (hx : x < 40) (h : post (nI (vg_ov g.mo x))) : ∀ d i, i + d = 4 → i ≤ vg_co g.mo x → wX_rootOver_2 post (nI x) (vg_tv g.tp) (nI g.cu) ac (vg_cv g.fm) (vg_cv g.ro) (vg_cv g.de) (vg_cm g.mo) (vg_cv g.ki) (vg_cv g.sz) (vg_cv g.ef) (vg_cv g.wp) g.hd (vg_cv g.nd) (vg_cv g.oF) (vg_cv g.oH) (vg_cv g.po) (vg_cv g.dr) (vg_cv g.dl) ah (d + 1) (nI i) := by
  intro d
  induction d with
  | zero =>
    intro i hi hle
    refine br_t ((vn_ge4 (by omega)).mpr (by omega)) ?_
    unfold vg_ov at h
    rw [if_neg (by omega)] at h
    exact h
  | succ d ih =>
    intro i hi hle
    have hb := hI.1.2.2.2.1 i
    have e1 : vg_cm g.mo (nI i).toNatClampNeg = nI x ↔ g.mo i = x + 2 := by
      rw [nI_clamp (by omega)]
      exact mv_eq hb hx
    refine br_f (fun z => by have := (vn_ge4 (by omega)).mp z; omega) ⟨vp_in_nI (by omega) (by decide), fun e => ?_, fun e => nm_r (nI_1 i) (ih (i + 1) (by omega) ?_)⟩
    · have h2 : vg_co g.mo x ≤ i := fs_lt (Nat.zero_le _) (by omega) (decide_eq_true (e1.mp e))
      unfold vg_ov at h
      rw [if_pos (by omega), show vg_co g.mo x = i by omega] at h
      rw [vn_c10]
      exact h
    · apply Classical.byContradiction
      intro hlt
      have h3 := co_in (mo := g.mo) (o := x) (by omega)
      rw [show vg_co g.mo x = i by omega] at h3
      exact e (e1.mpr h3)
theorem vx_rootOver {post : Int32 → Prop} {x : Nat} (hI : iv_I g) (hx : x < 40) (h : post (nI (vg_ov g.mo x))) : wpX_rootOver post (vx_S g ac ah) (nI x) := by
  unfold wpX_rootOver vx_S
  exact ⟨_, vx_rootOverL hI hx h 4 0 (by omega) (Nat.zero_le _)⟩
theorem vx_isCovered {post : Int32 → Prop} {x : Nat} (hI : iv_I g) (hx : x < 40) (h0 : ¬ vg_co g.mo x < 4 → post 0) (h1 : vg_co g.mo x < 4 → post 1) : wpX_isCovered post (vx_S g ac ah) (nI x) := by
  unfold wpX_isCovered vx_S
  have hb : vg_ov g.mo x < 40 := by
    have := co_b (mo := g.mo) (o := x)
    unfold vg_ov
    split <;> omega
  refine vx_rootOver (g := g) (ac := ac) (ah := ah) hI hx ?_
  have h2 := ov_ne (x := x) hI
  rw [nI_eq (by omega) (by omega)]
  exact ⟨fun e => h0 (fun z => (h2.mpr z) e), fun e => h1 (h2.mp e)⟩
end VX12
