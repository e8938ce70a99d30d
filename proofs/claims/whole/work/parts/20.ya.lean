section VY20
/-- the reference's picture of g -/
def vy_S (g : vg_G) (lf pl nm : Int32) (aM aB aC aZ aN aT aS aI aH aD : Nat → Int32) : SY := ((vg_tv g.tp), (nI g.cu), lf, pl, nm, (vg_cv g.fm), (vg_cv g.de), (vg_cv g.ro), aM, aB, (vg_cv g.ki), aC, aZ, (vg_cv g.wp), aN, aT, aS, aI, (vg_cv g.dr), (vg_cv g.dl), aH, (vg_cv g.po), (vg_cv g.oH), aD)
def vy_R (g : vg_G) (aM aB aC aZ aN aT aS aI aH : Nat → Int32) : Prop := yr_m g aM aB ∧ yr_d g aC aN aT ∧ yr_f g aZ aI ∧ yr_l g aZ aS ∧ yr_h g aH
variable {g : vg_G} {lf pl nm : Int32} {aM aB aC aZ aN aT aS aI aH aD : Nat → Int32}
theorem vn_i6 (p n : Nat) : 6 * nI p + nI n = nI (6 * p + n) := by rw [vn_ml6, nI_add]
theorem vy_out0 {post : Int32 → Prop} {d : Nat} (n : Nat) (hd : d < n) (hn : n < 100) (h : post 0) : wpY_out post (nI d) (nI n) :=
  br_f (nI_pos (by omega)) (br_t ((nI_ltI (by omega) (by omega)).mpr hd) h)
theorem vy_out1 {post : Int32 → Prop} {x : Int32} (n : Nat) (hn : n < 100) (hx : x < 0 ∨ nI n ≤ x) (h : post 1) : wpY_out post x (nI n) := by
  by_cases e : x < 0
  · exact br_t e h
  · exact br_f e (br_f (Int32.not_lt.mpr (hx.resolve_left e)) h)
theorem vy_onesL {post : Int32 → Prop} {x : Nat} (hx : x < 32) (h : post (nI (vg_on x))) : ∀ d b, b + d = 5 → wY_ones_4 post (nI x) (d + 1) (nI (vg_ob x b)) (nI b) := by
  intro d
  induction d with
  | zero =>
    intro b hb
    have e : b = 5 := by omega
    subst e
    rw [ob_5]
    exact br_t (by decide) h
  | succ d ih =>
    intro b hb
    refine br_f (fun z => by have := (vn_ge5 (by omega)).mp z; omega) (nm_r (e' := nI (vg_ob x (b + 1))) ?_ (nm_r (nI_1 b) (ih (b + 1) (by omega))))
    rw [bt_sh _ hx _ (by omega), nI_add, ob_s]
theorem vy_ones {post : Int32 → Prop} {x : Nat} (hx : x < 32) (h : post (nI (vg_on x))) : wpY_ones post (nI x) := by
  unfold wpY_ones
  exact ⟨_, vy_onesL hx h 5 0 (by omega)⟩
theorem vy_blocks {post : Int32 → Prop} {o : Nat} {xx : Nat} (hI : iv_X g xx) (hR : vy_R g aM aB aC aZ aN aT aS aI aH) (ho : o < 40) (h : post (nI (vg_bk g.fm g.ki g.sz g.wp o))) : wpY_blocks post (vy_S g lf pl nm aM aB aC aZ aN aT aS aI aH aD) (nI o) := by
  have hf := hI.1.1 (o / 10)
  have hk := hI.1.2.2.2.2.2.2.1 o
  have hs := hI.1.2.2.2.2.2.2.2.1 o
  have hw := hI.1.2.2.2.2.2.2.2.2.2.1 o
  have EK : ∀ c : Nat, c < 4 → (vg_cv g.ki (nI o).toNatClampNeg = nI c ↔ g.ki o = c) := by
    intro c hc
    rw [nI_clamp (by omega), cv_ap]
    exact nI_eq (by omega) (by omega)
  have EW : vg_cv g.wp (nI o).toNatClampNeg = nI (g.wp o) := by rw [nI_clamp (by omega)]; rfl
  have EF : vg_cv g.fm (nI (o / 10)).toNatClampNeg = 0 ↔ g.fm (o / 10) = 0 := by
    rw [nI_clamp (by omega), cv_ap]
    exact vn_e0 (by omega)
  have hi : vp_in (nI o) 40 := vp_in_nI ho (by decide)
  unfold vg_bk at h
  have low : ∀ z : Nat, z < 2 → (z = 1 ↔ g.fm (o / 10) = 0) → wY_blocks_17 post (nI o) (nI z) (vg_tv g.tp) (nI g.cu) lf pl nm (vg_cv g.fm) (vg_cv g.de) (vg_cv g.ro) aM aB (vg_cv g.ki) aC aZ (vg_cv g.wp) aN aT aS aI (vg_cv g.dr) (vg_cv g.dl) aH (vg_cv g.po) (vg_cv g.oH) aD := by
    intro z hz ez
    unfold wY_blocks_17
    refine ⟨hi, fun e1 => ?_, fun e1 => ⟨hi, fun e2 => ?_, fun e2 => ?_⟩⟩
    · have k1 := (EK 1 (by omega)).mp e1
      have hc := (hR.2.1 o ho k1).1
      rw [if_pos k1] at h
      unfold vg_bd at h
      refine pk_eq z 0 (fun y => ?_) (fun y => ⟨hi, ?_⟩)
      · rw [if_neg (by omega)] at h; exact h
      · rw [nI_clamp (by omega), hc]
        refine pk_le (g.sz o) 4 (fun w => ?_) (fun w => ?_)
        · rw [if_neg (by omega)] at h; exact h
        · rw [if_pos ⟨by omega, w⟩] at h; exact h
    · have k2 := (EK 2 (by omega)).mp e2
      have hc := (hR.2.2.1 o ho k2).1
      rw [if_neg (by omega), if_pos k2] at h
      refine pk_eq z 0 (fun y => ⟨hi, ?_⟩) (fun y => ⟨hi, vz_4, ?_⟩)
      · rw [if_neg (by omega)] at h
        rw [EW]
        exact vy_ones hw h
      · rw [if_pos (by omega)] at h
        rw [nI_clamp (by omega), hc, vn_ar3, vn_d4 (by omega)]
        exact h
    · rw [if_neg (fun y => e1 ((EK 1 (by omega)).mpr y)), if_neg (fun y => e2 ((EK 2 (by omega)).mpr y))] at h
      exact h
  unfold wpY_blocks vy_S
  rw [vn_d10 (by omega)]
  refine ⟨vz_10, vp_in_nI (by omega) (by decide), fun ef => ?_, fun ef => ?_⟩
  · exact low 1 (by omega) ⟨fun _ => EF.mp ef, fun _ => rfl⟩
  · exact low 0 (by omega) ⟨fun y => by omega, fun y => absurd (EF.mpr y) ef⟩
theorem vy_restL {post : Int32 → Prop} {d : Nat} {xx : Nat} (hI : iv_X g xx) (hR : vy_R g aM aB aC aZ aN aT aS aI aH) (hd : d < 4) (h : post (nI (vg_fr g d))) : ∀ r k, k + r = 10 → wY_rest_15 post (nI d) (vg_tv g.tp) (nI g.cu) lf pl nm (vg_cv g.fm) (vg_cv g.de) (vg_cv g.ro) aM aB (vg_cv g.ki) aC aZ (vg_cv g.wp) aN aT aS aI (vg_cv g.dr) (vg_cv g.dl) aH (vg_cv g.po) (vg_cv g.oH) aD (r + 1) (nI (32 - (g.de d + vg_sm (fun i => vg_bk g.fm g.ki g.sz g.wp (10 * d + i)) k))) (nI (10 * d + k)) := by
  intro r
  induction r with
  | zero =>
    intro k hk
    have e : k = 10 := by omega
    subst e
    refine br_t ?_ h
    rw [vn_ml10, vn_ar10]
    exact (nI_leI (by omega) (by omega)).mpr (by omega)
  | succ r ih =>
    intro k hk
    have h2 := hI.2.2.2.2.2.2.2.2.2.2.2.2.2.1 d hd
    have h3 := sm_mono (f := fun i => vg_bk g.fm g.ki g.sz g.wp (10 * d + i)) (show k + 1 ≤ 10 by omega)
    have h4 := sm_s (fun i => vg_bk g.fm g.ki g.sz g.wp (10 * d + i)) k
    have hkk := hI.1.2.2.2.2.2.2.1 (10 * d + k)
    have EK : vg_cv g.ki (nI (10 * d + k)).toNatClampNeg = 0 ↔ g.ki (10 * d + k) = 0 := by
      rw [nI_clamp (by omega), cv_ap]
      exact vn_e0 (by omega)
    unfold vg_tk at h2
    refine br_f (fun z => by rw [vn_ml10, vn_ar10] at z; have := (nI_leI (by omega) (by omega)).mp z; omega) ⟨vp_in_nI (by omega) (by decide), fun e => ?_, fun e => ?_⟩
    · have hz : vg_bk g.fm g.ki g.sz g.wp (10 * d + k) = 0 := by
        unfold vg_bk
        rw [EK.mp e, if_neg (by decide), if_neg (by decide)]
      have h5 : vg_sm (fun i => vg_bk g.fm g.ki g.sz g.wp (10 * d + i)) k = vg_sm (fun i => vg_bk g.fm g.ki g.sz g.wp (10 * d + i)) (k + 1) := by
        rw [sm_s]
        (try dsimp only)
        rw [hz]
        omega
      refine nm_r (nI_1 _) ?_
      rw [h5]
      exact ih (k + 1) (by omega)
    · refine vy_blocks hI hR (by omega) (nm_r (e' := nI (32 - (g.de d + vg_sm (fun i => vg_bk g.fm g.ki g.sz g.wp (10 * d + i)) (k + 1)))) ?_ (nm_r (nI_1 _) (ih (k + 1) (by omega))))
      rw [pk_sub (by omega)]
      exact congrArg nI (by omega)
theorem vy_rest {post : Int32 → Prop} {d : Nat} {xx : Nat} (hI : iv_X g xx) (hR : vy_R g aM aB aC aZ aN aT aS aI aH) (hd : d < 4) (h : post (nI (vg_fr g d))) : wpY_rest post (vy_S g lf pl nm aM aB aC aZ aN aT aS aI aH aD) (nI d) := by
  have hb := hI.1.2.2.1 d
  unfold wpY_rest vy_S
  refine ⟨vp_in_nI hd (by decide), nm_r (e' := nI (32 - (g.de d + vg_sm (fun i => vg_bk g.fm g.ki g.sz g.wp (10 * d + i)) 0))) ?_ (nm_r (e' := nI (10 * d + 0)) (vn_ml10 d) ⟨_, vy_restL hI hR hd h 10 0 (by omega)⟩)⟩
  rw [nI_clamp (by omega), cv_ap]
  exact pk_sub (a := 32) (by omega)
/-! entries -/
def vg_si (aT : Nat → Int32) (p o k : Nat) : Nat := vg_sm (fun i => if aT (6 * p + i) = nI o then 1 else 0) k
theorem si_s (aT : Nat → Int32) (p o k : Nat) : vg_si aT p o (k + 1) = vg_si aT p o k + if aT (6 * p + k) = nI o then 1 else 0 := rfl
theorem si_dc {p o : Nat} {xx : Nat} (hI : iv_X g xx) (hY : yr_d g aC aN aT) (hp : p < 40) (hk : g.ki p = 1) (ho : o < 40) (ho0 : o ≠ 0) : vg_si aT p o (g.sz p) = vg_dc g.nd p o := by
  have h1 := dc_yr hI hY hp hk ho ho0 15 (by omega)
  rw [← (hI.2.2.2.2.1 p hp hk).1] at h1
  exact h1
theorem vy_entI {post : Int32 → Prop} {J : Int32 → Int32 → Prop} {p o c : Nat} {xx : Nat} (hI : iv_X g xx) (hY : yr_d g aC aN aT) (hp : p < 40) (hk : g.ki p = 1) (hJ : J (nI (c + vg_si aT p o (g.sz p))) (nI (p + 1))) :
    ∀ r i, i + r = g.sz p → wY_entries_16 post J (nI o) (nI p) (vg_tv g.tp) (nI g.cu) lf pl nm (vg_cv g.fm) (vg_cv g.de) (vg_cv g.ro) aM aB (vg_cv g.ki) aC aZ (vg_cv g.wp) aN aT aS aI (vg_cv g.dr) (vg_cv g.dl) aH (vg_cv g.po) (vg_cv g.oH) aD (r + 1) (nI (c + vg_si aT p o i)) (nI (6 * p + i)) := by
  have hs := (hI.2.2.2.2.1 p hp hk).2
  have hc := (hY p hp hk).1
  have hi : vp_in (nI p) 40 := vp_in_nI hp (by decide)
  have eN : 6 * nI p + aC (nI p).toNatClampNeg = nI (6 * p + g.sz p) := by rw [nI_clamp (by omega), hc, vn_i6]
  have eK : vg_cv g.ki (nI p).toNatClampNeg = 1 := by rw [nI_clamp (by omega), cv_ap, hk]; rfl
  intro r
  induction r with
  | zero =>
    intro i hi2
    have e : i = g.sz p := by omega
    subst e
    refine ⟨hi, br_t ?_ (nm_r (nI_1 p) hJ)⟩
    rw [eN]
    exact (nI_leI (by omega) (by omega)).mpr (by omega)
  | succ r ih =>
    intro i hi2
    refine ⟨hi, br_f ?_ ⟨hi, br_t eK ⟨vp_in_nI (by omega) (by decide), ?_⟩⟩⟩
    · rw [eN]
      intro z
      have := (nI_leI (by omega) (by omega)).mp z
      omega
    · rw [nI_clamp (by omega)]
      have h2 := ih (i + 1) (by omega)
      rw [si_s] at h2
      refine br_c (fun e => ?_) (fun e => ?_)
      · rw [if_pos e, ← Nat.add_assoc] at h2
        exact nm_r (nI_1 _) (nm_r (nI_1 _) h2)
      · rw [if_neg e, Nat.add_zero] at h2
        exact nm_r (nI_1 _) h2
theorem vy_entL {post : Int32 → Prop} {o : Nat} {xx : Nat} (hI : iv_X g xx) (hY : yr_d g aC aN aT) (ho : o < 40) (ho0 : o ≠ 0) (h : post (nI (vg_en g.ki g.nd o))) :
    ∀ r p, p + r = 40 → wY_entries_4 post (nI o) (vg_tv g.tp) (nI g.cu) lf pl nm (vg_cv g.fm) (vg_cv g.de) (vg_cv g.ro) aM aB (vg_cv g.ki) aC aZ (vg_cv g.wp) aN aT aS aI (vg_cv g.dr) (vg_cv g.dl) aH (vg_cv g.po) (vg_cv g.oH) aD (r + 1) (nI (vg_sm (fun p => if g.ki p = 1 then vg_dc g.nd p o else 0) p)) (nI p) := by
  intro r
  induction r with
  | zero =>
    intro p hp
    have e : p = 40 := by omega
    subst e
    rw [en_40 hI ho ho0]
    exact br_t (by decide) h
  | succ r ih =>
    intro p hp
    have hkb := hI.1.2.2.2.2.2.2.1 p
    have h2 := ih (p + 1) (by omega)
    rw [sm_s] at h2
    refine br_f (fun z => by have := (vn_ge40 (by omega)).mp z; omega) (nm_r (vn_ml6 p) ?_)
    by_cases hk : g.ki p = 1
    · rw [if_pos hk, ← si_dc hI hY (by omega) hk ho ho0] at h2
      exact ⟨_, vy_entI hI hY (by omega) hk h2 (g.sz p) 0 (by omega)⟩
    · rw [if_neg hk, Nat.add_zero] at h2
      have hi : vp_in (nI p) 40 := vp_in_nI (by omega) (by decide)
      have eK : ¬ vg_cv g.ki (nI p).toNatClampNeg = 1 := by
        rw [nI_clamp (by omega), cv_ap, vn_e1 (by omega)]
        exact hk
      exact ⟨1, hi, br_c (fun _ => nm_r (nI_1 p) h2) (fun _ => ⟨hi, br_f eK (nm_r (nI_1 p) h2)⟩)⟩
theorem vy_entries {post : Int32 → Prop} {o : Nat} {xx : Nat} (hI : iv_X g xx) (hY : yr_d g aC aN aT) (ho : o < 40) (ho0 : o ≠ 0) (h : post (nI (vg_en g.ki g.nd o))) : wpY_entries post (vy_S g lf pl nm aM aB aC aZ aN aT aS aI aH aD) (nI o) := by
  unfold wpY_entries vy_S
  exact ⟨_, vy_entL hI hY ho ho0 h 40 0 (by omega)⟩
theorem yh_eq {h o : Nat} {xx : Nat} (hI : iv_X g xx) (hH : yr_h g aH) (hh : h < 5) (ho : o < 40) (ho0 : o ≠ 0) : aH h = nI o ↔ g.oF h = o := by
  rw [hH h hh]
  have hb := hI.1.2.2.2.2.2.2.2.2.2.2.2.1 h
  by_cases e : g.oF h = 0
  · rw [if_pos e]
    constructor
    · intro z; exact ((vn_n1 (by omega)).mp z.symm).elim
    · intro z; omega
  · rw [if_neg e]
    exact nI_eq (by omega) (by omega)
theorem yh_neg {h : Nat} {xx : Nat} (hI : iv_X g xx) (hH : yr_h g aH) (hh : h < 5) : aH h < 0 ↔ g.oF h = 0 := by
  rw [hH h hh]
  have hb := hI.1.2.2.2.2.2.2.2.2.2.2.2.1 h
  by_cases e : g.oF h = 0
  · rw [if_pos e]
    exact ⟨fun _ => e, fun _ => by decide⟩
  · rw [if_neg e]
    exact ⟨fun z => absurd z (nI_pos (by omega)), fun z => absurd z e⟩
theorem vy_openL {post : Int32 → Prop} {o : Nat} {xx : Nat} (hI : iv_X g xx) (hH : yr_h g aH) (ho : o < 40) (ho0 : o ≠ 0) (h1 : vg_fs (fun h => decide (g.oF h = o)) 5 0 < 5 → post 1) (h0 : ¬ vg_fs (fun h => decide (g.oF h = o)) 5 0 < 5 → post 0) :
    ∀ r i, i + r = 5 → i ≤ vg_fs (fun h => decide (g.oF h = o)) 5 0 → wY_isOpen_2 post (nI o) (vg_tv g.tp) (nI g.cu) lf pl nm (vg_cv g.fm) (vg_cv g.de) (vg_cv g.ro) aM aB (vg_cv g.ki) aC aZ (vg_cv g.wp) aN aT aS aI (vg_cv g.dr) (vg_cv g.dl) aH (vg_cv g.po) (vg_cv g.oH) aD (r + 1) (nI i) := by
  intro r
  induction r with
  | zero =>
    intro i hi hle
    exact br_t ((vn_ge5 (by omega)).mpr (by omega)) (h0 (by omega))
  | succ r ih =>
    intro i hi hle
    have e1 : aH (nI i).toNatClampNeg = nI o ↔ g.oF i = o := by
      rw [nI_clamp (by omega)]
      exact yh_eq hI hH (by omega) ho ho0
    refine br_f (fun z => by have := (vn_ge5 (by omega)).mp z; omega) ⟨vp_in_nI (by omega) (by decide), fun e => ?_, fun e => nm_r (nI_1 i) (ih (i + 1) (by omega) ?_)⟩
    · have h2 : vg_fs (fun h => decide (g.oF h = o)) 5 0 ≤ i := fs_lt (Nat.zero_le _) (by omega) (decide_eq_true (e1.mp e))
      exact h1 (by omega)
    · apply Classical.byContradiction
      intro hlt
      have h3 := of_decide_eq_true (fs_sp (P := fun h => decide (g.oF h = o)) (k := 5) (i := 0) (by omega))
      rw [show vg_fs (fun h => decide (g.oF h = o)) 5 0 = i by omega] at h3
      exact e (e1.mpr h3)
theorem vy_isOpen {post : Int32 → Prop} {o : Nat} {xx : Nat} (hI : iv_X g xx) (hH : yr_h g aH) (ho : o < 40) (ho0 : o ≠ 0) (h1 : vg_fs (fun h => decide (g.oF h = o)) 5 0 < 5 → post 1) (h0 : ¬ vg_fs (fun h => decide (g.oF h = o)) 5 0 < 5 → post 0) : wpY_isOpen post (vy_S g lf pl nm aM aB aC aZ aN aT aS aI aH aD) (nI o) := by
  unfold wpY_isOpen vy_S
  exact ⟨_, vy_openL hI hH ho ho0 h1 h0 5 0 (by omega) (Nat.zero_le _)⟩
theorem vy_covL {post : Int32 → Prop} {x : Nat} (hI : iv_I g) (hM : yr_m g aM aB) (hx : x < 40) (h1 : vg_co g.mo x < 4 → post (nI (vg_co g.mo x))) (h0 : ¬ vg_co g.mo x < 4 → post (-1)) :
    ∀ d i, i + d = 4 → i ≤ vg_co g.mo x → wY_covering_2 post (nI x) (vg_tv g.tp) (nI g.cu) lf pl nm (vg_cv g.fm) (vg_cv g.de) (vg_cv g.ro) aM aB (vg_cv g.ki) aC aZ (vg_cv g.wp) aN aT aS aI (vg_cv g.dr) (vg_cv g.dl) aH (vg_cv g.po) (vg_cv g.oH) aD (d + 1) (nI i) := by
  intro d
  induction d with
  | zero =>
    intro i hi hle
    exact br_t ((vn_ge4 (by omega)).mpr (by omega)) (h0 (by omega))
  | succ d ih =>
    intro i hi hle
    have hb := hI.1.2.2.2.1 i
    have hm := hM i (by omega)
    have ht := hI.2.2.2.2.2.2.2.2.2.2.2.2.2.2.1.1 i (by omega)
    have htb := hI.1.2.2.2.2.1
    have nxt : g.mo i ≠ x + 2 → wY_covering_2 post (nI x) (vg_tv g.tp) (nI g.cu) lf pl nm (vg_cv g.fm) (vg_cv g.de) (vg_cv g.ro) aM aB (vg_cv g.ki) aC aZ (vg_cv g.wp) aN aT aS aI (vg_cv g.dr) (vg_cv g.dl) aH (vg_cv g.po) (vg_cv g.oH) aD (d + 1) (nI i + 1) := by
      intro hne
      rw [nI_1]
      refine ih (i + 1) (by omega) ?_
      apply Classical.byContradiction
      intro hlt
      have h3 := co_in (mo := g.mo) (o := x) (by omega)
      rw [show vg_co g.mo x = i by omega] at h3
      exact hne h3
    have eT : nI i = vg_tv g.tp ↔ g.mo i = 1 := by
      rw [ht]
      cases htp : g.tp with
      | zero =>
        rw [tv_0]
        exact ⟨fun z => ((vn_n1 (by omega)).mp z).elim, fun z => by omega⟩
      | succ k =>
        rw [tv_s, nI_eq (by omega) (by omega)]
        omega
    refine br_f (fun z => by have := (vn_ge4 (by omega)).mp z; omega) ⟨vp_in_nI (by omega) (by decide), ?_⟩
    rw [nI_clamp (by omega), hm.1]
    by_cases e0 : g.mo i = 0
    · rw [if_pos e0]
      exact br_t rfl (nm_e (nxt (by omega)))
    · rw [if_neg e0]
      refine br_f (by decide) ?_
      by_cases e1 : g.mo i = 1
      · exact br_t (eT.mpr e1) (nm_e (nxt (by omega)))
      · refine br_f (fun z => e1 (eT.mp z)) ⟨vp_in_nI (by omega) (by decide), ?_⟩
        rw [hm.2 (by omega)]
        refine pk_eq (g.mo i - 2) x (fun e2 => ?_) (fun e2 => nm_e (nxt (by omega)))
        have h2 : vg_co g.mo x ≤ i := fs_lt (Nat.zero_le _) (by omega) (decide_eq_true (by omega))
        have h4 : vg_co g.mo x = i := by omega
        have h5 := h1 (by omega)
        rw [h4] at h5
        exact h5
theorem vy_covering {post : Int32 → Prop} {x : Nat} (hI : iv_I g) (hM : yr_m g aM aB) (hx : x < 40) (h1 : vg_co g.mo x < 4 → post (nI (vg_co g.mo x))) (h0 : ¬ vg_co g.mo x < 4 → post (-1)) : wpY_covering post (vy_S g lf pl nm aM aB aC aZ aN aT aS aI aH aD) (nI x) := by
  unfold wpY_covering vy_S
  exact ⟨_, vy_covL hI hM hx h1 h0 4 0 (by omega) (Nat.zero_le _)⟩
theorem vy_through {post : Int32 → Prop} {x : Nat} (hI : iv_I g) (hM : yr_m g aM aB) (hx : x < 40) (h : post (nI (vg_ov g.mo x))) : wpY_through post (vy_S g lf pl nm aM aB aC aZ aN aT aS aI aH aD) (nI x) := by
  unfold vg_ov at h
  unfold wpY_through vy_S
  refine vy_covering (g := g) (lf := lf) (pl := pl) (nm := nm) (aD := aD) hI hM hx (fun e => ⟨2, ?_⟩) (fun e => ⟨1, ?_⟩)
  · rw [if_pos e] at h
    refine br_f (nI_pos (by omega)) (nm_r (vn_ml10 _) ?_)
    refine vy_covering (g := g) (lf := lf) (pl := pl) (nm := nm) (aD := aD) hI hM (by omega) (fun e2 => absurd e2 (co_root hI (by omega))) (fun e2 => ?_)
    exact br_t (by decide) h
  · rw [if_neg e] at h
    exact br_t (by decide) h
end VY20
