section VX14
theorem vg_ext {a b : vg_G} (h1 : a.fm = b.fm) (h2 : a.ro = b.ro) (h3 : a.de = b.de) (h4 : a.mo = b.mo) (h5 : a.tp = b.tp) (h6 : a.cu = b.cu) (h7 : a.ki = b.ki) (h8 : a.sz = b.sz) (h9 : a.ef = b.ef) (h10 : a.wp = b.wp) (h11 : a.hd = b.hd) (h12 : a.nd = b.nd) (h13 : a.oF = b.oF) (h14 : a.oH = b.oH) (h15 : a.po = b.po) (h16 : a.dr = b.dr) (h17 : a.dl = b.dl) : a = b := by
  obtain ⟨a1, a2, a3, a4, a5, a6, a7, a8, a9, a10, a11, a12, a13, a14, a15, a16, a17⟩ := a
  obtain ⟨b1, b2, b3, b4, b5, b6, b7, b8, b9, b10, b11, b12, b13, b14, b15, b16, b17⟩ := b
  change a1 = b1 at h1
  change a2 = b2 at h2
  change a3 = b3 at h3
  change a4 = b4 at h4
  change a5 = b5 at h5
  change a6 = b6 at h6
  change a7 = b7 at h7
  change a8 = b8 at h8
  change a9 = b9 at h9
  change a10 = b10 at h10
  change a11 = b11 at h11
  change a12 = b12 at h12
  change a13 = b13 at h13
  change a14 = b14 at h14
  change a15 = b15 at h15
  change a16 = b16 at h16
  change a17 = b17 at h17
  subst h1 h2 h3 h4 h5 h6 h7 h8 h9 h10 h11 h12 h13 h14 h15 h16 h17
  rfl
/-! ranges filled -/
def vg_fl {α : Type} (f h : Nat → α) (a b : Nat) : Nat → α := fun j => if a ≤ j ∧ j < b then h j else f j
def vg_ug {α : Type} (f : Nat → α) (k : Nat) (x : α) : Nat → α := fun j => if j = k then x else f j
theorem fl_ap {α : Type} (f h : Nat → α) (a b j : Nat) : vg_fl f h a b j = if a ≤ j ∧ j < b then h j else f j := rfl
theorem fl_nil {α : Type} {f h : Nat → α} {a b : Nat} (e : b ≤ a) : vg_fl f h a b = f := by
  funext j
  rw [fl_ap, if_neg (by omega)]
theorem fl_step {α : Type} {f h : Nat → α} {a b : Nat} (e : a < b) : vg_fl (vg_ug f a (h a)) h (a + 1) b = vg_fl f h a b := by
  funext j
  rw [fl_ap, fl_ap]
  by_cases e1 : j = a
  · subst e1
    rw [if_neg (by omega), if_pos (by omega)]
    exact if_pos rfl
  · by_cases e2 : a + 1 ≤ j ∧ j < b
    · rw [if_pos e2, if_pos (by omega)]
    · rw [if_neg e2, if_neg (by omega)]
      exact if_neg e1
theorem ug_un (f : vg_F) (k x : Nat) : vg_un f k x = vg_ug f k x := rfl
theorem ug_up (f : Nat → Int32) (k : Nat) (x : Int32) : upd f k x = vg_ug f k x := rfl
theorem cv_uI {f : vg_F} {k x : Nat} (h : k < 2147483648) : upd (vg_cv f) (nI k).toNatClampNeg (nI x) = vg_cv (vg_un f k x) := by rw [nI_clamp h, cv_up]
theorem cv_uJ {f : vg_F} {k x : Nat} {i : Int32} (h : k < 2147483648) (e : i = nI k) : upd (vg_cv f) i.toNatClampNeg (nI x) = vg_cv (vg_un f k x) := by rw [e, nI_clamp h, cv_up]
theorem cv_at {f : vg_F} {k : Nat} (h : k < 2147483648) : vg_cv f (nI k).toNatClampNeg = nI (f k) := by rw [nI_clamp h]; rfl
variable {g : vg_G} {ac : Int32} {ah : Nat → Int32}
theorem vx_begL {post : SX → Prop} {o : Nat} (ho : o < 40) : ∀ d n f, n + d = 15 → post (vx_S (vg_sND g (vg_fl f (fun _ => 0) (15 * o + n) (15 * o + 15))) ac ah) → wX_beginObject_30 post (nI o) (vg_tv g.tp) (nI g.cu) ac (d + 1) (nI n) (vg_cv g.fm) (vg_cv g.ro) (vg_cv g.de) (vg_cm g.mo) (vg_cv g.ki) (vg_cv g.sz) (vg_cv g.ef) (vg_cv g.wp) g.hd (vg_cv f) (vg_cv g.oF) (vg_cv g.oH) (vg_cv g.po) (vg_cv g.dr) (vg_cv g.dl) ah := by
  intro d
  induction d with
  | zero =>
    intro n f hn h
    have e : n = 15 := by omega
    subst e
    rw [fl_nil (Nat.le_refl _)] at h
    exact br_t (by decide) h
  | succ d ih =>
    intro n f hn h
    have eI := vn_i15 o n
    refine br_f (fun z => by have := (vn_ge15 (by omega)).mp z; omega) ⟨by rw [eI]; exact vp_in_nI (by omega) (by decide), nm_r (cv_uJ (x := 0) (by omega) eI) (nm_r (nI_1 n) (ih (n + 1) _ (by omega) ?_))⟩
    rw [ug_un, ← Nat.add_assoc, fl_step (h := fun _ => 0) (by omega)]
    exact h
theorem vx_beginObject {post : SX → Prop} {o k : Nat} (ho : o < 40) (h : post (vx_S (vg_beg g o k) ac ah)) : wpX_beginObject post (vx_S g ac ah) (nI o) (nI k) := by
  have hi : vp_in (nI o) 40 := vp_in_nI ho (by decide)
  unfold wpX_beginObject vx_S
  refine ⟨hi, nm_r (cv_uI (by omega)) ⟨hi, nm_r (cv_uI (x := 0) (by omega)) ⟨hi, nm_r (cv_uI (x := 0) (by omega)) ⟨hi, nm_r (cv_uI (x := 0) (by omega)) ⟨16, ?_⟩⟩⟩⟩⟩
  exact vx_begL (g := vg_beg g o k) (ac := ac) (ah := ah) ho 15 0 g.nd (by omega) h
theorem vx_clrL {post : SX → Prop} {d : Nat} (hd : d < 4) : ∀ r n f, n + r = 10 → post (vx_S (vg_beg (vg_sKI g (vg_fl f (fun _ => 0) (10 * d + n) (10 * d + 10))) (10 * d) 1) ac ah) → wX_clearDisk_29 post (nI (10 * d)) (vg_tv g.tp) (nI g.cu) ac (r + 1) (nI n) (vg_cv g.fm) (vg_cv g.ro) (vg_cv g.de) (vg_cm g.mo) (vg_cv f) (vg_cv g.sz) (vg_cv g.ef) (vg_cv g.wp) g.hd (vg_cv g.nd) (vg_cv g.oF) (vg_cv g.oH) (vg_cv g.po) (vg_cv g.dr) (vg_cv g.dl) ah := by
  intro r
  induction r with
  | zero =>
    intro n f hn h
    have e : n = 10 := by omega
    subst e
    rw [fl_nil (Nat.le_refl _)] at h
    exact br_t (by decide) (vx_beginObject (g := vg_sKI g f) (ac := ac) (ah := ah) (by omega) h)
  | succ r ih =>
    intro n f hn h
    have eI : nI (10 * d) + nI n = nI (10 * d + n) := nI_add _ _
    refine br_f (fun z => by have := (vn_ge10 (by omega)).mp z; omega) ⟨by rw [eI]; exact vp_in_nI (by omega) (by decide), nm_r (cv_uJ (x := 0) (by omega) eI) (nm_r (nI_1 n) (ih (n + 1) _ (by omega) ?_))⟩
    rw [ug_un, ← Nat.add_assoc, fl_step (h := fun _ => 0) (by omega)]
    exact h
theorem clr_eq {d f : Nat} : vg_beg (vg_sKI (vg_sDE (vg_sRO (vg_sFM g (vg_un g.fm d f)) (vg_un g.ro d 0)) (vg_un g.de d 0)) (vg_fl g.ki (fun _ => 0) (10 * d + 0) (10 * d + 10))) (10 * d) 1 = vg_clr g d f := by
  refine vg_ext (by simp only [beg_fm, sKI_fm, sDE_fm, sRO_fm, sFM_fm, clr_fm]) (by simp only [beg_ro, sKI_ro, sDE_ro, sRO_ro, sFM_ro, clr_ro]) (by simp only [beg_de, sKI_de, sDE_de, sRO_de, sFM_de, clr_de]) (by simp only [beg_mo, sKI_mo, sDE_mo, sRO_mo, sFM_mo, clr_mo]) (by simp only [beg_tp, sKI_tp, sDE_tp, sRO_tp, sFM_tp, clr_tp]) (by simp only [beg_cu, sKI_cu, sDE_cu, sRO_cu, sFM_cu, clr_cu]) ?_ (by simp only [beg_sz, sKI_sz, sDE_sz, sRO_sz, sFM_sz, clr_sz]) (by simp only [beg_ef, sKI_ef, sDE_ef, sRO_ef, sFM_ef, clr_ef]) (by simp only [beg_wp, sKI_wp, sDE_wp, sRO_wp, sFM_wp, clr_wp]) (by simp only [beg_hd, sKI_hd, sDE_hd, sRO_hd, sFM_hd, clr_hd]) ?_ (by simp only [beg_oF, sKI_oF, sDE_oF, sRO_oF, sFM_oF, clr_oF]) (by simp only [beg_oH, sKI_oH, sDE_oH, sRO_oH, sFM_oH, clr_oH]) (by simp only [beg_po, sKI_po, sDE_po, sRO_po, sFM_po, clr_po]) (by simp only [beg_dr, sKI_dr, sDE_dr, sRO_dr, sFM_dr, clr_dr]) (by simp only [beg_dl, sKI_dl, sDE_dl, sRO_dl, sFM_dl, clr_dl])
  · rw [beg_ki, clr_ki]
    funext j
    show (if j = 10 * d then 1 else if 10 * d + 0 ≤ j ∧ j < 10 * d + 10 then 0 else g.ki j) = if 10 * d ≤ j ∧ j < 10 * d + 10 then (if j = 10 * d then 1 else 0) else g.ki j
    by_cases e : j = 10 * d
    · rw [if_pos e, if_pos (by omega), if_pos e]
    · rw [if_neg e]
      by_cases e1 : 10 * d ≤ j ∧ j < 10 * d + 10
      · rw [if_pos (by omega), if_pos e1, if_neg e]
      · rw [if_neg (by omega), if_neg e1]
  · rw [beg_nd, clr_nd]
    funext j
    show (if 15 * (10 * d) ≤ j ∧ j < 15 * (10 * d) + 15 then 0 else g.nd j) = if 150 * d ≤ j ∧ j < 150 * d + 15 then 0 else g.nd j
    by_cases e1 : 150 * d ≤ j ∧ j < 150 * d + 15
    · rw [if_pos (by omega), if_pos e1]
    · rw [if_neg (by omega), if_neg e1]
theorem vx_clearDisk {post : SX → Prop} {d f : Nat} (hd : d < 4) (h : post (vx_S (vg_clr g d f) ac ah)) : wpX_clearDisk post (vx_S g ac ah) (nI d) (nI f) := by
  have hi : vp_in (nI d) 4 := vp_in_nI hd (by decide)
  unfold wpX_clearDisk vx_S
  refine ⟨hi, nm_r (cv_uI (by omega)) ⟨hi, nm_r (e' := vg_cv (vg_un g.ro d 0)) (by rw [vn_bo0]; exact cv_uI (x := 0) (by omega)) ⟨hi, nm_r (cv_uI (x := 0) (by omega)) (vx_rootOf ⟨11, ?_⟩)⟩⟩⟩
  rw [← clr_eq] at h
  exact vx_clrL (g := vg_sDE (vg_sRO (vg_sFM g (vg_un g.fm d f)) (vg_un g.ro d 0)) (vg_un g.de d 0)) (ac := ac) (ah := ah) hd 10 0 g.ki (by omega) h
theorem vx_addEntry {post : SX → Prop} {p n t : Nat} (hp : p < 40) (hn : n < 15) (ht : t < 40) (h : post (vx_S (vg_inc (vg_put g p n t) t) ac ah)) : wpX_addEntry post (vx_S g ac ah) (nI p) (nI n) (nI t) := by
  have hi : vp_in (nI p) 40 := vp_in_nI hp (by decide)
  have hit : vp_in (nI t) 40 := vp_in_nI ht (by decide)
  have eI := vn_i15 p n
  unfold wpX_addEntry vx_S
  refine ⟨by rw [eI]; exact vp_in_nI (by omega) (by decide), nm_r (cv_uJ (by omega) eI) ⟨hi, hi, nm_r (e' := vg_cv (vg_un g.sz p (g.sz p + 1))) (by rw [cv_at (by omega), nI_1]; exact cv_uI (by omega)) ⟨hit, hit, nm_r (e' := vg_cv (vg_un g.ef t (g.ef t + 1))) (by rw [cv_at (by omega), nI_1]; exact cv_uI (by omega)) h⟩⟩⟩
/-! new objects -/
def vg_us (g : vg_G) (d : Nat) : Nat := vg_fs (fun i => decide (g.ki (10 * d + i) = 0)) 10 0
def vg_ne (g : vg_G) (p k : Nat) : Nat := vg_bd (g.fm (p / 10)) (g.sz p + 1) - vg_bd (g.fm (p / 10)) (g.sz p) + (if k = 1 then 1 else 0)
def vg_fu (g : vg_G) (p k : Nat) : Prop := ¬ vg_us g (p / 10) < 10 ∨ 6 ≤ g.sz p ∨ vg_fr g (p / 10) < vg_ne g p k
def vg_new (g : vg_G) (p n o k : Nat) : vg_G := vg_inc (vg_put (vg_beg g o k) p n o) o
theorem us_b {d : Nat} : vg_us g d ≤ 10 := by
  have := fs_b (P := fun i => decide (g.ki (10 * d + i) = 0)) (k := 10) (i := 0)
  unfold vg_us
  omega
theorem us_0 {d : Nat} (h : vg_us g d < 10) : g.ki (10 * d + vg_us g d) = 0 := of_decide_eq_true (fs_sp (P := fun i => decide (g.ki (10 * d + i) = 0)) (k := 10) (i := 0) (by unfold vg_us at h; omega))
theorem vx_usL {post : Int32 → Prop} {d : Nat} (hI : iv_I g) (hd : d < 4) (h1 : vg_us g d < 10 → post (nI (10 * d + vg_us g d))) (h0 : ¬ vg_us g d < 10 → post (-7)) :
    ∀ r i, i + r = 10 → i ≤ vg_us g d → wX_unusedObject_2 post (nI d) (vg_tv g.tp) (nI g.cu) ac (vg_cv g.fm) (vg_cv g.ro) (vg_cv g.de) (vg_cm g.mo) (vg_cv g.ki) (vg_cv g.sz) (vg_cv g.ef) (vg_cv g.wp) g.hd (vg_cv g.nd) (vg_cv g.oF) (vg_cv g.oH) (vg_cv g.po) (vg_cv g.dr) (vg_cv g.dl) ah (r + 1) (nI i) := by
  intro r
  induction r with
  | zero =>
    intro i hi hle
    exact br_t ((vn_ge10 (by omega)).mpr (by omega)) (h0 (by omega))
  | succ r ih =>
    intro i hi hle
    have hb := hI.1.2.2.2.2.2.2.1 (10 * d + i)
    have eI := vn_i10 d i
    have e1 : vg_cv g.ki (nI (10 * d + i)).toNatClampNeg = 0 ↔ g.ki (10 * d + i) = 0 := by
      rw [cv_at (by omega)]
      exact vn_e0 (by omega)
    refine br_f (fun z => by have := (vn_ge10 (by omega)).mp z; omega) ?_
    rw [eI]
    refine ⟨vp_in_nI (by omega) (by decide), fun e => ?_, fun e => nm_r (nI_1 i) (ih (i + 1) (by omega) ?_)⟩
    · have h2 : vg_us g d ≤ i := fs_lt (Nat.zero_le _) (by omega) (decide_eq_true (e1.mp e))
      have h3 := h1 (by omega)
      rw [show vg_us g d = i by omega] at h3
      exact h3
    · apply Classical.byContradiction
      intro hlt
      have h3 := us_0 (g := g) (d := d) (by omega)
      rw [show vg_us g d = i by omega] at h3
      exact e (e1.mpr h3)
theorem vx_unused {post : Int32 → Prop} {d : Nat} (hI : iv_I g) (hd : d < 4) (h1 : vg_us g d < 10 → post (nI (10 * d + vg_us g d))) (h0 : ¬ vg_us g d < 10 → post (-7)) : wpX_unusedObject post (vx_S g ac ah) (nI d) := by
  unfold wpX_unusedObject vx_S
  exact ⟨_, vx_usL hI hd h1 h0 10 0 (by omega) (Nat.zero_le _)⟩
theorem bd_mono {f s : Nat} : vg_bd f s ≤ vg_bd f (s + 1) ∧ vg_bd f s ≤ 2 ∧ 1 ≤ vg_bd f s := by
  unfold vg_bd
  split
  · rw [if_pos (by omega)]; omega
  · split <;> omega
theorem vx_further {post : Int32 → Prop} {p : Nat} (hI : iv_I g) (hp : p < 40) (h : post (nI (vg_bd (g.fm (p / 10)) (g.sz p + 1) - vg_bd (g.fm (p / 10)) (g.sz p)))) : wpX_blocksForFurtherEntry post (vx_S g ac ah) (nI p) := by
  have hi : vp_in (nI p) 40 := vp_in_nI hp (by decide)
  have hs := hI.1.2.2.2.2.2.2.2.1 p
  unfold wpX_blocksForFurtherEntry vx_S
  refine vx_diskOf (by omega) ⟨hi, ?_⟩
  rw [cv_at (by omega), nI_1]
  refine vx_blocksOfDirectory (g := g) (ac := ac) (ah := ah) hI (by omega) (by omega) ⟨hi, ?_⟩
  refine vx_blocksOfDirectory (g := g) (ac := ac) (ah := ah) hI (by omega) (by omega) ?_
  rw [pk_sub (bd_mono (f := g.fm (p / 10)) (s := g.sz p)).1]
  exact h
theorem vx_addObject {post : Int32 → SX → Prop} {p k : Nat} (hI : iv_I g) (hp : p < 40) (hk1 : 1 ≤ k) (hk : k ≤ 3) (hls : vg_ls g 0 < 15)
    (h0 : vg_fu g p k → post (-7) (vx_S g ac ah)) (h1 : ¬ vg_fu g p k → post (nI (10 * (p / 10) + vg_us g (p / 10))) (vx_S (vg_new g p (vg_ls g 0) (10 * (p / 10) + vg_us g (p / 10)) k) ac ah)) :
    wpX_addObject post (vx_S g ac ah) (nI p) (nI k) := by
  have hi : vp_in (nI p) 40 := vp_in_nI hp (by decide)
  have hs := hI.1.2.2.2.2.2.2.2.1 p
  have hl := hI.1.2.2.2.2.2.2.2.2.2.2.2.2.2.2.2 0
  have bm := bd_mono (f := g.fm (p / 10)) (s := g.sz p)
  have bm1 := bd_mono (f := g.fm (p / 10)) (s := g.sz p + 1)
  have hub := us_b (g := g) (d := p / 10)
  have low : ∀ z : Nat, z < 2 → z = (if k = 1 then 1 else 0) → ∀ x4 : Int32, (vg_us g (p / 10) < 10 ∧ x4 = nI (10 * (p / 10) + vg_us g (p / 10)) ∨ ¬ vg_us g (p / 10) < 10 ∧ x4 = -7) → wX_addObject_27 post (nI p) (nI k) (nI (p / 10)) x4 (nI z) (nI (vg_bd (g.fm (p / 10)) (g.sz p + 1) - vg_bd (g.fm (p / 10)) (g.sz p))) (vg_tv g.tp) (nI g.cu) ac (vg_cv g.fm) (vg_cv g.ro) (vg_cv g.de) (vg_cm g.mo) (vg_cv g.ki) (vg_cv g.sz) (vg_cv g.ef) (vg_cv g.wp) g.hd (vg_cv g.nd) (vg_cv g.oF) (vg_cv g.oH) (vg_cv g.po) (vg_cv g.dr) (vg_cv g.dl) ah := by
    intro z hz ez x4 hx
    unfold wX_addObject_27
    refine nm_r (nI_add _ _) ?_
    rcases hx with ⟨hu, ex⟩ | ⟨hu, ex⟩
    · subst ex
      refine br_f (nI_pos (by omega)) ⟨hi, ?_⟩
      rw [cv_at (by omega)]
      refine pk_le 6 (g.sz p) (fun e6 => h0 (Or.inr (Or.inl e6))) (fun e6 => ?_)
      refine vx_freeBlocks (g := g) (ac := ac) (ah := ah) hI (by omega) ?_
      have hfr : vg_fr g (p / 10) ≤ 32 := by unfold vg_fr; omega
      have hne : vg_bd (g.fm (p / 10)) (g.sz p + 1) - vg_bd (g.fm (p / 10)) (g.sz p) + z = vg_ne g p k := by unfold vg_ne; rw [ez]
      rw [hne]
      refine pk_le (vg_ne g p k) (vg_fr g (p / 10)) (fun e => ?_) (fun e => h0 (Or.inr (Or.inr e))) rfl rfl (by omega) (by omega)
      have hnf : ¬ vg_fu g p k := by
        intro hf
        rcases hf with hf | hf | hf
        · exact hf hu
        · omega
        · omega
      refine vx_beginObject (g := g) (ac := ac) (ah := ah) (by omega) ?_
      refine vx_lastStep (g := vg_beg g (10 * (p / 10) + vg_us g (p / 10)) k) (ac := ac) (ah := ah) (p := 0) hl (by omega) ?_
      exact vx_addEntry (g := vg_beg g (10 * (p / 10) + vg_us g (p / 10)) k) (ac := ac) (ah := ah) (n := vg_ls g 0) hp hls (by omega) (h1 hnf)
    · subst ex
      exact br_t (by decide) (h0 (Or.inl hu))
  have tail : ∀ x4 : Int32, (vg_us g (p / 10) < 10 ∧ x4 = nI (10 * (p / 10) + vg_us g (p / 10)) ∨ ¬ vg_us g (p / 10) < 10 ∧ x4 = -7) → wpX_blocksForFurtherEntry (fun r_22 => ((nI k = 1 → wX_addObject_27 post (nI p) (nI k) (nI (p / 10)) x4 1 r_22 (vg_tv g.tp) (nI g.cu) ac (vg_cv g.fm) (vg_cv g.ro) (vg_cv g.de) (vg_cm g.mo) (vg_cv g.ki) (vg_cv g.sz) (vg_cv g.ef) (vg_cv g.wp) g.hd (vg_cv g.nd) (vg_cv g.oF) (vg_cv g.oH) (vg_cv g.po) (vg_cv g.dr) (vg_cv g.dl) ah) ∧ (¬ nI k = 1 → wX_addObject_27 post (nI p) (nI k) (nI (p / 10)) x4 0 r_22 (vg_tv g.tp) (nI g.cu) ac (vg_cv g.fm) (vg_cv g.ro) (vg_cv g.de) (vg_cm g.mo) (vg_cv g.ki) (vg_cv g.sz) (vg_cv g.ef) (vg_cv g.wp) g.hd (vg_cv g.nd) (vg_cv g.oF) (vg_cv g.oH) (vg_cv g.po) (vg_cv g.dr) (vg_cv g.dl) ah))) (vx_S g ac ah) (nI p) := by
    intro x4 hx
    refine vx_further (g := g) (ac := ac) (ah := ah) hI hp ?_
    refine pk_eq k 1 (fun e => ?_) (fun e => ?_)
    · exact low 1 (by omega) (by rw [if_pos e]) x4 hx
    · exact low 0 (by omega) (by rw [if_neg e]) x4 hx
  unfold wpX_addObject vx_S
  refine vx_diskOf (by omega) ?_
  refine vx_unused (g := g) (ac := ac) (ah := ah) hI (by omega) (fun hu => ?_) (fun hu => ?_)
  · exact tail _ (Or.inl ⟨hu, rfl⟩)
  · exact tail _ (Or.inr ⟨hu, rfl⟩)
end VX14
