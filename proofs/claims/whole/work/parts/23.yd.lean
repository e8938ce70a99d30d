section VY23
variable {g : vg_G} {lf pl nm : Int32} {aM aB aC aZ aN aT aS aI aH aD : Nat → Int32}
theorem bd_gr (f s : Nat) : vg_bd f (s + 1) - vg_bd f s = if f = 0 ∧ s = 4 then 1 else 0 := by
  unfold vg_bd
  by_cases e : f = 0
  · by_cases e1 : s = 4
    · rw [if_pos (by omega), if_neg (by omega), if_pos ⟨e, e1⟩]
    · rw [if_neg (show ¬ (f = 0 ∧ s = 4) by omega)]
      by_cases e2 : 4 < s
      · rw [if_pos (by omega), if_pos (by omega)]
      · rw [if_neg (by omega), if_neg (by omega)]
  · rw [if_neg (by omega), if_neg (by omega), if_neg (by omega)]
theorem vy_growth {post : Int32 → Prop} {p : Nat} (hb : iv_bd g) (hY : yr_d g aC aN aT) (hp : p < 40) (hk : g.ki p = 1) (h : post (nI (vg_bd (g.fm (p / 10)) (g.sz p + 1) - vg_bd (g.fm (p / 10)) (g.sz p)))) : wpY_growth post (vy_S g lf pl nm aM aB aC aZ aN aT aS aI aH aD) (nI p) := by
  have hf := hb.1 (p / 10)
  have hs := hb.2.2.2.2.2.2.2.1 p
  have hc := (hY p hp hk).1
  have EF : vg_cv g.fm (nI (p / 10)).toNatClampNeg = 0 ↔ g.fm (p / 10) = 0 := by
    rw [cv_at (by omega)]
    exact vn_e0 (by omega)
  rw [bd_gr] at h
  unfold wpY_growth vy_S
  rw [vn_d10 (by omega)]
  refine ⟨vz_10, vp_in_nI (by omega) (by decide), fun ef => ⟨vp_in_nI hp (by decide), ?_⟩, fun ef => ?_⟩
  · rw [nI_clamp (by omega), hc]
    refine pk_eq (g.sz p) 4 (fun e => ?_) (fun e => ?_)
    · rw [if_pos ⟨EF.mp ef, e⟩] at h; exact h
    · rw [if_neg (fun z => e z.2)] at h; exact h
  · rw [if_neg (fun z => ef (EF.mpr z.1))] at h; exact h
theorem vy_usL {post : Int32 → Prop} {d : Nat} (hI : iv_I g) (hd : d < 4) (h1 : vg_us g d < 10 → post (nI (10 * d + vg_us g d))) (h0 : ¬ vg_us g d < 10 → post (-1)) :
    ∀ r i, i + r = 10 → i ≤ vg_us g d → wY_unused_5 post (nI d) (vg_tv g.tp) (nI g.cu) lf pl nm (vg_cv g.fm) (vg_cv g.de) (vg_cv g.ro) aM aB (vg_cv g.ki) aC aZ (vg_cv g.wp) aN aT aS aI (vg_cv g.dr) (vg_cv g.dl) aH (vg_cv g.po) (vg_cv g.oH) aD (r + 1) (nI (10 * d + i)) := by
  have eE : 10 * nI d + 10 = nI (10 * d + 10) := by rw [vn_ml10, vn_ar10]
  intro r
  induction r with
  | zero =>
    intro i hi hle
    refine br_t ?_ (h0 (by omega))
    rw [eE]
    exact (nI_leI (by omega) (by omega)).mpr (by omega)
  | succ r ih =>
    intro i hi hle
    have hb := hI.1.2.2.2.2.2.2.1 (10 * d + i)
    have e1 : vg_cv g.ki (nI (10 * d + i)).toNatClampNeg = 0 ↔ g.ki (10 * d + i) = 0 := by
      rw [cv_at (by omega)]
      exact vn_e0 (by omega)
    refine br_f ?_ ⟨vp_in_nI (by omega) (by decide), fun e => ?_, fun e => nm_r (nI_1 _) (ih (i + 1) (by omega) ?_)⟩
    · rw [eE]
      intro z
      have := (nI_leI (by omega) (by omega)).mp z
      omega
    · have h2 : vg_us g d ≤ i := fs_lt (Nat.zero_le _) (by omega) (decide_eq_true (e1.mp e))
      have h3 := h1 (by omega)
      rw [show vg_us g d = i by omega] at h3
      exact h3
    · apply Classical.byContradiction
      intro hlt
      have h3 := us_0 (g := g) (d := d) (by omega)
      rw [show vg_us g d = i by omega] at h3
      exact e (e1.mpr h3)
theorem vy_unused {post : Int32 → Prop} {d : Nat} (hI : iv_I g) (hd : d < 4) (h1 : vg_us g d < 10 → post (nI (10 * d + vg_us g d))) (h0 : ¬ vg_us g d < 10 → post (-1)) : wpY_unused post (vy_S g lf pl nm aM aB aC aZ aN aT aS aI aH aD) (nI d) := by
  unfold wpY_unused vy_S
  exact nm_r (vn_ml10 d) ⟨11, vy_usL hI hd h1 h0 10 0 (by omega) (Nat.zero_le _)⟩
theorem cn_beg {o k : Nat} (h : iv_cn g) : iv_cn (vg_beg g o k) := by
  intro q hq hkq
  have hnd : ∀ m, m < 15 → (vg_beg g o k).nd (15 * q + m) = if q = o then 0 else g.nd (15 * q + m) := by
    intro m hm
    show (if 15 * o ≤ 15 * q + m ∧ 15 * q + m < 15 * o + 15 then 0 else g.nd (15 * q + m)) = _
    by_cases h2 : q = o
    · rw [if_pos (by omega), if_pos h2]
    · rw [if_neg (by omega), if_neg h2]
  rw [beg_sz, un_ap]
  by_cases e : q = o
  · rw [if_pos e]
    refine ⟨?_, by omega⟩
    unfold vg_bl
    rw [sm_zero (fun i hi => if_pos (by rw [hnd i hi, if_pos e]))]
  · rw [if_neg e, bl_cg (nd' := g.nd) (fun i hi => by rw [hnd i hi, if_neg e])]
    rw [beg_ki, un_n _ _ e] at hkq
    exact h q hq hkq
theorem bd_beg {o k : Nat} (h : iv_bd g) (hk : k ≤ 3) : iv_bd (vg_beg g o k) := by
  obtain ⟨b1, b2, b3, b4, b5, b6, b7, b8, b9, b10, b11, b12, b13, b14, b15, b16⟩ := h
  refine ⟨b1, b2, b3, b4, b5, b6, fun j => ?_, fun j => ?_, fun j => ?_, fun j => ?_, fun j => ?_, b12, b13, b14, b15, b16⟩
  · rw [beg_ki, un_ap]; have := b7 j; split <;> omega
  · rw [beg_sz, un_ap]; have := b8 j; split <;> omega
  · rw [beg_ef, un_ap]; have := b9 j; split <;> omega
  · rw [beg_wp, un_ap]; have := b10 j; split <;> omega
  · show (if 15 * o ≤ j ∧ j < 15 * o + 15 then 0 else g.nd j) < 40
    have := b11 j; split <;> omega
theorem vy_creL {post : Int32 → SY → Prop} {o : Nat} (ho : o < 40) : ∀ r i a, i + r = 20 → wpY_insert (fun u => match u with | (f_top, f_here, f_left, f_place, f_name, a_format, a_dead, a_locked, a_mounted, a_below, a_kind, a_count, a_size, a_parts, a_names, a_targets, a_steps, a_ints, a_draft, a_length, a_handle, a_position, a_way, a_todo) => post (nI o) (f_top, f_here, f_left, f_place, f_name, a_format, a_dead, a_locked, a_mounted, a_below, a_kind, a_count, a_size, a_parts, a_names, a_targets, a_steps, a_ints, a_draft, a_length, a_handle, a_position, a_way, a_todo)) (vy_S g lf pl nm aM aB aC aZ aN aT aS (vg_fl a (fun _ => 0) (20 * o + i) (20 * o + 20)) aH aD) pl nm (nI o) → wY_create_100 post (nI o) (vg_tv g.tp) (nI g.cu) lf pl nm (r + 1) (nI i) (vg_cv g.fm) (vg_cv g.de) (vg_cv g.ro) aM aB (vg_cv g.ki) aC aZ (vg_cv g.wp) aN aT aS a (vg_cv g.dr) (vg_cv g.dl) aH (vg_cv g.po) (vg_cv g.oH) aD := by
  intro r
  induction r with
  | zero =>
    intro i a hi h
    have e : i = 20 := by omega
    subst e
    rw [fl_nil (Nat.le_refl _)] at h
    exact br_t (by decide) h
  | succ r ih =>
    intro i a hi h
    have eI : 20 * nI o + nI i = nI (20 * o + i) := by rw [vn_ml20, nI_add]
    refine br_f (fun z => by have := (vn_ge20 (by omega)).mp z; omega) ⟨by rw [eI]; exact vp_in_nI (by omega) (by decide), nm_r (e' := vg_ug a (20 * o + i) 0) (by rw [eI, nI_clamp (by omega)]; rfl) (nm_r (nI_1 i) (ih (i + 1) _ (by omega) ?_))⟩
    rw [← Nat.add_assoc, fl_step (h := fun _ => (0 : Int32)) (by omega)]
    exact h
theorem R_inc {G : vg_G} {t : Nat} (h : vy_R G aM aB aC aZ aN aT aS aI aH) : vy_R (vg_inc G t) aM aB aC aZ aN aT aS aI aH := h
theorem S_inc {G : vg_G} {t : Nat} : vy_S (vg_inc G t) lf pl nm aM aB aC aZ aN aT aS aI aH aD = vy_S G lf pl nm aM aB aC aZ aN aT aS aI aH aD := rfl
theorem R_dec {G : vg_G} {t : Nat} (h : vy_R G aM aB aC aZ aN aT aS aI aH) : vy_R (vg_dec G t) aM aB aC aZ aN aT aS aI aH := h
theorem S_dec {G : vg_G} {t : Nat} : vy_S (vg_dec G t) lf pl nm aM aB aC aZ aN aT aS aI aH aD = vy_S G lf pl nm aM aB aC aZ aN aT aS aI aH aD := rfl
theorem vy_create {post : Int32 → SY → Prop} {p n k : Nat} (hI : iv_I g) (hR : vy_R g aM aB aC aZ aN aT aS aI aH) (hp : p < 40) (hkp : g.ki p = 1) (hn : n < 15) (h0n : g.nd (15 * p + n) = 0) (hk1 : 1 ≤ k) (hk : k ≤ 3)
    (h0 : vg_fu g p k → post (-7) (vy_S g lf (nI p) (nI n) aM aB aC aZ aN aT aS aI aH aD))
    (h1 : ¬ vg_fu g p k → ∀ c' z' n' t' i', vy_R (vg_new g p n (10 * (p / 10) + vg_us g (p / 10)) k) aM aB c' z' n' t' aS i' aH → post (nI (10 * (p / 10) + vg_us g (p / 10))) (vy_S (vg_new g p n (10 * (p / 10) + vg_us g (p / 10)) k) lf (nI p) (nI n) aM aB c' z' n' t' aS i' aH aD)) :
    wpY_create post (vy_S g lf (nI p) (nI n) aM aB aC aZ aN aT aS aI aH aD) (nI k) := by
  have hi : vp_in (nI p) 40 := vp_in_nI hp (by decide)
  have hs := hI.1.2.2.2.2.2.2.2.1 p
  have hcn := hI.2.2.2.2.1 p hp hkp
  have hcp := (hR.2.1 p hp hkp).1
  have bm := bd_mono (f := g.fm (p / 10)) (s := g.sz p)
  have bm1 := bd_mono (f := g.fm (p / 10)) (s := g.sz p + 1)
  have hub := us_b (g := g) (d := p / 10)
  have low : ∀ z : Nat, z < 2 → z = (if k = 1 then 1 else 0) → ∀ x2 : Int32, (vg_us g (p / 10) < 10 ∧ x2 = nI (10 * (p / 10) + vg_us g (p / 10)) ∨ ¬ vg_us g (p / 10) < 10 ∧ x2 = -1) → wY_create_30 post (nI k) x2 (nI z) (nI (vg_bd (g.fm (p / 10)) (g.sz p + 1) - vg_bd (g.fm (p / 10)) (g.sz p))) (vg_tv g.tp) (nI g.cu) lf (nI p) (nI n) (vg_cv g.fm) (vg_cv g.de) (vg_cv g.ro) aM aB (vg_cv g.ki) aC aZ (vg_cv g.wp) aN aT aS aI (vg_cv g.dr) (vg_cv g.dl) aH (vg_cv g.po) (vg_cv g.oH) aD := by
    intro z hz ez x2 hx
    unfold wY_create_30
    refine nm_r (nI_add _ _) ?_
    rcases hx with ⟨hu, ex⟩ | ⟨hu, ex⟩
    · subst ex
      have hu0 := us_0 (g := g) (d := p / 10) hu
      refine br_f (nI_pos (by omega)) ⟨hi, ?_⟩
      rw [nI_clamp (n := p) (by omega), hcp, vn_d10 (a := p) (by omega)]
      refine pk_eq (g.sz p) 6 (fun e6 => h0 (Or.inr (Or.inl (by omega)))) (fun e6 => ⟨vz_10, ?_⟩)
      refine vy_rest (lf := lf) (pl := nI p) (nm := nI n) (aD := aD) hI hR (by omega) ?_
      have hfr : vg_fr g (p / 10) ≤ 32 := by unfold vg_fr; omega
      have hne : vg_bd (g.fm (p / 10)) (g.sz p + 1) - vg_bd (g.fm (p / 10)) (g.sz p) + z = vg_ne g p k := by unfold vg_ne; rw [ez]
      rw [hne]
      refine pk_le (vg_ne g p k) (vg_fr g (p / 10)) (fun e => ?_) (fun e => h0 (Or.inr (Or.inr e))) rfl rfl (by omega) (by omega)
      have hnf : ¬ vg_fu g p k := by
        intro hf
        rcases hf with hf | hf | hf
        · exact hf hu
        · omega
        · omega
      have hO : 10 * (p / 10) + vg_us g (p / 10) < 40 := by omega
      have hpo : p ≠ 10 * (p / 10) + vg_us g (p / 10) := by intro e; rw [← e] at hu0; omega
      have hr : 10 * (p / 10) + vg_us g (p / 10) ≠ 0 := by
        intro e
        have := (hI.2.1 0 (by omega)).1
        rw [e] at hu0
        have e2 : g.ki (10 * 0) = 0 := hu0
        omega
      have h1' := h1 hnf
      generalize hoo : 10 * (p / 10) + vg_us g (p / 10) = o at *
      have hio : vp_in (nI o) 40 := vp_in_nI hO (by decide)
      have hRb : vy_R (vg_beg g o k) aM aB (upd aC o 0) (upd aZ o 0) aN aT aS (vg_fl aI (fun _ => 0) (20 * o + 0) (20 * o + 20)) aH := ⟨hR.1, yr_beg_d hR.2.1, yr_beg_f hR.2.2.1, yr_beg_l hR.2.2.2.1, hR.2.2.2.2⟩
      refine ⟨hio, nm_r (e' := vg_cv (vg_un g.ki o k)) (by rw [vn_b8 (by omega)]; exact cv_uI (by omega)) ⟨hio, nm_r (e' := upd aC o 0) (by rw [vn_nb0, nI_clamp (by omega)]) ⟨hio, nm_r (e' := upd aZ o 0) (by rw [vn_nb0, nI_clamp (by omega)]) ⟨hio, nm_r (e' := vg_cv (vg_un g.wp o 0)) (by rw [vn_nb0]; exact cv_uI (x := 0) (by omega)) ⟨21, ?_⟩⟩⟩⟩⟩
      refine vy_creL (g := vg_beg g o k) (lf := lf) (pl := nI p) (nm := nI n) hO 20 0 aI (by omega) ?_
      refine vy_insert (g := vg_beg g o k) (lf := lf) (pl := nI p) (nm := nI n) (aD := aD) (bd_beg hI.1 hk) hRb (cn_beg hI.2.2.2.2.1) hp ?_ hn ?_ hO hr ?_ (fun c' n' t' hR' => ?_)
      · rw [beg_ki, un_n _ _ hpo]; exact hkp
      · show (if 15 * o ≤ 15 * p + n ∧ 15 * p + n < 15 * o + 15 then 0 else g.nd (15 * p + n)) = 0
        rw [h0n]
        exact ite_self 0
      · rw [beg_sz, un_n _ _ hpo]; omega
      · have h9 := h1' c' _ n' t' _ (R_inc hR')
        unfold vg_new at h9
        rw [S_inc] at h9
        exact h9
    · subst ex
      exact br_t (by decide) (h0 (Or.inl hu))
  have tail : ∀ x2 : Int32, (vg_us g (p / 10) < 10 ∧ x2 = nI (10 * (p / 10) + vg_us g (p / 10)) ∨ ¬ vg_us g (p / 10) < 10 ∧ x2 = -1) → wpY_growth (fun r_27 => ((nI k = 1 → wY_create_30 post (nI k) x2 1 r_27 (vg_tv g.tp) (nI g.cu) lf (nI p) (nI n) (vg_cv g.fm) (vg_cv g.de) (vg_cv g.ro) aM aB (vg_cv g.ki) aC aZ (vg_cv g.wp) aN aT aS aI (vg_cv g.dr) (vg_cv g.dl) aH (vg_cv g.po) (vg_cv g.oH) aD) ∧ (¬ nI k = 1 → wY_create_30 post (nI k) x2 0 r_27 (vg_tv g.tp) (nI g.cu) lf (nI p) (nI n) (vg_cv g.fm) (vg_cv g.de) (vg_cv g.ro) aM aB (vg_cv g.ki) aC aZ (vg_cv g.wp) aN aT aS aI (vg_cv g.dr) (vg_cv g.dl) aH (vg_cv g.po) (vg_cv g.oH) aD))) (vy_S g lf (nI p) (nI n) aM aB aC aZ aN aT aS aI aH aD) (nI p) := by
    intro x2 hx
    refine vy_growth (lf := lf) (pl := nI p) (nm := nI n) (aD := aD) hI.1 hR.2.1 hp hkp ?_
    refine pk_eq k 1 (fun e => ?_) (fun e => ?_)
    · exact low 1 (by omega) (by rw [if_pos e]) x2 hx
    · exact low 0 (by omega) (by rw [if_neg e]) x2 hx
  unfold wpY_create vy_S
  dsimp only
  rw [vn_d10 (by omega)]
  refine ⟨vz_10, vy_unused (lf := lf) (pl := nI p) (nm := nI n) (aD := aD) hI (by omega) (fun hu => ?_) (fun hu => ?_)⟩
  · exact tail _ (Or.inl ⟨hu, rfl⟩)
  · exact tail _ (Or.inr ⟨hu, rfl⟩)
theorem vy_fhL {post : Int32 → Prop} (hI : iv_I g) (hH : yr_h g aH) (h1 : vg_ch g < 5 → post (nI (vg_ch g))) (h0 : ¬ vg_ch g < 5 → post (-1)) : ∀ r i, i + r = 5 → i ≤ vg_ch g → wY_freeHandle_2 post (vg_tv g.tp) (nI g.cu) lf pl nm (vg_cv g.fm) (vg_cv g.de) (vg_cv g.ro) aM aB (vg_cv g.ki) aC aZ (vg_cv g.wp) aN aT aS aI (vg_cv g.dr) (vg_cv g.dl) aH (vg_cv g.po) (vg_cv g.oH) aD (r + 1) (nI i) := by
  intro r
  induction r with
  | zero =>
    intro i hi hle
    exact br_t ((vn_ge5 (by omega)).mpr (by omega)) (h0 (by omega))
  | succ r ih =>
    intro i hi hle
    have e1 : ¬ 0 ≤ aH (nI i).toNatClampNeg ↔ g.oF i = 0 := by
      rw [nI_clamp (by omega), Int32.not_le]
      exact yh_neg hI hH (by omega)
    refine br_f (fun z => by have := (vn_ge5 (by omega)).mp z; omega) ⟨vp_in_nI (by omega) (by decide), fun e => nm_r (nI_1 i) (ih (i + 1) (by omega) ?_), fun e => ?_⟩
    · apply Classical.byContradiction
      intro hlt
      have h3 : g.oF (vg_ch g) = 0 := of_decide_eq_true (fs_sp (P := fun h => decide (g.oF h = 0)) (k := 5) (i := 0) (by unfold vg_ch at hlt hle; omega))
      rw [show vg_ch g = i by omega] at h3
      exact (e1.mpr h3) e
    · have h2 : vg_ch g ≤ i := fs_lt (Nat.zero_le _) (by omega) (decide_eq_true (e1.mp e))
      have h3 := h1 (by omega)
      rw [show vg_ch g = i by omega] at h3
      exact h3
theorem vy_handle {post : Int32 → Prop} (hI : iv_I g) (hH : yr_h g aH) (h1 : vg_ch g < 5 → post (nI (vg_ch g))) (h0 : ¬ vg_ch g < 5 → post (-1)) : wpY_freeHandle post (vy_S g lf pl nm aM aB aC aZ aN aT aS aI aH aD) := by
  unfold wpY_freeHandle vy_S
  exact ⟨6, vy_fhL hI hH h1 h0 5 0 (by omega) (Nat.zero_le _)⟩
theorem vy_closed1 {post : Int32 → Prop} {h : Nat} (hI : iv_I g) (hH : yr_h g aH) (hh : h < 5) (h1 : g.oF h ≠ 0 → post 0) (h0 : g.oF h = 0 → post 1) : wpY_closed post (vy_S g lf pl nm aM aB aC aZ aN aT aS aI aH aD) (nI h) := by
  unfold wpY_closed vy_S
  refine vy_out0 5 hh (by omega) (br_t rfl ⟨vp_in_nI hh (by decide), ?_⟩)
  have e1 : ¬ 0 ≤ aH (nI h).toNatClampNeg ↔ g.oF h = 0 := by
    rw [nI_clamp (by omega), Int32.not_le]
    exact yh_neg hI hH hh
  exact ⟨fun e => h1 (fun z => (e1.mpr z) e), fun e => h0 (e1.mp e)⟩
theorem vy_closed0 {post : Int32 → Prop} {x : Int32} (hx : x < 0 ∨ nI 5 ≤ x) (h : post 1) : wpY_closed post (vy_S g lf pl nm aM aB aC aZ aN aT aS aI aH aD) x := by
  unfold wpY_closed vy_S
  exact vy_out1 5 (by omega) hx (br_f (by decide) h)
theorem vy_cutM {post : SY → Prop} {o n : Nat} (hb : iv_bd g) (ho : o < 40) (hn : n ≤ 20) (h : post (vy_S (vg_ssz g o n) lf pl nm aM aB aC (upd aZ o (nI n)) aN aT aS aI aH aD)) : ∀ r b, b + r = 5 → wY_cutTo_31 post (nI o) (nI n) (vg_tv g.tp) (nI g.cu) lf pl nm (vg_cv g.fm) (vg_cv g.de) (vg_cv g.ro) aM aB (vg_cv g.ki) aC aZ (vg_cv g.wp) aN aT aS aI (vg_cv g.dr) (vg_cv g.dl) aH (vg_cv g.po) (vg_cv g.oH) aD (r + 1) (nI (if b ≤ (n + 3) / 4 then 0 else 2 ^ b - 2 ^ ((n + 3) / 4))) (nI b) := by
  intro r
  induction r with
  | zero =>
    intro b hb5
    have e : b = 5 := by omega
    subst e
    refine br_t (by decide) ?_
    have e2 : (if 5 ≤ (n + 3) / 4 then 0 else 2 ^ 5 - 2 ^ ((n + 3) / 4)) = 32 - 2 ^ ((n + 3) / 4) := by
      by_cases e3 : 5 ≤ (n + 3) / 4
      · rw [if_pos e3, show (n + 3) / 4 = 5 by omega]
      · rw [if_neg e3]
    rw [e2]
    refine vy_giveUp (lf := lf) (pl := pl) (nm := nm) (aD := aD) hb ho hn ⟨vp_in_nI ho (by decide), nm_r (e' := upd aZ o (nI n)) ?_ h⟩
    rw [vn_b8 (by omega), nI_clamp (by omega)]
  | succ r ih =>
    intro b hb5
    refine br_f (fun z => by have := (vn_ge5 (by omega)).mp z; omega) ?_
    rw [vn_ml4]
    refine pk_lt (4 * b) n (fun e => nm_r (nI_1 b) ?_) (fun e => nm_r ?_ (nm_r (nI_1 b) (ih (b + 1) (by omega))))
    · have h2 := ih (b + 1) (by omega)
      rw [if_pos (by omega)] at h2 ⊢
      exact h2
    · rw [bt_1 b (by omega), if_neg (show ¬ b + 1 ≤ (n + 3) / 4 by omega)]
      by_cases e2 : b ≤ (n + 3) / 4
      · rw [if_pos e2, show (n + 3) / 4 = b by omega]
        have h3 := bt_ac b (by omega) b (by omega) (Nat.le_refl _)
        rw [Nat.sub_self] at h3
        exact h3
      · rw [if_neg e2]
        exact bt_ac _ (by omega) b (by omega) (by omega)
theorem vy_cutL {post : SY → Prop} {o n : Nat} (hb : iv_bd g) (ho : o < 40) (hn : n ≤ 20) : ∀ r i a, i + r = 20 → post (vy_S (vg_ssz g o n) lf pl nm aM aB aC (upd aZ o (nI n)) aN aT aS (vg_fl a (fun _ => 0) (20 * o + i) (20 * o + 20)) aH aD) → wY_cutTo_2 post (nI o) (nI n) (vg_tv g.tp) (nI g.cu) lf pl nm (r + 1) (nI i) (vg_cv g.fm) (vg_cv g.de) (vg_cv g.ro) aM aB (vg_cv g.ki) aC aZ (vg_cv g.wp) aN aT aS a (vg_cv g.dr) (vg_cv g.dl) aH (vg_cv g.po) (vg_cv g.oH) aD := by
  intro r
  induction r with
  | zero =>
    intro i a hi h
    have e : i = 20 := by omega
    subst e
    rw [fl_nil (Nat.le_refl _)] at h
    refine br_t (by decide) ⟨6, ?_⟩
    have := vy_cutM (lf := lf) (pl := pl) (nm := nm) (aD := aD) (aM := aM) (aB := aB) (aC := aC) (aN := aN) (aT := aT) (aS := aS) (aH := aH) hb ho hn h 5 0 (by omega)
    rw [if_pos (Nat.zero_le _)] at this
    exact this
  | succ r ih =>
    intro i a hi h
    have eI : 20 * nI o + nI i = nI (20 * o + i) := by rw [vn_ml20, nI_add]
    refine br_f (fun z => by have := (vn_ge20 (by omega)).mp z; omega) ⟨by rw [eI]; exact vp_in_nI (by omega) (by decide), nm_r (e' := vg_ug a (20 * o + i) 0) (by rw [eI, nI_clamp (by omega)]; rfl) (nm_r (nI_1 i) (ih (i + 1) _ (by omega) ?_))⟩
    rw [← Nat.add_assoc, fl_step (h := fun _ => (0 : Int32)) (by omega)]
    exact h
theorem vy_cutTo {post : SY → Prop} {o n : Nat} (hb : iv_bd g) (ho : o < 40) (hn : n ≤ 20) (h : post (vy_S (vg_ssz g o n) lf pl nm aM aB aC (upd aZ o (nI n)) aN aT aS (vg_fl aI (fun _ => 0) (20 * o + n) (20 * o + 20)) aH aD)) : wpY_cutTo post (vy_S g lf pl nm aM aB aC aZ aN aT aS aI aH aD) (nI o) (nI n) := by
  unfold wpY_cutTo vy_S
  exact ⟨20 - n + 1, vy_cutL hb ho hn (20 - n) n aI (by omega) h⟩
theorem vy_undL {post : Int32 → Prop} {t : Nat} (hI : iv_I g) (hY : yr_d g aC aN aT) (ht : t < 40) {rk : Nat → Nat} (hr : ∀ p n, p < 40 → g.ki p = 1 → n < 15 → g.nd (15 * p + n) ≠ 0 → g.ki (g.nd (15 * p + n)) = 1 → rk p < rk (g.nd (15 * p + n))) :
    ∀ r x, x < 40 → g.ki x = 1 → rk x ≤ r → (vg_ud g.ki g.nd t r x = 1 → post 1) → (vg_ud g.ki g.nd t r x = 0 → post 0) → wY_under_2 post (nI t) (vg_tv g.tp) (nI g.cu) lf pl nm (vg_cv g.fm) (vg_cv g.de) (vg_cv g.ro) aM aB (vg_cv g.ki) aC aZ (vg_cv g.wp) aN aT aS aI (vg_cv g.dr) (vg_cv g.dl) aH (vg_cv g.po) (vg_cv g.oH) aD (r + 1) (nI x) := by
  have last : ∀ x, x < 40 → (x = t → post 1) → (x ≠ t → post 0) → wY_under_23 post (nI t) (nI x) (vg_tv g.tp) (nI g.cu) lf pl nm (vg_cv g.fm) (vg_cv g.de) (vg_cv g.ro) aM aB (vg_cv g.ki) aC aZ (vg_cv g.wp) aN aT aS aI (vg_cv g.dr) (vg_cv g.dl) aH (vg_cv g.po) (vg_cv g.oH) aD := by
    intro x hx a b
    unfold wY_under_23
    exact pk_eq x t a b
  intro r
  induction r with
  | zero =>
    intro x hx hk hrk h1 h0
    have hroot : x % 10 = 0 := by
      apply Classical.byContradiction
      intro hne
      obtain ⟨a, b, c, n, hn, e⟩ := par_sp hI hx hne hk
      have := hr _ n a c hn (by omega) (by rw [e]; exact hk)
      rw [e] at this
      omega
    refine pk_eq x t (fun e => last x hx (fun _ => h1 (if_pos e)) (fun z => absurd e z)) (fun e => ⟨vz_10, br_t ?_ (last x hx (fun z => absurd z e) (fun _ => h0 (if_neg e)))⟩)
    rw [vn_rem10 (by omega), hroot]
    rfl
  | succ r ih =>
    intro x hx hk hrk h1 h0
    rw [ud_s] at h1 h0
    refine pk_eq x t (fun e => ?_) (fun e => ⟨vz_10, ?_⟩)
    · rw [if_pos e] at h1
      exact last x hx (fun _ => h1 rfl) (fun z => absurd e z)
    · rw [if_neg e] at h1 h0
      rw [vn_rem10 (by omega)]
      refine pk_eq (x % 10) 0 (fun hr0 => ?_) (fun hr0 => ?_)
      · rw [if_pos hr0] at h0
        exact last x hx (fun z => absurd z e) (fun _ => h0 rfl)
      · rw [if_neg hr0] at h1 h0
        obtain ⟨a, b, c, n, hn, e9⟩ := par_sp hI hx hr0 hk
        have h3 := hr _ n a c hn (by omega) (by rw [e9]; exact hk)
        rw [e9] at h3
        exact vy_parent (lf := lf) (pl := pl) (nm := nm) (aD := aD) hI hY hx hr0 hk (ih _ a c (by omega) h1 h0)
theorem vy_under {post : Int32 → Prop} {x t : Nat} (hI : iv_I g) (hY : yr_d g aC aN aT) (ht : t < 40) (hx : x < 40) (hk : g.ki x = 1) (h1 : vg_ud g.ki g.nd t 10 x = 1 → post 1) (h0 : vg_ud g.ki g.nd t 10 x = 0 → post 0) : wpY_under post (vy_S g lf pl nm aM aB aC aZ aN aT aS aI aH aD) (nI x) (nI t) := by
  obtain ⟨rk, h9, hr⟩ := iv_r9 hI
  have hst := ud_st (t := t) hI hr 9 x 10 hx hk (h9 x) (by omega)
  rw [hst] at h1 h0
  unfold wpY_under vy_S
  exact ⟨10, vy_undL hI hY ht hr 9 x hx hk (h9 x) h1 h0⟩
end VY23
