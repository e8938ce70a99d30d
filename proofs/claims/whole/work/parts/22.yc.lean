section VY22
variable {g : vg_G} {lf pl nm : Int32} {aM aB aC aZ aN aT aS aI aH aD : Nat → Int32}
theorem vn_b8 {a : Nat} (h : a < 128) : vp_nar .byte (nI a).toInt8.toInt32 = nI a := by rw [vn_i8 a h, vn_nb h]
theorem vy_giveUp {post : SY → Prop} {o n : Nat} (hb : iv_bd g) (ho : o < 40) (hn : n ≤ 20) (h : post (vy_S (vg_ssz g o n) lf pl nm aM aB aC aZ aN aT aS aI aH aD)) : wpY_giveUp post (vy_S g lf pl nm aM aB aC aZ aN aT aS aI aH aD) (nI o) (nI (32 - 2 ^ ((n + 3) / 4))) := by
  have hi : vp_in (nI o) 40 := vp_in_nI ho (by decide)
  have hid : vp_in (nI (o / 10)) 4 := vp_in_nI (by omega) (by decide)
  have hw := hb.2.2.2.2.2.2.2.2.2.1 o
  have hf := hb.1 (o / 10)
  have hd := hb.2.2.1 (o / 10)
  have hk : (n + 3) / 4 < 6 := by omega
  have hml : g.wp o % 2 ^ ((n + 3) / 4) ≤ g.wp o := Nat.mod_le _ _
  have o1 := on_le (g.wp o)
  have EF : vg_cv g.fm (nI (o / 10)).toNatClampNeg = 2 ↔ g.fm (o / 10) = 2 := by
    rw [cv_at (by omega)]
    exact vn_e2 (by omega)
  unfold wpY_giveUp vy_S
  rw [vn_d10 (by omega)]
  refine ⟨hi, nm_r (e' := nI (g.wp o - g.wp o % 2 ^ ((n + 3) / 4))) (by rw [cv_at (by omega)]; exact bt_go _ hw _ hk) ⟨hi, hi, nm_r (e' := vg_cv (vg_un g.wp o (g.wp o % 2 ^ ((n + 3) / 4)))) ?_ ⟨vz_10, hid, fun ef => ⟨vz_10, hid, vy_ones (by omega) ⟨hid, ?_⟩⟩, fun ef => ?_⟩⟩⟩
  · rw [cv_at (by omega), bt_nt _ hw _ hk, vn_b8 (by omega)]
    exact cv_uI (by omega)
  · have hS : vy_S (vg_ssz g o n) lf pl nm aM aB aC aZ aN aT aS aI aH aD = ((vg_tv g.tp), (nI g.cu), lf, pl, nm, (vg_cv g.fm), (vg_cv (vg_un g.de (o / 10) (g.de (o / 10) + (vg_on (g.wp o) - vg_on (g.wp o % 2 ^ ((n + 3) / 4)))))), (vg_cv g.ro), aM, aB, (vg_cv g.ki), aC, aZ, (vg_cv (vg_un g.wp o (g.wp o % 2 ^ ((n + 3) / 4)))), aN, aT, aS, aI, (vg_cv g.dr), (vg_cv g.dl), aH, (vg_cv g.po), (vg_cv g.oH), aD) := by
      unfold vy_S
      rw [ssz_de, if_pos (EF.mp ef)]
      rfl
    rw [hS] at h
    refine nm_r ?_ h
    rw [cv_at (by omega), bt_on _ hw _ hk, nI_add, vn_b8 (by omega)]
    exact cv_uI (by omega)
  · have hS : vy_S (vg_ssz g o n) lf pl nm aM aB aC aZ aN aT aS aI aH aD = ((vg_tv g.tp), (nI g.cu), lf, pl, nm, (vg_cv g.fm), (vg_cv g.de), (vg_cv g.ro), aM, aB, (vg_cv g.ki), aC, aZ, (vg_cv (vg_un g.wp o (g.wp o % 2 ^ ((n + 3) / 4)))), aN, aT, aS, aI, (vg_cv g.dr), (vg_cv g.dl), aH, (vg_cv g.po), (vg_cv g.oH), aD) := by
      unfold vy_S
      rw [ssz_de, if_neg (fun z => ef (EF.mpr z))]
      rfl
    rw [hS] at h
    exact h
theorem vy_let {post : SY → Prop} {o xx : Nat} (hI : iv_X g xx) (hY : yr_d g aC aN aT) (hH : yr_h g aH) (ho : o < 40) (hor : o % 10 ≠ 0) (hka : g.ki o ≠ 0) (h : post (vy_S (vg_gon g o) lf pl nm aM aB aC aZ aN aT aS aI aH aD)) : wpY_let post (vy_S g lf pl nm aM aB aC aZ aN aT aS aI aH aD) (nI o) := by
  have hi : vp_in (nI o) 40 := vp_in_nI ho (by decide)
  have hef := hI.2.2.2.2.2.2.1 o ho hor hka
  have heb := hI.1.2.2.2.2.2.2.2.2.1 o
  have hkb := hI.1.2.2.2.2.2.2.1 o
  have E2 : vg_cv g.ki (nI o).toNatClampNeg = 2 ↔ g.ki o = 2 := by
    rw [cv_at (by omega)]
    exact vn_e2 (by omega)
  unfold vg_gon at h
  unfold wpY_let vy_S
  rw [vn_rem10 (by omega)]
  refine ⟨vz_10, br_f (fun z => hor ((vn_e0 (by omega)).mp z)) ?_⟩
  refine vy_entries (lf := lf) (pl := pl) (nm := nm) (aD := aD) hI hY ho (by omega) ?_
  rw [← hef]
  refine pk_lt 0 (g.ef o) (fun e => ?_) (fun e => ?_)
  · rw [if_pos (Or.inl e)] at h
    exact h
  · refine vy_isOpen (lf := lf) (pl := pl) (nm := nm) (aD := aD) hI hH ho (by omega) (fun e2 => br_f (by decide) ?_) (fun e2 => br_t rfl ⟨hi, fun e3 => ?_, fun e3 => ⟨hi, ?_⟩⟩)
    · rw [if_pos (Or.inr e2)] at h
      exact h
    · rw [if_neg (fun z => z.elim (fun w => by omega) e2), if_pos (E2.mp e3)] at h
      have h31 : (31 : Int32) = nI (32 - 2 ^ ((0 + 3) / 4)) := by decide
      rw [h31]
      refine vy_giveUp (lf := lf) (pl := pl) (nm := nm) (aD := aD) (n := 0) hI.1 ho (by omega) ⟨hi, nm_r (e' := vg_cv (vg_un g.ki o 0)) ?_ h⟩
      show upd (vg_cv g.ki) (nI o).toNatClampNeg (vp_nar .byte 0) = _
      rw [vn_nb0]
      exact cv_uI (x := 0) (by omega)
    · rw [if_neg (fun z => z.elim (fun w => by omega) e2), if_neg (fun z => e3 (E2.mpr z))] at h
      refine nm_r (e' := vg_cv (vg_un g.ki o 0)) ?_ h
      rw [vn_nb0]
      exact cv_uI (x := 0) (by omega)
theorem gon_R {o : Nat} (hR : vy_R g aM aB aC aZ aN aT aS aI aH) : vy_R (vg_gon g o) aM aB aC aZ aN aT aS aI aH := by
  unfold vg_gon
  split
  · exact hR
  · split
    · exact ⟨hR.1, yr_ks_d hR.2.1, yr_ks_f hR.2.2.1, yr_ks_l hR.2.2.2.1, hR.2.2.2.2⟩
    · exact ⟨hR.1, yr_kil_d hR.2.1, yr_kil_f hR.2.2.1, yr_kil_l hR.2.2.2.1, hR.2.2.2.2⟩
theorem vy_cleanL {post : SY → Prop} {d : Nat} (hd : d < 4) : ∀ r i f c, i + r = 10 → post (vy_S (vg_sDE (vg_sKI g (vg_un (vg_fl f (fun _ => 0) (10 * d + i) (10 * d + 10)) (10 * d) 1)) (vg_un g.de d 0)) lf pl nm aM aB (vg_fl c (fun _ => 0) (10 * d + i) (10 * d + 10)) aZ aN aT aS aI aH aD) → wY_clean_5 post (nI d) (vg_tv g.tp) (nI g.cu) lf pl nm (r + 1) (nI (10 * d + i)) (vg_cv g.fm) (vg_cv g.de) (vg_cv g.ro) aM aB (vg_cv f) c aZ (vg_cv g.wp) aN aT aS aI (vg_cv g.dr) (vg_cv g.dl) aH (vg_cv g.po) (vg_cv g.oH) aD := by
  have eE : 10 * nI d + 10 = nI (10 * d + 10) := by rw [vn_ml10, vn_ar10]
  intro r
  induction r with
  | zero =>
    intro i f c hi h
    have e : i = 10 := by omega
    subst e
    rw [fl_nil (Nat.le_refl _), fl_nil (Nat.le_refl _)] at h
    refine br_t ?_ ?_
    · rw [eE]
      exact (nI_leI (by omega) (by omega)).mpr (Nat.le_refl _)
    · rw [vn_ml10]
      exact ⟨vp_in_nI (by omega) (by decide), nm_r (e' := vg_cv (vg_un f (10 * d) 1)) (by rw [vn_nb1]; exact cv_uI (x := 1) (by omega)) ⟨vp_in_nI hd (by decide), nm_r (e' := vg_cv (vg_un g.de d 0)) (by rw [vn_nb0]; exact cv_uI (x := 0) (by omega)) h⟩⟩
  | succ r ih =>
    intro i f c hi h
    have hin : vp_in (nI (10 * d + i)) 40 := vp_in_nI (by omega) (by decide)
    refine br_f ?_ ⟨hin, nm_r (e' := vg_cv (vg_un f (10 * d + i) 0)) (by rw [vn_nb0]; exact cv_uI (x := 0) (by omega)) ⟨hin, nm_r (e' := vg_ug c (10 * d + i) 0) (by rw [vn_nb0, nI_clamp (by omega)]; rfl) (nm_r (nI_1 _) (ih (i + 1) _ _ (by omega) ?_))⟩⟩
    · rw [eE]
      intro z
      have := (nI_leI (by omega) (by omega)).mp z
      omega
    · rw [← Nat.add_assoc, fl_step (h := fun _ => (0 : Int32)) (by omega), ug_un f (10 * d + i) 0, fl_step (f := f) (h := fun _ => 0) (by omega)]
      exact h
theorem vy_clean {post : SY → Prop} {d : Nat} (hd : d < 4) (h : post (vy_S (vg_sDE (vg_sKI g (vg_un (vg_fl g.ki (fun _ => 0) (10 * d) (10 * d + 10)) (10 * d) 1)) (vg_un g.de d 0)) lf pl nm aM aB (vg_fl aC (fun _ => 0) (10 * d) (10 * d + 10)) aZ aN aT aS aI aH aD)) : wpY_clean post (vy_S g lf pl nm aM aB aC aZ aN aT aS aI aH aD) (nI d) := by
  unfold wpY_clean vy_S
  refine nm_r (vn_ml10 d) ⟨11, ?_⟩
  exact vy_cleanL hd 10 0 g.ki aC (by omega) h
/-! an entry in, an entry out -/
def vg_sf (a : Nat → Int32) (p i c : Nat) : Nat → Int32 := fun j => if 6 * p + i < j ∧ j ≤ 6 * p + c then a (j - 1) else a j
theorem sf_ap (a : Nat → Int32) (p i c j : Nat) : vg_sf a p i c j = if 6 * p + i < j ∧ j ≤ 6 * p + c then a (j - 1) else a j := rfl
theorem sf_in {a : Nat → Int32} {p b c : Nat} {x : Int32} : upd (vg_sf a p b c) (6 * p + b) x = vg_ins a (6 * p + b) (6 * p + c) x := by
  funext j
  rw [up_ap, ins_ap, sf_ap]
theorem sf_nil {a : Nat → Int32} {p c : Nat} : vg_sf a p c c = a := by
  funext j
  rw [sf_ap, if_neg (by omega)]
theorem sf_step {a : Nat → Int32} {p i c : Nat} (h : i < c) : upd (vg_sf a p (i + 1) c) (6 * p + (i + 1)) (a (6 * p + i)) = vg_sf a p i c := by
  funext j
  rw [up_ap, sf_ap, sf_ap]
  by_cases e : j = 6 * p + (i + 1)
  · rw [if_pos e, if_pos (by omega), e]
    rfl
  · rw [if_neg e]
    by_cases e2 : 6 * p + i < j ∧ j ≤ 6 * p + c
    · rw [if_pos (by omega), if_pos e2]
    · rw [if_neg (by omega), if_neg e2]
theorem vy_insL {post : SY → Prop} {p n t : Nat} {c' : Nat → Int32} (hb : iv_bd g) (hY : yr_d g aC aN aT) (hcn : iv_cn g) (hp : p < 40) (hk : g.ki p = 1) (hn : n < 15) (h0 : g.nd (15 * p + n) = 0) (ht : t < 40) (hs : g.sz p ≤ 5)
    (h : post (vy_S g lf pl nm aM aB c' aZ (vg_ins aN (6 * p + vg_bl g.nd p n) (6 * p + g.sz p) (nI n)) (vg_ins aT (6 * p + vg_bl g.nd p n) (6 * p + g.sz p) (nI t)) aS aI aH aD)) :
    ∀ k i, i = vg_bl g.nd p n + k → i ≤ g.sz p → wY_insert_19 post (nI p) (nI n) (nI t) (vg_tv g.tp) (nI g.cu) lf pl nm (k + 1) (nI (6 * p + i)) (vg_cv g.fm) (vg_cv g.de) (vg_cv g.ro) aM aB (vg_cv g.ki) (c') aZ (vg_cv g.wp) (vg_sf aN p i (g.sz p)) (vg_sf aT p i (g.sz p)) aS aI (vg_cv g.dr) (vg_cv g.dl) aH (vg_cv g.po) (vg_cv g.oH) aD := by
  have hc := hcn p hp hk
  have fin : wY_insert_79 post (nI n) (nI t) (nI (6 * p + vg_bl g.nd p n)) (vg_tv g.tp) (nI g.cu) lf pl nm (vg_cv g.fm) (vg_cv g.de) (vg_cv g.ro) aM aB (vg_cv g.ki) (c') aZ (vg_cv g.wp) (vg_sf aN p (vg_bl g.nd p n) (g.sz p)) (vg_sf aT p (vg_bl g.nd p n) (g.sz p)) aS aI (vg_cv g.dr) (vg_cv g.dl) aH (vg_cv g.po) (vg_cv g.oH) aD := by
    have hbl := bl_mono (nd := g.nd) (p := p) (show n ≤ 15 by omega)
    unfold wY_insert_79
    refine ⟨vp_in_nI (by omega) (by decide), nm_r (e' := vg_ins aN (6 * p + vg_bl g.nd p n) (6 * p + g.sz p) (nI n)) (by rw [vn_b8 (by omega), nI_clamp (by omega)]; exact sf_in) ⟨vp_in_nI (by omega) (by decide), nm_r (e' := vg_ins aT (6 * p + vg_bl g.nd p n) (6 * p + g.sz p) (nI t)) (by rw [vn_b8 (by omega), nI_clamp (by omega)]; exact sf_in) h⟩⟩
  intro k
  induction k with
  | zero =>
    intro i hi hle
    have e : i = vg_bl g.nd p n := by omega
    subst e
    by_cases e0 : vg_bl g.nd p n = 0
    · refine br_t ?_ fin
      rw [vn_ml6]
      exact (nI_leI (by omega) (by omega)).mpr (by omega)
    · obtain ⟨m, hm, hne, hbl⟩ := bl_at (nd := g.nd) (p := p) (i := vg_bl g.nd p n - 1) (m := n) (by omega)
      have hN := ((hY p hp hk).2 m (by omega) hne).1
      rw [hbl] at hN
      refine br_f ?_ ?_
      · rw [vn_ml6]
        intro z
        have := (nI_leI (by omega) (by omega)).mp z
        omega
      · rw [vn_s1 (by omega)]
        refine ⟨vp_in_nI (by omega) (by decide), br_t ?_ fin⟩
        rw [nI_clamp (by omega), sf_ap, if_neg (by omega), show 6 * p + vg_bl g.nd p n - 1 = 6 * p + (vg_bl g.nd p n - 1) by omega, hN]
        exact (nI_leI (by omega) (by omega)).mpr (by omega)
  | succ k ih =>
    intro i hi hle
    obtain ⟨j, rfl⟩ : ∃ j, i = j + 1 := ⟨i - 1, by omega⟩
    obtain ⟨m, hm, hne, hbl⟩ := bl_at (nd := g.nd) (p := p) (i := j) (m := 15) (by omega)
    have hmn : n < m := by
      apply Classical.byContradiction
      intro hlt
      by_cases e : m = n
      · rw [e] at hne; exact hne h0
      · have := bl_lt (nd := g.nd) (p := p) (m := m) (k := n) (by omega) hne
        omega
    have hN := ((hY p hp hk).2 m hm hne).1
    have hT := ((hY p hp hk).2 m hm hne).2
    have hnd := hb.2.2.2.2.2.2.2.2.2.2.1 (15 * p + m)
    rw [hbl] at hN hT
    have eN : vg_sf aN p (j + 1) (g.sz p) (6 * p + j) = nI m := by rw [sf_ap, if_neg (by omega), hN]
    have eT : vg_sf aT p (j + 1) (g.sz p) (6 * p + j) = nI (g.nd (15 * p + m)) := by rw [sf_ap, if_neg (by omega), hT]
    refine br_f ?_ ?_
    · rw [vn_ml6]
      intro z
      have := (nI_leI (by omega) (by omega)).mp z
      omega
    · rw [vn_s1 (by omega), show 6 * p + (j + 1) - 1 = 6 * p + j by omega]
      have i1 : vp_in (nI (6 * p + j)) 240 := vp_in_nI (by omega) (by decide)
      have i2 : vp_in (nI (6 * p + (j + 1))) 240 := vp_in_nI (by omega) (by decide)
      rw [nI_clamp (n := 6 * p + j) (by omega), eN, eT]
      refine ⟨i1, br_f (fun z => by have := (nI_leI (by omega) (by omega)).mp z; omega) ⟨i1, i2, nm_r (e' := vg_sf aN p j (g.sz p)) ?_ ⟨i1, i2, nm_r (e' := vg_sf aT p j (g.sz p)) ?_ (nm_r (e' := nI (6 * p + j)) ?_ (ih j (by omega) (by omega)))⟩⟩⟩
      · rw [vn_nb (by omega), nI_clamp (by omega), ← hN]
        exact sf_step (by omega)
      · rw [vn_nb (by omega), nI_clamp (by omega), ← hT]
        exact sf_step (by omega)
      · rw [vn_m1' (by omega)]
        exact congrArg nI (by omega)
theorem yr_put_f {p n t : Nat} (hk : g.ki p = 1) (hY : yr_f g aZ aI) : yr_f (vg_put g p n t) aZ aI := by
  intro q hq hkq
  have hkq' : g.ki q = 2 := hkq
  rw [put_sz, un_n _ _ (by intro e; rw [e] at hkq'; omega)]
  exact hY q hq hkq'
theorem yr_put_l {p n t : Nat} (hk : g.ki p = 1) (hY : yr_l g aZ aS) : yr_l (vg_put g p n t) aZ aS := by
  intro q hq hkq
  have hkq' : g.ki q = 3 := hkq
  rw [put_sz, un_n _ _ (by intro e; rw [e] at hkq'; omega)]
  exact hY q hq hkq'
theorem yr_rem_f {p n : Nat} (hk : g.ki p = 1) (hY : yr_f g aZ aI) : yr_f (vg_rem g p n) aZ aI := by
  intro q hq hkq
  have hkq' : g.ki q = 2 := hkq
  rw [rem_sz, un_n _ _ (by intro e; rw [e] at hkq'; omega)]
  exact hY q hq hkq'
theorem yr_rem_l {p n : Nat} (hk : g.ki p = 1) (hY : yr_l g aZ aS) : yr_l (vg_rem g p n) aZ aS := by
  intro q hq hkq
  have hkq' : g.ki q = 3 := hkq
  rw [rem_sz, un_n _ _ (by intro e; rw [e] at hkq'; omega)]
  exact hY q hq hkq'
theorem vy_insert {post : SY → Prop} {p n t : Nat} (hb : iv_bd g) (hR : vy_R g aM aB aC aZ aN aT aS aI aH) (hcn : iv_cn g) (hp : p < 40) (hk : g.ki p = 1) (hn : n < 15) (h0 : g.nd (15 * p + n) = 0) (ht : t < 40) (ht0 : t ≠ 0) (hs : g.sz p ≤ 5)
    (h : ∀ c' n' t', vy_R (vg_put g p n t) aM aB c' aZ n' t' aS aI aH → post (vy_S (vg_put g p n t) lf pl nm aM aB c' aZ n' t' aS aI aH aD)) :
    wpY_insert post (vy_S g lf pl nm aM aB aC aZ aN aT aS aI aH aD) (nI p) (nI n) (nI t) := by
  have hi : vp_in (nI p) 40 := vp_in_nI hp (by decide)
  have hc := hcn p hp hk
  have hbl := bl_mono (nd := g.nd) (p := p) (show n ≤ 15 by omega)
  have hcp := (hR.2.1 p hp hk).1
  have h2 := h (upd aC p (nI (g.sz p + 1))) _ _ ⟨hR.1, yr_put hR.2.1 hcn hp hk hn h0 ht0 hs, yr_put_f hk hR.2.2.1, yr_put_l hk hR.2.2.2.1, hR.2.2.2.2⟩
  have go := vy_insL (lf := lf) (pl := pl) (nm := nm) (aD := aD) (aM := aM) (aB := aB) (aZ := aZ) (aS := aS) (aI := aI) (aH := aH) (post := post) hb hR.2.1 hcn hp hk hn h0 ht hs h2 (g.sz p - vg_bl g.nd p n) (g.sz p) (by omega) (Nat.le_refl _)
  rw [sf_nil, sf_nil] at go
  unfold wpY_insert vy_S
  refine ⟨hi, hi, nm_r (e' := upd aC p (nI (g.sz p + 1))) (by rw [nI_clamp (by omega), hcp, nI_1, vn_b8 (by omega)]) (nm_r (e' := nI (6 * p + g.sz p)) (by rw [nI_clamp (by omega), hcp, vn_i6]) ⟨_, go⟩)⟩
def vg_df (a : Nat → Int32) (p b i : Nat) : Nat → Int32 := fun j => if 6 * p + b ≤ j ∧ j < 6 * p + i then a (j + 1) else a j
theorem df_ap (a : Nat → Int32) (p b i j : Nat) : vg_df a p b i j = if 6 * p + b ≤ j ∧ j < 6 * p + i then a (j + 1) else a j := rfl
theorem df_nil {a : Nat → Int32} {p b : Nat} : vg_df a p b b = a := by
  funext j
  rw [df_ap, if_neg (by omega)]
theorem df_step {a : Nat → Int32} {p b i : Nat} (h : b ≤ i) : upd (vg_df a p b i) (6 * p + i) (a (6 * p + i + 1)) = vg_df a p b (i + 1) := by
  funext j
  rw [up_ap, df_ap, df_ap]
  by_cases e : j = 6 * p + i
  · rw [if_pos e, if_pos (by omega), e]
  · rw [if_neg e]
    by_cases e2 : 6 * p + b ≤ j ∧ j < 6 * p + i
    · rw [if_pos e2, if_pos (by omega)]
    · rw [if_neg e2, if_neg (by omega)]
theorem vy_delL {post : SY → Prop} {p n : Nat} {c' : Nat → Int32} (hb : iv_bd g) (hY : yr_d g aC aN aT) (hcn : iv_cn g) (hp : p < 40) (hk : g.ki p = 1) (hn : n < 15) (h0 : g.nd (15 * p + n) ≠ 0) (hc' : c' p = nI (g.sz p - 1))
    (h : post (vy_S g lf pl nm aM aB c' aZ (vg_dlt aN (6 * p + vg_bl g.nd p n) (6 * p + (g.sz p - 1))) (vg_dlt aT (6 * p + vg_bl g.nd p n) (6 * p + (g.sz p - 1))) aS aI aH aD)) :
    ∀ k i, i + k = g.sz p - 1 → vg_bl g.nd p n ≤ i → wY_delete_13 post (nI p) (vg_tv g.tp) (nI g.cu) lf pl nm (k + 1) (nI (6 * p + i)) (vg_cv g.fm) (vg_cv g.de) (vg_cv g.ro) aM aB (vg_cv g.ki) (c') aZ (vg_cv g.wp) (vg_df aN p (vg_bl g.nd p n) i) (vg_df aT p (vg_bl g.nd p n) i) aS aI (vg_cv g.dr) (vg_cv g.dl) aH (vg_cv g.po) (vg_cv g.oH) aD := by
  have hc := hcn p hp hk
  have hi : vp_in (nI p) 40 := vp_in_nI hp (by decide)
  have eE : 6 * nI p + c' (nI p).toNatClampNeg = nI (6 * p + (g.sz p - 1)) := by rw [nI_clamp (by omega), hc', vn_i6]
  intro k
  induction k with
  | zero =>
    intro i hi2 hle
    have e : i = g.sz p - 1 := by omega
    subst e
    refine ⟨hi, br_t ?_ h⟩
    rw [eE]
    exact (nI_leI (by omega) (by omega)).mpr (Nat.le_refl _)
  | succ k ih =>
    intro i hi2 hle
    obtain ⟨m, hm, hne, hbl⟩ := bl_at (nd := g.nd) (p := p) (i := i + 1) (m := 15) (by omega)
    have hN := ((hY p hp hk).2 m hm hne).1
    have hT := ((hY p hp hk).2 m hm hne).2
    have hnd := hb.2.2.2.2.2.2.2.2.2.2.1 (15 * p + m)
    rw [hbl, ← Nat.add_assoc] at hN hT
    have eN : vg_df aN p (vg_bl g.nd p n) i (6 * p + i + 1) = nI m := by rw [df_ap, if_neg (by omega), hN]
    have eT : vg_df aT p (vg_bl g.nd p n) i (6 * p + i + 1) = nI (g.nd (15 * p + m)) := by rw [df_ap, if_neg (by omega), hT]
    refine ⟨hi, br_f ?_ ?_⟩
    · rw [eE]
      intro z
      have := (nI_leI (by omega) (by omega)).mp z
      omega
    · have i1 : vp_in (nI (6 * p + i + 1)) 240 := vp_in_nI (by omega) (by decide)
      have i2 : vp_in (nI (6 * p + i)) 240 := vp_in_nI (by omega) (by decide)
      rw [nI_1 (6 * p + i), nI_clamp (n := 6 * p + i + 1) (by omega), eN, eT]
      refine ⟨i1, i2, nm_r (e' := vg_df aN p (vg_bl g.nd p n) (i + 1)) ?_ ⟨i1, i2, nm_r (e' := vg_df aT p (vg_bl g.nd p n) (i + 1)) ?_ (nm_e (ih (i + 1) (by omega) (by omega)))⟩⟩
      · rw [vn_nb (by omega), nI_clamp (by omega), ← hN]
        exact df_step hle
      · rw [vn_nb (by omega), nI_clamp (by omega), ← hT]
        exact df_step hle
theorem vy_delete {post : SY → Prop} {p n : Nat} (hb : iv_bd g) (hR : vy_R g aM aB aC aZ aN aT aS aI aH) (hcn : iv_cn g) (hp : p < 40) (hk : g.ki p = 1) (hn : n < 15) (h0 : g.nd (15 * p + n) ≠ 0)
    (h : ∀ c' n' t', vy_R (vg_rem g p n) aM aB c' aZ n' t' aS aI aH → post (vy_S (vg_rem g p n) lf pl nm aM aB c' aZ n' t' aS aI aH aD)) :
    wpY_delete post (vy_S g lf pl nm aM aB aC aZ aN aT aS aI aH aD) (nI p) (nI (6 * p + vg_bl g.nd p n)) := by
  have hi : vp_in (nI p) 40 := vp_in_nI hp (by decide)
  have hc := hcn p hp hk
  have hbl := bl_lt (nd := g.nd) (p := p) (m := n) (k := 15) hn h0
  have hcp := (hR.2.1 p hp hk).1
  have h2 := h (upd aC p (nI (g.sz p - 1))) _ _ ⟨hR.1, yr_rem hR.2.1 hcn hp hk hn h0, yr_rem_f hk hR.2.2.1, yr_rem_l hk hR.2.2.2.1, hR.2.2.2.2⟩
  have go := vy_delL (lf := lf) (pl := pl) (nm := nm) (aD := aD) (aM := aM) (aB := aB) (aZ := aZ) (aS := aS) (aI := aI) (aH := aH) (post := post) (c' := upd aC p (nI (g.sz p - 1))) hb hR.2.1 hcn hp hk hn h0 pk_us h2 (g.sz p - 1 - vg_bl g.nd p n) (vg_bl g.nd p n) (by omega) (Nat.le_refl _)
  rw [df_nil, df_nil] at go
  unfold wpY_delete vy_S
  refine ⟨hi, hi, nm_r (e' := upd aC p (nI (g.sz p - 1))) (by rw [nI_clamp (by omega), hcp, vn_s1 (by omega), vn_b8 (by omega)]) ⟨_, go⟩⟩
end VY22
