section VZ46
variable {g : vg_G} {ac : Int32} {ah : Nat → Int32} {lf pl nm : Int32} {aM aB aC aZ aN aT aS aI aH aD : Nat → Int32}
theorem hs_eq {f w q : vg_F} {o n : Nat} : vg_ssz (vg_hnp g f w q) o n = vg_hnp (vg_ssz g o n) f w q := rfl
theorem hnp_S {f w q : vg_F} : vy_S (vg_hnp g f w q) lf pl nm aM aB aC aZ aN aT aS aI aH aD = ((vg_tv g.tp), (nI g.cu), lf, pl, nm, (vg_cv g.fm), (vg_cv g.de), (vg_cv g.ro), aM, aB, (vg_cv g.ki), aC, aZ, (vg_cv g.wp), aN, aT, aS, aI, (vg_cv g.dr), (vg_cv g.dl), aH, (vg_cv q), (vg_cv w), aD) := rfl
theorem hnp_R {h o : Nat} {w q : vg_F} (ho : o ≠ 0) (hR : vy_R g aM aB aC aZ aN aT aS aI aH) : vy_R (vg_hnp g (vg_un g.oF h o) w q) aM aB aC aZ aN aT aS aI (upd aH h (nI o)) := by
  refine ⟨hR.1, hR.2.1, hR.2.2.1, hR.2.2.2.1, fun j hj => ?_⟩
  rw [hnp_oF, un_ap, up_ap]
  by_cases e : j = h
  · rw [if_pos e, if_pos e, if_neg ho]
  · rw [if_neg e, if_neg e]
    exact hR.2.2.2.2 j hj
theorem iv_opn {h o w : Nat} (hI : iv_I g) (ho : o < 40) (hr : o % 10 ≠ 0) (hk : g.ki o = 2) (hm : g.mo (o / 10) ≠ 0) (hw : w ≤ 3) : iv_I (vg_hnp g (vg_un g.oF h o) (vg_un g.oH h w) (vg_un g.po h 0)) := by
  refine iv_hnd hI (fun j hj hne => ?_) (fun j => ?_) (fun j => ?_) (fun j => ?_)
  · rw [un_ap] at hne ⊢
    by_cases e : j = h
    · rw [if_pos e]; exact ⟨hr, hk, hm⟩
    · rw [if_neg e] at hne ⊢; exact hI.2.2.2.2.2.2.2.2.2.2.2.2.1 j hj hne
  · have := hI.1.2.2.2.2.2.2.2.2.2.2.2.1 j
    rw [un_ap]; split <;> omega
  · have := hI.1.2.2.2.2.2.2.2.2.2.2.2.2.1 j
    rw [un_ap]; split <;> omega
  · have := hI.1.2.2.2.2.2.2.2.2.2.2.2.2.2.1 j
    rw [un_ap]; split <;> omega
/-- the file that stands there is opened: what both sides answer -/
def vz_op (g : vg_G) (x w : Nat) : vg_G := if w = 2 then vg_hnp (vg_ssz g x 0) (vg_un g.oF (vg_ch g) x) (vg_un g.oH (vg_ch g) w) (vg_un g.po (vg_ch g) 0) else vg_hnp g (vg_un g.oF (vg_ch g) x) (vg_un g.oH (vg_ch g) w) (vg_un g.po (vg_ch g) 0)
theorem vx_op {post : Int32 → SX → Prop} {x w : Nat} (hI : iv_I g) (hx : vg_gd g x) (hw : w ≤ 3)
    (h3 : g.ki x = 1 → post (-3) (vx_S g ac ah)) (h6 : g.ki x ≠ 1 → w ≠ 0 → g.ro (x / 10) ≠ 0 → post (-6) (vx_S g ac ah)) (h8 : g.ki x ≠ 1 → (w = 0 ∨ g.ro (x / 10) = 0) → ¬ vg_ch g < 5 → post (-8) (vx_S g ac ah)) (hok : g.ki x ≠ 1 → (w = 0 ∨ g.ro (x / 10) = 0) → vg_ch g < 5 → post (nI (vg_ch g)) (vx_S (vz_op g x w) ac ah)) : wX_open_74 post (nI w) (nI x) (vg_tv g.tp) (nI g.cu) ac (vg_cv g.fm) (vg_cv g.ro) (vg_cv g.de) (vg_cm g.mo) (vg_cv g.ki) (vg_cv g.sz) (vg_cv g.ef) (vg_cv g.wp) g.hd (vg_cv g.nd) (vg_cv g.oF) (vg_cv g.oH) (vg_cv g.po) (vg_cv g.dr) (vg_cv g.dl) ah := by
  have hxl := hx.1
  have EK := vz_k1 hI hxl
  have hrb := hI.1.2.1 (x / 10)
  have hix : vp_in (nI x) 40 := vp_in_nI hxl (by decide)
  have o134 : ∀ g' : vg_G, vg_ch g < 5 → post (nI (vg_ch g)) (vx_S (vg_hnp g' (vg_un g'.oF (vg_ch g) x) (vg_un g'.oH (vg_ch g) w) (vg_un g'.po (vg_ch g) 0)) ac ah) → wX_open_134 post (nI w) (nI x) (nI (vg_ch g)) (vg_tv g'.tp) (nI g'.cu) ac (vg_cv g'.fm) (vg_cv g'.ro) (vg_cv g'.de) (vg_cm g'.mo) (vg_cv g'.ki) (vg_cv g'.sz) (vg_cv g'.ef) (vg_cv g'.wp) g'.hd (vg_cv g'.nd) (vg_cv g'.oF) (vg_cv g'.oH) (vg_cv g'.po) (vg_cv g'.dr) (vg_cv g'.dl) ah := by
    intro g' hc h
    unfold wX_open_134
    exact vx_hold (g := g') (ac := ac) (ah := ah) hc h
  have o112 : g.ki x ≠ 1 → (w = 0 ∨ g.ro (x / 10) = 0) → wX_open_112 post (nI w) (nI x) (vg_tv g.tp) (nI g.cu) ac (vg_cv g.fm) (vg_cv g.ro) (vg_cv g.de) (vg_cm g.mo) (vg_cv g.ki) (vg_cv g.sz) (vg_cv g.ef) (vg_cv g.wp) g.hd (vg_cv g.nd) (vg_cv g.oF) (vg_cv g.oH) (vg_cv g.po) (vg_cv g.dr) (vg_cv g.dl) ah := by
    intro hk hc
    unfold wX_open_112
    refine vx_handle (g := g) (ac := ac) (ah := ah) hI (fun hh => br_t (nI_pos' (by omega)) ?_) (fun hh => br_f (by decide) (h8 hk hc hh))
    have h9 := hok hk hc hh
    unfold vz_op at h9
    refine pk_eq w 2 (fun e => ?_) (fun e => ?_)
    · rw [if_pos e] at h9
      exact vx_setSize (g := g) (ac := ac) (ah := ah) (n := 0) hI.1 hxl (by omega) (o134 (vg_ssz g x 0) hh h9)
    · rw [if_neg e] at h9
      exact o134 g hh h9
  unfold wX_open_74
  refine br_t (nI_pos' (by omega)) ⟨hix, fun ek => h3 (EK.mp ek), fun ek => ?_⟩
  have hk1 : g.ki x ≠ 1 := fun z => ek (EK.mpr z)
  refine pk_eq w 0 (fun e => o112 hk1 (Or.inl e)) (fun e => vx_diskOf (by omega) ⟨vp_in_nI (by omega) (by decide), ?_⟩)
  rw [cv_at (by omega)]
  exact pk_eq (g.ro (x / 10)) 0 (fun er => o112 hk1 (Or.inr er)) (fun er => h6 hk1 e er)
theorem vx_opn {post : Int32 → SX → Prop} {w : Nat} {r : Int32} (hr : r < 0) (h : post r (vx_S g ac ah)) : wX_open_74 post (nI w) r (vg_tv g.tp) (nI g.cu) ac (vg_cv g.fm) (vg_cv g.ro) (vg_cv g.de) (vg_cm g.mo) (vg_cv g.ki) (vg_cv g.sz) (vg_cv g.ef) (vg_cv g.wp) g.hd (vg_cv g.nd) (vg_cv g.oF) (vg_cv g.oH) (vg_cv g.po) (vg_cv g.dr) (vg_cv g.dl) ah := by
  unfold wX_open_74
  exact br_f (Int32.not_le.mpr hr) h
theorem vy_op {post : Int32 → SY → Prop} {x w : Nat} (hI : iv_I g) (hR : vy_R g aM aB aC aZ aN aT aS aI aH) (hx : vg_gd g x) (hw : w ≤ 3) (hx0 : g.ki x ≠ 1 → x ≠ 0) (hk2 : g.ki x ≠ 1 → g.ki x = 2)
    (h3 : g.ki x = 1 → post (-3) (vy_S g lf pl nm aM aB aC aZ aN aT aS aI aH aD)) (h6 : g.ki x ≠ 1 → w ≠ 0 → g.ro (x / 10) ≠ 0 → post (-6) (vy_S g lf pl nm aM aB aC aZ aN aT aS aI aH aD)) (h8 : g.ki x ≠ 1 → (w = 0 ∨ g.ro (x / 10) = 0) → ¬ vg_ch g < 5 → post (-8) (vy_S g lf pl nm aM aB aC aZ aN aT aS aI aH aD)) (hok : g.ki x ≠ 1 → (w = 0 ∨ g.ro (x / 10) = 0) → vg_ch g < 5 → ∀ z' i' h', vy_R (vz_op g x w) aM aB aC z' aN aT aS i' h' → post (nI (vg_ch g)) (vy_S (vz_op g x w) lf pl nm aM aB aC z' aN aT aS i' h' aD)) : wY_open_69 post (nI w) (nI x) (vg_tv g.tp) (nI g.cu) lf pl nm (vg_cv g.fm) (vg_cv g.de) (vg_cv g.ro) aM aB (vg_cv g.ki) aC aZ (vg_cv g.wp) aN aT aS aI (vg_cv g.dr) (vg_cv g.dl) aH (vg_cv g.po) (vg_cv g.oH) aD := by
  have hxl := hx.1
  have EK := vz_k1 hI hxl
  have hrb := hI.1.2.1 (x / 10)
  have hix : vp_in (nI x) 40 := vp_in_nI hxl (by decide)
  have h0 : 0 ≤ nI x := nI_pos' (by omega)
  have o159 : g.ki x ≠ 1 → (w = 0 ∨ g.ro (x / 10) = 0) → vg_ch g < 5 → wY_open_159 post (nI w) (nI x) (nI (vg_ch g)) (vg_tv g.tp) (nI g.cu) lf pl nm (vg_cv g.fm) (vg_cv g.de) (vg_cv g.ro) aM aB (vg_cv g.ki) aC aZ (vg_cv g.wp) aN aT aS aI (vg_cv g.dr) (vg_cv g.dl) aH (vg_cv g.po) (vg_cv g.oH) aD := by
    intro hk hc hh
    have hi : vp_in (nI (vg_ch g)) 5 := vp_in_nI hh (by decide)
    have h9 := hok hk hc hh
    have hRn := hnp_R (h := vg_ch g) (w := vg_un g.oH (vg_ch g) w) (q := vg_un g.po (vg_ch g) 0) (hx0 hk) hR
    unfold vz_op at h9
    unfold wY_open_159
    refine br_t h0 ⟨hi, nm_r (e' := upd aH (vg_ch g) (nI x)) (by rw [vn_b8 (by omega), nI_clamp (by omega)]) ⟨hi, nm_r (e' := vg_cv (vg_un g.po (vg_ch g) 0)) (by rw [vn_nb0]; exact cv_uI (x := 0) (by omega)) ⟨hi, nm_r (e' := vg_cv (vg_un g.oH (vg_ch g) w)) (by rw [vn_b8 (by omega)]; exact cv_uI (by omega)) ?_⟩⟩⟩
    refine pk_eq w 2 (fun e => ?_) (fun e => ?_)
    · rw [if_pos e] at h9
      have hsz := hI.1.2.2.2.2.2.2.2.1 x
      have hy : yr_f (vg_ssz (vg_hnp g (vg_un g.oF (vg_ch g) x) (vg_un g.oH (vg_ch g) w) (vg_un g.po (vg_ch g) 0)) x 0) (upd aZ x (nI 0)) (vg_fl aI (fun _ => 0) (20 * x + 0) (20 * x + 20)) := by
        by_cases es : 0 < g.sz x
        · exact yr_ssz_f (b := 0) (c := 20) hRn.2.2.1 (hk2 hk) hsz (by omega) (fun _ => ⟨rfl, rfl⟩) (fun z => absurd es z)
        · have hy2 := yr_ssz_f (g := vg_hnp g (vg_un g.oF (vg_ch g) x) (vg_un g.oH (vg_ch g) w) (vg_un g.po (vg_ch g) 0)) (o := x) (n := 0) (b := g.sz x) (c := 0) hRn.2.2.1 (hk2 hk) hsz (by omega) (fun z => absurd z es) (fun _ => ⟨rfl, rfl⟩)
          intro q hq hkq
          have h5 := hy2 q hq hkq
          refine ⟨h5.1, fun i hi3 => ?_⟩
          have h6' := h5.2 i hi3
          rw [fl_ap]
          rw [zr_ap, if_neg (by omega)] at h6'
          by_cases ec : 20 * x + 0 ≤ 20 * q + i ∧ 20 * q + i < 20 * x + 20
          · rw [if_pos ec]
            have eq : q = x := by omega
            have ez : (vg_ssz (vg_hnp g (vg_un g.oF (vg_ch g) x) (vg_un g.oH (vg_ch g) w) (vg_un g.po (vg_ch g) 0)) x 0).sz q = 0 := by rw [eq]; exact un_s _ _ _
            rw [ez, if_neg (by omega)]
          · rw [if_neg ec]
            exact h6'
      have hRs : vy_R (vg_ssz (vg_hnp g (vg_un g.oF (vg_ch g) x) (vg_un g.oH (vg_ch g) w) (vg_un g.po (vg_ch g) 0)) x 0) aM aB aC (upd aZ x (nI 0)) aN aT aS (vg_fl aI (fun _ => 0) (20 * x + 0) (20 * x + 20)) (upd aH (vg_ch g) (nI x)) := ⟨hRn.1, yr_ssz_d hRn.2.1 (hk2 hk), hy, yr_ssz_l hRn.2.2.2.1 hI.2.2.2.2.2.2.2.2.2.2.1 (hk2 hk) (by omega), hRn.2.2.2.2⟩
      have h10 := h9 _ _ _ hRs
      refine vy_cutTo (g := vg_hnp g (vg_un g.oF (vg_ch g) x) (vg_un g.oH (vg_ch g) w) (vg_un g.po (vg_ch g) 0)) (lf := lf) (pl := pl) (nm := nm) (aD := aD) (n := 0) ?_ hxl (by omega) h10
      obtain ⟨b1, b2, b3, b4, b5, b6, b7, b8, b9, b10, b11, b12, b13, b14, b15, b16⟩ := hI.1
      refine ⟨b1, b2, b3, b4, b5, b6, b7, b8, b9, b10, b11, fun j => ?_, fun j => ?_, fun j => ?_, b15, b16⟩
      · have := b12 j; rw [hnp_oF, un_ap]; split <;> omega
      · have := b13 j; rw [hnp_oH, un_ap]; split <;> omega
      · have := b14 j; rw [hnp_po, un_ap]; split <;> omega
    · rw [if_neg e] at h9
      exact h9 _ _ _ hRn
  have o135 : g.ki x ≠ 1 → (w = 0 ∨ g.ro (x / 10) = 0) → wY_open_135 post (nI w) (nI x) 0 (vg_tv g.tp) (nI g.cu) lf pl nm (vg_cv g.fm) (vg_cv g.de) (vg_cv g.ro) aM aB (vg_cv g.ki) aC aZ (vg_cv g.wp) aN aT aS aI (vg_cv g.dr) (vg_cv g.dl) aH (vg_cv g.po) (vg_cv g.oH) aD := by
    intro hk hc
    unfold wY_open_135
    exact vy_handle (lf := lf) (pl := pl) (nm := nm) (aD := aD) hI hR.2.2.2.2 (fun hh => br_t (nI_pos' (by omega)) (br_t rfl (o159 hk hc hh))) (fun hh => br_f (by decide) (h8 hk hc hh))
  unfold wY_open_69 wY_open_70
  refine br_t rfl (br_t h0 ?_)
  unfold wY_open_81
  refine br_t rfl ⟨hix, fun ek => h3 (EK.mp ek), fun ek => ?_⟩
  have hk1 : g.ki x ≠ 1 := fun z => ek (EK.mpr z)
  unfold wY_open_98
  refine br_t rfl ⟨vz_10, ?_⟩
  rw [vn_d10 (by omega)]
  unfold wY_open_116
  refine pk_le w 0 (fun e => o135 hk1 (Or.inl (by omega))) (fun e => ⟨vp_in_nI (by omega) (by decide), ?_⟩)
  rw [cv_at (by omega)]
  exact pk_eq (g.ro (x / 10)) 0 (fun er => o135 hk1 (Or.inr er)) (fun er => h6 hk1 (by omega) er)
theorem vy_opn {post : Int32 → SY → Prop} {w : Nat} {r : Int32} (hr : r < 0) (h : post r (vy_S g lf pl nm aM aB aC aZ aN aT aS aI aH aD)) : wY_open_69 post (nI w) r (vg_tv g.tp) (nI g.cu) lf pl nm (vg_cv g.fm) (vg_cv g.de) (vg_cv g.ro) aM aB (vg_cv g.ki) aC aZ (vg_cv g.wp) aN aT aS aI (vg_cv g.dr) (vg_cv g.dl) aH (vg_cv g.po) (vg_cv g.oH) aD := by
  unfold wY_open_69 wY_open_70
  exact br_t rfl (br_f (Int32.not_le.mpr hr) h)
theorem iv_op {x w : Nat} (hI : iv_I g) (hx : vg_gd g x) (hr : x % 10 ≠ 0) (hk : g.ki x = 2) (hw : w ≤ 3) : iv_I (vz_op g x w) := by
  have hxl := hx.1
  unfold vz_op
  split
  · have hbk := hI.2.2.2.2.2.2.2.2.2.2.2.2.2.1 (x / 10) (by omega)
    have h1 : iv_I (vg_ssz g x 0) := iv_ssz hI hxl hk (by omega) (fun _ => by omega)
    exact iv_opn (g := vg_ssz g x 0) (h := vg_ch g) (o := x) (w := w) h1 hxl hr hk hx.2.2 hw
  · exact iv_opn hI hxl hr hk hx.2.2 hw
def vz_on (g : vg_G) (x w o : Nat) : vg_G := vg_hnp (vg_new g x (vg_ls g 0) o 2) (vg_un (vg_new g x (vg_ls g 0) o 2).oF (vg_ch g) o) (vg_un (vg_new g x (vg_ls g 0) o 2).oH (vg_ch g) w) (vg_un (vg_new g x (vg_ls g 0) o 2).po (vg_ch g) 0)
theorem vx_onw {post : Int32 → SX → Prop} {x w : Nat} (hI : iv_I g) (hx : vg_gd g x) (hw : w ≤ 3) (h14 : vg_ls g 0 ≤ 14)
    (h6 : g.ro (x / 10) ≠ 0 → post (-6) (vx_S g ac ah)) (h8 : g.ro (x / 10) = 0 → ¬ vg_ch g < 5 → post (-8) (vx_S g ac ah)) (h7 : g.ro (x / 10) = 0 → vg_ch g < 5 → vg_fu g x 2 → post (-7) (vx_S g ac ah))
    (hok : g.ro (x / 10) = 0 → vg_ch g < 5 → ¬ vg_fu g x 2 → post (nI (vg_ch g)) (vx_S (vz_on g x w (10 * (x / 10) + vg_us g (x / 10))) ac ah)) : wpX_openNew post (vx_S g ac ah) (nI x) (nI w) := by
  have hxl := hx.1
  have hrb := hI.1.2.1 (x / 10)
  have hub := us_b (g := g) (d := x / 10)
  unfold wpX_openNew vx_S
  refine vx_diskOf (by omega) ⟨vp_in_nI (by omega) (by decide), ?_⟩
  rw [cv_at (by omega)]
  refine pk_eq (g.ro (x / 10)) 0 (fun er => ?_) (fun er => h6 er)
  refine vx_handle (g := g) (ac := ac) (ah := ah) hI (fun hh => br_t (nI_pos' (by omega)) ?_) (fun hh => br_f (by decide) (h8 er hh))
  refine vx_addObject (g := g) (ac := ac) (ah := ah) (k := 2) hI hxl (by omega) (by omega) (by omega) (fun hf => br_f (by decide) (h7 er hh hf)) (fun hf => br_t (nI_pos' (by omega)) ?_)
  exact vx_hold (g := vg_new g x (vg_ls g 0) (10 * (x / 10) + vg_us g (x / 10)) 2) (ac := ac) (ah := ah) hh (hok er hh hf)
theorem vy_159 {post : Int32 → SY → Prop} {o h w : Nat} (hR : vy_R g aM aB aC aZ aN aT aS aI aH) (ho : o < 40) (ho0 : o ≠ 0) (hh : h < 5) (hw : w = 1 ∨ w = 3) (hp : ∀ h', vy_R (vg_hnp g (vg_un g.oF h o) (vg_un g.oH h w) (vg_un g.po h 0)) aM aB aC aZ aN aT aS aI h' → post (nI h) (vy_S (vg_hnp g (vg_un g.oF h o) (vg_un g.oH h w) (vg_un g.po h 0)) lf pl nm aM aB aC aZ aN aT aS aI h' aD)) : wY_open_159 post (nI w) (nI o) (nI h) (vg_tv g.tp) (nI g.cu) lf pl nm (vg_cv g.fm) (vg_cv g.de) (vg_cv g.ro) aM aB (vg_cv g.ki) aC aZ (vg_cv g.wp) aN aT aS aI (vg_cv g.dr) (vg_cv g.dl) aH (vg_cv g.po) (vg_cv g.oH) aD := by
  have hi : vp_in (nI h) 5 := vp_in_nI hh (by decide)
  unfold wY_open_159
  refine br_t (nI_pos' (by omega)) ⟨hi, nm_r (e' := upd aH h (nI o)) (by rw [vn_b8 (by omega), nI_clamp (by omega)]) ⟨hi, nm_r (e' := vg_cv (vg_un g.po h 0)) (by rw [vn_nb0]; exact cv_uI (x := 0) (by omega)) ⟨hi, nm_r (e' := vg_cv (vg_un g.oH h w)) (by rw [vn_b8 (by omega)]; exact cv_uI (by omega)) (br_f (fun z => by have := (vn_e2 (by omega)).mp z; omega) ?_)⟩⟩⟩
  exact hp _ (hnp_R ho0 hR)
theorem vy_onw {post : Int32 → SY → Prop} {x w : Nat} {r : Int32} (hI : iv_I g) (hR : vy_R g aM aB aC aZ aN aT aS aI aH) (hx : vg_gd g x) (hkx : g.ki x = 1) (hw : w = 1 ∨ w = 3) (h1 : 1 ≤ vg_ls g 0) (h14 : vg_ls g 0 ≤ 14) (he : vg_eq g.fm g.nd x (vg_ls g 0) = 0)
    (h6 : g.ro (x / 10) ≠ 0 → post (-6) (vy_S g lf (nI x) (nI (vg_ls g 0)) aM aB aC aZ aN aT aS aI aH aD)) (h8 : g.ro (x / 10) = 0 → ¬ vg_ch g < 5 → post (-8) (vy_S g lf (nI x) (nI (vg_ls g 0)) aM aB aC aZ aN aT aS aI aH aD)) (h7 : g.ro (x / 10) = 0 → vg_ch g < 5 → vg_fu g x 2 → post (-7) (vy_S g lf (nI x) (nI (vg_ls g 0)) aM aB aC aZ aN aT aS aI aH aD))
    (hok : g.ro (x / 10) = 0 → vg_ch g < 5 → ¬ vg_fu g x 2 → ∀ c' z' n' t' i' h', vy_R (vz_on g x w (10 * (x / 10) + vg_us g (x / 10))) aM aB c' z' n' t' aS i' h' → post (nI (vg_ch g)) (vy_S (vz_on g x w (10 * (x / 10) + vg_us g (x / 10))) lf (nI x) (nI (vg_ls g 0)) aM aB c' z' n' t' aS i' h' aD)) : wY_open_70 post (nI w) r 1 (vg_tv g.tp) (nI g.cu) lf (nI x) (nI (vg_ls g 0)) (vg_cv g.fm) (vg_cv g.de) (vg_cv g.ro) aM aB (vg_cv g.ki) aC aZ (vg_cv g.wp) aN aT aS aI (vg_cv g.dr) (vg_cv g.dl) aH (vg_cv g.po) (vg_cv g.oH) aD := by
  have hxl := hx.1
  have hrb := hI.1.2.1 (x / 10)
  have hub := us_b (g := g) (d := x / 10)
  have hq := vq_0 h1 he
  have hn1 : ¬ (1 : Int32) = 0 := by decide
  unfold wY_open_70
  refine br_f hn1 ?_
  unfold wY_open_81
  refine br_f hn1 ?_
  unfold wY_open_98
  refine br_f hn1 ⟨vz_10, ?_⟩
  rw [vn_d10 (by omega)]
  unfold wY_open_116
  refine br_f (fun z => by have := (vn_le0 (by omega)).mp z; omega) ⟨vp_in_nI (by omega) (by decide), ?_⟩
  rw [cv_at (by omega)]
  refine pk_eq (g.ro (x / 10)) 0 (fun er => ?_) (fun er => h6 er)
  unfold wY_open_135
  refine vy_handle (lf := lf) (pl := nI x) (nm := nI (vg_ls g 0)) (aD := aD) hI hR.2.2.2.2 (fun hh => br_t (nI_pos' (by omega)) (br_f hn1 ?_)) (fun hh => br_f (by decide) (h8 er hh))
  refine vy_create (lf := lf) (aD := aD) (k := 2) hI hR hxl hkx (by omega) hq.1 (by omega) (by omega) (fun hf => ?_) (fun hf c' z' n' t' i' hR' => ?_)
  · unfold wY_open_159
    exact br_f (by decide) (h7 er hh hf)
  · have hn := iv_nw hI hx hkx h1 h14 he hf (by omega) (by omega)
    have h9 := hok er hh hf
    exact vy_159 (g := vg_new g x (vg_ls g 0) (10 * (x / 10) + vg_us g (x / 10)) 2) (lf := lf) (pl := nI x) (nm := nI (vg_ls g 0)) (aD := aD) hR' hn.2.1 (by omega) hh hw (fun h' hR2 => h9 c' z' n' t' i' h' hR2)
theorem iv_on {x w : Nat} (hI : iv_I g) (hx : vg_gd g x) (hkx : g.ki x = 1) (h1 : 1 ≤ vg_ls g 0) (h14 : vg_ls g 0 ≤ 14) (he : vg_eq g.fm g.nd x (vg_ls g 0) = 0) (hf : ¬ vg_fu g x 2) (hw : w ≤ 3) : iv_I (vz_on g x w (10 * (x / 10) + vg_us g (x / 10))) := by
  have hn := iv_nw hI hx hkx h1 h14 he hf (by omega) (by omega)
  have hk : (vg_new g x (vg_ls g 0) (10 * (x / 10) + vg_us g (x / 10)) 2).ki (10 * (x / 10) + vg_us g (x / 10)) = 2 := un_s _ _ _
  have hm : (vg_new g x (vg_ls g 0) (10 * (x / 10) + vg_us g (x / 10)) 2).mo ((10 * (x / 10) + vg_us g (x / 10)) / 10) ≠ 0 := by
    rw [hn.2.2.1]
    exact hx.2.2
  unfold vz_on
  exact iv_opn (g := vg_new g x (vg_ls g 0) (10 * (x / 10) + vg_us g (x / 10)) 2) hn.1 hn.2.1 hn.2.2.2.1 hk hm hw
end VZ46
