section VX15
variable {g : vg_G} {ac : Int32} {ah : Nat → Int32}
theorem p2_le : ∀ k, k < 6 → 1 ≤ 2 ^ k ∧ 2 ^ k ≤ 32 := by decide
theorem vx_sszT {post : SX → Prop} {o n : Nat} {H : Nat → Int32} (hb : iv_bd g) (ho : o < 40) (hn : n ≤ 20) (h : post (vx_S (vg_sHD (vg_ssz g o n) H) ac ah)) :
    wpX_countWrittenParts (fun r_4 => (vp_in (nI o) 40 ∧ (wpX_partsIn (fun r_25 => (vp_in (nI o) 40 ∧ (∀ a_writtenParts_27 : Nat → Int32, a_writtenParts_27 = upd (vg_cv g.wp) (nI o).toNatClampNeg ((vg_cv g.wp (nI o).toNatClampNeg) &&& (((1 : Int32) <<< (r_25 &&& 31)) - 1)) → (vp_in (nI o) 40 ∧ (∀ a_size_29 : Nat → Int32, a_size_29 = upd (vg_cv g.sz) (nI o).toNatClampNeg (nI n) → (wpX_diskOf (fun r_30 => (vp_in r_30 4 ∧ (((vg_cv g.fm r_30.toNatClampNeg = 2 → (vp_in r_30 4 ∧ (wpX_countWrittenParts (fun r_34 => (vp_in r_30 4 ∧ (∀ a_dead_55 : Nat → Int32, a_dead_55 = upd (vg_cv g.de) r_30.toNatClampNeg ((vg_cv g.de r_30.toNatClampNeg) + (r_4 - r_34)) → (post ((vg_tv g.tp), (nI g.cu), ac, (vg_cv g.fm), (vg_cv g.ro), a_dead_55, (vg_cm g.mo), (vg_cv g.ki), a_size_29, (vg_cv g.ef), a_writtenParts_27, H, (vg_cv g.nd), (vg_cv g.oF), (vg_cv g.oH), (vg_cv g.po), (vg_cv g.dr), (vg_cv g.dl), ah))))) ((vg_tv g.tp), (nI g.cu), ac, (vg_cv g.fm), (vg_cv g.ro), (vg_cv g.de), (vg_cm g.mo), (vg_cv g.ki), a_size_29, (vg_cv g.ef), a_writtenParts_27, H, (vg_cv g.nd), (vg_cv g.oF), (vg_cv g.oH), (vg_cv g.po), (vg_cv g.dr), (vg_cv g.dl), ah) (nI o)))) ∧ (¬ vg_cv g.fm r_30.toNatClampNeg = 2 → (post ((vg_tv g.tp), (nI g.cu), ac, (vg_cv g.fm), (vg_cv g.ro), (vg_cv g.de), (vg_cm g.mo), (vg_cv g.ki), a_size_29, (vg_cv g.ef), a_writtenParts_27, H, (vg_cv g.nd), (vg_cv g.oF), (vg_cv g.oH), (vg_cv g.po), (vg_cv g.dr), (vg_cv g.dl), ah))))))) (nI o))))))) (nI n)))) ((vg_tv g.tp), (nI g.cu), ac, (vg_cv g.fm), (vg_cv g.ro), (vg_cv g.de), (vg_cm g.mo), (vg_cv g.ki), (vg_cv g.sz), (vg_cv g.ef), (vg_cv g.wp), H, (vg_cv g.nd), (vg_cv g.oF), (vg_cv g.oH), (vg_cv g.po), (vg_cv g.dr), (vg_cv g.dl), ah) (nI o) := by
  have hi : vp_in (nI o) 40 := vp_in_nI ho (by decide)
  have hw := hb.2.2.2.2.2.2.2.2.2.1 o
  have hf := hb.1 (o / 10)
  have hk : (n + 3) / 4 < 6 := by omega
  have hon := on_mod (g.wp o) hw ((n + 3) / 4) hk
  have hml : g.wp o % 2 ^ ((n + 3) / 4) ≤ g.wp o := Nat.mod_le _ _
  have p2 := p2_le ((n + 3) / 4) hk
  have EF : vg_cv g.fm (nI (o / 10)).toNatClampNeg = 2 ↔ g.fm (o / 10) = 2 := by
    rw [cv_at (by omega)]
    exact vn_e2 (by omega)
  have o1 := on_le (g.wp o)
  refine vx_count (g := vg_sHD g H) (ac := ac) (ah := ah) hw ho ⟨hi, vx_partsIn (by omega) ⟨hi, nm_r (e' := vg_cv (vg_un g.wp o (g.wp o % 2 ^ ((n + 3) / 4)))) ?_ ⟨hi, nm_r (cv_uI (by omega)) (vx_diskOf (by omega) ⟨vp_in_nI (by omega) (by decide), fun ef => ⟨vp_in_nI (by omega) (by decide), ?_⟩, fun ef => ?_⟩)⟩⟩⟩
  · rw [cv_at (by omega), bt_1 _ hk, vn_s1 p2.1, bt_md _ hw _ hk]
    exact cv_uI (by omega)
  · have hS : vx_S (vg_sHD (vg_ssz g o n) H) ac ah = ((vg_tv g.tp), (nI g.cu), ac, (vg_cv g.fm), (vg_cv g.ro), (vg_cv (vg_un g.de (o / 10) (g.de (o / 10) + (vg_on (g.wp o) - vg_on (g.wp o % 2 ^ ((n + 3) / 4)))))), (vg_cm g.mo), (vg_cv g.ki), (vg_cv (vg_un g.sz o n)), (vg_cv g.ef), (vg_cv (vg_un g.wp o (g.wp o % 2 ^ ((n + 3) / 4)))), H, (vg_cv g.nd), (vg_cv g.oF), (vg_cv g.oH), (vg_cv g.po), (vg_cv g.dr), (vg_cv g.dl), ah) := by
      unfold vx_S
      rw [sHD_de, ssz_de, if_pos (EF.mp ef)]
      rfl
    rw [hS] at h
    have hw2 : (vg_sWP (vg_sSZ (vg_sHD g H) (vg_un g.sz o n)) (vg_un g.wp o (g.wp o % 2 ^ ((n + 3) / 4)))).wp o = g.wp o % 2 ^ ((n + 3) / 4) := un_s _ _ _
    refine vx_count (g := vg_sWP (vg_sSZ (vg_sHD g H) (vg_un g.sz o n)) (vg_un g.wp o (g.wp o % 2 ^ ((n + 3) / 4)))) (ac := ac) (ah := ah) (by rw [hw2]; omega) ho ⟨vp_in_nI (by omega) (by decide), ?_⟩
    rw [hw2]
    refine nm_r ?_ h
    rw [cv_at (by omega)]
    show upd (vg_cv g.de) (nI (o / 10)).toNatClampNeg (nI (g.de (o / 10)) + (nI (vg_on (g.wp o)) - nI (vg_on (g.wp o % 2 ^ ((n + 3) / 4))))) = _
    rw [pk_sub hon, nI_add]
    exact cv_uI (by omega)
  · have hS : vx_S (vg_sHD (vg_ssz g o n) H) ac ah = ((vg_tv g.tp), (nI g.cu), ac, (vg_cv g.fm), (vg_cv g.ro), (vg_cv g.de), (vg_cm g.mo), (vg_cv g.ki), (vg_cv (vg_un g.sz o n)), (vg_cv g.ef), (vg_cv (vg_un g.wp o (g.wp o % 2 ^ ((n + 3) / 4)))), H, (vg_cv g.nd), (vg_cv g.oF), (vg_cv g.oH), (vg_cv g.po), (vg_cv g.dr), (vg_cv g.dl), ah) := by
      unfold vx_S
      rw [sHD_de, ssz_de, if_neg (fun z => ef (EF.mpr z))]
      rfl
    rw [hS] at h
    exact h
theorem vx_sszL {post : SX → Prop} {o n : Nat} (hb : iv_bd g) (ho : o < 40) (hn : n ≤ 20) : ∀ r i H, i ≤ 20 → r = n - i → post (vx_S (vg_sHD (vg_ssz g o n) (vg_fl H (fun _ => 0) (20 * o + i) (20 * o + n))) ac ah) → wX_setSize_7 post (nI o) (nI n) (vg_tv g.tp) (nI g.cu) ac (r + 1) (nI i) (vg_cv g.fm) (vg_cv g.ro) (vg_cv g.de) (vg_cm g.mo) (vg_cv g.ki) (vg_cv g.sz) (vg_cv g.ef) (vg_cv g.wp) H (vg_cv g.nd) (vg_cv g.oF) (vg_cv g.oH) (vg_cv g.po) (vg_cv g.dr) (vg_cv g.dl) ah := by
  intro r
  induction r with
  | zero =>
    intro i H hi2 hr h
    rw [fl_nil (by omega)] at h
    exact br_t ((nI_leI (by omega) (by omega)).mpr (by omega)) (vx_sszT hb ho hn h)
  | succ r ih =>
    intro i H hi2 hr h
    have eI := vn_i20 o i
    refine br_f (fun z => by have := (nI_leI (by omega) (by omega)).mp z; omega) ⟨by rw [eI]; exact vp_in_nI (by omega) (by decide), nm_r (e' := vg_ug H (20 * o + i) 0) (by rw [eI, nI_clamp (by omega)]; rfl) (nm_r (nI_1 i) (ih (i + 1) _ (by omega) (by omega) ?_))⟩
    rw [← Nat.add_assoc, fl_step (h := fun _ => (0 : Int32)) (by omega)]
    exact h
theorem vx_setSize {post : SX → Prop} {o n : Nat} (hb : iv_bd g) (ho : o < 40) (hn : n ≤ 20) (h : post (vx_S (vg_ssz g o n) ac ah)) : wpX_setSize post (vx_S g ac ah) (nI o) (nI n) := by
  have hs := hb.2.2.2.2.2.2.2.1 o
  unfold wpX_setSize vx_S
  refine ⟨vp_in_nI ho (by decide), nm_r (cv_at (by omega)) ⟨n - g.sz o + 1, ?_⟩⟩
  exact vx_sszL hb ho hn (n - g.sz o) (g.sz o) g.hd hs rfl h
theorem vx_endL {post : SX → Prop} {o : Nat} (hb : iv_bd g) (ho : o < 40) (he : g.ef o = 0) (h : post (vx_S (vg_gon g o) ac ah)) : ∀ r i, i + r = 5 → i ≤ vg_fs (fun h => decide (g.oF h = o)) 5 0 → wX_endIfGone_12 post (nI o) (vg_tv g.tp) (nI g.cu) ac (vg_cv g.fm) (vg_cv g.ro) (vg_cv g.de) (vg_cm g.mo) (vg_cv g.ki) (vg_cv g.sz) (vg_cv g.ef) (vg_cv g.wp) g.hd (vg_cv g.nd) (vg_cv g.oF) (vg_cv g.oH) (vg_cv g.po) (vg_cv g.dr) (vg_cv g.dl) ah (r + 1) (nI i) := by
  have hi : vp_in (nI o) 40 := vp_in_nI ho (by decide)
  have hk := hb.2.2.2.2.2.2.1 o
  intro r
  induction r with
  | zero =>
    intro i hi2 hle
    unfold vg_gon at h
    rw [if_neg (by omega)] at h
    have E2 : vg_cv g.ki (nI o).toNatClampNeg = 2 ↔ g.ki o = 2 := by
      rw [cv_at (by omega)]
      exact vn_e2 (by omega)
    refine br_t ((vn_ge5 (by omega)).mpr (by omega)) ⟨hi, fun e => ?_, fun e => ⟨hi, ?_⟩⟩
    · rw [if_pos (E2.mp e)] at h
      exact vx_setSize (g := g) (n := 0) hb ho (by omega) ⟨hi, nm_r (cv_uI (x := 0) (by omega)) h⟩
    · rw [if_neg (fun z => e (E2.mpr z))] at h
      exact nm_r (cv_uI (x := 0) (by omega)) h
  | succ r ih =>
    intro i hi2 hle
    have hF := hb.2.2.2.2.2.2.2.2.2.2.2.1 i
    have e1 : vg_cv g.oF (nI i).toNatClampNeg = nI o ↔ g.oF i = o := by
      rw [cv_at (by omega)]
      exact nI_eq (by omega) (by omega)
    refine br_f (fun z => by have := (vn_ge5 (by omega)).mp z; omega) ⟨vp_in_nI (by omega) (by decide), fun e => ?_, fun e => nm_r (nI_1 i) (ih (i + 1) (by omega) ?_)⟩
    · have h2 : vg_fs (fun h => decide (g.oF h = o)) 5 0 ≤ i := fs_lt (Nat.zero_le _) (by omega) (decide_eq_true (e1.mp e))
      unfold vg_gon at h
      rw [if_pos (Or.inr (by omega))] at h
      exact h
    · apply Classical.byContradiction
      intro hlt
      have h3 := of_decide_eq_true (fs_sp (P := fun h => decide (g.oF h = o)) (k := 5) (i := 0) (by omega))
      rw [show vg_fs (fun h => decide (g.oF h = o)) 5 0 = i by omega] at h3
      exact e (e1.mpr h3)
theorem vx_endIfGone {post : SX → Prop} {o : Nat} (hb : iv_bd g) (ho : o < 40) (h : post (vx_S (vg_gon g o) ac ah)) : wpX_endIfGone post (vx_S g ac ah) (nI o) := by
  have he := hb.2.2.2.2.2.2.2.2.1 o
  unfold wpX_endIfGone vx_S
  refine ⟨vp_in_nI ho (by decide), ?_⟩
  rw [cv_at (by omega)]
  refine pk_le (g.ef o) 0 (fun e => ⟨6, vx_endL hb ho (by omega) h 5 0 (by omega) (Nat.zero_le _)⟩) (fun e => ?_)
  unfold vg_gon at h
  rw [if_pos (Or.inl (by omega))] at h
  exact h
theorem vx_dropEntry {post : SX → Prop} {p n t : Nat} (hI : iv_I g) (hp : p < 40) (hk : g.ki p = 1) (hn : n < 15) (ht : g.nd (15 * p + n) = t) (ht0 : t ≠ 0) (h : post (vx_S (vg_gon (vg_dec (vg_rem g p n) t) t) ac ah)) : wpX_dropEntry post (vx_S g ac ah) (nI p) (nI n) := by
  have hX := iv_rem hI hp hk hn ht ht0
  have hi : vp_in (nI p) 40 := vp_in_nI hp (by decide)
  have htl : t < 40 := by rw [← ht]; exact hI.1.2.2.2.2.2.2.2.2.2.2.1 _
  have hit : vp_in (nI t) 40 := vp_in_nI htl (by decide)
  have eI := vn_i15 p n
  have hcn := hI.2.2.2.2.1 p hp hk
  have hbl := bl_lt (nd := g.nd) (p := p) (m := n) (k := 15) hn (by rw [ht]; exact ht0)
  have hna := hI.2.2.1 (15 * p + n) (by omega) (by rw [ht]; exact ht0)
  rw [ht] at hna
  have hnb := (hI.2.2.2.1 p n hp hk hn (by rw [ht]; exact ht0)).2
  rw [ht] at hnb
  have hef := hI.2.2.2.2.2.2.1 t htl hna.2 hnb
  have hen := en_1 (ki := g.ki) (nd := g.nd) (p := p) (n := n) (o := t) hn hk (by omega) ht
  have heb := hI.1.2.2.2.2.2.2.2.2.1 t
  have hin : vp_in (nI p * 15 + nI n) 600 := by rw [eI]; exact vp_in_nI (by omega) (by decide)
  unfold wpX_dropEntry vx_S
  refine ⟨hin, nm_r (e' := nI t) (by rw [eI, cv_at (by omega), ht]) ⟨hin, nm_r (cv_uJ (x := 0) (by omega) eI) ⟨hi, hi, nm_r (e' := vg_cv (vg_un g.sz p (g.sz p - 1))) (by rw [cv_at (by omega), vn_s1 (by omega)]; exact cv_uI (by omega)) ⟨hit, hit, nm_r (e' := vg_cv (vg_un g.ef t (g.ef t - 1))) (by rw [cv_at (by omega), vn_s1 (by omega)]; exact cv_uI (by omega)) ?_⟩⟩⟩⟩
  exact vx_endIfGone (g := vg_dec (vg_rem g p n) t) (ac := ac) (ah := ah) hX.1 htl h
theorem vx_moveEntry {post : SX → Prop} {p n p' t : Nat} (hI : iv_I g) (hp : p < 40) (hk : g.ki p = 1) (hn : n < 15) (ht : g.nd (15 * p + n) = t) (ht0 : t ≠ 0) (hp' : p' < 40) (hls : vg_ls g 1 < 15) (h : post (vx_S (vg_put (vg_rem g p n) p' (vg_ls g 1) t) ac ah)) : wpX_moveEntry post (vx_S g ac ah) (nI p) (nI n) (nI p') := by
  have hi : vp_in (nI p) 40 := vp_in_nI hp (by decide)
  have hi' : vp_in (nI p') 40 := vp_in_nI hp' (by decide)
  have hl := hI.1.2.2.2.2.2.2.2.2.2.2.2.2.2.2.2 1
  have eI := vn_i15 p n
  have eJ := vn_i15 p' (vg_ls g 1)
  have hcn := hI.2.2.2.2.1 p hp hk
  have hbl := bl_lt (nd := g.nd) (p := p) (m := n) (k := 15) hn (by rw [ht]; exact ht0)
  have hin : vp_in (nI p * 15 + nI n) 600 := by rw [eI]; exact vp_in_nI (by omega) (by decide)
  unfold wpX_moveEntry vx_S
  refine ⟨hin, nm_r (e' := nI t) (by rw [eI, cv_at (by omega), ht]) ?_⟩
  refine vx_lastStep (g := g) (ac := ac) (ah := ah) (p := 1) hl (by omega) ⟨hin, nm_r (cv_uJ (x := 0) (by omega) eI) ⟨hi, hi, nm_r (e' := vg_cv (vg_un g.sz p (g.sz p - 1))) (by rw [cv_at (by omega), vn_s1 (by omega)]; exact cv_uI (by omega)) ⟨by rw [eJ]; exact vp_in_nI (by omega) (by decide), nm_r (cv_uJ (by omega) eJ) ⟨hi', hi', nm_r (e' := vg_cv (vg_un (vg_un g.sz p (g.sz p - 1)) p' (vg_un g.sz p (g.sz p - 1) p' + 1))) (by rw [cv_at (by omega), nI_1]; exact cv_uI (by omega)) h⟩⟩⟩⟩
theorem vx_hofL {post : Int32 → Prop} {d : Nat} (hI : iv_I g) (hd : d < 4) : ∀ r i, i + r = 5 → ((∃ h, i ≤ h ∧ h < 5 ∧ g.oF h ≠ 0 ∧ g.oF h / 10 = d) → post 1) → ((∀ h, i ≤ h → h < 5 → g.oF h ≠ 0 → g.oF h / 10 ≠ d) → post 0) → wX_hasOpenFile_2 post (nI d) (vg_tv g.tp) (nI g.cu) ac (vg_cv g.fm) (vg_cv g.ro) (vg_cv g.de) (vg_cm g.mo) (vg_cv g.ki) (vg_cv g.sz) (vg_cv g.ef) (vg_cv g.wp) g.hd (vg_cv g.nd) (vg_cv g.oF) (vg_cv g.oH) (vg_cv g.po) (vg_cv g.dr) (vg_cv g.dl) ah (r + 1) (nI i) := by
  intro r
  induction r with
  | zero =>
    intro i hi _ h0
    exact br_t ((vn_ge5 (by omega)).mpr (by omega)) (h0 (fun h a b => by omega))
  | succ r ih =>
    intro i hi h1 h0
    have hF := hI.1.2.2.2.2.2.2.2.2.2.2.2.1 i
    have nxt : (g.oF i ≠ 0 → g.oF i / 10 ≠ d) → wX_hasOpenFile_2 post (nI d) (vg_tv g.tp) (nI g.cu) ac (vg_cv g.fm) (vg_cv g.ro) (vg_cv g.de) (vg_cm g.mo) (vg_cv g.ki) (vg_cv g.sz) (vg_cv g.ef) (vg_cv g.wp) g.hd (vg_cv g.nd) (vg_cv g.oF) (vg_cv g.oH) (vg_cv g.po) (vg_cv g.dr) (vg_cv g.dl) ah (r + 1) (nI i + 1) := by
      intro hn
      rw [nI_1]
      refine ih (i + 1) (by omega) (fun ⟨h, a, b, c⟩ => h1 ⟨h, by omega, b, c⟩) (fun hh => h0 (fun h a b => ?_))
      by_cases e : h = i
      · subst e; exact hn
      · exact hh h (by omega) b
    refine br_f (fun z => by have := (vn_ge5 (by omega)).mp z; omega) ⟨vp_in_nI (by omega) (by decide), ?_⟩
    rw [cv_at (by omega)]
    refine pk_eq (g.oF i) 0 (fun e => nm_e (nxt (fun z => absurd e z))) (fun e => ⟨vp_in_nI (by omega) (by decide), vx_diskOf (by omega) ?_⟩)
    exact pk_eq (g.oF i / 10) d (fun e2 => h1 ⟨i, Nat.le_refl _, by omega, e, e2⟩) (fun e2 => nm_e (nxt (fun _ => e2)))
theorem vx_hasOpen {post : Int32 → Prop} {d : Nat} (hI : iv_I g) (hd : d < 4) (h1 : (∃ h, h < 5 ∧ g.oF h ≠ 0 ∧ g.oF h / 10 = d) → post 1) (h0 : (∀ h, h < 5 → g.oF h ≠ 0 → g.oF h / 10 ≠ d) → post 0) : wpX_hasOpenFile post (vx_S g ac ah) (nI d) := by
  unfold wpX_hasOpenFile vx_S
  exact ⟨6, vx_hofL hI hd 5 0 (by omega) (fun ⟨h, _, b, c⟩ => h1 ⟨h, b, c⟩) (fun hh => h0 (fun h a => hh h (Nat.zero_le _) a))⟩
theorem vx_carL {post : Int32 → Prop} {d : Nat} (hI : iv_I g) (hd : d < 4) : ∀ r i, i + r = 4 → ((∃ e, i ≤ e ∧ e < 4 ∧ 2 ≤ g.mo e ∧ (g.mo e - 2) / 10 = d) → post 1) → ((∀ e, i ≤ e → e < 4 → 2 ≤ g.mo e → (g.mo e - 2) / 10 ≠ d) → post 0) → wX_carriesDisk_2 post (nI d) (vg_tv g.tp) (nI g.cu) ac (vg_cv g.fm) (vg_cv g.ro) (vg_cv g.de) (vg_cm g.mo) (vg_cv g.ki) (vg_cv g.sz) (vg_cv g.ef) (vg_cv g.wp) g.hd (vg_cv g.nd) (vg_cv g.oF) (vg_cv g.oH) (vg_cv g.po) (vg_cv g.dr) (vg_cv g.dl) ah (r + 1) (nI i) := by
  intro r
  induction r with
  | zero =>
    intro i hi _ h0
    exact br_t ((vn_ge4 (by omega)).mpr (by omega)) (h0 (fun h a b => by omega))
  | succ r ih =>
    intro i hi h1 h0
    have hm := hI.1.2.2.2.1 i
    have nxt : (2 ≤ g.mo i → (g.mo i - 2) / 10 ≠ d) → wX_carriesDisk_2 post (nI d) (vg_tv g.tp) (nI g.cu) ac (vg_cv g.fm) (vg_cv g.ro) (vg_cv g.de) (vg_cm g.mo) (vg_cv g.ki) (vg_cv g.sz) (vg_cv g.ef) (vg_cv g.wp) g.hd (vg_cv g.nd) (vg_cv g.oF) (vg_cv g.oH) (vg_cv g.po) (vg_cv g.dr) (vg_cv g.dl) ah (r + 1) (nI i + 1) := by
      intro hn
      rw [nI_1]
      refine ih (i + 1) (by omega) (fun ⟨h, a, b, c⟩ => h1 ⟨h, by omega, b, c⟩) (fun hh => h0 (fun h a b => ?_))
      by_cases e : h = i
      · subst e; exact hn
      · exact hh h (by omega) b
    have eA : vg_cm g.mo (nI i).toNatClampNeg = vg_mv (g.mo i) := by rw [nI_clamp (by omega)]; rfl
    refine br_f (fun z => by have := (vn_ge4 (by omega)).mp z; omega) ⟨vp_in_nI (by omega) (by decide), ?_⟩
    rw [eA]
    refine ⟨fun e => nm_e (nxt (fun z => ?_)), fun e => ⟨vp_in_nI (by omega) (by decide), ?_⟩⟩
    · have := (mv_lt (by omega)).mp e; omega
    · have h2 : ¬ g.mo i ≤ 1 := fun z => e ((mv_lt (by omega)).mpr z)
      have e3 : vg_mv (g.mo i) = nI (g.mo i - 2) := (mv_eq hm (by omega)).mpr (by omega)
      rw [e3]
      refine vx_diskOf (by omega) ?_
      exact pk_eq ((g.mo i - 2) / 10) d (fun e2 => h1 ⟨i, Nat.le_refl _, by omega, by omega, e2⟩) (fun e2 => nm_e (nxt (fun _ => e2)))
theorem vx_carries {post : Int32 → Prop} {d : Nat} (hI : iv_I g) (hd : d < 4) (h1 : (∃ e, e < 4 ∧ 2 ≤ g.mo e ∧ (g.mo e - 2) / 10 = d) → post 1) (h0 : (∀ e, e < 4 → 2 ≤ g.mo e → (g.mo e - 2) / 10 ≠ d) → post 0) : wpX_carriesDisk post (vx_S g ac ah) (nI d) := by
  unfold wpX_carriesDisk vx_S
  exact ⟨5, vx_carL hI hd 4 0 (by omega) (fun ⟨h, _, b, c⟩ => h1 ⟨h, b, c⟩) (fun hh => h0 (fun h a => hh h (Nat.zero_le _) a))⟩
theorem vx_isInUse {post : Int32 → Prop} {x : Nat} (hI : iv_I g) (hx : x < 40) (h1 : (vg_co g.mo x < 4 ∨ x = g.cu) → post 1) (h0 : ¬ (vg_co g.mo x < 4 ∨ x = g.cu) → post 0) : wpX_isInUse post (vx_S g ac ah) (nI x) := by
  have hc := hI.1.2.2.2.2.2.1
  unfold wpX_isInUse vx_S
  refine vx_isCovered (g := g) (ac := ac) (ah := ah) hI hx (fun e => br_t rfl ?_) (fun e => br_f (by decide) (h1 (Or.inl e)))
  exact pk_eq x g.cu (fun e2 => h1 (Or.inr e2)) (fun e2 => h0 (fun z => z.elim e e2))
theorem vx_belL {post : Int32 → Prop} {t : Nat} (hI : iv_I g) (ht : t < 40) : ∀ k x, k ≤ 10 → vg_gd g x → g.ki x = 1 → (vg_ud g.ki g.nd t k x = 1 → post 1) → (vg_ud g.ki g.nd t k x = 0 → post 0) → wX_isAtOrBelow_5 post (nI t) (vg_tv g.tp) (nI g.cu) ac (vg_cv g.fm) (vg_cv g.ro) (vg_cv g.de) (vg_cm g.mo) (vg_cv g.ki) (vg_cv g.sz) (vg_cv g.ef) (vg_cv g.wp) g.hd (vg_cv g.nd) (vg_cv g.oF) (vg_cv g.oH) (vg_cv g.po) (vg_cv g.dr) (vg_cv g.dl) ah (k + 1) (nI x) (nI (10 - k)) := by
  have last : ∀ x, x < 40 → (x = t → post 1) → (x ≠ t → post 0) → wX_isAtOrBelow_36 post (nI t) (nI x) (vg_tv g.tp) (nI g.cu) ac (vg_cv g.fm) (vg_cv g.ro) (vg_cv g.de) (vg_cm g.mo) (vg_cv g.ki) (vg_cv g.sz) (vg_cv g.ef) (vg_cv g.wp) g.hd (vg_cv g.nd) (vg_cv g.oF) (vg_cv g.oH) (vg_cv g.po) (vg_cv g.dr) (vg_cv g.dl) ah := by
    intro x hx a b
    unfold wX_isAtOrBelow_36
    exact pk_eq x t a b
  intro k
  induction k with
  | zero =>
    intro x _ hx hk h1 h0
    refine br_t (by decide) (last x hx.1 (fun e => h1 (if_pos e)) (fun e => h0 (if_neg e)))
  | succ k ih =>
    intro x hk10 hx hk h1 h0
    have hxl := hx.1
    rw [ud_s] at h1 h0
    refine br_f (fun z => by have := (vn_ge10 (by omega)).mp z; omega) (pk_eq x t (fun e => ?_) (fun e => ?_))
    · rw [if_pos e] at h1
      exact last x hxl (fun _ => h1 rfl) (fun z => absurd e z)
    · rw [if_neg e] at h1 h0
      refine vx_isRoot (by omega) (fun hr => br_f (by decide) ?_) (fun hr => br_t rfl ?_)
      · rw [if_pos hr] at h0
        exact last x hxl (fun z => absurd z e) (fun _ => h0 rfl)
      · rw [if_neg hr] at h1 h0
        have hab : vg_ab g x = vg_par g.ki g.nd x := by unfold vg_ab; rw [if_neg hr]
        have hg := ab_gd hI hx hk
        rw [hab] at hg
        refine vx_directoryAbove (g := g) (ac := ac) (ah := ah) hI hx hk ?_
        rw [hab]
        refine nm_r (e' := nI (10 - k)) (by rw [nI_1]; exact congrArg nI (by omega)) (ih _ (by omega) hg.1 hg.2 h1 h0)
theorem vx_below {post : Int32 → Prop} {x t : Nat} (hI : iv_I g) (ht : t < 40) (hx : vg_gd g x) (hk : g.ki x = 1) (h1 : vg_ud g.ki g.nd t 10 x = 1 → post 1) (h0 : vg_ud g.ki g.nd t 10 x = 0 → post 0) : wpX_isAtOrBelow post (vx_S g ac ah) (nI x) (nI t) := by
  unfold wpX_isAtOrBelow vx_S
  exact ⟨11, vx_belL hI ht 10 x (Nat.le_refl _) hx hk h1 h0⟩
def vg_ch (g : vg_G) : Nat := vg_fs (fun h => decide (g.oF h = 0)) 5 0
theorem vx_lchL {post : Int32 → Prop} (hI : iv_I g) (h1 : vg_ch g < 5 → post (nI (vg_ch g))) (h0 : ¬ vg_ch g < 5 → post (-8)) : ∀ r i, i + r = 5 → i ≤ vg_ch g → wX_leastClosedHandle_2 post (vg_tv g.tp) (nI g.cu) ac (vg_cv g.fm) (vg_cv g.ro) (vg_cv g.de) (vg_cm g.mo) (vg_cv g.ki) (vg_cv g.sz) (vg_cv g.ef) (vg_cv g.wp) g.hd (vg_cv g.nd) (vg_cv g.oF) (vg_cv g.oH) (vg_cv g.po) (vg_cv g.dr) (vg_cv g.dl) ah (r + 1) (nI i) := by
  intro r
  induction r with
  | zero =>
    intro i hi hle
    exact br_t ((vn_ge5 (by omega)).mpr (by omega)) (h0 (by omega))
  | succ r ih =>
    intro i hi hle
    have hF := hI.1.2.2.2.2.2.2.2.2.2.2.2.1 i
    have e1 : vg_cv g.oF (nI i).toNatClampNeg = 0 ↔ g.oF i = 0 := by
      rw [cv_at (by omega)]
      exact vn_e0 (by omega)
    refine br_f (fun z => by have := (vn_ge5 (by omega)).mp z; omega) ⟨vp_in_nI (by omega) (by decide), fun e => ?_, fun e => nm_r (nI_1 i) (ih (i + 1) (by omega) ?_)⟩
    · have h2 : vg_ch g ≤ i := fs_lt (Nat.zero_le _) (by omega) (decide_eq_true (e1.mp e))
      have h3 := h1 (by omega)
      rw [show vg_ch g = i by omega] at h3
      exact h3
    · apply Classical.byContradiction
      intro hlt
      have h3 : g.oF (vg_ch g) = 0 := of_decide_eq_true (fs_sp (P := fun h => decide (g.oF h = 0)) (k := 5) (i := 0) (by unfold vg_ch at hlt hle; omega))
      rw [show vg_ch g = i by omega] at h3
      exact e (e1.mpr h3)
theorem vx_handle {post : Int32 → Prop} (hI : iv_I g) (h1 : vg_ch g < 5 → post (nI (vg_ch g))) (h0 : ¬ vg_ch g < 5 → post (-8)) : wpX_leastClosedHandle post (vx_S g ac ah) := by
  unfold wpX_leastClosedHandle vx_S
  exact ⟨6, vx_lchL hI h1 h0 5 0 (by omega) (Nat.zero_le _)⟩
theorem vx_isOpen1 {post : Int32 → Prop} {h : Nat} (hI : iv_I g) (hh : h < 5) (h1 : g.oF h ≠ 0 → post 1) (h0 : g.oF h = 0 → post 0) : wpX_isOpen post (vx_S g ac ah) (nI h) := by
  have hF := hI.1.2.2.2.2.2.2.2.2.2.2.2.1 h
  unfold wpX_isOpen vx_S
  refine br_f (nI_pos (by omega)) (br_f (nI_ge (b := 5) hh (by decide)) ⟨vp_in_nI hh (by decide), ?_⟩)
  rw [cv_at (by omega)]
  exact pk_eq (g.oF h) 0 h0 h1
theorem vx_isOpen0 {post : Int32 → Prop} {x : Int32} (hx : x < 0 ∨ nI 5 ≤ x) (h : post 0) : wpX_isOpen post (vx_S g ac ah) x := by
  unfold wpX_isOpen vx_S
  by_cases e : x < 0
  · exact br_t e h
  · exact br_f e (br_t (hx.resolve_left e) h)
theorem vx_mayWrite1 {post : Int32 → Prop} {h : Nat} (hI : iv_I g) (hh : h < 5) (h1 : g.oF h ≠ 0 → g.oH h ≠ 0 → post 1) (h0 : (g.oF h = 0 ∨ g.oH h = 0) → post 0) : wpX_mayWrite post (vx_S g ac ah) (nI h) := by
  have hF := hI.1.2.2.2.2.2.2.2.2.2.2.2.2.1 h
  unfold wpX_mayWrite vx_S
  refine vx_isOpen1 (g := g) (ac := ac) (ah := ah) hI hh (fun e => br_f (by decide) ⟨vp_in_nI hh (by decide), ?_⟩) (fun e => br_t rfl (h0 (Or.inl e)))
  rw [cv_at (by omega)]
  exact pk_eq (g.oH h) 0 (fun e2 => h0 (Or.inr e2)) (fun e2 => h1 e e2)
theorem vx_mayWrite0 {post : Int32 → Prop} {x : Int32} (hx : x < 0 ∨ nI 5 ≤ x) (h : post 0) : wpX_mayWrite post (vx_S g ac ah) x := by
  unfold wpX_mayWrite vx_S
  exact vx_isOpen0 (g := g) (ac := ac) (ah := ah) hx (br_t rfl h)
theorem vx_hold {post : Int32 → SX → Prop} {h o w : Nat} (hh : h < 5) (hp : post (nI h) (vx_S (vg_hnp g (vg_un g.oF h o) (vg_un g.oH h w) (vg_un g.po h 0)) ac ah)) : wpX_hold post (vx_S g ac ah) (nI h) (nI o) (nI w) := by
  have hi : vp_in (nI h) 5 := vp_in_nI hh (by decide)
  unfold wpX_hold vx_S
  exact ⟨hi, nm_r (cv_uI (by omega)) ⟨hi, nm_r (cv_uI (by omega)) ⟨hi, nm_r (cv_uI (x := 0) (by omega)) hp⟩⟩⟩
end VX15
