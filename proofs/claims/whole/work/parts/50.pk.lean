section VZ50
variable {g : vg_G} {ac : Int32} {ah : Nat → Int32} {lf pl nm : Int32} {aM aB aC aZ aN aT aS aI aH aD : Nat → Int32}
def vg_cpo (g : vg_G) (o p : Nat) : vg_G := (g.fm, g.ro, g.de, g.mo, g.tp, g.cu, vg_un g.ki p (g.ki o), vg_un g.sz p (g.sz o), vg_un g.ef p (g.ef o), vg_un g.wp p (g.wp o), vg_fl g.hd (fun j => g.hd (j - 20 * p + 20 * o)) (20 * p) (20 * p + 20), vg_fl g.nd (fun j => if g.nd (j - 15 * p + 15 * o) = 0 then 0 else g.nd (j - 15 * p + 15 * o) + p - o) (15 * p) (15 * p + 15), g.oF, g.oH, g.po, g.dr, g.dl)
theorem cpo_fm (g : vg_G) (o p : Nat) : (vg_cpo g o p).fm = g.fm := rfl
theorem cpo_ro (g : vg_G) (o p : Nat) : (vg_cpo g o p).ro = g.ro := rfl
theorem cpo_de (g : vg_G) (o p : Nat) : (vg_cpo g o p).de = g.de := rfl
theorem cpo_mo (g : vg_G) (o p : Nat) : (vg_cpo g o p).mo = g.mo := rfl
theorem cpo_tp (g : vg_G) (o p : Nat) : (vg_cpo g o p).tp = g.tp := rfl
theorem cpo_cu (g : vg_G) (o p : Nat) : (vg_cpo g o p).cu = g.cu := rfl
theorem cpo_ki (g : vg_G) (o p : Nat) : (vg_cpo g o p).ki = vg_un g.ki p (g.ki o) := rfl
theorem cpo_sz (g : vg_G) (o p : Nat) : (vg_cpo g o p).sz = vg_un g.sz p (g.sz o) := rfl
theorem cpo_ef (g : vg_G) (o p : Nat) : (vg_cpo g o p).ef = vg_un g.ef p (g.ef o) := rfl
theorem cpo_wp (g : vg_G) (o p : Nat) : (vg_cpo g o p).wp = vg_un g.wp p (g.wp o) := rfl
theorem cpo_hd (g : vg_G) (o p : Nat) : (vg_cpo g o p).hd = vg_fl g.hd (fun j => g.hd (j - 20 * p + 20 * o)) (20 * p) (20 * p + 20) := rfl
theorem cpo_nd (g : vg_G) (o p : Nat) : (vg_cpo g o p).nd = vg_fl g.nd (fun j => if g.nd (j - 15 * p + 15 * o) = 0 then 0 else g.nd (j - 15 * p + 15 * o) + p - o) (15 * p) (15 * p + 15) := rfl
theorem cpo_oF (g : vg_G) (o p : Nat) : (vg_cpo g o p).oF = g.oF := rfl
theorem cpo_oH (g : vg_G) (o p : Nat) : (vg_cpo g o p).oH = g.oH := rfl
theorem cpo_po (g : vg_G) (o p : Nat) : (vg_cpo g o p).po = g.po := rfl
theorem cpo_dr (g : vg_G) (o p : Nat) : (vg_cpo g o p).dr = g.dr := rfl
theorem cpo_dl (g : vg_G) (o p : Nat) : (vg_cpo g o p).dl = g.dl := rfl
theorem pck_st {a b i : Nat} (ha : a < 4) (hb : b < 4) (hab : a ≠ b) (hi : i < 10) : vg_cpo (vg_pck g a b i) (10 * a + i) (10 * b + i) = vg_pck g a b (i + 1) := by
  refine vg_ext ((cpo_fm _ _ _).trans ((pck_fm g a b i).trans (pck_fm g a b (i + 1)).symm)) ((cpo_ro _ _ _).trans ((pck_ro g a b i).trans (pck_ro g a b (i + 1)).symm)) ((cpo_de _ _ _).trans ((pck_de g a b i).trans (pck_de g a b (i + 1)).symm)) ((cpo_mo _ _ _).trans ((pck_mo g a b i).trans (pck_mo g a b (i + 1)).symm)) ((cpo_tp _ _ _).trans ((pck_tp g a b i).trans (pck_tp g a b (i + 1)).symm)) ((cpo_cu _ _ _).trans ((pck_cu g a b i).trans (pck_cu g a b (i + 1)).symm)) ?_ ?_ ?_ ?_ ?_ ?_ ((cpo_oF _ _ _).trans ((pck_oF g a b i).trans (pck_oF g a b (i + 1)).symm)) ((cpo_oH _ _ _).trans ((pck_oH g a b i).trans (pck_oH g a b (i + 1)).symm)) ((cpo_po _ _ _).trans ((pck_po g a b i).trans (pck_po g a b (i + 1)).symm)) ((cpo_dr _ _ _).trans ((pck_dr g a b i).trans (pck_dr g a b (i + 1)).symm)) ((cpo_dl _ _ _).trans ((pck_dl g a b i).trans (pck_dl g a b (i + 1)).symm))
  · rw [cpo_ki, pck_ki, pck_ki]
    funext j
    rw [un_ap]
    (try dsimp only)
    by_cases e : j = 10 * b + i
    · rw [if_pos e, if_neg (by omega), if_pos (by omega), e, show 10 * b + i - 10 * b + 10 * a = 10 * a + i by omega]
    · rw [if_neg e]
      by_cases e1 : 10 * b ≤ j ∧ j < 10 * b + i
      · rw [if_pos e1, if_pos (by omega)]
      · rw [if_neg e1, if_neg (by omega)]
  · rw [cpo_sz, pck_sz, pck_sz]
    funext j
    rw [un_ap]
    (try dsimp only)
    by_cases e : j = 10 * b + i
    · rw [if_pos e, if_neg (by omega), if_pos (by omega), e, show 10 * b + i - 10 * b + 10 * a = 10 * a + i by omega]
    · rw [if_neg e]
      by_cases e1 : 10 * b ≤ j ∧ j < 10 * b + i
      · rw [if_pos e1, if_pos (by omega)]
      · rw [if_neg e1, if_neg (by omega)]
  · rw [cpo_ef, pck_ef, pck_ef]
    funext j
    rw [un_ap]
    (try dsimp only)
    by_cases e : j = 10 * b + i
    · rw [if_pos e, if_neg (by omega), if_pos (by omega), e, show 10 * b + i - 10 * b + 10 * a = 10 * a + i by omega]
    · rw [if_neg e]
      by_cases e1 : 10 * b ≤ j ∧ j < 10 * b + i
      · rw [if_pos e1, if_pos (by omega)]
      · rw [if_neg e1, if_neg (by omega)]
  · rw [cpo_wp, pck_wp, pck_wp]
    funext j
    rw [un_ap]
    (try dsimp only)
    by_cases e : j = 10 * b + i
    · rw [if_pos e, if_neg (by omega), if_pos (by omega), e, show 10 * b + i - 10 * b + 10 * a = 10 * a + i by omega]
    · rw [if_neg e]
      by_cases e1 : 10 * b ≤ j ∧ j < 10 * b + i
      · rw [if_pos e1, if_pos (by omega)]
      · rw [if_neg e1, if_neg (by omega)]
  · rw [cpo_hd, pck_hd, pck_hd]
    funext j
    rw [fl_ap]
    (try dsimp only)
    by_cases e : 20 * (10 * b + i) ≤ j ∧ j < 20 * (10 * b + i) + 20
    · rw [if_pos e, if_neg (by omega), if_pos (by omega), show j - 20 * (10 * b + i) + 20 * (10 * a + i) = j - 200 * b + 200 * a by omega]
    · rw [if_neg e]
      by_cases e1 : 200 * b ≤ j ∧ j < 200 * b + 20 * i
      · rw [if_pos e1, if_pos (by omega)]
      · rw [if_neg e1, if_neg (by omega)]
  · have eN : ∀ x, (vg_pck g a b i).nd x = if 150 * b ≤ x ∧ x < 150 * b + 15 * i then (if g.nd (x - 150 * b + 150 * a) = 0 then 0 else g.nd (x - 150 * b + 150 * a) + 10 * b - 10 * a) else g.nd x := fun x => rfl
    rw [cpo_nd]
    funext j
    have eN' : (vg_pck g a b (i + 1)).nd j = if 150 * b ≤ j ∧ j < 150 * b + 15 * (i + 1) then (if g.nd (j - 150 * b + 150 * a) = 0 then 0 else g.nd (j - 150 * b + 150 * a) + 10 * b - 10 * a) else g.nd j := rfl
    rw [fl_ap, eN']
    by_cases e : 15 * (10 * b + i) ≤ j ∧ j < 15 * (10 * b + i) + 15
    · have eS : (vg_pck g a b i).nd (j - 15 * (10 * b + i) + 15 * (10 * a + i)) = g.nd (j - 150 * b + 150 * a) := by
        rw [eN, if_neg (by omega), show j - 15 * (10 * b + i) + 15 * (10 * a + i) = j - 150 * b + 150 * a by omega]
      rw [if_pos e, if_pos (show 150 * b ≤ j ∧ j < 150 * b + 15 * (i + 1) by omega)]
      (try dsimp only)
      rw [eS]
      by_cases e2 : g.nd (j - 150 * b + 150 * a) = 0
      · rw [if_pos e2, if_pos e2]
      · rw [if_neg e2, if_neg e2]
        omega
    · rw [if_neg e, eN]
      by_cases e1 : 150 * b ≤ j ∧ j < 150 * b + 15 * i
      · rw [if_pos e1, if_pos (show 150 * b ≤ j ∧ j < 150 * b + 15 * (i + 1) by omega)]
      · rw [if_neg e1, if_neg (show ¬ (150 * b ≤ j ∧ j < 150 * b + 15 * (i + 1)) by omega)]
theorem vx_cp86 {post : SX → Prop} {o p : Nat} {nd0 : vg_F} (ho : o < 40) (hp : p < 40) (hop : o ≠ p) (hv : ∀ m, m < 15 → nd0 (15 * o + m) < 40 ∧ (nd0 (15 * o + m) ≠ 0 → o ≤ nd0 (15 * o + m) + p)) : ∀ r n N, n + r = 15 → (∀ m, m < 15 → N (15 * o + m) = nd0 (15 * o + m)) → post ((vg_tv g.tp), (nI g.cu), ac, (vg_cv g.fm), (vg_cv g.ro), (vg_cv g.de), (vg_cm g.mo), (vg_cv g.ki), (vg_cv g.sz), (vg_cv g.ef), (vg_cv g.wp), g.hd, (vg_cv (vg_fl N (fun j => if nd0 (j - 15 * p + 15 * o) = 0 then 0 else nd0 (j - 15 * p + 15 * o) + p - o) (15 * p + n) (15 * p + 15))), (vg_cv g.oF), (vg_cv g.oH), (vg_cv g.po), (vg_cv g.dr), (vg_cv g.dl), ah) → wX_copyObject_86 post (nI o) (nI p) (vg_tv g.tp) (nI g.cu) ac (r + 1) (nI n) (vg_cv g.fm) (vg_cv g.ro) (vg_cv g.de) (vg_cm g.mo) (vg_cv g.ki) (vg_cv g.sz) (vg_cv g.ef) (vg_cv g.wp) g.hd (vg_cv N) (vg_cv g.oF) (vg_cv g.oH) (vg_cv g.po) (vg_cv g.dr) (vg_cv g.dl) ah := by
  intro r
  induction r with
  | zero =>
    intro n N hn _ h
    have e : n = 15 := by omega
    subst e
    rw [fl_nil (Nat.le_refl _)] at h
    exact br_t (by decide) h
  | succ r ih =>
    intro n N hn hN h
    have eO := vn_i15 o n
    have eP := vn_i15 p n
    have hnn := hN n (by omega)
    have hvn := hv n (by omega)
    have keep : ∀ x, ∀ m, m < 15 → vg_un N (15 * p + n) x (15 * o + m) = nd0 (15 * o + m) := by
      intro x m hm
      rw [un_n _ _ (by omega)]
      exact hN m hm
    have hin : vp_in (nI p * 15 + nI n) 600 := by rw [eP]; exact vp_in_nI (by omega) (by decide)
    have e9 : 15 * p + n - 15 * p + 15 * o = 15 * o + n := by omega
    refine br_f (fun z => by have := (vn_ge15 (by omega)).mp z; omega) ⟨by rw [eO]; exact vp_in_nI (by omega) (by decide), nm_r (e' := nI (nd0 (15 * o + n))) (by rw [eO, cv_at (by omega), hnn]) (pk_eq (nd0 (15 * o + n)) 0 (fun e0 => ⟨hin, nm_r (cv_uJ (x := 0) (by omega) eP) (nm_r (nI_1 n) (ih (n + 1) _ (by omega) (keep 0) ?_))⟩) (fun e0 => ⟨hin, nm_r (e' := vg_cv (vg_un N (15 * p + n) (nd0 (15 * o + n) + p - o))) ?_ (nm_r (nI_1 n) (ih (n + 1) _ (by omega) (keep _) ?_))⟩))⟩
    · have h2 := fl_step (f := N) (h := fun j => if nd0 (j - 15 * p + 15 * o) = 0 then 0 else nd0 (j - 15 * p + 15 * o) + p - o) (a := 15 * p + n) (b := 15 * p + 15) (by omega)
      (try dsimp only at h2)
      rw [e9, if_pos e0] at h2
      rw [ug_un N (15 * p + n) 0, ← Nat.add_assoc, h2]
      exact h
    · rw [nI_add, pk_sub (hvn.2 e0)]
      exact cv_uJ (by omega) eP
    · have h2 := fl_step (f := N) (h := fun j => if nd0 (j - 15 * p + 15 * o) = 0 then 0 else nd0 (j - 15 * p + 15 * o) + p - o) (a := 15 * p + n) (b := 15 * p + 15) (by omega)
      (try dsimp only at h2)
      rw [e9, if_neg e0] at h2
      rw [ug_un N (15 * p + n), ← Nat.add_assoc, h2]
      exact h
theorem vx_cp50 {post : SX → Prop} {o p : Nat} {H0 : Nat → Int32} {N : vg_F} (ho : o < 40) (hp : p < 40) (hop : o ≠ p) (hv : ∀ m, m < 15 → N (15 * o + m) < 40 ∧ (N (15 * o + m) ≠ 0 → o ≤ N (15 * o + m) + p)) : ∀ r i H, i + r = 20 → (∀ x, x < 20 → H (20 * o + x) = H0 (20 * o + x)) → post ((vg_tv g.tp), (nI g.cu), ac, (vg_cv g.fm), (vg_cv g.ro), (vg_cv g.de), (vg_cm g.mo), (vg_cv g.ki), (vg_cv g.sz), (vg_cv g.ef), (vg_cv g.wp), (vg_fl H (fun j => H0 (j - 20 * p + 20 * o)) (20 * p + i) (20 * p + 20)), (vg_cv (vg_fl N (fun j => if N (j - 15 * p + 15 * o) = 0 then 0 else N (j - 15 * p + 15 * o) + p - o) (15 * p) (15 * p + 15))), (vg_cv g.oF), (vg_cv g.oH), (vg_cv g.po), (vg_cv g.dr), (vg_cv g.dl), ah) → wX_copyObject_50 post (nI o) (nI p) (vg_tv g.tp) (nI g.cu) ac (r + 1) (nI i) (vg_cv g.fm) (vg_cv g.ro) (vg_cv g.de) (vg_cm g.mo) (vg_cv g.ki) (vg_cv g.sz) (vg_cv g.ef) (vg_cv g.wp) H (vg_cv N) (vg_cv g.oF) (vg_cv g.oH) (vg_cv g.po) (vg_cv g.dr) (vg_cv g.dl) ah := by
  intro r
  induction r with
  | zero =>
    intro i H hi _ h
    have e : i = 20 := by omega
    subst e
    rw [fl_nil (Nat.le_refl _)] at h
    exact br_t (by decide) ⟨16, vx_cp86 (g := vg_sHD g H) (ac := ac) (ah := ah) (nd0 := N) ho hp hop hv 15 0 N (by omega) (fun m _ => rfl) h⟩
  | succ r ih =>
    intro i H hi hH h
    have eO := vn_i20 o i
    have eP := vn_i20 p i
    have e9 : 20 * p + i - 20 * p + 20 * o = 20 * o + i := by omega
    refine br_f (fun z => by have := (vn_ge20 (by omega)).mp z; omega) ⟨by rw [eO]; exact vp_in_nI (by omega) (by decide), by rw [eP]; exact vp_in_nI (by omega) (by decide), nm_r (e' := vg_ug H (20 * p + i) (H0 (20 * o + i))) (by rw [eO, eP, nI_clamp (n := 20 * p + i) (by omega), nI_clamp (n := 20 * o + i) (by omega), hH i (by omega)]; rfl) (nm_r (nI_1 i) (ih (i + 1) _ (by omega) (fun x hx => ?_) ?_))⟩
    · show (if 20 * o + x = 20 * p + i then H0 (20 * o + i) else H (20 * o + x)) = _
      rw [if_neg (by omega)]
      exact hH x hx
    · have h2 := fl_step (f := H) (h := fun j => H0 (j - 20 * p + 20 * o)) (a := 20 * p + i) (b := 20 * p + 20) (by omega)
      (try dsimp only at h2)
      rw [e9] at h2
      rw [← Nat.add_assoc, h2]
      exact h
theorem vx_copyObject {post : SX → Prop} {o p : Nat} (ho : o < 40) (hp : p < 40) (hop : o ≠ p) (hv : ∀ m, m < 15 → g.nd (15 * o + m) < 40 ∧ (g.nd (15 * o + m) ≠ 0 → o ≤ g.nd (15 * o + m) + p)) (h : post (vx_S (vg_cpo g o p) ac ah)) : wpX_copyObject post (vx_S g ac ah) (nI o) (nI p) := by
  have hio : vp_in (nI o) 40 := vp_in_nI ho (by decide)
  have hip : vp_in (nI p) 40 := vp_in_nI hp (by decide)
  unfold wpX_copyObject vx_S
  refine ⟨hio, hip, nm_r (e' := vg_cv (vg_un g.ki p (g.ki o))) (by rw [cv_at (k := o) (by omega)]; exact cv_uI (by omega)) ⟨hio, hip, nm_r (e' := vg_cv (vg_un g.sz p (g.sz o))) (by rw [cv_at (k := o) (by omega)]; exact cv_uI (by omega)) ⟨hio, hip, nm_r (e' := vg_cv (vg_un g.ef p (g.ef o))) (by rw [cv_at (k := o) (by omega)]; exact cv_uI (by omega)) ⟨hio, hip, nm_r (e' := vg_cv (vg_un g.wp p (g.wp o))) (by rw [cv_at (k := o) (by omega)]; exact cv_uI (by omega)) ⟨21, ?_⟩⟩⟩⟩⟩
  exact vx_cp50 (g := vg_cpo g o p) (ac := ac) (ah := ah) (H0 := g.hd) (N := g.nd) ho hp hop hv 20 0 g.hd (by omega) (fun _ _ => rfl) h
theorem vx_pckL {post : Int32 → SX → Prop} {a b : Nat} (hI : iv_I g) (ha : a < 4) (hb : b < 4) (hab : a ≠ b) (h : post 0 (vx_S (vg_pck g a b 10) ac ah)) : ∀ r i, i + r = 10 → wX_pack_69 post (nI a) (nI b) (r + 1) (nI i) (vg_tv (vg_pck g a b i).tp) (nI (vg_pck g a b i).cu) ac (vg_cv (vg_pck g a b i).fm) (vg_cv (vg_pck g a b i).ro) (vg_cv (vg_pck g a b i).de) (vg_cm (vg_pck g a b i).mo) (vg_cv (vg_pck g a b i).ki) (vg_cv (vg_pck g a b i).sz) (vg_cv (vg_pck g a b i).ef) (vg_cv (vg_pck g a b i).wp) (vg_pck g a b i).hd (vg_cv (vg_pck g a b i).nd) (vg_cv (vg_pck g a b i).oF) (vg_cv (vg_pck g a b i).oH) (vg_cv (vg_pck g a b i).po) (vg_cv (vg_pck g a b i).dr) (vg_cv (vg_pck g a b i).dl) ah := by
  intro r
  induction r with
  | zero =>
    intro i hi
    have e : i = 10 := by omega
    subst e
    exact br_t (by decide) h
  | succ r ih =>
    intro i hi
    refine br_f (fun z => by have := (vn_ge10 (by omega)).mp z; omega) ?_
    rw [vn_i10, vn_i10]
    refine vx_copyObject (g := vg_pck g a b i) (ac := ac) (ah := ah) (by omega) (by omega) (by omega) (fun m hm => ?_) ?_
    · have e : (vg_pck g a b i).nd (15 * (10 * a + i) + m) = g.nd (15 * (10 * a + i) + m) := by
        rw [pck_nd]
        (try dsimp only)
        rw [if_neg (by omega)]
      rw [e]
      refine ⟨hI.1.2.2.2.2.2.2.2.2.2.2.1 _, fun hne => ?_⟩
      have := hI.2.2.1 (15 * (10 * a + i) + m) (by omega) hne
      omega
    · rw [pck_st ha hb hab (by omega)]
      exact nm_r (nI_1 i) (ih (i + 1) (by omega))
theorem pck_0 {a b : Nat} : (vg_pck g a b 0).ki = g.ki ∧ (vg_pck g a b 0).sz = g.sz ∧ (vg_pck g a b 0).ef = g.ef ∧ (vg_pck g a b 0).wp = g.wp ∧ (vg_pck g a b 0).hd = g.hd ∧ (vg_pck g a b 0).nd = g.nd := by
  refine ⟨?_, ?_, ?_, ?_, ?_, ?_⟩
  · rw [pck_ki]; funext j; (try dsimp only); rw [if_neg (by omega)]
  · rw [pck_sz]; funext j; (try dsimp only); rw [if_neg (by omega)]
  · rw [pck_ef]; funext j; (try dsimp only); rw [if_neg (by omega)]
  · rw [pck_wp]; funext j; (try dsimp only); rw [if_neg (by omega)]
  · rw [pck_hd]; funext j; (try dsimp only); rw [if_neg (by omega)]
  · rw [pck_nd]; funext j; (try dsimp only); rw [if_neg (by omega)]
theorem vx_pck {post : Int32 → SX → Prop} {a b : Nat} (hI : iv_I g) (ha : a < 4) (hb : b < 4) (hab : a ≠ b) (h : post 0 (vx_S (vg_pck g a b 10) ac ah)) : ∃ n, wX_pack_69 post (nI a) (nI b) n 0 (vg_tv g.tp) (nI g.cu) ac (vg_cv (vg_un g.fm b (g.fm a))) (vg_cv (vg_un g.ro b 1)) (vg_cv (vg_un g.de b 0)) (vg_cm g.mo) (vg_cv g.ki) (vg_cv g.sz) (vg_cv g.ef) (vg_cv g.wp) g.hd (vg_cv g.nd) (vg_cv g.oF) (vg_cv g.oH) (vg_cv g.po) (vg_cv g.dr) (vg_cv g.dl) ah := by
  have go := vx_pckL (ac := ac) (ah := ah) hI ha hb hab h 10 0 (by omega)
  have z := pck_0 (g := g) (a := a) (b := b)
  rw [z.1, z.2.1, z.2.2.1, z.2.2.2.1, z.2.2.2.2.1, z.2.2.2.2.2] at go
  exact ⟨11, go⟩
end VZ50
