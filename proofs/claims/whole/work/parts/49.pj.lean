section VZ49
variable {g : vg_G} {ac : Int32} {ah : Nat → Int32} {lf pl nm : Int32} {aM aB aC aZ aN aT aS aI aH aD : Nat → Int32}
/-! the beginning -/
def vg_gi (n : Nat) : vg_G := (fun _ => 0, fun _ => 0, fun _ => 0, fun j => if j < n then 0 else 2, 0, 0, fun j => if j < 10 * n ∧ j % 10 = 0 then 1 else 0, fun _ => 0, fun _ => 0, fun _ => 0, fun _ => 0, fun _ => 0, fun _ => 0, fun _ => 0, fun _ => 0, fun _ => 0, fun _ => 0)
theorem gi_s {n : Nat} : vg_clr (vg_sMO (vg_gi n) (vg_un (vg_gi n).mo n 0)) n 0 = vg_gi (n + 1) := by
  refine vg_ext ?_ ?_ ?_ ?_ rfl rfl ?_ ?_ ?_ ?_ rfl ?_ rfl rfl rfl rfl rfl
  · rw [clr_fm, sMO_fm]; exact un_id rfl
  · rw [clr_ro, sMO_ro]; exact un_id rfl
  · rw [clr_de, sMO_de]; exact un_id rfl
  · rw [clr_mo, sMO_mo]
    funext j
    show (if j = n then 0 else if j < n then 0 else 2) = if j < n + 1 then 0 else 2
    by_cases e : j = n
    · rw [if_pos e, if_pos (by omega)]
    · rw [if_neg e]
      by_cases e1 : j < n
      · rw [if_pos e1, if_pos (by omega)]
      · rw [if_neg e1, if_neg (by omega)]
  · rw [clr_ki, sMO_ki]
    funext j
    show (if 10 * n ≤ j ∧ j < 10 * n + 10 then (if j = 10 * n then 1 else 0) else if j < 10 * n ∧ j % 10 = 0 then 1 else 0) = if j < 10 * (n + 1) ∧ j % 10 = 0 then 1 else 0
    by_cases e : 10 * n ≤ j ∧ j < 10 * n + 10
    · rw [if_pos e]
      by_cases e1 : j = 10 * n
      · rw [if_pos e1, if_pos (by omega)]
      · rw [if_neg e1, if_neg (by omega)]
    · rw [if_neg e]
      by_cases e1 : j < 10 * n ∧ j % 10 = 0
      · rw [if_pos e1, if_pos (by omega)]
      · rw [if_neg e1, if_neg (by omega)]
  · rw [clr_sz, sMO_sz]; exact un_id rfl
  · rw [clr_ef, sMO_ef]; exact un_id rfl
  · rw [clr_wp, sMO_wp]; exact un_id rfl
  · rw [clr_nd, sMO_nd]
    funext j
    show (if 150 * n ≤ j ∧ j < 150 * n + 15 then 0 else 0) = 0
    exact ite_self 0
theorem iv_gi : iv_I (vg_gi 4) := by
  have hki : ∀ q, (vg_gi 4).ki q = if q < 10 * 4 ∧ q % 10 = 0 then 1 else 0 := fun q => rfl
  have hmo : ∀ q, (vg_gi 4).mo q = if q < 4 then 0 else 2 := fun q => rfl
  have hm0 : ∀ q, q < 4 → (vg_gi 4).mo q = 0 := fun q hq => if_pos hq
  have hnd : ∀ j, (vg_gi 4).nd j = 0 := fun j => rfl
  have hsz : ∀ j, (vg_gi 4).sz j = 0 := fun j => rfl
  have hK : ∀ {q k : Nat}, (vg_gi 4).ki q = k → k ≠ 0 → k = 1 ∧ q % 10 = 0 := by
    intro q k h1 h2
    rw [hki] at h1
    by_cases e : q < 10 * 4 ∧ q % 10 = 0
    · rw [if_pos e] at h1; omega
    · rw [if_neg e] at h1; omega
  unfold iv_I iv_X iv_bd
  refine ⟨⟨fun _ => Nat.zero_le _, fun _ => Nat.zero_le _, fun _ => Nat.zero_le _, fun j => ?_, Nat.zero_le _, (by decide : (0 : Nat) < 40), fun j => ?_, fun _ => Nat.zero_le _, fun _ => Nat.zero_le _, fun _ => (by decide : (0 : Nat) < 32), fun _ => (by decide : (0 : Nat) < 40), fun _ => (by decide : (0 : Nat) < 40), fun _ => Nat.zero_le _, fun _ => Nat.zero_le _, fun _ => Nat.zero_le _, fun _ => Nat.zero_le _⟩, fun d hd => ⟨?_, rfl, rfl⟩, fun j _ h => absurd (hnd j) h, fun p n _ _ _ h => absurd (hnd _) h, fun p hp hk => ⟨?_, by rw [hsz]; omega⟩, fun p n _ _ _ _ _ => Or.inl (hnd _), fun o ho hr hk => ?_, fun o ho hr hk _ => ?_, ⟨fun _ => 0, fun p n _ _ _ h => absurd (hnd _) h⟩, fun o ho hk => ?_, fun o ho hk => ?_, fun p i _ hi => absurd hi (Nat.not_lt_zero i), fun h _ hn => absurd rfl hn, fun d hd => ?_, ⟨fun d hd => ⟨fun h => ?_, fun h => ?_⟩, fun d hd h => ?_, fun d e hd _ h => ?_⟩, ⟨by decide, fun _ => ⟨rfl, fun d hd => hm0 d hd⟩, fun h => absurd rfl h, fun _ => 0, fun d hd h => ?_⟩⟩
  · rw [hmo]; split <;> omega
  · rw [hki]; split <;> omega
  · rw [hki, if_pos (by omega)]
  · rw [hsz]
    unfold vg_bl
    rw [sm_zero (fun i _ => by rw [hnd, if_pos rfl])]
  · have := hK rfl hk; omega
  · have := hK hk (by omega); omega
  · have := hK hk (by omega); omega
  · have := hK hk (by omega); omega
  · have h1 := sm_bd (f := fun i => vg_bk (vg_gi 4).fm (vg_gi 4).ki (vg_gi 4).sz (vg_gi 4).wp (10 * d + i)) (c := 1) (k := 10) (fun i _ => by
      (try dsimp only)
      unfold vg_bk vg_bd
      rw [hki, hsz]
      by_cases e : 10 * d + i < 10 * 4 ∧ (10 * d + i) % 10 = 0
      · rw [if_pos e, if_pos rfl, if_neg (by omega)]; omega
      · rw [if_neg e, if_neg (by decide), if_neg (by decide)]; omega)
    show 0 + vg_tk (vg_gi 4).fm (vg_gi 4).ki (vg_gi 4).sz (vg_gi 4).wp d ≤ 32
    unfold vg_tk
    omega
  · rw [hm0 d hd] at h; omega
  · exact absurd (show (0 : Nat) = d + 1 from h) (by omega)
  · rw [hm0 d hd] at h; omega
  · rw [hm0 d hd] at h; omega
  · rw [hm0 d hd] at h; omega
theorem vx_iniL {post : SX → Prop} (h : post (vx_S (vg_gi 4) 0 (fun _ => 0))) : ∀ r d, d + r = 4 → wX_init_143 post (r + 1) (nI d) (vg_tv (vg_gi d).tp) (nI (vg_gi d).cu) 0 (vg_cv (vg_gi d).fm) (vg_cv (vg_gi d).ro) (vg_cv (vg_gi d).de) (vg_cm (vg_gi d).mo) (vg_cv (vg_gi d).ki) (vg_cv (vg_gi d).sz) (vg_cv (vg_gi d).ef) (vg_cv (vg_gi d).wp) (vg_gi d).hd (vg_cv (vg_gi d).nd) (vg_cv (vg_gi d).oF) (vg_cv (vg_gi d).oH) (vg_cv (vg_gi d).po) (vg_cv (vg_gi d).dr) (vg_cv (vg_gi d).dl) (fun _ => 0) := by
  intro r
  induction r with
  | zero =>
    intro d hd
    have e : d = 4 := by omega
    subst e
    exact br_t (by decide) h
  | succ r ih =>
    intro d hd
    refine br_f (fun z => by have := (vn_ge4 (by omega)).mp z; omega) ⟨vp_in_nI (by omega) (by decide), nm_r (e' := vg_cm (vg_un (vg_gi d).mo d 0)) (by rw [nI_clamp (by omega)]; exact cm_up _ _ 0 mv_0.symm) ?_⟩
    refine vx_clearDisk (g := vg_sMO (vg_gi d) (vg_un (vg_gi d).mo d 0)) (ac := 0) (ah := fun _ => 0) (f := 0) (by omega) ?_
    rw [gi_s]
    exact nm_r (nI_1 d) (ih (d + 1) (by omega))
theorem vy_iniH {post : SY → Prop} : ∀ r i a, i + r = 5 → post (vy_S g lf pl nm aM aB aC aZ aN aT aS aI (vg_fl a (fun _ => -1) i 5) aD) → wY_init_181 post (vg_tv g.tp) (nI g.cu) lf pl nm (r + 1) (nI i) (vg_cv g.fm) (vg_cv g.de) (vg_cv g.ro) aM aB (vg_cv g.ki) aC aZ (vg_cv g.wp) aN aT aS aI (vg_cv g.dr) (vg_cv g.dl) a (vg_cv g.po) (vg_cv g.oH) aD := by
  intro r
  induction r with
  | zero =>
    intro i a hi h
    have e : i = 5 := by omega
    subst e
    rw [fl_nil (Nat.le_refl _)] at h
    exact br_t (by decide) h
  | succ r ih =>
    intro i a hi h
    refine br_f (fun z => by have := (vn_ge5 (by omega)).mp z; omega) ⟨vp_in_nI (by omega) (by decide), nm_r (e' := vg_ug a i (-1)) (by rw [vn_nbm, nI_clamp (by omega)]; rfl) (nm_r (nI_1 i) (ih (i + 1) _ (by omega) ?_))⟩
    rw [fl_step (h := fun _ => (-1 : Int32)) (by omega)]
    exact h
theorem vy_iniK {post : SY → Prop} : ∀ r d, d + r = 4 → post (vy_S (vg_sKI g (fun j => if j < 10 * 4 ∧ j % 10 = 0 then 1 else 0)) lf pl nm aM aB aC aZ aN aT aS aI (vg_fl aH (fun _ => -1) 0 5) aD) → wY_init_158 post (vg_tv g.tp) (nI g.cu) lf pl nm (r + 1) (nI d) (vg_cv g.fm) (vg_cv g.de) (vg_cv g.ro) aM aB (vg_cv (fun j => if j < 10 * d ∧ j % 10 = 0 then 1 else 0)) aC aZ (vg_cv g.wp) aN aT aS aI (vg_cv g.dr) (vg_cv g.dl) aH (vg_cv g.po) (vg_cv g.oH) aD := by
  intro r
  induction r with
  | zero =>
    intro d hd h
    have e : d = 4 := by omega
    subst e
    exact br_t (by decide) ⟨6, vy_iniH (g := vg_sKI g (fun j => if j < 10 * 4 ∧ j % 10 = 0 then 1 else 0)) (lf := lf) (pl := pl) (nm := nm) (aD := aD) 5 0 aH (by omega) h⟩
  | succ r ih =>
    intro d hd h
    refine br_f (fun z => by have := (vn_ge4 (by omega)).mp z; omega) ?_
    rw [vn_ml10]
    refine ⟨vp_in_nI (by omega) (by decide), nm_r (e' := vg_cv (fun j => if j < 10 * (d + 1) ∧ j % 10 = 0 then 1 else 0)) ?_ (nm_r (nI_1 d) (ih (d + 1) (by omega) h))⟩
    rw [vn_nb1]
    refine (cv_uI (x := 1) (by omega)).trans (congrArg vg_cv ?_)
    funext j
    rw [un_ap]
    by_cases e : j = 10 * d
    · rw [if_pos e, if_pos (by omega)]
    · rw [if_neg e]
      by_cases e1 : j < 10 * d ∧ j % 10 = 0
      · rw [if_pos e1, if_pos (by omega)]
      · rw [if_neg e1, if_neg (by omega)]
theorem i_vc0 : wpX_init (fun u => wpY_init (fun v => i_Rel 0 u v)) := by
  have hki0 : (fun j => if j < 10 * 0 ∧ j % 10 = 0 then 1 else 0 : vg_F) = fun _ => 0 := by
    funext j
    rw [if_neg (by omega)]
  have hR : vy_R (vg_gi 4) (fun _ => 0) (fun _ => 0) (fun _ => 0) (fun _ => 0) (fun _ => 0) (fun _ => 0) (fun _ => 0) (fun _ => 0) (vg_fl (fun _ => 0) (fun _ => -1) 0 5) := by
    have hK : ∀ {q k : Nat}, (vg_gi 4).ki q = k → k ≠ 0 → k = 1 := by
      intro q k h1 h2
      have h3 : (if q < 10 * 4 ∧ q % 10 = 0 then 1 else 0) = k := h1
      split at h3 <;> omega
    refine ⟨fun d hd => ⟨?_, fun h => ?_⟩, fun p hp hk => ⟨rfl, fun n _ h => absurd rfl h⟩, fun o ho hk => ?_, fun o ho hk => ?_, fun h hh => ?_⟩
    · have e : (vg_gi 4).mo d = 0 := if_pos hd
      rw [e]; rfl
    · have e : (vg_gi 4).mo d = 0 := if_pos hd
      rw [e] at h; omega
    · have := hK hk (by omega); omega
    · have := hK hk (by omega); omega
    · rw [fl_ap, if_pos (by omega)]
      rfl
  have hX0 : vg_cm (vg_gi 0).mo = fun _ => 0 := by
    funext j
    show vg_mv (if j < 0 then 0 else 2) = 0
    rw [if_neg (by omega)]
    decide
  have hK0 : vg_cv (vg_gi 0).ki = fun _ => 0 := by
    funext j
    show nI (if j < 10 * 0 ∧ j % 10 = 0 then 1 else 0) = 0
    rw [if_neg (by omega)]
    rfl
  have go := vx_iniL (post := fun u => wpY_init (fun v => i_Rel 0 u v)) ?_ 4 0 (by omega)
  · rw [hX0, hK0] at go
    unfold wpX_init
    exact ⟨5, go⟩
  · have hY0 : vg_cv (fun j => if j < 10 * 0 ∧ j % 10 = 0 then 1 else 0) = fun _ => 0 := hK0
    have fin : i_Rel 0 (vx_S (vg_gi 4) 0 (fun _ => 0)) (vy_S (vg_sKI (vg_gi 4) (fun j => if j < 10 * 4 ∧ j % 10 = 0 then 1 else 0)) 0 0 0 (fun _ => 0) (fun _ => 0) (fun _ => 0) (fun _ => 0) (fun _ => 0) (fun _ => 0) (fun _ => 0) (fun _ => 0) (vg_fl (fun _ => 0) (fun _ => -1) 0 5) (fun _ => 0)) := vz_mk (g := vg_gi 4) iv_gi hR
    have goY := vy_iniK (g := vg_gi 4) (lf := 0) (pl := 0) (nm := 0) (aM := fun _ => 0) (aB := fun _ => 0) (aC := fun _ => 0) (aZ := fun _ => 0) (aN := fun _ => 0) (aT := fun _ => 0) (aS := fun _ => 0) (aI := fun _ => 0) (aH := fun _ => 0) (aD := fun _ => 0) (post := fun v => i_Rel 0 (vx_S (vg_gi 4) 0 (fun _ => 0)) v) 4 0 (by omega) fin
    rw [hY0] at goY
    unfold wpY_init
    exact ⟨5, goY⟩
end VZ49
