section VX13
variable {g : vg_G} {ac : Int32} {ah : Nat → Int32}
theorem vx_partsIn {post : Int32 → Prop} {n : Nat} (hn : n < 100) (h : post (nI ((n + 3) / 4))) : wpX_partsIn post (nI n) := by
  unfold wpX_partsIn
  rw [vn_ar4, vn_s1 (by omega), vn_d4 (by omega), show n + 4 - 1 = n + 3 by omega]
  exact ⟨vz_4, h⟩
theorem vx_blocksOfDirectory {post : Int32 → Prop} {d s : Nat} (hI : iv_I g) (hd : d < 4) (hs : s < 100) (h : post (nI (vg_bd (g.fm d) s))) : wpX_blocksOfDirectory post (vx_S g ac ah) (nI d) (nI s) := by
  have hf := hI.1.1 d
  have EF : vg_cv g.fm (nI d).toNatClampNeg = 0 ↔ g.fm d = 0 := by
    rw [nI_clamp (by omega), cv_ap]
    exact vn_e0 (by omega)
  unfold vg_bd at h
  unfold wpX_blocksOfDirectory vx_S
  refine ⟨vp_in_nI hd (by decide), fun ef => ?_, fun ef => ?_⟩
  · refine pk_le s 4 (fun z => ?_) (fun z => ?_)
    · rw [if_neg (by omega)] at h; exact h
    · rw [if_pos ⟨EF.mp ef, by omega⟩] at h; exact h
  · rw [if_neg (fun z => ef (EF.mpr z.1))] at h; exact h
theorem vx_cntL {post : Int32 → Prop} {o : Nat} (hw : g.wp o < 32) (ho : o < 40) (h : post (nI (vg_on (g.wp o)))) : ∀ d b, b + d = 5 → wX_countWrittenParts_4 post (nI o) (vg_tv g.tp) (nI g.cu) ac (vg_cv g.fm) (vg_cv g.ro) (vg_cv g.de) (vg_cm g.mo) (vg_cv g.ki) (vg_cv g.sz) (vg_cv g.ef) (vg_cv g.wp) g.hd (vg_cv g.nd) (vg_cv g.oF) (vg_cv g.oH) (vg_cv g.po) (vg_cv g.dr) (vg_cv g.dl) ah (d + 1) (nI (vg_ob (g.wp o) b)) (nI b) := by
  intro d
  induction d with
  | zero =>
    intro b hb
    have e : b = 5 := by omega
    subst e
    rw [ob_5]
    exact br_t (by decide) h
  | succ d ih =>
    intro b hb
    refine br_f (fun z => by have := (vn_ge5 (by omega)).mp z; omega) ⟨vp_in_nI ho (by decide), nm_r (e' := nI (vg_ob (g.wp o) (b + 1))) ?_ (nm_r (nI_1 b) (ih (b + 1) (by omega)))⟩
    rw [nI_clamp (by omega), cv_ap, bt_sh _ hw _ (by omega), nI_add, ob_s]
theorem vx_count {post : Int32 → Prop} {o : Nat} (hw : g.wp o < 32) (ho : o < 40) (h : post (nI (vg_on (g.wp o)))) : wpX_countWrittenParts post (vx_S g ac ah) (nI o) := by
  unfold wpX_countWrittenParts vx_S
  exact ⟨_, vx_cntL hw ho h 5 0 (by omega)⟩
theorem vx_blocksOf {post : Int32 → Prop} {o : Nat} (hI : iv_I g) (ho : o < 40) (h : post (nI (vg_bk g.fm g.ki g.sz g.wp o))) : wpX_blocksOf post (vx_S g ac ah) (nI o) := by
  have hf := hI.1.1 (o / 10)
  have hk := hI.1.2.2.2.2.2.2.1 o
  have hs := hI.1.2.2.2.2.2.2.2.1 o
  have EK : ∀ c : Nat, c < 4 → (vg_cv g.ki (nI o).toNatClampNeg = nI c ↔ g.ki o = c) := by
    intro c hc
    rw [nI_clamp (by omega), cv_ap]
    exact nI_eq (by omega) (by omega)
  have EZ : vg_cv g.sz (nI o).toNatClampNeg = nI (g.sz o) := by rw [nI_clamp (by omega)]; rfl
  have EF : vg_cv g.fm (nI (o / 10)).toNatClampNeg = 0 ↔ g.fm (o / 10) = 0 := by
    rw [nI_clamp (by omega), cv_ap]
    exact vn_e0 (by omega)
  have hi : vp_in (nI o) 40 := vp_in_nI ho (by decide)
  unfold vg_bk at h
  unfold wpX_blocksOf vx_S
  refine vx_diskOf (by omega) ⟨hi, fun e1 => ⟨hi, ?_⟩, fun e1 => ⟨hi, fun e2 => ⟨vp_in_nI (by omega) (by decide), fun ef => ⟨hi, ?_⟩, fun ef => ?_⟩, fun e2 => ?_⟩⟩
  · rw [if_pos ((EK 1 (by omega)).mp e1)] at h
    rw [EZ]
    exact vx_blocksOfDirectory (g := g) (ac := ac) (ah := ah) hI (by omega) (by omega) h
  · rw [if_neg (fun z => e1 ((EK 1 (by omega)).mpr z)), if_pos ((EK 2 (by omega)).mp e2), if_pos (EF.mp ef)] at h
    rw [EZ]
    exact vx_partsIn (by omega) h
  · rw [if_neg (fun z => e1 ((EK 1 (by omega)).mpr z)), if_pos ((EK 2 (by omega)).mp e2), if_neg (fun z => ef (EF.mpr z))] at h
    exact vx_count (g := g) (ac := ac) (ah := ah) (hI.1.2.2.2.2.2.2.2.2.2.1 o) ho h
  · rw [if_neg (fun z => e1 ((EK 1 (by omega)).mpr z)), if_neg (fun z => e2 ((EK 2 (by omega)).mpr z))] at h
    exact h
theorem vx_freeL {post : Int32 → Prop} {d : Nat} (hI : iv_I g) (hd : d < 4) (h : post (nI (vg_fr g d))) : ∀ r k, k + r = 10 → wX_freeBlocks_12 post (nI d) (vg_tv g.tp) (nI g.cu) ac (vg_cv g.fm) (vg_cv g.ro) (vg_cv g.de) (vg_cm g.mo) (vg_cv g.ki) (vg_cv g.sz) (vg_cv g.ef) (vg_cv g.wp) g.hd (vg_cv g.nd) (vg_cv g.oF) (vg_cv g.oH) (vg_cv g.po) (vg_cv g.dr) (vg_cv g.dl) ah (r + 1) (nI (32 - (g.de d + vg_sm (fun i => vg_bk g.fm g.ki g.sz g.wp (10 * d + i)) k))) (nI k) := by
  intro r
  induction r with
  | zero =>
    intro k hk
    have e : k = 10 := by omega
    subst e
    exact br_t (by decide) h
  | succ r ih =>
    intro k hk
    have h2 := hI.2.2.2.2.2.2.2.2.2.2.2.2.2.1 d hd
    have h3 := sm_mono (f := fun i => vg_bk g.fm g.ki g.sz g.wp (10 * d + i)) (show k + 1 ≤ 10 by omega)
    have h4 := sm_s (fun i => vg_bk g.fm g.ki g.sz g.wp (10 * d + i)) k
    unfold vg_tk at h2
    refine br_f (fun z => by have := (vn_ge10 (by omega)).mp z; omega) ?_
    rw [vn_i10]
    refine vx_blocksOf (g := g) (ac := ac) (ah := ah) hI (by omega) (nm_r (e' := nI (32 - (g.de d + vg_sm (fun i => vg_bk g.fm g.ki g.sz g.wp (10 * d + i)) (k + 1)))) ?_ (nm_r (nI_1 k) (ih (k + 1) (by omega))))
    rw [pk_sub (by omega)]
    exact congrArg nI (by omega)
theorem vx_freeBlocks {post : Int32 → Prop} {d : Nat} (hI : iv_I g) (hd : d < 4) (h : post (nI (vg_fr g d))) : wpX_freeBlocks post (vx_S g ac ah) (nI d) := by
  have hb := hI.1.2.2.1 d
  unfold wpX_freeBlocks vx_S
  refine ⟨vp_in_nI hd (by decide), nm_r (e' := nI (32 - (g.de d + vg_sm (fun i => vg_bk g.fm g.ki g.sz g.wp (10 * d + i)) 0))) ?_ ⟨_, vx_freeL hI hd h 10 0 (by omega)⟩⟩
  rw [nI_clamp (by omega), cv_ap]
  exact pk_sub (a := 32) (by omega)
def vg_ls (g : vg_G) (p : Nat) : Nat := if g.dl p = 0 then 0 else g.dr (5 * p + g.dl p - 1)
theorem vx_lastStep {post : Int32 → Prop} {p : Nat} (hl : g.dl p ≤ 5) (hp : p < 2) (h : post (nI (vg_ls g p))) : wpX_lastStep post (vx_S g ac ah) (nI p) := by
  unfold vg_ls at h
  unfold wpX_lastStep vx_S
  refine ⟨vp_in_nI hp (by decide), nm_r (e' := nI (g.dl p)) (by rw [nI_clamp (by omega)]; rfl) ⟨fun e => ?_, fun e => ?_⟩⟩
  · rw [if_pos ((vn_e0 (by omega)).mp e)] at h; exact h
  · have e0 : g.dl p ≠ 0 := fun z => e ((vn_e0 (by omega)).mpr z)
    rw [if_neg e0] at h
    have eI : nI p * 5 + nI (g.dl p) - 1 = nI (5 * p + g.dl p - 1) := by rw [vn_c5, nI_add, vn_s1 (by omega)]
    rw [eI, nI_clamp (by omega)]
    exact ⟨vp_in_nI (by omega) (by decide), h⟩
/-! a way's steps -/
def vg_stk (a : Nat → Int32) : List Nat → Prop
  | [] => True
  | s :: L => a L.length = nI s ∧ vg_stk a L
theorem stk_up {a : Nat → Int32} {k : Nat} {x : Int32} : ∀ {L : List Nat}, L.length ≤ k → vg_stk a L → vg_stk (upd a k x) L := by
  intro L
  induction L with
  | nil => intro _ _; trivial
  | cons s L ih =>
    intro hk h
    have hl : L.length + 1 ≤ k := hk
    exact ⟨by rw [pk_un (by omega)]; exact h.1, ih (by omega) h.2⟩
theorem stk_push {a : Nat → Int32} {s : Nat} {L : List Nat} (h : vg_stk a L) : vg_stk (upd a L.length (nI s)) (s :: L) :=
  ⟨pk_us, stk_up (Nat.le_refl _) h⟩
def vg_sq (f : Nat → Nat) : Nat → Nat → List Nat
  | _, 0 => []
  | i, k + 1 => if f i = 0 then vg_sq f (i + 1) k else f i :: vg_sq f (i + 1) k
theorem sq_s (f : Nat → Nat) (i k : Nat) : vg_sq f i (k + 1) = if f i = 0 then vg_sq f (i + 1) k else f i :: vg_sq f (i + 1) k := rfl
theorem sq_len (f : Nat → Nat) : ∀ k i, (vg_sq f i k).length ≤ k := by
  intro k
  induction k with
  | zero => intro i; exact Nat.le_refl _
  | succ k ih =>
    intro i
    rw [sq_s]
    have := ih (i + 1)
    split
    · omega
    · simp only [List.length_cons]; omega
theorem sq_all (f : Nat → Nat) (P : Nat → Prop) : ∀ k i, (∀ j, i ≤ j → j < i + k → f j ≠ 0 → P (f j)) → ∀ s, s ∈ vg_sq f i k → P s := by
  intro k
  induction k with
  | zero => intro i _ s hs; exact absurd hs (List.not_mem_nil)
  | succ k ih =>
    intro i h s hs
    rw [sq_s] at hs
    by_cases e : f i = 0
    · rw [if_pos e] at hs
      exact ih (i + 1) (fun j a b => h j (by omega) (by omega)) s hs
    · rw [if_neg e] at hs
      rcases List.mem_cons.mp hs with hs | hs
      · rw [hs]; exact h i (Nat.le_refl _) (by omega) e
      · exact ih (i + 1) (fun j a b => h j (by omega) (by omega)) s hs
theorem vn_sub1 (k : Nat) : nI k + (-1) = nI k - 1 := (Int32.sub_eq_add_neg _ _).symm
theorem vx_put_draftL {post : SX → Prop} {b n : Nat} {f : Nat → Nat} {L : List Nat} (hb : b + n ≤ 10) (hL : L.length + n ≤ 25) (hf : ∀ i, i < n → (vg_cv g.dr) (b + i) = nI (f i) ∧ f i ≤ 15)
    (h : ∀ a, vg_stk a (vg_sq f 0 n ++ L) → post (vx_S g (nI (vg_sq f 0 n ++ L).length) a)) : ∀ j a, j ≤ n → vg_stk a (vg_sq f j (n - j) ++ L) → wX_putAhead__draft_5 post (nI b) (vg_tv g.tp) (nI g.cu) (j + 1) (nI j - 1) (nI (vg_sq f j (n - j) ++ L).length) (vg_cv g.fm) (vg_cv g.ro) (vg_cv g.de) (vg_cm g.mo) (vg_cv g.ki) (vg_cv g.sz) (vg_cv g.ef) (vg_cv g.wp) g.hd (vg_cv g.nd) (vg_cv g.oF) (vg_cv g.oH) (vg_cv g.po) (vg_cv g.dr) (vg_cv g.dl) a := by
  intro j
  induction j with
  | zero =>
    intro a _ hs
    exact br_t (by decide) (h a hs)
  | succ j ih =>
    intro a hj hs
    rw [nI_pred]
    have h1 := hf j (by omega)
    have eI : nI b + nI j = nI (b + j) := nI_add b j
    have hin : vp_in (nI b + nI j) 10 := by rw [eI]; exact vp_in_nI (by omega) (by decide)
    have e1 : (vg_cv g.dr) (nI b + nI j).toNatClampNeg = nI (f j) := by rw [eI, nI_clamp (by omega)]; exact h1.1
    have hs2 : vg_sq f j (n - j) = if f j = 0 then vg_sq f (j + 1) (n - (j + 1)) else f j :: vg_sq f (j + 1) (n - (j + 1)) := by
      rw [show n - j = n - (j + 1) + 1 by omega]
      rfl
    have hlen : (vg_sq f (j + 1) (n - (j + 1)) ++ L).length ≤ n - (j + 1) + L.length := by
      have := sq_len f (n - (j + 1)) (j + 1)
      simp only [List.length_append]
      omega
    refine br_f (nI_pos (by omega)) ⟨hin, fun e => ?_, fun e => ⟨hin, vp_in_nI (by omega) (by decide), ?_⟩⟩
    · have e0 : f j = 0 := by
        have e2 : nI (f j) = 0 := e1.symm.trans e
        exact (vn_e0 (by omega)).mp e2
      rw [if_pos e0] at hs2
      refine nm_r (vn_sub1 j) ?_
      rw [← hs2] at hs ⊢
      exact ih a (by omega) hs
    · have e0 : f j ≠ 0 := fun z => e (by rw [e1, z]; rfl)
      rw [if_neg e0] at hs2
      refine nm_r (e' := upd a (vg_sq f (j + 1) (n - (j + 1)) ++ L).length (nI (f j))) (by rw [nI_clamp (by omega), e1]) (nm_r (nI_1 _) (nm_r (vn_sub1 j) ?_))
      have hp := stk_push (s := f j) hs
      have e3 : f j :: (vg_sq f (j + 1) (n - (j + 1)) ++ L) = vg_sq f j (n - j) ++ L := by rw [hs2]; rfl
      have e4 : (vg_sq f (j + 1) (n - (j + 1)) ++ L).length + 1 = (vg_sq f j (n - j) ++ L).length := by rw [← e3]; rfl
      rw [e4]
      rw [e3] at hp
      exact ih _ (by omega) hp
theorem vx_put_draft {post : SX → Prop} {b n : Nat} {f : Nat → Nat} {L : List Nat} (hb : b + n ≤ 10) (hL : L.length + n ≤ 25) (hf : ∀ i, i < n → (vg_cv g.dr) (b + i) = nI (f i) ∧ f i ≤ 15) (hs : vg_stk ah L)
    (h : ∀ a, vg_stk a (vg_sq f 0 n ++ L) → post (vx_S g (nI (vg_sq f 0 n ++ L).length) a)) : wpX_putAhead__draft post (vx_S g (nI L.length) ah) (nI b) (nI n) := by
  have := vx_put_draftL hb hL hf h n ah (Nat.le_refl _) (by rw [Nat.sub_self]; exact hs)
  rw [Nat.sub_self] at this
  unfold wpX_putAhead__draft vx_S
  exact nm_e ⟨_, this⟩
theorem vx_start_draft {post : Int32 → Prop} {b n x : Nat} {f : Nat → Nat} {t : Nat} (ht : g.tp = t + 1) (hb : b + n ≤ 10) (hn : n < 100) (hf : ∀ i, i < n → (vg_cv g.dr) (b + i) = nI (f i) ∧ f i ≤ 15)
    (h : post (nI (if 0 < n ∧ f 0 = 0 then x else 10 * t))) : wpX_startOf__draft post (vx_S g ac ah) (nI b) (nI n) (nI x) := by
  have low : post (nI (10 * t)) → wX_startOf__draft_15 post (vg_tv g.tp) (nI g.cu) ac (vg_cv g.fm) (vg_cv g.ro) (vg_cv g.de) (vg_cm g.mo) (vg_cv g.ki) (vg_cv g.sz) (vg_cv g.ef) (vg_cv g.wp) g.hd (vg_cv g.nd) (vg_cv g.oF) (vg_cv g.oH) (vg_cv g.po) (vg_cv g.dr) (vg_cv g.dl) ah := by
    intro hp
    unfold wX_startOf__draft_15
    rw [ht, tv_s]
    exact vx_rootOf hp
  unfold wpX_startOf__draft vx_S
  refine pk_le n 0 (fun z => ?_) (fun z => ?_)
  · rw [if_neg (by omega)] at h; exact low h
  · have h1 := hf 0 (by omega)
    have e1 : (vg_cv g.dr) (nI b).toNatClampNeg = nI (f 0) := by rw [nI_clamp (by omega)]; exact h1.1
    refine ⟨vp_in_nI (by omega) (by decide), fun e => ?_, fun e => ?_⟩
    · have e2 : nI (f 0) = 0 := e1.symm.trans e
      rw [if_pos ⟨z, (vn_e0 (by omega)).mp e2⟩] at h
      exact h
    · rw [if_neg (fun y => e (by rw [e1, y.2]; rfl))] at h
      exact low h
theorem vx_put_heldL {post : SX → Prop} {b n : Nat} {f : Nat → Nat} {L : List Nat} (hb : b + n ≤ 800) (hL : L.length + n ≤ 25) (hf : ∀ i, i < n → (g.hd) (b + i) = nI (f i) ∧ f i ≤ 15)
    (h : ∀ a, vg_stk a (vg_sq f 0 n ++ L) → post (vx_S g (nI (vg_sq f 0 n ++ L).length) a)) : ∀ j a, j ≤ n → vg_stk a (vg_sq f j (n - j) ++ L) → wX_putAhead__held_5 post (nI b) (vg_tv g.tp) (nI g.cu) (j + 1) (nI j - 1) (nI (vg_sq f j (n - j) ++ L).length) (vg_cv g.fm) (vg_cv g.ro) (vg_cv g.de) (vg_cm g.mo) (vg_cv g.ki) (vg_cv g.sz) (vg_cv g.ef) (vg_cv g.wp) g.hd (vg_cv g.nd) (vg_cv g.oF) (vg_cv g.oH) (vg_cv g.po) (vg_cv g.dr) (vg_cv g.dl) a := by
  intro j
  induction j with
  | zero =>
    intro a _ hs
    exact br_t (by decide) (h a hs)
  | succ j ih =>
    intro a hj hs
    rw [nI_pred]
    have h1 := hf j (by omega)
    have eI : nI b + nI j = nI (b + j) := nI_add b j
    have hin : vp_in (nI b + nI j) 800 := by rw [eI]; exact vp_in_nI (by omega) (by decide)
    have e1 : (g.hd) (nI b + nI j).toNatClampNeg = nI (f j) := by rw [eI, nI_clamp (by omega)]; exact h1.1
    have hs2 : vg_sq f j (n - j) = if f j = 0 then vg_sq f (j + 1) (n - (j + 1)) else f j :: vg_sq f (j + 1) (n - (j + 1)) := by
      rw [show n - j = n - (j + 1) + 1 by omega]
      rfl
    have hlen : (vg_sq f (j + 1) (n - (j + 1)) ++ L).length ≤ n - (j + 1) + L.length := by
      have := sq_len f (n - (j + 1)) (j + 1)
      simp only [List.length_append]
      omega
    refine br_f (nI_pos (by omega)) ⟨hin, fun e => ?_, fun e => ⟨hin, vp_in_nI (by omega) (by decide), ?_⟩⟩
    · have e0 : f j = 0 := by
        have e2 : nI (f j) = 0 := e1.symm.trans e
        exact (vn_e0 (by omega)).mp e2
      rw [if_pos e0] at hs2
      refine nm_r (vn_sub1 j) ?_
      rw [← hs2] at hs ⊢
      exact ih a (by omega) hs
    · have e0 : f j ≠ 0 := fun z => e (by rw [e1, z]; rfl)
      rw [if_neg e0] at hs2
      refine nm_r (e' := upd a (vg_sq f (j + 1) (n - (j + 1)) ++ L).length (nI (f j))) (by rw [nI_clamp (by omega), e1]) (nm_r (nI_1 _) (nm_r (vn_sub1 j) ?_))
      have hp := stk_push (s := f j) hs
      have e3 : f j :: (vg_sq f (j + 1) (n - (j + 1)) ++ L) = vg_sq f j (n - j) ++ L := by rw [hs2]; rfl
      have e4 : (vg_sq f (j + 1) (n - (j + 1)) ++ L).length + 1 = (vg_sq f j (n - j) ++ L).length := by rw [← e3]; rfl
      rw [e4]
      rw [e3] at hp
      exact ih _ (by omega) hp
theorem vx_put_held {post : SX → Prop} {b n : Nat} {f : Nat → Nat} {L : List Nat} (hb : b + n ≤ 800) (hL : L.length + n ≤ 25) (hf : ∀ i, i < n → (g.hd) (b + i) = nI (f i) ∧ f i ≤ 15) (hs : vg_stk ah L)
    (h : ∀ a, vg_stk a (vg_sq f 0 n ++ L) → post (vx_S g (nI (vg_sq f 0 n ++ L).length) a)) : wpX_putAhead__held post (vx_S g (nI L.length) ah) (nI b) (nI n) := by
  have := vx_put_heldL hb hL hf h n ah (Nat.le_refl _) (by rw [Nat.sub_self]; exact hs)
  rw [Nat.sub_self] at this
  unfold wpX_putAhead__held vx_S
  exact nm_e ⟨_, this⟩
theorem vx_start_held {post : Int32 → Prop} {b n x : Nat} {f : Nat → Nat} {t : Nat} (ht : g.tp = t + 1) (hb : b + n ≤ 800) (hn : n < 100) (hf : ∀ i, i < n → (g.hd) (b + i) = nI (f i) ∧ f i ≤ 15)
    (h : post (nI (if 0 < n ∧ f 0 = 0 then x else 10 * t))) : wpX_startOf__held post (vx_S g ac ah) (nI b) (nI n) (nI x) := by
  have low : post (nI (10 * t)) → wX_startOf__held_15 post (vg_tv g.tp) (nI g.cu) ac (vg_cv g.fm) (vg_cv g.ro) (vg_cv g.de) (vg_cm g.mo) (vg_cv g.ki) (vg_cv g.sz) (vg_cv g.ef) (vg_cv g.wp) g.hd (vg_cv g.nd) (vg_cv g.oF) (vg_cv g.oH) (vg_cv g.po) (vg_cv g.dr) (vg_cv g.dl) ah := by
    intro hp
    unfold wX_startOf__held_15
    rw [ht, tv_s]
    exact vx_rootOf hp
  unfold wpX_startOf__held vx_S
  refine pk_le n 0 (fun z => ?_) (fun z => ?_)
  · rw [if_neg (by omega)] at h; exact low h
  · have h1 := hf 0 (by omega)
    have e1 : (g.hd) (nI b).toNatClampNeg = nI (f 0) := by rw [nI_clamp (by omega)]; exact h1.1
    refine ⟨vp_in_nI (by omega) (by decide), fun e => ?_, fun e => ?_⟩
    · have e2 : nI (f 0) = 0 := e1.symm.trans e
      rw [if_pos ⟨z, (vn_e0 (by omega)).mp e2⟩] at h
      exact h
    · rw [if_neg (fun y => e (by rw [e1, y.2]; rfl))] at h
      exact low h
end VX13
