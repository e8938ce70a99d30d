section VP10
/-! bits -/
theorem bt_sh : ∀ x, x < 32 → ∀ b, b < 5 → (nI x >>> (nI b &&& 31)) &&& 1 = nI (x / 2 ^ b % 2) := by decide +kernel
theorem bt_1 : ∀ b, b < 6 → (1 : Int32) <<< (nI b &&& 31) = nI (2 ^ b) := by decide +kernel
theorem bt_or : ∀ x, x < 32 → ∀ b, b < 5 → nI x ||| nI (2 ^ b) = nI (vg_bs x b) := by decide +kernel
theorem bt_an : ∀ x, x < 32 → ∀ b, b < 5 → nI x &&& nI (2 ^ b) = nI (x / 2 ^ b % 2 * 2 ^ b) := by decide +kernel
theorem bt_md : ∀ x, x < 32 → ∀ k, k < 6 → nI x &&& nI (2 ^ k - 1) = nI (x % 2 ^ k) := by decide +kernel
theorem bt_go : ∀ x, x < 32 → ∀ k, k < 6 → nI x &&& nI (32 - 2 ^ k) = nI (x - x % 2 ^ k) := by decide +kernel
theorem bt_nt : ∀ x, x < 32 → ∀ k, k < 6 → nI x &&& (nI (32 - 2 ^ k) ^^^ (-1)) = nI (x % 2 ^ k) := by decide +kernel
theorem bt_on : ∀ x, x < 32 → ∀ k, k < 6 → vg_on (x - x % 2 ^ k) = vg_on x - vg_on (x % 2 ^ k) := by decide +kernel
theorem bt_ac : ∀ k, k < 6 → ∀ b, b < 5 → k ≤ b → nI (2 ^ b - 2 ^ k) ||| nI (2 ^ b) = nI (2 ^ (b + 1) - 2 ^ k) := by decide +kernel
def vg_ob (x b : Nat) : Nat := vg_sm (fun i => x / 2 ^ i % 2) b
theorem ob_s (x b : Nat) : vg_ob x (b + 1) = vg_ob x b + x / 2 ^ b % 2 := rfl
theorem ob_5 (x : Nat) : vg_ob x 5 = vg_on x := by
  unfold vg_ob vg_on vg_sm vg_sm vg_sm vg_sm vg_sm vg_sm
  show 0 + x / 1 % 2 + x / 2 % 2 + x / 4 % 2 + x / 8 % 2 + x / 16 % 2 = _
  rw [Nat.div_one]
  omega
theorem ob_le (x : Nat) : ∀ b, vg_ob x b ≤ b := by
  intro b
  have := sm_bd (f := fun i => x / 2 ^ i % 2) (c := 1) (k := b) (fun i _ => by (try dsimp only); omega)
  unfold vg_ob
  omega
/-! mounts -/
theorem mv_eq {m o : Nat} (hm : m < 42) (ho : o < 40) : vg_mv m = nI o ↔ m = o + 2 := by
  unfold vg_mv
  constructor
  · intro h
    have h1 : nI m = nI (o + 2) := by
      rw [← nI_add, ← h]
      show nI m = nI m - 2 + 2
      rw [Int32.sub_add_cancel]
    exact vn_inj h1 (by omega) (by omega)
  · intro h
    subst h
    exact vn_s2 (a := o + 2) (by omega)
theorem mv_2 (o : Nat) : vg_mv (o + 2) = nI o := vn_s2 (a := o + 2) (by omega)
theorem mv_0 : vg_mv 0 = -2 := by decide
theorem mv_1 : vg_mv 1 = -1 := by decide
theorem tv_0 : vg_tv 0 = -1 := by decide
theorem tv_s (d : Nat) : vg_tv (d + 1) = nI d := vn_s1 (a := d + 1) (by omega)
theorem tv_eq {t : Nat} (h : t < 100) : vg_tv t = -1 ↔ t = 0 := by
  constructor
  · intro h1
    cases t with
    | zero => rfl
    | succ d => rw [tv_s] at h1; exact absurd h1 (fun z => (vn_n1 (by omega)).mp z)
  · intro h1; rw [h1]; exact tv_0
theorem tv_ge {t : Nat} (h : t < 100) : 0 ≤ vg_tv t ↔ t ≠ 0 := by
  cases t with
  | zero => rw [tv_0]; decide
  | succ d => rw [tv_s]; exact ⟨fun _ => by omega, fun _ => nI_pos' (by omega)⟩
theorem tv_lt {t : Nat} (h : t < 100) : vg_tv t < 0 ↔ t = 0 := by
  cases t with
  | zero => rw [tv_0]; decide
  | succ d => rw [tv_s]; exact ⟨fun z => absurd z (nI_pos (by omega)), fun z => by omega⟩
theorem mv_eqm {m : Nat} (h : m < 100) : vg_mv m = -2 ↔ m = 0 := by
  match m, h with
  | 0, _ => exact ⟨fun _ => rfl, fun _ => mv_0⟩
  | 1, _ => rw [mv_1]; decide
  | k + 2, h => rw [mv_2]; exact ⟨fun z => ((vn_n2 (by omega)).mp z).elim, fun z => by omega⟩
theorem mv_lt {m : Nat} (h : m < 100) : vg_mv m < 0 ↔ m ≤ 1 := by
  match m, h with
  | 0, _ => rw [mv_0]; decide
  | 1, _ => rw [mv_1]; decide
  | k + 2, h => rw [mv_2]; exact ⟨fun z => absurd z (nI_pos (by omega)), fun z => by omega⟩
theorem mv_ge {m : Nat} (h : m < 100) : 0 ≤ vg_mv m ↔ 2 ≤ m := by
  match m, h with
  | 0, _ => rw [mv_0]; decide
  | 1, _ => rw [mv_1]; decide
  | k + 2, h => rw [mv_2]; exact ⟨fun z => by omega, fun z => nI_pos' (by omega)⟩
def vg_co (mo : vg_F) (o : Nat) : Nat := vg_fs (fun d => decide (mo d = o + 2)) 4 0
def vg_ov (mo : vg_F) (o : Nat) : Nat := if vg_co mo o < 4 then 10 * vg_co mo o else o
def vg_ab (g : vg_G) (x : Nat) : Nat := if x % 10 = 0 then (if g.mo (x / 10) ≤ 1 then x else vg_par g.ki g.nd (g.mo (x / 10) - 2)) else vg_par g.ki g.nd x
/-- an object that a way may meet -/
def vg_gd (g : vg_G) (x : Nat) : Prop := x < 40 ∧ g.ki x ≠ 0 ∧ g.mo (x / 10) ≠ 0
theorem co_b {mo : vg_F} {o : Nat} : vg_co mo o ≤ 4 := by
  have := fs_b (P := fun d => decide (mo d = o + 2)) (k := 4) (i := 0)
  unfold vg_co
  omega
theorem co_in {mo : vg_F} {o : Nat} (h : vg_co mo o < 4) : mo (vg_co mo o) = o + 2 := of_decide_eq_true (fs_sp (P := fun d => decide (mo d = o + 2)) (k := 4) (i := 0) (by unfold vg_co at h; omega))
theorem co_no {mo : vg_F} {o : Nat} (h : ¬ vg_co mo o < 4) : ∀ d, d < 4 → mo d ≠ o + 2 := by
  intro d hd e
  have := fs_lt (P := fun d => decide (mo d = o + 2)) (k := 4) (i := 0) (j := d) (Nat.zero_le _) (by omega) (decide_eq_true e)
  unfold vg_co at h
  omega
theorem co_root {g : vg_G} {x : Nat} (hI : iv_I g) (hr : x % 10 = 0) : ¬ vg_co g.mo x < 4 := by
  intro h
  have h1 := co_in h
  have h2 := hI.2.2.2.2.2.2.2.2.2.2.2.2.2.2.1.2.1 _ h (by omega)
  rw [h1] at h2
  omega
theorem co_4 {g : vg_G} {x : Nat} (hI : iv_I g) (hr : x % 10 = 0) : vg_co g.mo x = 4 := by
  have := co_root hI hr
  have := co_b (mo := g.mo) (o := x)
  omega
theorem ov_ne {g : vg_G} {x : Nat} (hI : iv_I g) : vg_ov g.mo x ≠ x ↔ vg_co g.mo x < 4 := by
  unfold vg_ov
  by_cases h : vg_co g.mo x < 4
  · rw [if_pos h]
    refine ⟨fun _ => h, fun _ e => ?_⟩
    exact co_root hI (x := x) (by omega) h
  · rw [if_neg h]
    exact ⟨fun z => absurd rfl z, fun z => absurd z h⟩
theorem ov_gd {g : vg_G} {x : Nat} (hI : iv_I g) (h : vg_gd g x) : vg_gd g (vg_ov g.mo x) := by
  unfold vg_ov
  by_cases e : vg_co g.mo x < 4
  · rw [if_pos e]
    have h1 := co_in e
    have h2 := (hI.2.1 _ e).1
    refine ⟨by omega, by omega, ?_⟩
    rw [show 10 * vg_co g.mo x / 10 = vg_co g.mo x by omega, h1]
    omega
  · rw [if_neg e]; exact h
theorem ab_gd {g : vg_G} {x : Nat} (hI : iv_I g) (h : vg_gd g x) (hk : g.ki x = 1) : vg_gd g (vg_ab g x) ∧ g.ki (vg_ab g x) = 1 := by
  unfold vg_ab
  by_cases e : x % 10 = 0
  · rw [if_pos e]
    by_cases e1 : g.mo (x / 10) ≤ 1
    · rw [if_pos e1]; exact ⟨h, hk⟩
    · rw [if_neg e1]
      have h1 := hI.2.2.2.2.2.2.2.2.2.2.2.2.2.2.1.2.1 (x / 10) (by have := h.1; omega) (by omega)
      have h2 := hI.1.2.2.2.1 (x / 10)
      obtain ⟨a, b, c, d⟩ := par_sp hI (by omega) h1.1 h1.2.1
      exact ⟨⟨a, by omega, by rw [b]; exact h1.2.2⟩, c⟩
  · rw [if_neg e]
    obtain ⟨a, b, c, d⟩ := par_sp hI h.1 e hk
    exact ⟨⟨a, by omega, by rw [b]; exact h.2.2⟩, c⟩
/-- the target of an entry -/
theorem tg_gd {g : vg_G} {x m : Nat} (hI : iv_I g) (h : vg_gd g x) (hk : g.ki x = 1) (hm : m < 15) (hne : g.nd (15 * x + m) ≠ 0) : vg_gd g (g.nd (15 * x + m)) ∧ g.nd (15 * x + m) % 10 ≠ 0 ∧ g.nd (15 * x + m) / 10 = x / 10 ∧ m ≠ 0 := by
  have hx := h.1
  have h1 := hI.2.2.1 (15 * x + m) (by omega) hne
  have h2 := hI.2.2.2.1 x m h.1 hk hm hne
  have e : g.nd (15 * x + m) / 10 = x / 10 := by omega
  exact ⟨⟨hI.1.2.2.2.2.2.2.2.2.2.2.1 _, h2.2, by rw [e]; exact h.2.2⟩, h1.2, e, h2.1⟩
theorem tp_gd {g : vg_G} {d : Nat} (hI : iv_I g) (h : g.tp = d + 1) : vg_gd g (10 * d) ∧ g.ki (10 * d) = 1 := by
  have h0 := hI.1.2.2.2.2.1
  have h1 := (hI.2.1 d (by omega)).1
  have h2 := (hI.2.2.2.2.2.2.2.2.2.2.2.2.2.2.1.1 d (by omega)).mpr h
  refine ⟨⟨by omega, by omega, ?_⟩, h1⟩
  rw [show 10 * d / 10 = d by omega, h2]
  omega
theorem cu_gd {g : vg_G} (hI : iv_I g) (h : g.tp ≠ 0) : vg_gd g g.cu ∧ g.ki g.cu = 1 := by
  have h1 := hI.2.2.2.2.2.2.2.2.2.2.2.2.2.2.2
  exact ⟨⟨hI.1.2.2.2.2.2.1, by have := h1.1; omega, h1.2.2.1 h⟩, h1.1⟩
/-! what is free -/
def vg_fr (g : vg_G) (d : Nat) : Nat := 32 - (g.de d + vg_tk g.fm g.ki g.sz g.wp d)
/-! entries, as the reference counts them -/
theorem dc_yr {g : vg_G} {aC aN aT : Nat → Int32} {p o : Nat} {xx : Nat} (hI : iv_X g xx) (hY : yr_d g aC aN aT) (hp : p < 40) (hk : g.ki p = 1) (ho : o < 40) (ho0 : o ≠ 0) :
    ∀ m, m ≤ 15 → vg_sm (fun i => if aT (6 * p + i) = nI o then 1 else 0) (vg_bl g.nd p m) = vg_sm (fun n => if g.nd (15 * p + n) = o then 1 else 0) m := by
  intro m
  induction m with
  | zero => intro _; rfl
  | succ m ih =>
    intro hm
    have h1 := ih (by omega)
    rw [bl_s, sm_s]
    by_cases e : g.nd (15 * p + m) = 0
    · rw [if_pos e, Nat.add_zero, h1, if_neg (by omega), Nat.add_zero]
    · have h2 := ((hY p hp hk).2 m (by omega) e).2
      have h3 := hI.1.2.2.2.2.2.2.2.2.2.2.1 (15 * p + m)
      rw [if_neg e, sm_s, h1, h2]
      by_cases e1 : g.nd (15 * p + m) = o
      · rw [if_pos (by rw [e1]), if_pos e1]
      · rw [if_neg (fun z => e1 (vn_inj z (by omega) (by omega))), if_neg e1]
theorem en_40 {g : vg_G} {o : Nat} {xx : Nat} (hI : iv_X g xx) (ho : o < 40) (ho0 : o ≠ 0) : vg_sm (fun p => if g.ki p = 1 then vg_dc g.nd p o else 0) 40 = vg_en g.ki g.nd o := by
  have hz : ∀ p, p < 40 → p / 10 ≠ o / 10 → (if g.ki p = 1 then vg_dc g.nd p o else 0) = 0 := by
    intro p hp hne
    by_cases e : g.ki p = 1
    · rw [if_pos e]
      refine dc_0 (fun n hn z => ?_)
      have := hI.2.2.1 (15 * p + n) (by omega) (by rw [z]; exact ho0)
      rw [z] at this
      omega
    · rw [if_neg e]
  have hb : ∀ d, d < 4 → vg_sm (fun i => if g.ki (10 * d + i) = 1 then vg_dc g.nd (10 * d + i) o else 0) 10 = if d = o / 10 then vg_en g.ki g.nd o else 0 := by
    intro d hd
    by_cases e : d = o / 10
    · rw [if_pos e, e]; rfl
    · rw [if_neg e]
      exact sm_zero (fun i hi => hz (10 * d + i) (by omega) (by omega))
  have h0 := hb 0 (by omega)
  have h1 := hb 1 (by omega)
  have h2 := hb 2 (by omega)
  have h3 := hb 3 (by omega)
  have a1 := sm_add (f := fun p => if g.ki p = 1 then vg_dc g.nd p o else 0) (a := 30) (b := 10)
  have a2 := sm_add (f := fun p => if g.ki p = 1 then vg_dc g.nd p o else 0) (a := 20) (b := 10)
  have a3 := sm_add (f := fun p => if g.ki p = 1 then vg_dc g.nd p o else 0) (a := 10) (b := 10)
  have c0 : vg_sm (fun p => if g.ki p = 1 then vg_dc g.nd p o else 0) 10 = vg_sm (fun i => if g.ki (10 * 0 + i) = 1 then vg_dc g.nd (10 * 0 + i) o else 0) 10 := sm_congr (fun i _ => by rw [show 10 * 0 + i = i by omega])
  (try dsimp only at a1 a2 a3)
  have d1 : (if 0 = o / 10 then vg_en g.ki g.nd o else 0) + (if 1 = o / 10 then vg_en g.ki g.nd o else 0) + (if 2 = o / 10 then vg_en g.ki g.nd o else 0) + (if 3 = o / 10 then vg_en g.ki g.nd o else 0) = vg_en g.ki g.nd o := by
    have : o / 10 = 0 ∨ o / 10 = 1 ∨ o / 10 = 2 ∨ o / 10 = 3 := by omega
    rcases this with e | e | e | e <;> rw [e] <;> simp
  have e1 : vg_sm (fun i => if g.ki (30 + i) = 1 then vg_dc g.nd (30 + i) o else 0) 10 = if 3 = o / 10 then vg_en g.ki g.nd o else 0 := h3
  have e2 : vg_sm (fun i => if g.ki (20 + i) = 1 then vg_dc g.nd (20 + i) o else 0) 10 = if 2 = o / 10 then vg_en g.ki g.nd o else 0 := h2
  have e3 : vg_sm (fun i => if g.ki (10 + i) = 1 then vg_dc g.nd (10 + i) o else 0) 10 = if 1 = o / 10 then vg_en g.ki g.nd o else 0 := h1
  rw [e1] at a1
  rw [e2] at a2
  rw [e3] at a3
  rw [h0] at c0
  show vg_sm (fun p => if g.ki p = 1 then vg_dc g.nd p o else 0) (30 + 10) = _
  rw [a1, show (30 : Nat) = 20 + 10 from rfl, a2, show (20 : Nat) = 10 + 10 from rfl, a3, c0]
  exact d1
/-! the beginning -/
def vg_g0 : vg_G := (fun _ => 0, fun _ => 0, fun _ => 0, fun _ => 0, 0, 0, fun j => if j < 40 ∧ j % 10 = 0 then 1 else 0, fun _ => 0, fun _ => 0, fun _ => 0, fun _ => 0, fun _ => 0, fun _ => 0, fun _ => 0, fun _ => 0, fun _ => 0, fun _ => 0)
theorem iv_ini : iv_I vg_g0 := by
  have hki : ∀ q, vg_g0.ki q = if q < 40 ∧ q % 10 = 0 then 1 else 0 := fun q => rfl
  have hnd : ∀ j, vg_g0.nd j = 0 := fun j => rfl
  have hsz : ∀ j, vg_g0.sz j = 0 := fun j => rfl
  have hK : ∀ {q k : Nat}, vg_g0.ki q = k → k ≠ 0 → k = 1 ∧ q % 10 = 0 := by
    intro q k h1 h2
    rw [hki] at h1
    by_cases e : q < 40 ∧ q % 10 = 0
    · rw [if_pos e] at h1; omega
    · rw [if_neg e] at h1; omega
  unfold iv_I iv_X iv_bd
  refine ⟨⟨fun _ => Nat.zero_le _, fun _ => Nat.zero_le _, fun _ => Nat.zero_le _, fun _ => (by decide : (0 : Nat) < 42), Nat.zero_le _, (by decide : (0 : Nat) < 40), fun j => ?_, fun _ => Nat.zero_le _, fun _ => Nat.zero_le _, fun _ => (by decide : (0 : Nat) < 32), fun _ => (by decide : (0 : Nat) < 40), fun _ => (by decide : (0 : Nat) < 40), fun _ => Nat.zero_le _, fun _ => Nat.zero_le _, fun _ => Nat.zero_le _, fun _ => Nat.zero_le _⟩, fun d hd => ⟨?_, rfl, rfl⟩, fun j _ h => absurd (hnd j) h, fun p n _ _ _ h => absurd (hnd _) h, fun p hp hk => ⟨?_, by rw [hsz]; omega⟩, fun p n _ _ _ _ _ => Or.inl (hnd _), fun o ho hr hk => ?_, fun o ho hr hk _ => ?_, ⟨fun _ => 0, fun p n _ _ _ h => absurd (hnd _) h⟩, fun o ho hk => ?_, fun o ho hk => ?_, fun p i _ hi => absurd hi (Nat.not_lt_zero i), fun h _ hn => absurd rfl hn, fun d hd => ?_, ⟨fun d hd => ⟨fun h => ?_, fun h => ?_⟩, fun d hd h => ?_, fun d e _ _ h => ?_⟩, ⟨by decide, fun _ => ⟨rfl, fun _ _ => rfl⟩, fun h => absurd rfl h, fun _ => 0, fun d hd h => ?_⟩⟩
  · rw [hki]; split <;> omega
  · rw [hki, if_pos (by omega)]
  · rw [hsz]
    unfold vg_bl
    rw [sm_zero (fun i _ => by rw [hnd, if_pos rfl])]
  · have := hK rfl hk; omega
  · have := hK hk (by omega); omega
  · have := hK hk (by omega); omega
  · have := hK hk (by omega); omega
  · have h1 := sm_bd (f := fun i => vg_bk vg_g0.fm vg_g0.ki vg_g0.sz vg_g0.wp (10 * d + i)) (c := 1) (k := 10) (fun i _ => by
      (try dsimp only)
      unfold vg_bk vg_bd
      rw [hki, hsz]
      by_cases e : 10 * d + i < 40 ∧ (10 * d + i) % 10 = 0
      · rw [if_pos e, if_pos rfl, if_neg (by omega)]; omega
      · rw [if_neg e, if_neg (by decide), if_neg (by decide)]; omega)
    show 0 + vg_tk vg_g0.fm vg_g0.ki vg_g0.sz vg_g0.wp d ≤ 32
    unfold vg_tk
    omega
  · exact absurd (show (0 : Nat) = 1 from h) (by decide)
  · exact absurd (show (0 : Nat) = d + 1 from h) (by omega)
  · exact absurd (show 2 ≤ (0 : Nat) from h) (by decide)
  · exact absurd (show 2 ≤ (0 : Nat) from h) (by decide)
  · exact absurd (show 2 ≤ (0 : Nat) from h) (by decide)
end VP10
