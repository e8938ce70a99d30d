section VI6
/-! the first of a row -/
def vg_fs (P : Nat → Bool) : Nat → Nat → Nat
  | 0, i => i
  | k + 1, i => if P i = true then i else vg_fs P k (i + 1)
theorem fs_s (P : Nat → Bool) (k i : Nat) : vg_fs P (k + 1) i = if P i = true then i else vg_fs P k (i + 1) := rfl
theorem fs_b {P : Nat → Bool} : ∀ {k i : Nat}, i ≤ vg_fs P k i ∧ vg_fs P k i ≤ i + k := by
  intro k
  induction k with
  | zero => intro i; exact ⟨Nat.le_refl _, Nat.le_refl _⟩
  | succ k ih =>
    intro i
    rw [fs_s]
    have := ih (i := i + 1)
    split <;> omega
theorem fs_sp {P : Nat → Bool} : ∀ {k i : Nat}, vg_fs P k i < i + k → P (vg_fs P k i) = true := by
  intro k
  induction k with
  | zero => intro i h; exact absurd h (Nat.lt_irrefl i)
  | succ k ih =>
    intro i h
    rw [fs_s] at h ⊢
    by_cases e : P i = true
    · rw [if_pos e]; exact e
    · rw [if_neg e] at h ⊢; exact ih (by omega)
theorem fs_no {P : Nat → Bool} : ∀ {k i j : Nat}, i ≤ j → j < vg_fs P k i → P j = false := by
  intro k
  induction k with
  | zero => intro i j h1 h2; have : vg_fs P 0 i = i := rfl; omega
  | succ k ih =>
    intro i j h1 h2
    rw [fs_s] at h2
    by_cases e : P i = true
    · rw [if_pos e] at h2; omega
    · rw [if_neg e] at h2
      by_cases e1 : j = i
      · rw [e1]; cases h : P i
        · rfl
        · exact absurd h e
      · exact ih (by omega) h2
theorem fs_lt {P : Nat → Bool} {k i j : Nat} (h1 : i ≤ j) (h2 : j < i + k) (h3 : P j = true) : vg_fs P k i ≤ j := by
  apply Classical.byContradiction
  intro h
  have := fs_no (P := P) (k := k) h1 (by omega)
  rw [h3] at this
  exact Bool.noConfusion this
theorem fs_eq {P : Nat → Bool} {k i j : Nat} (h1 : i ≤ j) (h2 : j < i + k) (h3 : P j = true) (h4 : ∀ l, i ≤ l → l < j → P l = false) : vg_fs P k i = j := by
  have h5 := fs_lt h1 h2 h3
  apply Classical.byContradiction
  intro h
  have h6 := fs_sp (P := P) (k := k) (i := i) (by omega)
  have h7 := h4 (vg_fs P k i) fs_b.1 (by omega)
  rw [h6] at h7
  exact Bool.noConfusion h7
theorem fs_all {P : Nat → Bool} {k i : Nat} (h : ∀ j, i ≤ j → j < i + k → P j = false) : vg_fs P k i = i + k := by
  have h1 := fs_b (P := P) (k := k) (i := i)
  apply Classical.byContradiction
  intro h2
  have h3 := fs_sp (P := P) (k := k) (i := i) (by omega)
  have h4 := h _ h1.1 (by omega)
  rw [h3] at h4
  exact Bool.noConfusion h4
theorem sm_lt {f h : Nat → Nat} {j : Nat} : ∀ {k : Nat}, (∀ i, i < k → f i ≤ h i) → j < k → f j < h j → vg_sm f k < vg_sm h k := by
  intro k
  induction k with
  | zero => intro _ hj; omega
  | succ k ih =>
    intro e hj hl
    rw [sm_s, sm_s]
    by_cases hk : j = k
    · subst hk
      have := sm_le (f := f) (h := h) (k := j) (fun i hi => e i (by omega))
      omega
    · have := ih (fun i hi => e i (by omega)) (by omega) hl
      have := e k (by omega)
      omega
/-! the directory above -/
def vg_par (ki nd : vg_F) (x : Nat) : Nat := 10 * (x / 10) + vg_fs (fun i => decide (ki (10 * (x / 10) + i) = 1 ∧ 0 < vg_dc nd (10 * (x / 10) + i) x)) 10 0
theorem par_sp {g : vg_G} {x : Nat} (hI : iv_I g) (hx : x < 40) (hr : x % 10 ≠ 0) (hk : g.ki x = 1) :
    vg_par g.ki g.nd x < 40 ∧ vg_par g.ki g.nd x / 10 = x / 10 ∧ g.ki (vg_par g.ki g.nd x) = 1 ∧ ∃ n, n < 15 ∧ g.nd (15 * vg_par g.ki g.nd x + n) = x := by
  obtain ⟨hb, hrt, hna, hnb, hcn, htb, hef, hd1, hrk, hfl, hlk, hdr, hhn, hbk, hma, hmb⟩ := hI
  have h1 := hd1 x hx hr hk (by omega)
  have h2 := hef x hx hr (by omega)
  obtain ⟨p, n, hp, hkp, hn, e⟩ := en_e (ki := g.ki) (nd := g.nd) (o := x) (by omega)
  have h3 : vg_fs (fun i => decide (g.ki (10 * (x / 10) + i) = 1 ∧ 0 < vg_dc g.nd (10 * (x / 10) + i) x)) 10 0 ≤ p % 10 := by
    refine fs_lt (Nat.zero_le _) (by omega) ?_
    have e2 : 10 * (x / 10) + p % 10 = p := by omega
    (try dsimp only)
    rw [e2]
    exact decide_eq_true ⟨hkp, dc_1 hn e⟩
  have h4 := fs_sp (P := fun i => decide (g.ki (10 * (x / 10) + i) = 1 ∧ 0 < vg_dc g.nd (10 * (x / 10) + i) x)) (k := 10) (i := 0) (by omega)
  have h5 := of_decide_eq_true h4
  have h6 := dc_e h5.2
  unfold vg_par
  exact ⟨by omega, by omega, h5.1, h6⟩
theorem par_uq {g : vg_G} {x q m : Nat} (hI : iv_I g) (hx : x < 40) (hr : x % 10 ≠ 0) (hk : g.ki x = 1) (hq : q < 40) (hkq : g.ki q = 1) (hm : m < 15) (e : g.nd (15 * q + m) = x) : vg_par g.ki g.nd x = q := by
  obtain ⟨h1, h2, h3, n, hn, e'⟩ := par_sp hI hx hr hk
  obtain ⟨hb, hrt, hna, hnb, hcn, htb, hef, hd1, hrk, hfl, hlk, hdr, hhn, hbk, hma, hmb⟩ := hI
  have h4 := hd1 x hx hr hk (by omega)
  have h5 := hef x hx hr (by omega)
  have h6 := hna (15 * q + m) (by omega) (by omega)
  exact (en_uq (ki := g.ki) (nd := g.nd) (o := x) (by omega) (by omega) h3 hn h2 e' hkq hm (by omega) e).1
/-- on the way up from x, t is met (1) or not (0) -/
def vg_ud (ki nd : vg_F) (t : Nat) : Nat → Nat → Nat
  | 0, x => if x = t then 1 else 0
  | k + 1, x => if x = t then 1 else if x % 10 = 0 then 0 else vg_ud ki nd t k (vg_par ki nd x)
theorem ud_s (ki nd : vg_F) (t k x : Nat) : vg_ud ki nd t (k + 1) x = if x = t then 1 else if x % 10 = 0 then 0 else vg_ud ki nd t k (vg_par ki nd x) := rfl
theorem ud_01 {ki nd : vg_F} {t : Nat} : ∀ {k x : Nat}, vg_ud ki nd t k x = 0 ∨ vg_ud ki nd t k x = 1 := by
  intro k
  induction k with
  | zero => intro x; show (if x = t then 1 else 0) = 0 ∨ (if x = t then 1 else 0) = 1; split <;> omega
  | succ k ih =>
    intro x
    rw [ud_s]
    split
    · right; rfl
    · split
      · left; rfl
      · exact ih
/-- a rank below 10 -/
theorem iv_r9 {g : vg_G} (hI : iv_I g) : ∃ rk : Nat → Nat, (∀ x, rk x ≤ 9) ∧ ∀ p n, p < 40 → g.ki p = 1 → n < 15 → g.nd (15 * p + n) ≠ 0 → g.ki (g.nd (15 * p + n)) = 1 → rk p < rk (g.nd (15 * p + n)) := by
  obtain ⟨hb, hrt, hna, hnb, hcn, htb, hef, hd1, hrk, hfl, hlk, hdr, hhn, hbk, hma, hmb⟩ := hI
  obtain ⟨rk, hr⟩ := hrk
  refine ⟨fun x => vg_sm (fun i => if rk (10 * (x / 10) + i) < rk x then 1 else 0) 10, ?_, ?_⟩
  · intro x
    have e : 10 * (x / 10) + x % 10 = x := by omega
    have h1 := sm_one (f := fun i => if rk (10 * (x / 10) + i) < rk x then 1 else 0) (h := fun i => if i = x % 10 then 1 else if rk (10 * (x / 10) + i) < rk x then 1 else 0) (j := x % 10) (k := 10) (by omega) (fun i _ hi => by (try dsimp only); rw [if_neg hi])
    (try dsimp only at h1)
    rw [if_pos rfl, e, if_neg (Nat.lt_irrefl _)] at h1
    have h2 := sm_bd (f := fun i => if i = x % 10 then 1 else if rk (10 * (x / 10) + i) < rk x then 1 else 0) (c := 1) (k := 10) (fun i _ => by
      (try dsimp only)
      split
      · omega
      · split <;> omega)
    (try dsimp only)
    omega
  · intro p n hp hk hn hne hkt
    have h1 := hr p n hp hk hn hne hkt
    have h2 := (hna (15 * p + n) (by omega) hne).1
    have h3 : g.nd (15 * p + n) / 10 = p / 10 := by omega
    (try dsimp only)
    rw [h3]
    have e : 10 * (p / 10) + p % 10 = p := by omega
    refine sm_lt (j := p % 10) (fun i hi => ?_) (by omega) ?_
    · (try dsimp only)
      split
      · rw [if_pos (by omega)]; omega
      · split <;> omega
    · (try dsimp only)
      rw [e, if_neg (Nat.lt_irrefl _), if_pos h1]
      omega
theorem ud_st {g : vg_G} {t : Nat} (hI : iv_I g) {rk : Nat → Nat} (hr : ∀ p n, p < 40 → g.ki p = 1 → n < 15 → g.nd (15 * p + n) ≠ 0 → g.ki (g.nd (15 * p + n)) = 1 → rk p < rk (g.nd (15 * p + n))) :
    ∀ (r x k : Nat), x < 40 → g.ki x = 1 → rk x ≤ r → r ≤ k → vg_ud g.ki g.nd t k x = vg_ud g.ki g.nd t r x := by
  intro r
  induction r with
  | zero =>
    intro x k hx hk h1 _
    have h2 : x % 10 = 0 := by
      apply Classical.byContradiction
      intro hne
      obtain ⟨a, b, c, n, hn, e⟩ := par_sp hI hx hne hk
      have := hr _ n a c hn (by omega) (by rw [e]; exact hk)
      rw [e] at this
      omega
    cases k with
    | zero => rfl
    | succ k => rw [ud_s, if_pos h2]; rfl
  | succ r ih =>
    intro x k hx hk h1 h2
    cases k with
    | zero => omega
    | succ k =>
      rw [ud_s, ud_s]
      by_cases e1 : x = t
      · rw [if_pos e1, if_pos e1]
      · rw [if_neg e1, if_neg e1]
        by_cases e2 : x % 10 = 0
        · rw [if_pos e2, if_pos e2]
        · rw [if_neg e2, if_neg e2]
          obtain ⟨a, b, c, n, hn, e⟩ := par_sp hI hx e2 hk
          have := hr _ n a c hn (by omega) (by rw [e]; exact hk)
          rw [e] at this
          exact ih _ k a c (by omega) (by omega)
theorem ud_10 {g : vg_G} {t x : Nat} (hI : iv_I g) (hx : x < 40) (hk : g.ki x = 1) (h : vg_ud g.ki g.nd t 10 x = 0) : ∀ k, vg_ud g.ki g.nd t k x = 0 := by
  obtain ⟨rk, h9, hr⟩ := iv_r9 hI
  intro k
  have h1 := ud_st (t := t) hI hr 9 x 10 hx hk (h9 x) (by omega)
  by_cases e : 9 ≤ k
  · rw [ud_st (t := t) hI hr 9 x k hx hk (h9 x) e, ← h1]; exact h
  · have hm : ∀ j y, vg_ud g.ki g.nd t j y = 1 → vg_ud g.ki g.nd t (j + 1) y = 1 := by
      intro j
      induction j with
      | zero =>
        intro y hy
        have h2 : y = t := by
          apply Classical.byContradiction
          intro hne
          have : vg_ud g.ki g.nd t 0 y = 0 := if_neg hne
          omega
        rw [ud_s, if_pos h2]
      | succ j ih =>
        intro y hy
        rw [ud_s] at hy ⊢
        by_cases e1 : y = t
        · rw [if_pos e1]
        · rw [if_neg e1] at hy ⊢
          by_cases e2 : y % 10 = 0
          · rw [if_pos e2] at hy; omega
          · rw [if_neg e2] at hy ⊢; exact ih _ hy
    have hm2 : ∀ d, vg_ud g.ki g.nd t k x = 1 → vg_ud g.ki g.nd t (k + d) x = 1 := by
      intro d
      induction d with
      | zero => intro h; exact h
      | succ d ih => intro h; exact hm _ _ (ih h)
    rcases ud_01 (ki := g.ki) (nd := g.nd) (t := t) (k := k) (x := x) with h2 | h2
    · exact h2
    · have := hm2 (10 - k) h2
      rw [show k + (10 - k) = 10 by omega] at this
      omega
/-- an entry moves -/
theorem iv_mov {g : vg_G} {p n p' n' t : Nat} (hI : iv_I g) (hp : p < 40) (hkp : g.ki p = 1) (hn1 : 1 ≤ n) (hn : n ≤ 14) (ht : g.nd (15 * p + n) = t) (ht0 : t ≠ 0)
    (hp' : p' < 40) (hkp' : g.ki p' = 1) (hpd : p' / 10 = p / 10) (hn1' : 1 ≤ n') (hn' : n' ≤ 14) (h0 : (vg_rem g p n).nd (15 * p' + n') = 0)
    (htab : g.fm (p' / 10) = 0 → ∀ m, 1 ≤ m → m ≤ 14 → (m = n' + 7 ∨ n' = m + 7) → (vg_rem g p n).nd (15 * p' + m) = 0) (hs : (vg_rem g p n).sz p' ≤ 5)
    (hroom : g.de (p / 10) + vg_tk g.fm g.ki (vg_put (vg_rem g p n) p' n' t).sz g.wp (p / 10) ≤ 32)
    (hu : g.ki t = 1 → vg_ud g.ki g.nd t 10 p' = 0) : iv_I (vg_put (vg_rem g p n) p' n' t) := by
  have hII := hI
  obtain ⟨hb, hrt, hna, hnb, hcn, htb, hef, hd1, hrk, hfl, hlk, hdr, hhn, hbk, hma, hmb⟩ := hI
  obtain ⟨b1, b2, b3, b4, b5, b6, b7, b8, b9, b10, b11, b12, b13, b14, b15, b16⟩ := hb
  have hsz : ∀ q, (vg_put (vg_rem g p n) p' n' t).sz q = if q = p' then (if p' = p then g.sz p - 1 else g.sz p') + 1 else if q = p then g.sz p - 1 else g.sz q := fun q => rfl
  have hszR : ∀ q, (vg_rem g p n).sz q = if q = p then g.sz p - 1 else g.sz q := fun q => rfl
  have hnd0 : ∀ j, (vg_put (vg_rem g p n) p' n' t).nd j = if j = 15 * p' + n' then t else if j = 15 * p + n then 0 else g.nd j := fun j => rfl
  have hR : ∀ q m, m < 15 → (vg_rem g p n).nd (15 * q + m) = if q = p ∧ m = n then 0 else g.nd (15 * q + m) := by
    intro q m hm
    show (if 15 * q + m = 15 * p + n then 0 else g.nd (15 * q + m)) = _
    by_cases h1 : q = p ∧ m = n
    · rw [if_pos (by omega), if_pos h1]
    · rw [if_neg (by omega), if_neg h1]
  have hnd : ∀ q m, m < 15 → (vg_put (vg_rem g p n) p' n' t).nd (15 * q + m) = if q = p' ∧ m = n' then t else if q = p ∧ m = n then 0 else g.nd (15 * q + m) := by
    intro q m hm
    rw [hnd0]
    by_cases h1 : q = p' ∧ m = n'
    · rw [if_pos (by omega), if_pos h1]
    · rw [if_neg (by omega), if_neg h1]
      by_cases h2 : q = p ∧ m = n
      · rw [if_pos (by omega), if_pos h2]
      · rw [if_neg (by omega), if_neg h2]
  have hun : (vg_put (vg_rem g p n) p' n' t).nd = vg_un (vg_rem g p n).nd (15 * p' + n') t := rfl
  have hunR : (vg_rem g p n).nd = vg_un g.nd (15 * p + n) 0 := rfl
  have htn := hna (15 * p + n) (by omega) (by rw [ht]; exact ht0)
  rw [ht] at htn
  have hta := (hnb p n hp hkp (by omega) (by rw [ht]; exact ht0)).2
  rw [ht] at hta
  have htl : t < 40 := by rw [← ht]; exact b11 _
  have hszp := hcn p hp hkp
  have hblp := bl_lt (nd := g.nd) (p := p) (m := n) (k := 15) (by omega) (by rw [ht]; exact ht0)
  have hRm : ∀ q m, (vg_rem g p n).nd (15 * q + m) ≠ 0 → m < 15 → (vg_rem g p n).nd (15 * q + m) = g.nd (15 * q + m) ∧ g.nd (15 * q + m) ≠ 0 ∧ ¬ (q = p ∧ m = n) := by
    intro q m h1 hm
    rw [hR q m hm] at h1 ⊢
    by_cases e : q = p ∧ m = n
    · rw [if_pos e] at h1; exact absurd rfl h1
    · rw [if_neg e] at h1 ⊢; exact ⟨rfl, h1, e⟩
  unfold iv_I iv_X iv_bd
  refine ⟨⟨b1, b2, b3, b4, b5, b6, b7, ?_, b9, b10, ?_, b12, b13, b14, b15, b16⟩, hrt, ?_, ?_, ?_, ?_, ?_, hd1, ?_, ?_, ?_, hdr, hhn, ?_, hma, hmb⟩
  · intro j; rw [hsz]; have := b8 j; rw [hszR] at hs; split
    · omega
    · split <;> omega
  · intro j; rw [hnd0]; have := b11 j; split
    · omega
    · split <;> omega
  · intro j hj hne
    rw [hnd0] at hne ⊢
    by_cases e1 : j = 15 * p' + n'
    · rw [if_pos e1]; exact ⟨by omega, htn.2⟩
    · rw [if_neg e1] at hne ⊢
      by_cases e2 : j = 15 * p + n
      · rw [if_pos e2] at hne; exact absurd rfl hne
      · rw [if_neg e2] at hne ⊢; exact hna j hj hne
  · intro q m hq hk hm hne
    rw [hnd q m hm] at hne ⊢
    by_cases e1 : q = p' ∧ m = n'
    · rw [if_pos e1]; exact ⟨by omega, hta⟩
    · rw [if_neg e1] at hne ⊢
      by_cases e2 : q = p ∧ m = n
      · rw [if_pos e2] at hne; exact absurd rfl hne
      · rw [if_neg e2] at hne ⊢; exact hnb q m hq hk hm hne
  · intro q hq hk
    have h1 := bl_un_d (nd := g.nd) (p := p) (n := n) (m := 15) (by rw [ht]; exact ht0)
    rw [if_pos (by omega)] at h1
    have h2 := bl_un_i (nd := (vg_rem g p n).nd) (p := p') (n := n') (t := t) (m := 15) h0 ht0
    rw [if_pos (by omega)] at h2
    rw [hsz, hun]
    rw [hszR] at hs
    have h3 := hcn p' hp' hkp'
    by_cases e1 : q = p'
    · subst e1
      rw [if_pos rfl, h2]
      by_cases e2 : q = p
      · subst e2
        rw [if_pos rfl] at hs ⊢
        rw [hunR]
        omega
      · rw [if_neg e2] at hs ⊢
        rw [hunR, bl_un_o e2 (by omega) (by omega)]
        omega
    · rw [if_neg e1, bl_un_o e1 (by omega) (by omega)]
      by_cases e2 : q = p
      · subst e2
        rw [if_pos rfl, hunR]
        omega
      · rw [if_neg e2, hunR, bl_un_o e2 (by omega) (by omega)]
        exact hcn q hq hk
  · intro q m hq hk hfq h1 h7
    have h2 : (vg_rem g p n).nd (15 * q + m) = 0 ∨ (vg_rem g p n).nd (15 * q + (m + 7)) = 0 := by
      rcases htb q m hq hk hfq h1 h7 with h | h
      · left; rw [hR q m (by omega)]; split
        · rfl
        · exact h
      · right; rw [hR q (m + 7) (by omega)]; split
        · rfl
        · exact h
    by_cases e0 : q = p'
    · subst e0
      rw [hun]
      by_cases e1 : m = n'
      · right
        rw [un_n _ _ (by omega)]
        exact htab hfq (m + 7) (by omega) (by omega) (by omega)
      · by_cases e2 : m + 7 = n'
        · left
          rw [un_n _ _ (by omega)]
          exact htab hfq m (by omega) (by omega) (by omega)
        · rw [un_n _ _ (by omega), un_n _ _ (by omega)]
          exact h2
    · rw [hun, un_n _ _ (by omega), un_n _ _ (by omega)]
      exact h2
  · intro x hx hxr hxk
    have h3 := hef x hx hxr hxk
    show g.ef x = vg_en g.ki (vg_put (vg_rem g p n) p' n' t).nd x
    rw [hun, h3]
    by_cases e3 : p / 10 = x / 10
    · have h1 := en_un (ki := g.ki) (nd := g.nd) (p := p) (n := n) (t := 0) (o := x) (by omega) hkp e3
      have h2 := en_un (ki := g.ki) (nd := (vg_rem g p n).nd) (p := p') (n := n') (t := t) (o := x) (by omega) hkp' (by omega)
      rw [h0, if_neg (show ¬ 0 = x by omega)] at h2
      rw [ht, if_neg (show ¬ 0 = x by omega)] at h1
      rw [hunR] at h2 ⊢
      omega
    · rw [en_un_o (by omega) (by omega), hunR, en_un_o (by omega) e3]
  · obtain ⟨rk, hr⟩ := hrk
    by_cases htd : g.ki t = 1
    · have hnD := ud_10 (t := t) hII hp' hkp' (hu htd)
      refine ⟨fun x => rk x + @ite Nat (∃ k, vg_ud g.ki g.nd t k x = 1) (Classical.propDecidable _) (rk p' + 1) 0, ?_⟩
      intro q m hq hk hm hne hkt
      rw [hnd q m hm] at hne hkt ⊢
      (try dsimp only)
      by_cases e1 : q = p' ∧ m = n'
      · rw [if_pos e1, e1.1]
        rw [if_neg (show ¬ ∃ k, vg_ud g.ki g.nd t k p' = 1 from fun ⟨k, hk⟩ => by have := hnD k; omega)]
        rw [if_pos (show ∃ k, vg_ud g.ki g.nd t k t = 1 from ⟨0, if_pos rfl⟩)]
        omega
      · rw [if_neg e1] at hne hkt ⊢
        by_cases e2 : q = p ∧ m = n
        · rw [if_pos e2] at hne; exact absurd rfl hne
        · rw [if_neg e2] at hne hkt ⊢
          have h1 := hr q m hq hk hm hne hkt
          by_cases e4 : ∃ k, vg_ud g.ki g.nd t k q = 1
          · have e5 : ∃ k, vg_ud g.ki g.nd t k (g.nd (15 * q + m)) = 1 := by
              obtain ⟨k, hk4⟩ := e4
              refine ⟨k + 1, ?_⟩
              have h6 := hna (15 * q + m) (by omega) hne
              have h7 := par_uq hII (b11 (15 * q + m)) h6.2 hkt hq hk hm rfl
              rw [ud_s]
              split
              · rfl
              · rw [if_neg h6.2, h7]; exact hk4
            rw [if_pos e4, if_pos e5]
            omega
          · rw [if_neg e4]
            have : 0 ≤ @ite Nat (∃ k, vg_ud g.ki g.nd t k (g.nd (15 * q + m)) = 1) (Classical.propDecidable _) (rk p' + 1) 0 := Nat.zero_le _
            omega
    · refine ⟨rk, ?_⟩
      intro q m hq hk hm hne hkt
      rw [hnd q m hm] at hne hkt ⊢
      by_cases e1 : q = p' ∧ m = n'
      · rw [if_pos e1] at hkt; exact absurd hkt htd
      · rw [if_neg e1] at hne hkt ⊢
        by_cases e2 : q = p ∧ m = n
        · rw [if_pos e2] at hne; exact absurd rfl hne
        · rw [if_neg e2] at hne hkt ⊢
          exact hr q m hq hk hm hne hkt
  · intro x hx hxk
    rw [hsz, if_neg (by intro e; rw [e] at hxk; have : g.ki p' = 2 := hxk; omega), if_neg (by intro e; rw [e] at hxk; have : g.ki p = 2 := hxk; omega)]
    exact hfl x hx hxk
  · intro x hx hxk
    rw [hsz, if_neg (by intro e; rw [e] at hxk; have : g.ki p' = 3 := hxk; omega), if_neg (by intro e; rw [e] at hxk; have : g.ki p = 3 := hxk; omega)]
    exact hlk x hx hxk
  · intro d hd
    show g.de d + vg_tk g.fm g.ki (vg_put (vg_rem g p n) p' n' t).sz g.wp d ≤ 32
    by_cases e1 : d = p / 10
    · rw [e1]; exact hroom
    · rw [tk_d (e := p / 10) e1 (fun y hy => bk_cg rfl rfl (by rw [hsz, if_neg (by intro e; rw [e] at hy; exact hy hpd), if_neg (by intro e; rw [e] at hy; exact hy rfl)]) rfl)]
      exact hbk d hd
end VI6
