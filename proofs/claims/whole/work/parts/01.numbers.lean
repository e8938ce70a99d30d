section VN1
theorem pk_us {f : Nat → Int32} {k : Nat} {x : Int32} : upd f k x k = x := if_pos rfl
theorem pk_un {f : Nat → Int32} {k j : Nat} {x : Int32} (h : j ≠ k) : upd f k x j = f j := if_neg h
theorem pk_sub {a b : Nat} (h : b ≤ a) : nI a - nI b = nI (a - b) := by
  obtain ⟨c, rfl⟩ : ∃ c, a = c + b := ⟨a - b, by omega⟩
  rw [← nI_add, Int32.add_sub_cancel, Nat.add_sub_cancel]
theorem pk_m1 (n : Nat) : nI (n + 1) + (-1) = nI n := by
  rw [← nI_1, Int32.add_assoc, show (1 : Int32) + (-1) = 0 from rfl, Int32.add_zero]
theorem pk_mul (a b : Nat) : nI a * nI b = nI (a * b) := (Int32.ofNat_mul a b).symm
theorem pk_div {a d : Nat} (ha : a < 2 ^ 31) (h0 : 0 < d) (hd : d < 2 ^ 31) : nI a / nI d = nI (a / d) := by
  apply Int32.toInt_inj.mp
  rw [lg_idiv_nonneg (by rw [nI_toInt ha]; omega) (by rw [nI_toInt hd]; omega), nI_toInt ha, nI_toInt hd, nI_toInt (Nat.lt_of_le_of_lt (Nat.div_le_self a d) ha)]
  first | rfl | exact (Int.natCast_ediv _ _).symm
theorem pk_rem {a d : Nat} (ha : a < 2 ^ 31) (h0 : 0 < d) (hd : d < 2 ^ 31) : nI a - nI a / nI d * nI d = nI (a % d) := by
  rw [pk_div ha h0 hd, pk_mul, pk_sub (Nat.div_mul_le_self a d)]
  exact congrArg nI (by have := Nat.div_add_mod' a d; omega)
theorem pk_sub_toInt {a b : Nat} (ha : a < 2 ^ 30) (hb : b < 2 ^ 30) : (nI a - nI b).toInt = (a : Int) - b := by
  rw [Int32.toInt_sub, nI_toInt (by omega), nI_toInt (by omega)]
  exact Int.bmod_eq_of_le (by omega) (by omega)
theorem pk_sneg {a b : Nat} (hb : b < 2 ^ 30) (h : a < b) : nI a - nI b < 0 := by
  rw [Int32.lt_iff_toInt_lt, pk_sub_toInt (by omega) hb, show (0 : Int32).toInt = 0 from by decide]
  omega
theorem pk_ix (x : Int32) {n : Nat} (hn : n < 2 ^ 31) : x < 0 ∨ nI n ≤ x ∨ ∃ j : Nat, j < n ∧ x = nI j := by
  by_cases h : x < 0
  · exact Or.inl h
  · obtain ⟨j, hj, rfl⟩ := nI_of h
    by_cases h2 : j < n
    · exact Or.inr (Or.inr ⟨j, h2, rfl⟩)
    · exact Or.inr (Or.inl (nI_le (by omega) hj))
theorem pk_le {x y : Int32} {A B : Prop} (a b : Nat) (f : a ≤ b → A) (g : b < a → B) (hx : x = nI a := by rfl) (hy : y = nI b := by rfl) (ha : a < 2 ^ 31 := by omega) (hb : b < 2 ^ 31 := by omega) : (x ≤ y → A) ∧ (¬ x ≤ y → B) := by
  subst hx hy
  rw [nI_leI ha hb]
  exact ⟨f, fun z => g (by omega)⟩
theorem pk_lt {x y : Int32} {A B : Prop} (a b : Nat) (f : a < b → A) (g : b ≤ a → B) (hx : x = nI a := by rfl) (hy : y = nI b := by rfl) (ha : a < 2 ^ 31 := by omega) (hb : b < 2 ^ 31 := by omega) : (x < y → A) ∧ (¬ x < y → B) := by
  subst hx hy
  rw [nI_ltI ha hb]
  exact ⟨f, fun z => g (by omega)⟩
theorem pk_eq {x y : Int32} {A B : Prop} (a b : Nat) (f : a = b → A) (g : a ≠ b → B) (hx : x = nI a := by rfl) (hy : y = nI b := by rfl) (ha : a < 2 ^ 31 := by omega) (hb : b < 2 ^ 31 := by omega) : (x = y → A) ∧ (¬ x = y → B) := by
  subst hx hy
  rw [nI_eq ha hb]
  exact ⟨f, g⟩
theorem pk_in {x : Int32} (n N : Nat) (h : n < N) (hx : x = nI n := by rfl) (hN : N < 2 ^ 31 := by omega) : vp_in x N := by
  subst hx
  exact vp_in_nI h hN
theorem pk_cl {x : Int32} (n : Nat) (hx : x = nI n := by rfl) (h : n < 2 ^ 31 := by omega) : x.toNatClampNeg = n := by
  subst hx
  exact nI_clamp h
theorem pk_tn {n : Nat} (h : n < 2 ^ 32) : (nI n).toBitVec.toNat = n := Nat.mod_eq_of_lt h
theorem pk_and (x : Int32) {m : Int32} (k : Nat) (hm : m.toBitVec.toNat = 2 ^ k - 1) : x &&& m = nI (x.toBitVec.toNat % 2 ^ k) := by
  apply Int32.toBitVec_inj.mp
  apply BitVec.eq_of_toNat_eq
  rw [Int32.toBitVec_and, BitVec.toNat_and, hm, Nat.and_two_pow_sub_one_eq_mod]
  show _ = (BitVec.ofNat 32 _).toNat
  rw [BitVec.toNat_ofNat]
  exact (Nat.mod_eq_of_lt (Nat.lt_of_le_of_lt (Nat.mod_le _ _) x.toBitVec.isLt)).symm
theorem pk_andN {n : Nat} (h : n < 2 ^ 32) {m : Int32} (k : Nat) (hm : m.toBitVec.toNat = 2 ^ k - 1) : nI n &&& m = nI (n % 2 ^ k) := by
  rw [pk_and _ k hm, pk_tn h]
theorem pk_shl (a s : Int32) (k : Nat) (hs : (s.toBitVec.smod 32).toNat = k) : (a <<< s).toBitVec.toNat = a.toBitVec.toNat * 2 ^ k % 2 ^ 32 := by
  show (a.toBitVec <<< (s.toBitVec.smod 32).toNat).toNat = _
  rw [hs, BitVec.toNat_shiftLeft, Nat.shiftLeft_eq]
theorem pk_shlN {n : Nat} (s : Int32) (k : Nat) (hs : (s.toBitVec.smod 32).toNat = k) (h : n * 2 ^ k < 2 ^ 32) : nI n <<< s = nI (n * 2 ^ k) := by
  apply Int32.toBitVec_inj.mp
  apply BitVec.eq_of_toNat_eq
  have hn : n < 2 ^ 32 := Nat.lt_of_le_of_lt (Nat.le_mul_of_pos_right n (Nat.two_pow_pos k)) h
  rw [pk_shl _ _ k hs, pk_tn hn, pk_tn h, Nat.mod_eq_of_lt h]
theorem pk_shr (a s : Int32) (k : Nat) (hs : (s.toBitVec.smod 32).toNat = k) : (a >>> s).toInt = a.toInt >>> k := by
  show (a.toBitVec.sshiftRight (s.toBitVec.smod 32).toNat).toInt = _
  rw [hs, BitVec.toInt_sshiftRight]
  rfl
theorem pk_shrN {n : Nat} (h : n < 2 ^ 31) (s : Int32) (k : Nat) (hs : (s.toBitVec.smod 32).toNat = k) : nI n >>> s = nI (n / 2 ^ k) := by
  apply Int32.toInt_inj.mp
  have h2 : n / 2 ^ k ≤ n := Nat.div_le_self _ _
  rw [pk_shr _ _ k hs, nI_toInt h, nI_toInt (by omega), Int.shiftRight_eq_div_pow]
  rfl
theorem pk_loop {σ : Type} (W : Nat → Nat → σ → Prop) (I : Nat → σ → Prop) (e i0 : Nat) (s : σ) (hi : i0 ≤ e) (h0 : I i0 s) (hx : ∀ n s, I e s → W (n + 1) e s)
    (hs : ∀ n i s, i < e → I i s → (∀ s', I (i + 1) s' → W n (i + 1) s') → W (n + 1) i s) : ∃ n, W n i0 s :=
  ⟨e + 1, loop_i W I e hx hs (e + 1) i0 s hi (by omega) h0⟩
theorem pk_loopD {σ : Type} (W : Nat → Nat → σ → Prop) (I : Nat → σ → Prop) (hx : ∀ n s, I 0 s → W (n + 1) 0 s)
    (hs : ∀ n i s, I (i + 1) s → (∀ s', I i s' → W n i s') → W (n + 1) (i + 1) s) : ∀ (e : Nat) (s : σ), I e s → W (e + 1) e s := by
  intro e
  induction e with
  | zero => exact fun s h => hx 0 s h
  | succ e ih => exact fun s h => hs (e + 1) e s h (fun s' h' => ih s' h')
theorem lp1 {A1 : Type} (W : Nat → A1 → Prop) (I : A1 → Prop) (μ : A1 → Nat) (hs : ∀ (n : Nat) (a1 : A1), I a1 → (∀ (b1 : A1), I b1 → μ b1 < μ a1 → W n b1) → W (n + 1) a1) (a1 : A1) (h : I a1) : ∃ n, W n a1 :=
  loop_m (σ := A1) (fun n s => W n s) (fun s => I s) (fun s => μ s) (fun n s hI hk => hs n s hI (fun b1 h9 hm => hk b1 h9 hm)) a1 h
theorem lp2 {A1 A2 : Type} (W : Nat → A1 → A2 → Prop) (I : A1 → A2 → Prop) (μ : A1 → A2 → Nat) (hs : ∀ (n : Nat) (a1 : A1) (a2 : A2), I a1 a2 → (∀ (b1 : A1) (b2 : A2), I b1 b2 → μ b1 b2 < μ a1 a2 → W n b1 b2) → W (n + 1) a1 a2) (a1 : A1) (a2 : A2) (h : I a1 a2) : ∃ n, W n a1 a2 :=
  loop_m (σ := A1 × A2) (fun n s => W n s.1 s.2) (fun s => I s.1 s.2) (fun s => μ s.1 s.2) (fun n s hI hk => hs n s.1 s.2 hI (fun b1 b2 h9 hm => hk (b1, b2) h9 hm)) (a1, a2) h
theorem lp3 {A1 A2 A3 : Type} (W : Nat → A1 → A2 → A3 → Prop) (I : A1 → A2 → A3 → Prop) (μ : A1 → A2 → A3 → Nat) (hs : ∀ (n : Nat) (a1 : A1) (a2 : A2) (a3 : A3), I a1 a2 a3 → (∀ (b1 : A1) (b2 : A2) (b3 : A3), I b1 b2 b3 → μ b1 b2 b3 < μ a1 a2 a3 → W n b1 b2 b3) → W (n + 1) a1 a2 a3) (a1 : A1) (a2 : A2) (a3 : A3) (h : I a1 a2 a3) : ∃ n, W n a1 a2 a3 :=
  loop_m (σ := A1 × A2 × A3) (fun n s => W n s.1 s.2.1 s.2.2) (fun s => I s.1 s.2.1 s.2.2) (fun s => μ s.1 s.2.1 s.2.2) (fun n s hI hk => hs n s.1 s.2.1 s.2.2 hI (fun b1 b2 b3 h9 hm => hk (b1, b2, b3) h9 hm)) (a1, a2, a3) h
theorem lp4 {A1 A2 A3 A4 : Type} (W : Nat → A1 → A2 → A3 → A4 → Prop) (I : A1 → A2 → A3 → A4 → Prop) (μ : A1 → A2 → A3 → A4 → Nat) (hs : ∀ (n : Nat) (a1 : A1) (a2 : A2) (a3 : A3) (a4 : A4), I a1 a2 a3 a4 → (∀ (b1 : A1) (b2 : A2) (b3 : A3) (b4 : A4), I b1 b2 b3 b4 → μ b1 b2 b3 b4 < μ a1 a2 a3 a4 → W n b1 b2 b3 b4) → W (n + 1) a1 a2 a3 a4) (a1 : A1) (a2 : A2) (a3 : A3) (a4 : A4) (h : I a1 a2 a3 a4) : ∃ n, W n a1 a2 a3 a4 :=
  loop_m (σ := A1 × A2 × A3 × A4) (fun n s => W n s.1 s.2.1 s.2.2.1 s.2.2.2) (fun s => I s.1 s.2.1 s.2.2.1 s.2.2.2) (fun s => μ s.1 s.2.1 s.2.2.1 s.2.2.2) (fun n s hI hk => hs n s.1 s.2.1 s.2.2.1 s.2.2.2 hI (fun b1 b2 b3 b4 h9 hm => hk (b1, b2, b3, b4) h9 hm)) (a1, a2, a3, a4) h
theorem lp5 {A1 A2 A3 A4 A5 : Type} (W : Nat → A1 → A2 → A3 → A4 → A5 → Prop) (I : A1 → A2 → A3 → A4 → A5 → Prop) (μ : A1 → A2 → A3 → A4 → A5 → Nat) (hs : ∀ (n : Nat) (a1 : A1) (a2 : A2) (a3 : A3) (a4 : A4) (a5 : A5), I a1 a2 a3 a4 a5 → (∀ (b1 : A1) (b2 : A2) (b3 : A3) (b4 : A4) (b5 : A5), I b1 b2 b3 b4 b5 → μ b1 b2 b3 b4 b5 < μ a1 a2 a3 a4 a5 → W n b1 b2 b3 b4 b5) → W (n + 1) a1 a2 a3 a4 a5) (a1 : A1) (a2 : A2) (a3 : A3) (a4 : A4) (a5 : A5) (h : I a1 a2 a3 a4 a5) : ∃ n, W n a1 a2 a3 a4 a5 :=
  loop_m (σ := A1 × A2 × A3 × A4 × A5) (fun n s => W n s.1 s.2.1 s.2.2.1 s.2.2.2.1 s.2.2.2.2) (fun s => I s.1 s.2.1 s.2.2.1 s.2.2.2.1 s.2.2.2.2) (fun s => μ s.1 s.2.1 s.2.2.1 s.2.2.2.1 s.2.2.2.2) (fun n s hI hk => hs n s.1 s.2.1 s.2.2.1 s.2.2.2.1 s.2.2.2.2 hI (fun b1 b2 b3 b4 b5 h9 hm => hk (b1, b2, b3, b4, b5) h9 hm)) (a1, a2, a3, a4, a5) h
theorem lp6 {A1 A2 A3 A4 A5 A6 : Type} (W : Nat → A1 → A2 → A3 → A4 → A5 → A6 → Prop) (I : A1 → A2 → A3 → A4 → A5 → A6 → Prop) (μ : A1 → A2 → A3 → A4 → A5 → A6 → Nat) (hs : ∀ (n : Nat) (a1 : A1) (a2 : A2) (a3 : A3) (a4 : A4) (a5 : A5) (a6 : A6), I a1 a2 a3 a4 a5 a6 → (∀ (b1 : A1) (b2 : A2) (b3 : A3) (b4 : A4) (b5 : A5) (b6 : A6), I b1 b2 b3 b4 b5 b6 → μ b1 b2 b3 b4 b5 b6 < μ a1 a2 a3 a4 a5 a6 → W n b1 b2 b3 b4 b5 b6) → W (n + 1) a1 a2 a3 a4 a5 a6) (a1 : A1) (a2 : A2) (a3 : A3) (a4 : A4) (a5 : A5) (a6 : A6) (h : I a1 a2 a3 a4 a5 a6) : ∃ n, W n a1 a2 a3 a4 a5 a6 :=
  loop_m (σ := A1 × A2 × A3 × A4 × A5 × A6) (fun n s => W n s.1 s.2.1 s.2.2.1 s.2.2.2.1 s.2.2.2.2.1 s.2.2.2.2.2) (fun s => I s.1 s.2.1 s.2.2.1 s.2.2.2.1 s.2.2.2.2.1 s.2.2.2.2.2) (fun s => μ s.1 s.2.1 s.2.2.1 s.2.2.2.1 s.2.2.2.2.1 s.2.2.2.2.2) (fun n s hI hk => hs n s.1 s.2.1 s.2.2.1 s.2.2.2.1 s.2.2.2.2.1 s.2.2.2.2.2 hI (fun b1 b2 b3 b4 b5 b6 h9 hm => hk (b1, b2, b3, b4, b5, b6) h9 hm)) (a1, a2, a3, a4, a5, a6) h
theorem pk_least (P : Nat → Prop) (h : ∃ k, P k) : ∃ k, P k ∧ ∀ j, j < k → ¬ P j := by
  obtain ⟨k, hk⟩ := h
  induction k using Nat.strongRecOn with
  | ind k ih =>
    by_cases e : ∃ j, j < k ∧ P j
    · obtain ⟨j, hj, pj⟩ := e
      exact ih j hj pj
    · exact ⟨k, hk, fun j hj pj => e ⟨j, hj, pj⟩⟩
theorem ek_if {c d A B : Prop} (e : c ↔ d) (f : d → A) (g : ¬ d → B) : (c → A) ∧ (¬ c → B) :=
  ⟨fun z => f (e.mp z), fun z => g (fun y => z (e.mpr y))⟩
theorem ek_v {α : Sort _} {P : α → Prop} {a b : α} (e : a = b) (h : P b) : P a := e ▸ h
theorem vn_e0 {a : Nat} (h : a < 2147483648) : nI a = 0 ↔ a = 0 := nI_eq (b := 0) h (by decide)
theorem vn_f0 {a : Nat} (h : a < 2147483648) : 0 = nI a ↔ 0 = a := nI_eq (a := 0) (by decide) h
theorem vn_le0 {a : Nat} (h : a < 2147483648) : nI a ≤ 0 ↔ a ≤ 0 := nI_leI (b := 0) h (by decide)
theorem vn_ge0 {a : Nat} (h : a < 2147483648) : 0 ≤ nI a ↔ 0 ≤ a := nI_leI (a := 0) (by decide) h
theorem vn_lt0 {a : Nat} (h : a < 2147483648) : nI a < 0 ↔ a < 0 := nI_ltI (b := 0) h (by decide)
theorem vn_gt0 {a : Nat} (h : a < 2147483648) : 0 < nI a ↔ 0 < a := nI_ltI (a := 0) (by decide) h
theorem vn_e1 {a : Nat} (h : a < 2147483648) : nI a = 1 ↔ a = 1 := nI_eq (b := 1) h (by decide)
theorem vn_f1 {a : Nat} (h : a < 2147483648) : 1 = nI a ↔ 1 = a := nI_eq (a := 1) (by decide) h
theorem vn_le1 {a : Nat} (h : a < 2147483648) : nI a ≤ 1 ↔ a ≤ 1 := nI_leI (b := 1) h (by decide)
theorem vn_ge1 {a : Nat} (h : a < 2147483648) : 1 ≤ nI a ↔ 1 ≤ a := nI_leI (a := 1) (by decide) h
theorem vn_lt1 {a : Nat} (h : a < 2147483648) : nI a < 1 ↔ a < 1 := nI_ltI (b := 1) h (by decide)
theorem vn_gt1 {a : Nat} (h : a < 2147483648) : 1 < nI a ↔ 1 < a := nI_ltI (a := 1) (by decide) h
theorem vn_e2 {a : Nat} (h : a < 2147483648) : nI a = 2 ↔ a = 2 := nI_eq (b := 2) h (by decide)
theorem vn_f2 {a : Nat} (h : a < 2147483648) : 2 = nI a ↔ 2 = a := nI_eq (a := 2) (by decide) h
theorem vn_le2 {a : Nat} (h : a < 2147483648) : nI a ≤ 2 ↔ a ≤ 2 := nI_leI (b := 2) h (by decide)
theorem vn_ge2 {a : Nat} (h : a < 2147483648) : 2 ≤ nI a ↔ 2 ≤ a := nI_leI (a := 2) (by decide) h
theorem vn_lt2 {a : Nat} (h : a < 2147483648) : nI a < 2 ↔ a < 2 := nI_ltI (b := 2) h (by decide)
theorem vn_gt2 {a : Nat} (h : a < 2147483648) : 2 < nI a ↔ 2 < a := nI_ltI (a := 2) (by decide) h
theorem vn_e3 {a : Nat} (h : a < 2147483648) : nI a = 3 ↔ a = 3 := nI_eq (b := 3) h (by decide)
theorem vn_f3 {a : Nat} (h : a < 2147483648) : 3 = nI a ↔ 3 = a := nI_eq (a := 3) (by decide) h
theorem vn_le3 {a : Nat} (h : a < 2147483648) : nI a ≤ 3 ↔ a ≤ 3 := nI_leI (b := 3) h (by decide)
theorem vn_ge3 {a : Nat} (h : a < 2147483648) : 3 ≤ nI a ↔ 3 ≤ a := nI_leI (a := 3) (by decide) h
theorem vn_lt3 {a : Nat} (h : a < 2147483648) : nI a < 3 ↔ a < 3 := nI_ltI (b := 3) h (by decide)
theorem vn_gt3 {a : Nat} (h : a < 2147483648) : 3 < nI a ↔ 3 < a := nI_ltI (a := 3) (by decide) h
theorem vn_e4 {a : Nat} (h : a < 2147483648) : nI a = 4 ↔ a = 4 := nI_eq (b := 4) h (by decide)
theorem vn_f4 {a : Nat} (h : a < 2147483648) : 4 = nI a ↔ 4 = a := nI_eq (a := 4) (by decide) h
theorem vn_le4 {a : Nat} (h : a < 2147483648) : nI a ≤ 4 ↔ a ≤ 4 := nI_leI (b := 4) h (by decide)
theorem vn_ge4 {a : Nat} (h : a < 2147483648) : 4 ≤ nI a ↔ 4 ≤ a := nI_leI (a := 4) (by decide) h
theorem vn_lt4 {a : Nat} (h : a < 2147483648) : nI a < 4 ↔ a < 4 := nI_ltI (b := 4) h (by decide)
theorem vn_gt4 {a : Nat} (h : a < 2147483648) : 4 < nI a ↔ 4 < a := nI_ltI (a := 4) (by decide) h
theorem vn_e5 {a : Nat} (h : a < 2147483648) : nI a = 5 ↔ a = 5 := nI_eq (b := 5) h (by decide)
theorem vn_f5 {a : Nat} (h : a < 2147483648) : 5 = nI a ↔ 5 = a := nI_eq (a := 5) (by decide) h
theorem vn_le5 {a : Nat} (h : a < 2147483648) : nI a ≤ 5 ↔ a ≤ 5 := nI_leI (b := 5) h (by decide)
theorem vn_ge5 {a : Nat} (h : a < 2147483648) : 5 ≤ nI a ↔ 5 ≤ a := nI_leI (a := 5) (by decide) h
theorem vn_lt5 {a : Nat} (h : a < 2147483648) : nI a < 5 ↔ a < 5 := nI_ltI (b := 5) h (by decide)
theorem vn_gt5 {a : Nat} (h : a < 2147483648) : 5 < nI a ↔ 5 < a := nI_ltI (a := 5) (by decide) h
theorem vn_e6 {a : Nat} (h : a < 2147483648) : nI a = 6 ↔ a = 6 := nI_eq (b := 6) h (by decide)
theorem vn_f6 {a : Nat} (h : a < 2147483648) : 6 = nI a ↔ 6 = a := nI_eq (a := 6) (by decide) h
theorem vn_le6 {a : Nat} (h : a < 2147483648) : nI a ≤ 6 ↔ a ≤ 6 := nI_leI (b := 6) h (by decide)
theorem vn_ge6 {a : Nat} (h : a < 2147483648) : 6 ≤ nI a ↔ 6 ≤ a := nI_leI (a := 6) (by decide) h
theorem vn_lt6 {a : Nat} (h : a < 2147483648) : nI a < 6 ↔ a < 6 := nI_ltI (b := 6) h (by decide)
theorem vn_gt6 {a : Nat} (h : a < 2147483648) : 6 < nI a ↔ 6 < a := nI_ltI (a := 6) (by decide) h
theorem vn_e7 {a : Nat} (h : a < 2147483648) : nI a = 7 ↔ a = 7 := nI_eq (b := 7) h (by decide)
theorem vn_f7 {a : Nat} (h : a < 2147483648) : 7 = nI a ↔ 7 = a := nI_eq (a := 7) (by decide) h
theorem vn_le7 {a : Nat} (h : a < 2147483648) : nI a ≤ 7 ↔ a ≤ 7 := nI_leI (b := 7) h (by decide)
theorem vn_ge7 {a : Nat} (h : a < 2147483648) : 7 ≤ nI a ↔ 7 ≤ a := nI_leI (a := 7) (by decide) h
theorem vn_lt7 {a : Nat} (h : a < 2147483648) : nI a < 7 ↔ a < 7 := nI_ltI (b := 7) h (by decide)
theorem vn_gt7 {a : Nat} (h : a < 2147483648) : 7 < nI a ↔ 7 < a := nI_ltI (a := 7) (by decide) h
theorem vn_e8 {a : Nat} (h : a < 2147483648) : nI a = 8 ↔ a = 8 := nI_eq (b := 8) h (by decide)
theorem vn_f8 {a : Nat} (h : a < 2147483648) : 8 = nI a ↔ 8 = a := nI_eq (a := 8) (by decide) h
theorem vn_le8 {a : Nat} (h : a < 2147483648) : nI a ≤ 8 ↔ a ≤ 8 := nI_leI (b := 8) h (by decide)
theorem vn_ge8 {a : Nat} (h : a < 2147483648) : 8 ≤ nI a ↔ 8 ≤ a := nI_leI (a := 8) (by decide) h
theorem vn_lt8 {a : Nat} (h : a < 2147483648) : nI a < 8 ↔ a < 8 := nI_ltI (b := 8) h (by decide)
theorem vn_gt8 {a : Nat} (h : a < 2147483648) : 8 < nI a ↔ 8 < a := nI_ltI (a := 8) (by decide) h
theorem vn_e9 {a : Nat} (h : a < 2147483648) : nI a = 9 ↔ a = 9 := nI_eq (b := 9) h (by decide)
theorem vn_f9 {a : Nat} (h : a < 2147483648) : 9 = nI a ↔ 9 = a := nI_eq (a := 9) (by decide) h
theorem vn_le9 {a : Nat} (h : a < 2147483648) : nI a ≤ 9 ↔ a ≤ 9 := nI_leI (b := 9) h (by decide)
theorem vn_ge9 {a : Nat} (h : a < 2147483648) : 9 ≤ nI a ↔ 9 ≤ a := nI_leI (a := 9) (by decide) h
theorem vn_lt9 {a : Nat} (h : a < 2147483648) : nI a < 9 ↔ a < 9 := nI_ltI (b := 9) h (by decide)
theorem vn_gt9 {a : Nat} (h : a < 2147483648) : 9 < nI a ↔ 9 < a := nI_ltI (a := 9) (by decide) h
theorem vn_e10 {a : Nat} (h : a < 2147483648) : nI a = 10 ↔ a = 10 := nI_eq (b := 10) h (by decide)
theorem vn_f10 {a : Nat} (h : a < 2147483648) : 10 = nI a ↔ 10 = a := nI_eq (a := 10) (by decide) h
theorem vn_le10 {a : Nat} (h : a < 2147483648) : nI a ≤ 10 ↔ a ≤ 10 := nI_leI (b := 10) h (by decide)
theorem vn_ge10 {a : Nat} (h : a < 2147483648) : 10 ≤ nI a ↔ 10 ≤ a := nI_leI (a := 10) (by decide) h
theorem vn_lt10 {a : Nat} (h : a < 2147483648) : nI a < 10 ↔ a < 10 := nI_ltI (b := 10) h (by decide)
theorem vn_gt10 {a : Nat} (h : a < 2147483648) : 10 < nI a ↔ 10 < a := nI_ltI (a := 10) (by decide) h
theorem vn_e13 {a : Nat} (h : a < 2147483648) : nI a = 13 ↔ a = 13 := nI_eq (b := 13) h (by decide)
theorem vn_f13 {a : Nat} (h : a < 2147483648) : 13 = nI a ↔ 13 = a := nI_eq (a := 13) (by decide) h
theorem vn_le13 {a : Nat} (h : a < 2147483648) : nI a ≤ 13 ↔ a ≤ 13 := nI_leI (b := 13) h (by decide)
theorem vn_ge13 {a : Nat} (h : a < 2147483648) : 13 ≤ nI a ↔ 13 ≤ a := nI_leI (a := 13) (by decide) h
theorem vn_lt13 {a : Nat} (h : a < 2147483648) : nI a < 13 ↔ a < 13 := nI_ltI (b := 13) h (by decide)
theorem vn_gt13 {a : Nat} (h : a < 2147483648) : 13 < nI a ↔ 13 < a := nI_ltI (a := 13) (by decide) h
theorem vn_e14 {a : Nat} (h : a < 2147483648) : nI a = 14 ↔ a = 14 := nI_eq (b := 14) h (by decide)
theorem vn_f14 {a : Nat} (h : a < 2147483648) : 14 = nI a ↔ 14 = a := nI_eq (a := 14) (by decide) h
theorem vn_le14 {a : Nat} (h : a < 2147483648) : nI a ≤ 14 ↔ a ≤ 14 := nI_leI (b := 14) h (by decide)
theorem vn_ge14 {a : Nat} (h : a < 2147483648) : 14 ≤ nI a ↔ 14 ≤ a := nI_leI (a := 14) (by decide) h
theorem vn_lt14 {a : Nat} (h : a < 2147483648) : nI a < 14 ↔ a < 14 := nI_ltI (b := 14) h (by decide)
theorem vn_gt14 {a : Nat} (h : a < 2147483648) : 14 < nI a ↔ 14 < a := nI_ltI (a := 14) (by decide) h
theorem vn_e15 {a : Nat} (h : a < 2147483648) : nI a = 15 ↔ a = 15 := nI_eq (b := 15) h (by decide)
theorem vn_f15 {a : Nat} (h : a < 2147483648) : 15 = nI a ↔ 15 = a := nI_eq (a := 15) (by decide) h
theorem vn_le15 {a : Nat} (h : a < 2147483648) : nI a ≤ 15 ↔ a ≤ 15 := nI_leI (b := 15) h (by decide)
theorem vn_ge15 {a : Nat} (h : a < 2147483648) : 15 ≤ nI a ↔ 15 ≤ a := nI_leI (a := 15) (by decide) h
theorem vn_lt15 {a : Nat} (h : a < 2147483648) : nI a < 15 ↔ a < 15 := nI_ltI (b := 15) h (by decide)
theorem vn_gt15 {a : Nat} (h : a < 2147483648) : 15 < nI a ↔ 15 < a := nI_ltI (a := 15) (by decide) h
theorem vn_e16 {a : Nat} (h : a < 2147483648) : nI a = 16 ↔ a = 16 := nI_eq (b := 16) h (by decide)
theorem vn_f16 {a : Nat} (h : a < 2147483648) : 16 = nI a ↔ 16 = a := nI_eq (a := 16) (by decide) h
theorem vn_le16 {a : Nat} (h : a < 2147483648) : nI a ≤ 16 ↔ a ≤ 16 := nI_leI (b := 16) h (by decide)
theorem vn_ge16 {a : Nat} (h : a < 2147483648) : 16 ≤ nI a ↔ 16 ≤ a := nI_leI (a := 16) (by decide) h
theorem vn_lt16 {a : Nat} (h : a < 2147483648) : nI a < 16 ↔ a < 16 := nI_ltI (b := 16) h (by decide)
theorem vn_gt16 {a : Nat} (h : a < 2147483648) : 16 < nI a ↔ 16 < a := nI_ltI (a := 16) (by decide) h
theorem vn_e20 {a : Nat} (h : a < 2147483648) : nI a = 20 ↔ a = 20 := nI_eq (b := 20) h (by decide)
theorem vn_f20 {a : Nat} (h : a < 2147483648) : 20 = nI a ↔ 20 = a := nI_eq (a := 20) (by decide) h
theorem vn_le20 {a : Nat} (h : a < 2147483648) : nI a ≤ 20 ↔ a ≤ 20 := nI_leI (b := 20) h (by decide)
theorem vn_ge20 {a : Nat} (h : a < 2147483648) : 20 ≤ nI a ↔ 20 ≤ a := nI_leI (a := 20) (by decide) h
theorem vn_lt20 {a : Nat} (h : a < 2147483648) : nI a < 20 ↔ a < 20 := nI_ltI (b := 20) h (by decide)
theorem vn_gt20 {a : Nat} (h : a < 2147483648) : 20 < nI a ↔ 20 < a := nI_ltI (a := 20) (by decide) h
theorem vn_e21 {a : Nat} (h : a < 2147483648) : nI a = 21 ↔ a = 21 := nI_eq (b := 21) h (by decide)
theorem vn_f21 {a : Nat} (h : a < 2147483648) : 21 = nI a ↔ 21 = a := nI_eq (a := 21) (by decide) h
theorem vn_le21 {a : Nat} (h : a < 2147483648) : nI a ≤ 21 ↔ a ≤ 21 := nI_leI (b := 21) h (by decide)
theorem vn_ge21 {a : Nat} (h : a < 2147483648) : 21 ≤ nI a ↔ 21 ≤ a := nI_leI (a := 21) (by decide) h
theorem vn_lt21 {a : Nat} (h : a < 2147483648) : nI a < 21 ↔ a < 21 := nI_ltI (b := 21) h (by decide)
theorem vn_gt21 {a : Nat} (h : a < 2147483648) : 21 < nI a ↔ 21 < a := nI_ltI (a := 21) (by decide) h
theorem vn_e25 {a : Nat} (h : a < 2147483648) : nI a = 25 ↔ a = 25 := nI_eq (b := 25) h (by decide)
theorem vn_f25 {a : Nat} (h : a < 2147483648) : 25 = nI a ↔ 25 = a := nI_eq (a := 25) (by decide) h
theorem vn_le25 {a : Nat} (h : a < 2147483648) : nI a ≤ 25 ↔ a ≤ 25 := nI_leI (b := 25) h (by decide)
theorem vn_ge25 {a : Nat} (h : a < 2147483648) : 25 ≤ nI a ↔ 25 ≤ a := nI_leI (a := 25) (by decide) h
theorem vn_lt25 {a : Nat} (h : a < 2147483648) : nI a < 25 ↔ a < 25 := nI_ltI (b := 25) h (by decide)
theorem vn_gt25 {a : Nat} (h : a < 2147483648) : 25 < nI a ↔ 25 < a := nI_ltI (a := 25) (by decide) h
theorem vn_e32 {a : Nat} (h : a < 2147483648) : nI a = 32 ↔ a = 32 := nI_eq (b := 32) h (by decide)
theorem vn_f32 {a : Nat} (h : a < 2147483648) : 32 = nI a ↔ 32 = a := nI_eq (a := 32) (by decide) h
theorem vn_le32 {a : Nat} (h : a < 2147483648) : nI a ≤ 32 ↔ a ≤ 32 := nI_leI (b := 32) h (by decide)
theorem vn_ge32 {a : Nat} (h : a < 2147483648) : 32 ≤ nI a ↔ 32 ≤ a := nI_leI (a := 32) (by decide) h
theorem vn_lt32 {a : Nat} (h : a < 2147483648) : nI a < 32 ↔ a < 32 := nI_ltI (b := 32) h (by decide)
theorem vn_gt32 {a : Nat} (h : a < 2147483648) : 32 < nI a ↔ 32 < a := nI_ltI (a := 32) (by decide) h
theorem vn_e40 {a : Nat} (h : a < 2147483648) : nI a = 40 ↔ a = 40 := nI_eq (b := 40) h (by decide)
theorem vn_f40 {a : Nat} (h : a < 2147483648) : 40 = nI a ↔ 40 = a := nI_eq (a := 40) (by decide) h
theorem vn_le40 {a : Nat} (h : a < 2147483648) : nI a ≤ 40 ↔ a ≤ 40 := nI_leI (b := 40) h (by decide)
theorem vn_ge40 {a : Nat} (h : a < 2147483648) : 40 ≤ nI a ↔ 40 ≤ a := nI_leI (a := 40) (by decide) h
theorem vn_lt40 {a : Nat} (h : a < 2147483648) : nI a < 40 ↔ a < 40 := nI_ltI (b := 40) h (by decide)
theorem vn_gt40 {a : Nat} (h : a < 2147483648) : 40 < nI a ↔ 40 < a := nI_ltI (a := 40) (by decide) h
theorem vn_mr4 (a : Nat) : nI a * 4 = nI (a * 4) := pk_mul a 4
theorem vn_ml4 (a : Nat) : 4 * nI a = nI (4 * a) := pk_mul 4 a
theorem vn_mr5 (a : Nat) : nI a * 5 = nI (a * 5) := pk_mul a 5
theorem vn_ml5 (a : Nat) : 5 * nI a = nI (5 * a) := pk_mul 5 a
theorem vn_mr6 (a : Nat) : nI a * 6 = nI (a * 6) := pk_mul a 6
theorem vn_ml6 (a : Nat) : 6 * nI a = nI (6 * a) := pk_mul 6 a
theorem vn_mr10 (a : Nat) : nI a * 10 = nI (a * 10) := pk_mul a 10
theorem vn_ml10 (a : Nat) : 10 * nI a = nI (10 * a) := pk_mul 10 a
theorem vn_mr15 (a : Nat) : nI a * 15 = nI (a * 15) := pk_mul a 15
theorem vn_ml15 (a : Nat) : 15 * nI a = nI (15 * a) := pk_mul 15 a
theorem vn_mr20 (a : Nat) : nI a * 20 = nI (a * 20) := pk_mul a 20
theorem vn_ml20 (a : Nat) : 20 * nI a = nI (20 * a) := pk_mul 20 a
theorem vn_ar1 (a : Nat) : nI a + 1 = nI (a + 1) := nI_add a 1
theorem vn_al1 (a : Nat) : 1 + nI a = nI (1 + a) := nI_add 1 a
theorem vn_ar2 (a : Nat) : nI a + 2 = nI (a + 2) := nI_add a 2
theorem vn_al2 (a : Nat) : 2 + nI a = nI (2 + a) := nI_add 2 a
theorem vn_ar3 (a : Nat) : nI a + 3 = nI (a + 3) := nI_add a 3
theorem vn_al3 (a : Nat) : 3 + nI a = nI (3 + a) := nI_add 3 a
theorem vn_ar4 (a : Nat) : nI a + 4 = nI (a + 4) := nI_add a 4
theorem vn_al4 (a : Nat) : 4 + nI a = nI (4 + a) := nI_add 4 a
theorem vn_ar5 (a : Nat) : nI a + 5 = nI (a + 5) := nI_add a 5
theorem vn_al5 (a : Nat) : 5 + nI a = nI (5 + a) := nI_add 5 a
theorem vn_ar6 (a : Nat) : nI a + 6 = nI (a + 6) := nI_add a 6
theorem vn_al6 (a : Nat) : 6 + nI a = nI (6 + a) := nI_add 6 a
theorem vn_ar7 (a : Nat) : nI a + 7 = nI (a + 7) := nI_add a 7
theorem vn_al7 (a : Nat) : 7 + nI a = nI (7 + a) := nI_add 7 a
theorem vn_ar9 (a : Nat) : nI a + 9 = nI (a + 9) := nI_add a 9
theorem vn_al9 (a : Nat) : 9 + nI a = nI (9 + a) := nI_add 9 a
theorem vn_ar10 (a : Nat) : nI a + 10 = nI (a + 10) := nI_add a 10
theorem vn_al10 (a : Nat) : 10 + nI a = nI (10 + a) := nI_add 10 a
theorem vn_ar15 (a : Nat) : nI a + 15 = nI (a + 15) := nI_add a 15
theorem vn_al15 (a : Nat) : 15 + nI a = nI (15 + a) := nI_add 15 a
theorem vn_ar20 (a : Nat) : nI a + 20 = nI (a + 20) := nI_add a 20
theorem vn_al20 (a : Nat) : 20 + nI a = nI (20 + a) := nI_add 20 a
theorem vn_s1 {a : Nat} (h : 1 ≤ a) : nI a - 1 = nI (a - 1) := pk_sub (b := 1) h
theorem vn_s2 {a : Nat} (h : 2 ≤ a) : nI a - 2 = nI (a - 2) := pk_sub (b := 2) h
theorem vn_s4 {a : Nat} (h : 4 ≤ a) : nI a - 4 = nI (a - 4) := pk_sub (b := 4) h
theorem vn_s7 {a : Nat} (h : 7 ≤ a) : nI a - 7 = nI (a - 7) := pk_sub (b := 7) h
theorem vn_s10 {a : Nat} (h : 10 ≤ a) : nI a - 10 = nI (a - 10) := pk_sub (b := 10) h
theorem vn_d4 {a : Nat} (h : a < 2147483648) : nI a / 4 = nI (a / 4) := pk_div (d := 4) h (by decide) (by decide)
theorem vn_d7 {a : Nat} (h : a < 2147483648) : nI a / 7 = nI (a / 7) := pk_div (d := 7) h (by decide) (by decide)
theorem vn_d10 {a : Nat} (h : a < 2147483648) : nI a / 10 = nI (a / 10) := pk_div (d := 10) h (by decide) (by decide)
theorem vn_n1 {a : Nat} (h : a < 2147483648) : nI a = -1 ↔ False := ⟨fun e => absurd (show (-1 : Int32) < 0 by decide) (by rw [← e]; exact nI_pos h), False.elim⟩
theorem vn_n2 {a : Nat} (h : a < 2147483648) : nI a = -2 ↔ False := ⟨fun e => absurd (show (-2 : Int32) < 0 by decide) (by rw [← e]; exact nI_pos h), False.elim⟩
theorem vn_n3 {a : Nat} (h : a < 2147483648) : nI a = -3 ↔ False := ⟨fun e => absurd (show (-3 : Int32) < 0 by decide) (by rw [← e]; exact nI_pos h), False.elim⟩
theorem vn_n4 {a : Nat} (h : a < 2147483648) : nI a = -4 ↔ False := ⟨fun e => absurd (show (-4 : Int32) < 0 by decide) (by rw [← e]; exact nI_pos h), False.elim⟩
theorem vn_n5 {a : Nat} (h : a < 2147483648) : nI a = -5 ↔ False := ⟨fun e => absurd (show (-5 : Int32) < 0 by decide) (by rw [← e]; exact nI_pos h), False.elim⟩
theorem vn_n6 {a : Nat} (h : a < 2147483648) : nI a = -6 ↔ False := ⟨fun e => absurd (show (-6 : Int32) < 0 by decide) (by rw [← e]; exact nI_pos h), False.elim⟩
theorem vn_n7 {a : Nat} (h : a < 2147483648) : nI a = -7 ↔ False := ⟨fun e => absurd (show (-7 : Int32) < 0 by decide) (by rw [← e]; exact nI_pos h), False.elim⟩
theorem vn_n8 {a : Nat} (h : a < 2147483648) : nI a = -8 ↔ False := ⟨fun e => absurd (show (-8 : Int32) < 0 by decide) (by rw [← e]; exact nI_pos h), False.elim⟩
theorem vn_n9 {a : Nat} (h : a < 2147483648) : nI a = -9 ↔ False := ⟨fun e => absurd (show (-9 : Int32) < 0 by decide) (by rw [← e]; exact nI_pos h), False.elim⟩
theorem vn_n10 {a : Nat} (h : a < 2147483648) : nI a = -10 ↔ False := ⟨fun e => absurd (show (-10 : Int32) < 0 by decide) (by rw [← e]; exact nI_pos h), False.elim⟩
theorem vn_n11 {a : Nat} (h : a < 2147483648) : nI a = -11 ↔ False := ⟨fun e => absurd (show (-11 : Int32) < 0 by decide) (by rw [← e]; exact nI_pos h), False.elim⟩
theorem vn_n12 {a : Nat} (h : a < 2147483648) : nI a = -12 ↔ False := ⟨fun e => absurd (show (-12 : Int32) < 0 by decide) (by rw [← e]; exact nI_pos h), False.elim⟩
theorem vn_n13 {a : Nat} (h : a < 2147483648) : nI a = -13 ↔ False := ⟨fun e => absurd (show (-13 : Int32) < 0 by decide) (by rw [← e]; exact nI_pos h), False.elim⟩
theorem vn_lt0' {a : Nat} (h : a < 2147483648) : nI a < 0 ↔ False := ⟨fun e => nI_pos h e, False.elim⟩
theorem vn_ge0' {a : Nat} (h : a < 2147483648) : 0 ≤ nI a ↔ True := ⟨fun _ => trivial, fun _ => nI_pos' h⟩
theorem vn_m1' {a : Nat} (h : 1 ≤ a) : nI a + (-1) = nI (a - 1) := by
  obtain ⟨m, rfl⟩ : ∃ m, a = m + 1 := ⟨a - 1, by omega⟩
  exact pk_m1 m
theorem vn_i8 : ∀ a, a < 128 → (nI a).toInt8.toInt32 = nI a := by decide +kernel
theorem vn_nb {a : Nat} (h : a < 128) : vp_nar .byte (nI a) = nI a := by rw [vp_nar_byte]; exact vn_i8 a h
theorem vn_nbm : vp_nar .byte (-1) = -1 := by rw [vp_nar_byte]; decide
theorem vn_nb0 : vp_nar .byte 0 = 0 := by rw [vp_nar_byte]; decide
theorem vn_nb1 : vp_nar .byte 1 = 1 := by rw [vp_nar_byte]; decide
theorem vn_bo0 : vp_nar .boolean 0 = 0 := by decide
theorem vn_bo1 : vp_nar .boolean 1 = 1 := by decide
theorem vn_bz0 : narrow .boolean (.int 0) = .int 0 := by decide
theorem vn_bz1 : narrow .boolean (.int 1) = .int 1 := by decide
theorem vn_lit (a : Nat) : Int32.ofNat a = nI a := rfl
theorem vn_inj {a b : Nat} (h : nI a = nI b) (ha : a < 2147483648) (hb : b < 2147483648) : a = b := (nI_eq ha hb).mp h
end VN1
