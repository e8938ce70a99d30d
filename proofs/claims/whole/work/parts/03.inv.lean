section VI3
/-! counts over the ghost -/
def vg_bl (nd : vg_F) (p m : Nat) : Nat := vg_sm (fun n => if nd (15 * p + n) = 0 then 0 else 1) m
def vg_dc (nd : vg_F) (p o : Nat) : Nat := vg_sm (fun n => if nd (15 * p + n) = o then 1 else 0) 15
def vg_en (ki nd : vg_F) (o : Nat) : Nat := vg_sm (fun i => if ki (10 * (o / 10) + i) = 1 then vg_dc nd (10 * (o / 10) + i) o else 0) 10
def vg_bd (f s : Nat) : Nat := if f = 0 ∧ 4 < s then 2 else 1
def vg_bk (fm ki sz wp : vg_F) (o : Nat) : Nat :=
  if ki o = 1 then vg_bd (fm (o / 10)) (sz o)
  else if ki o = 2 then (if fm (o / 10) = 0 then (sz o + 3) / 4 else vg_on (wp o)) else 0
def vg_tk (fm ki sz wp : vg_F) (d : Nat) : Nat := vg_sm (fun i => vg_bk fm ki sz wp (10 * d + i)) 10
theorem bl_s (nd : vg_F) (p m : Nat) : vg_bl nd p (m + 1) = vg_bl nd p m + if nd (15 * p + m) = 0 then 0 else 1 := rfl
theorem bl_0 (nd : vg_F) (p : Nat) : vg_bl nd p 0 = 0 := rfl
theorem bl_cg {nd nd' : vg_F} {p m : Nat} (h : ∀ n, n < m → nd (15 * p + n) = nd' (15 * p + n)) : vg_bl nd p m = vg_bl nd' p m := by
  unfold vg_bl
  exact sm_congr (fun i hi => by rw [h i hi])
theorem dc_cg {nd nd' : vg_F} {p o : Nat} (h : ∀ n, n < 15 → nd (15 * p + n) = nd' (15 * p + n)) : vg_dc nd p o = vg_dc nd' p o := by
  unfold vg_dc
  exact sm_congr (fun i hi => by rw [h i hi])
theorem bl_mono {nd : vg_F} {p a b : Nat} (h : a ≤ b) : vg_bl nd p a ≤ vg_bl nd p b := sm_mono h
/-- a name that is there stands before every later one -/
theorem bl_lt {nd : vg_F} {p m k : Nat} (h : m < k) (hm : nd (15 * p + m) ≠ 0) : vg_bl nd p m < vg_bl nd p k := by
  have h1 := bl_mono (nd := nd) (p := p) (show m + 1 ≤ k from h)
  rw [bl_s, if_neg hm] at h1
  omega
theorem bl_inj {nd : vg_F} {p m k : Nat} (hm : nd (15 * p + m) ≠ 0) (hk : nd (15 * p + k) ≠ 0) (e : vg_bl nd p m = vg_bl nd p k) : m = k := by
  rcases Nat.lt_trichotomy m k with h | h | h
  · have := bl_lt h hm; omega
  · exact h
  · have := bl_lt h hk; omega
/-- each place below the count has its name -/
theorem bl_at {nd : vg_F} {p i : Nat} : ∀ {m : Nat}, i < vg_bl nd p m → ∃ n, n < m ∧ nd (15 * p + n) ≠ 0 ∧ vg_bl nd p n = i := by
  intro m
  induction m with
  | zero => intro h; exact absurd h (Nat.not_lt_zero i)
  | succ m ih =>
    intro h
    by_cases hi : i < vg_bl nd p m
    · obtain ⟨n, hn, h1, h2⟩ := ih hi
      exact ⟨n, by omega, h1, h2⟩
    · rw [bl_s] at h
      by_cases hz : nd (15 * p + m) = 0
      · rw [if_pos hz] at h; omega
      · rw [if_neg hz] at h
        exact ⟨m, by omega, hz, by omega⟩
theorem bl_un_o {nd : vg_F} {p q n t m : Nat} (hq : q ≠ p) (hn : n < 15) (hm : m ≤ 15) : vg_bl (vg_un nd (15 * p + n) t) q m = vg_bl nd q m :=
  bl_cg (fun i hi => un_n nd t (by omega))
theorem bl_un_i {nd : vg_F} {p n t m : Nat} (h0 : nd (15 * p + n) = 0) (ht : t ≠ 0) : vg_bl (vg_un nd (15 * p + n) t) p m = vg_bl nd p m + if n < m then 1 else 0 := by
  by_cases h : n < m
  · have := sm_one (f := fun i => if vg_un nd (15 * p + n) t (15 * p + i) = 0 then 0 else 1) (h := fun i => if nd (15 * p + i) = 0 then 0 else 1) h (fun i _ hi => by (try dsimp only); rw [un_n nd t (by omega)])
    (try dsimp only at this)
    rw [un_s, if_pos h0, if_neg ht] at this
    rw [if_pos h]
    unfold vg_bl
    omega
  · rw [if_neg h]
    exact bl_cg (fun i hi => un_n nd t (by omega))
theorem bl_un_d {nd : vg_F} {p n m : Nat} (h0 : nd (15 * p + n) ≠ 0) : vg_bl (vg_un nd (15 * p + n) 0) p m + (if n < m then 1 else 0) = vg_bl nd p m := by
  by_cases h : n < m
  · have := sm_one (f := fun i => if vg_un nd (15 * p + n) 0 (15 * p + i) = 0 then 0 else 1) (h := fun i => if nd (15 * p + i) = 0 then 0 else 1) h (fun i _ hi => by (try dsimp only); rw [un_n nd 0 (by omega)])
    (try dsimp only at this)
    rw [un_s, if_neg h0, if_pos rfl] at this
    rw [if_pos h]
    unfold vg_bl
    omega
  · rw [if_neg h]
    exact bl_cg (fun i hi => un_n nd 0 (by omega))
theorem dc_un_o {nd : vg_F} {p q n t o : Nat} (hq : q ≠ p) (hn : n < 15) : vg_dc (vg_un nd (15 * p + n) t) q o = vg_dc nd q o :=
  dc_cg (fun i hi => un_n nd t (by omega))
theorem dc_un {nd : vg_F} {p n t o : Nat} (hn : n < 15) : vg_dc (vg_un nd (15 * p + n) t) p o + (if nd (15 * p + n) = o then 1 else 0) = vg_dc nd p o + (if t = o then 1 else 0) := by
  have := sm_one (f := fun i => if vg_un nd (15 * p + n) t (15 * p + i) = o then 1 else 0) (h := fun i => if nd (15 * p + i) = o then 1 else 0) hn (fun i _ hi => by (try dsimp only); rw [un_n nd t (by omega)])
  (try dsimp only at this)
  rw [un_s] at this
  exact this
theorem dc_0 {nd : vg_F} {p o : Nat} (h : ∀ n, n < 15 → nd (15 * p + n) ≠ o) : vg_dc nd p o = 0 := by
  unfold vg_dc
  exact sm_zero (fun i hi => if_neg (h i hi))
theorem dc_1 {nd : vg_F} {p n o : Nat} (hn : n < 15) (h : nd (15 * p + n) = o) : 0 < vg_dc nd p o := by
  have := sm_mem (f := fun i => if nd (15 * p + i) = o then 1 else 0) hn
  (try dsimp only at this)
  rw [if_pos h] at this
  exact this
theorem dc_e {nd : vg_F} {p o : Nat} (h : 0 < vg_dc nd p o) : ∃ n, n < 15 ∧ nd (15 * p + n) = o := by
  obtain ⟨n, hn, h1⟩ := sm_pos h
  by_cases e : nd (15 * p + n) = o
  · exact ⟨n, hn, e⟩
  · (try dsimp only at h1)
    rw [if_neg e] at h1
    omega
theorem dc_15 {nd : vg_F} {p o : Nat} : vg_dc nd p o ≤ 15 := by
  have := sm_bd (f := fun n => if nd (15 * p + n) = o then 1 else 0) (c := 1) (k := 15) (fun i _ => by (try dsimp only); split <;> omega)
  unfold vg_dc
  omega
theorem en_150 {ki nd : vg_F} {o : Nat} : vg_en ki nd o ≤ 150 := by
  have := sm_bd (f := fun i => if ki (10 * (o / 10) + i) = 1 then vg_dc nd (10 * (o / 10) + i) o else 0) (c := 15) (k := 10) (fun i _ => by
    (try dsimp only)
    have := dc_15 (nd := nd) (p := 10 * (o / 10) + i) (o := o)
    split <;> omega)
  unfold vg_en
  omega
theorem en_cg {ki ki' nd nd' : vg_F} {o : Nat} (h : ∀ q, q / 10 = o / 10 → (if ki q = 1 then vg_dc nd q o else 0) = (if ki' q = 1 then vg_dc nd' q o else 0)) : vg_en ki nd o = vg_en ki' nd' o := by
  unfold vg_en
  exact sm_congr (fun i hi => h _ (by omega))
theorem en_un {ki nd : vg_F} {p n t o : Nat} (hn : n < 15) (hp : ki p = 1) (hd : p / 10 = o / 10) : vg_en ki (vg_un nd (15 * p + n) t) o + (if nd (15 * p + n) = o then 1 else 0) = vg_en ki nd o + (if t = o then 1 else 0) := by
  have e : 10 * (o / 10) + p % 10 = p := by omega
  have := sm_one (f := fun i => if ki (10 * (o / 10) + i) = 1 then vg_dc (vg_un nd (15 * p + n) t) (10 * (o / 10) + i) o else 0) (h := fun i => if ki (10 * (o / 10) + i) = 1 then vg_dc nd (10 * (o / 10) + i) o else 0) (j := p % 10) (k := 10) (by omega) (fun i _ hi => by
    (try dsimp only)
    rw [dc_un_o (by omega) hn])
  (try dsimp only at this)
  rw [e, if_pos hp, if_pos hp] at this
  have h2 := dc_un (nd := nd) (p := p) (t := t) (o := o) hn
  unfold vg_en
  omega
theorem en_un_o {ki nd : vg_F} {p n t o : Nat} (hn : n < 15) (hd : p / 10 ≠ o / 10) : vg_en ki (vg_un nd (15 * p + n) t) o = vg_en ki nd o :=
  en_cg (fun q hq => by rw [dc_un_o (by intro e; rw [e] at hq; exact hd hq) hn])
theorem en_0 {ki nd : vg_F} {o : Nat} (h : ∀ q, q / 10 = o / 10 → ki q = 1 → ∀ n, n < 15 → nd (15 * q + n) ≠ o) : vg_en ki nd o = 0 := by
  unfold vg_en
  refine sm_zero (fun i hi => ?_)
  by_cases hk : ki (10 * (o / 10) + i) = 1
  · rw [if_pos hk]; exact dc_0 (h _ (by omega) hk)
  · rw [if_neg hk]
theorem en_1 {ki nd : vg_F} {p n o : Nat} (hn : n < 15) (hp : ki p = 1) (hd : p / 10 = o / 10) (h : nd (15 * p + n) = o) : 0 < vg_en ki nd o := by
  have e : 10 * (o / 10) + p % 10 = p := by omega
  have := sm_mem (f := fun i => if ki (10 * (o / 10) + i) = 1 then vg_dc nd (10 * (o / 10) + i) o else 0) (j := p % 10) (k := 10) (by omega)
  (try dsimp only at this)
  rw [e, if_pos hp] at this
  have h2 := dc_1 hn h
  unfold vg_en
  omega
theorem en_e {ki nd : vg_F} {o : Nat} (h : 0 < vg_en ki nd o) : ∃ p n, p / 10 = o / 10 ∧ ki p = 1 ∧ n < 15 ∧ nd (15 * p + n) = o := by
  obtain ⟨i, hi, h1⟩ := sm_pos h
  (try dsimp only at h1)
  by_cases hk : ki (10 * (o / 10) + i) = 1
  · rw [if_pos hk] at h1
    obtain ⟨n, hn, e⟩ := dc_e h1
    exact ⟨10 * (o / 10) + i, n, by omega, hk, hn, e⟩
  · rw [if_neg hk] at h1; omega
/-- only one entry: two of them are the same -/
theorem en_uq {ki nd : vg_F} {p n q m o : Nat} (hz : o ≠ 0) (h : vg_en ki nd o ≤ 1) (hp : ki p = 1) (hn : n < 15) (hpd : p / 10 = o / 10) (e : nd (15 * p + n) = o) (hq : ki q = 1) (hm : m < 15) (hqd : q / 10 = o / 10) (e' : nd (15 * q + m) = o) : p = q ∧ n = m := by
  apply Classical.byContradiction
  intro hne
  have h1 := en_un (ki := ki) (nd := nd) (t := 0) (o := o) hn hp hpd
  rw [if_pos e, if_neg (fun z => hz z.symm)] at h1
  have h2 : 0 < vg_en ki (vg_un nd (15 * p + n) 0) o := en_1 hm hq hqd (by
    rw [un_n nd 0 (by
      intro z
      exact hne ⟨by omega, by omega⟩)]
    exact e')
  omega
theorem bk_cg {fm ki sz wp fm' ki' sz' wp' : vg_F} {y : Nat} (h1 : fm' (y / 10) = fm (y / 10)) (h2 : ki' y = ki y) (h3 : sz' y = sz y) (h4 : wp' y = wp y) : vg_bk fm' ki' sz' wp' y = vg_bk fm ki sz wp y := by
  unfold vg_bk
  rw [h1, h2, h3, h4]
theorem tk_cg {fm ki sz wp fm' ki' sz' wp' : vg_F} {d : Nat} (h : ∀ y, y / 10 = d → vg_bk fm' ki' sz' wp' y = vg_bk fm ki sz wp y) : vg_tk fm' ki' sz' wp' d = vg_tk fm ki sz wp d := by
  unfold vg_tk
  exact sm_congr (fun i hi => h _ (by omega))
theorem tk_one {fm ki sz wp fm' ki' sz' wp' : vg_F} {d x : Nat} (hx : x / 10 = d) (h : ∀ y, y / 10 = d → y ≠ x → vg_bk fm' ki' sz' wp' y = vg_bk fm ki sz wp y) : vg_tk fm' ki' sz' wp' d + vg_bk fm ki sz wp x = vg_tk fm ki sz wp d + vg_bk fm' ki' sz' wp' x := by
  have e : 10 * d + x % 10 = x := by omega
  have := sm_one (f := fun i => vg_bk fm' ki' sz' wp' (10 * d + i)) (h := fun i => vg_bk fm ki sz wp (10 * d + i)) (j := x % 10) (k := 10) (by omega) (fun i _ hi => h _ (by omega) (by omega))
  (try dsimp only at this)
  rw [e] at this
  exact this
theorem bk_50 {fm ki sz wp : vg_F} {o : Nat} (h : sz o ≤ 20) : vg_bk fm ki sz wp o ≤ 5 := by
  unfold vg_bk vg_bd
  have := on_le (wp o)
  split
  · split <;> omega
  · split
    · split <;> omega
    · omega
theorem tk_50 {fm ki sz wp : vg_F} {d : Nat} (h : ∀ o, sz o ≤ 20) : vg_tk fm ki sz wp d ≤ 50 := by
  have := sm_bd (f := fun i => vg_bk fm ki sz wp (10 * d + i)) (c := 5) (k := 10) (fun i _ => bk_50 (h _))
  unfold vg_tk
  omega
/-! what always holds -/
def iv_bd (g : vg_G) : Prop := (∀ j, g.fm j ≤ 2) ∧ (∀ j, g.ro j ≤ 1) ∧ (∀ j, g.de j ≤ 32) ∧ (∀ j, g.mo j < 42) ∧ g.tp ≤ 4 ∧ g.cu < 40 ∧ (∀ j, g.ki j ≤ 3) ∧ (∀ j, g.sz j ≤ 20) ∧ (∀ j, g.ef j ≤ 600) ∧ (∀ j, g.wp j < 32) ∧ (∀ j, g.nd j < 40) ∧ (∀ j, g.oF j < 40) ∧ (∀ j, g.oH j ≤ 3) ∧ (∀ j, g.po j ≤ 20) ∧ (∀ j, g.dr j ≤ 15) ∧ (∀ j, g.dl j ≤ 5)
def iv_rt (g : vg_G) : Prop := ∀ d, d < 4 → g.ki (10 * d) = 1 ∧ g.wp (10 * d) = 0 ∧ g.ef (10 * d) = 0
def iv_na (g : vg_G) : Prop := ∀ j, j < 600 → g.nd j ≠ 0 → g.nd j / 10 = j / 150 ∧ g.nd j % 10 ≠ 0
def iv_nb (g : vg_G) : Prop := ∀ p n, p < 40 → g.ki p = 1 → n < 15 → g.nd (15 * p + n) ≠ 0 → n ≠ 0 ∧ g.ki (g.nd (15 * p + n)) ≠ 0
def iv_cn (g : vg_G) : Prop := ∀ p, p < 40 → g.ki p = 1 → g.sz p = vg_bl g.nd p 15 ∧ g.sz p ≤ 6
def iv_tb (g : vg_G) : Prop := ∀ p n, p < 40 → g.ki p = 1 → g.fm (p / 10) = 0 → 1 ≤ n → n ≤ 7 → g.nd (15 * p + n) = 0 ∨ g.nd (15 * p + (n + 7)) = 0
def iv_ef (g : vg_G) : Prop := ∀ o, o < 40 → o % 10 ≠ 0 → g.ki o ≠ 0 → g.ef o = vg_en g.ki g.nd o
def iv_d1 (g : vg_G) (x : Nat) : Prop := ∀ o, o < 40 → o % 10 ≠ 0 → g.ki o = 1 → o ≠ x → g.ef o = 1
def iv_rk (g : vg_G) : Prop := ∃ rk : Nat → Nat, ∀ p n, p < 40 → g.ki p = 1 → n < 15 → g.nd (15 * p + n) ≠ 0 → g.ki (g.nd (15 * p + n)) = 1 → rk p < rk (g.nd (15 * p + n))
def iv_fl (g : vg_G) : Prop := ∀ o, o < 40 → g.ki o = 2 → g.wp o < 2 ^ ((g.sz o + 3) / 4)
def iv_lk (g : vg_G) : Prop := ∀ o, o < 40 → g.ki o = 3 → g.sz o ≤ 5 ∧ ∀ i, i < g.sz o → ∃ s, s ≤ 15 ∧ g.hd (20 * o + i) = nI s ∧ (s = 0 → i = 0)
def iv_dr (g : vg_G) : Prop := ∀ p i, p < 2 → i < g.dl p → g.dr (5 * p + i) = 0 → i = 0
def iv_hn (g : vg_G) : Prop := ∀ h, h < 5 → g.oF h ≠ 0 → g.oF h % 10 ≠ 0 ∧ g.ki (g.oF h) = 2 ∧ g.mo (g.oF h / 10) ≠ 0
def iv_bk (g : vg_G) : Prop := ∀ d, d < 4 → g.de d + vg_tk g.fm g.ki g.sz g.wp d ≤ 32
def iv_ma (g : vg_G) : Prop := (∀ d, d < 4 → (g.mo d = 1 ↔ g.tp = d + 1)) ∧ (∀ d, d < 4 → 2 ≤ g.mo d → (g.mo d - 2) % 10 ≠ 0 ∧ g.ki (g.mo d - 2) = 1 ∧ g.mo ((g.mo d - 2) / 10) ≠ 0) ∧ (∀ d e, d < 4 → e < 4 → 2 ≤ g.mo d → g.mo d = g.mo e → d = e)
def iv_mb (g : vg_G) : Prop := g.ki g.cu = 1 ∧ (g.tp = 0 → g.cu % 10 = 0 ∧ ∀ d, d < 4 → g.mo d = 0) ∧ (g.tp ≠ 0 → g.mo (g.cu / 10) ≠ 0) ∧ ∃ rk : Nat → Nat, ∀ d, d < 4 → 2 ≤ g.mo d → rk ((g.mo d - 2) / 10) < rk d
/-- everything, but that a directory x may want its one entry -/
def iv_X (g : vg_G) (x : Nat) : Prop := iv_bd g ∧ iv_rt g ∧ iv_na g ∧ iv_nb g ∧ iv_cn g ∧ iv_tb g ∧ iv_ef g ∧ iv_d1 g x ∧ iv_rk g ∧ iv_fl g ∧ iv_lk g ∧ iv_dr g ∧ iv_hn g ∧ iv_bk g ∧ iv_ma g ∧ iv_mb g
def iv_I (g : vg_G) : Prop := iv_X g 0
end VI3
