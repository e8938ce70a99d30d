section VG2
/-! sums -/
def vg_sm (f : Nat → Nat) : Nat → Nat
  | 0 => 0
  | k + 1 => vg_sm f k + f k
theorem sm_s (f : Nat → Nat) (k : Nat) : vg_sm f (k + 1) = vg_sm f k + f k := rfl
theorem sm_congr {f h : Nat → Nat} : ∀ {k : Nat}, (∀ i, i < k → f i = h i) → vg_sm f k = vg_sm h k := by
  intro k
  induction k with
  | zero => intro _; rfl
  | succ k ih => intro e; rw [sm_s, sm_s, ih (fun i hi => e i (by omega)), e k (by omega)]
theorem sm_le {f h : Nat → Nat} : ∀ {k : Nat}, (∀ i, i < k → f i ≤ h i) → vg_sm f k ≤ vg_sm h k := by
  intro k
  induction k with
  | zero => intro _; exact Nat.le_refl _
  | succ k ih => intro e; rw [sm_s, sm_s]; have := ih (fun i hi => e i (by omega)); have := e k (by omega); omega
theorem sm_one {f h : Nat → Nat} {j : Nat} : ∀ {k : Nat}, j < k → (∀ i, i < k → i ≠ j → f i = h i) → vg_sm f k + h j = vg_sm h k + f j := by
  intro k
  induction k with
  | zero => intro hj; omega
  | succ k ih =>
    intro hj e
    rw [sm_s, sm_s]
    by_cases hk : j = k
    · subst hk
      rw [sm_congr (f := f) (h := h) (k := j) (fun i hi => e i (by omega) (by omega))]
      omega
    · have := ih (by omega) (fun i hi hn => e i (by omega) hn)
      have := e k (by omega) (by omega)
      omega
theorem sm_zero {f : Nat → Nat} : ∀ {k : Nat}, (∀ i, i < k → f i = 0) → vg_sm f k = 0 := by
  intro k
  induction k with
  | zero => intro _; rfl
  | succ k ih => intro e; rw [sm_s, ih (fun i hi => e i (by omega)), e k (by omega)]
theorem sm_mem {f : Nat → Nat} {j : Nat} : ∀ {k : Nat}, j < k → f j ≤ vg_sm f k := by
  intro k
  induction k with
  | zero => intro hj; omega
  | succ k ih =>
    intro hj
    rw [sm_s]
    by_cases hk : j = k
    · subst hk; omega
    · have := ih (by omega); omega
theorem sm_two {f : Nat → Nat} {i j : Nat} : ∀ {k : Nat}, i < j → j < k → f i + f j ≤ vg_sm f k := by
  intro k
  induction k with
  | zero => intro _ hj; omega
  | succ k ih =>
    intro hi hj
    rw [sm_s]
    by_cases hk : j = k
    · subst hk; have := sm_mem (f := f) hi; omega
    · have := ih hi (by omega); omega
theorem sm_pos {f : Nat → Nat} : ∀ {k : Nat}, 0 < vg_sm f k → ∃ i, i < k ∧ 0 < f i := by
  intro k
  induction k with
  | zero => intro h; exact absurd h (Nat.lt_irrefl 0)
  | succ k ih =>
    intro h
    rw [sm_s] at h
    by_cases hk : 0 < f k
    · exact ⟨k, by omega, hk⟩
    · obtain ⟨i, hi, h'⟩ := ih (by omega)
      exact ⟨i, by omega, h'⟩
theorem sm_bd {f : Nat → Nat} {c : Nat} : ∀ {k : Nat}, (∀ i, i < k → f i ≤ c) → vg_sm f k ≤ c * k := by
  intro k
  induction k with
  | zero => intro _; exact Nat.le_refl _
  | succ k ih => intro e; rw [sm_s, Nat.mul_succ]; have := ih (fun i hi => e i (by omega)); have := e k (by omega); omega
theorem sm_add {f : Nat → Nat} {a : Nat} : ∀ {b : Nat}, vg_sm f (a + b) = vg_sm f a + vg_sm (fun i => f (a + i)) b := by
  intro b
  induction b with
  | zero => rfl
  | succ b ih => rw [← Nat.add_assoc, sm_s, sm_s, ih]; omega
theorem sm_mono {f : Nat → Nat} {a b : Nat} (h : a ≤ b) : vg_sm f a ≤ vg_sm f b := by
  obtain ⟨c, rfl⟩ : ∃ c, b = a + c := ⟨b - a, by omega⟩
  rw [sm_add]; omega
/-! the ghost -/
abbrev vg_F : Type := Nat → Nat
abbrev vg_G : Type := vg_F × vg_F × vg_F × vg_F × Nat × Nat × vg_F × vg_F × vg_F × vg_F × (Nat → Int32) × vg_F × vg_F × vg_F × vg_F × vg_F × vg_F
def vg_G.fm (g : vg_G) : vg_F := g.1
def vg_G.ro (g : vg_G) : vg_F := g.2.1
def vg_G.de (g : vg_G) : vg_F := g.2.2.1
def vg_G.mo (g : vg_G) : vg_F := g.2.2.2.1
def vg_G.tp (g : vg_G) : Nat := g.2.2.2.2.1
def vg_G.cu (g : vg_G) : Nat := g.2.2.2.2.2.1
def vg_G.ki (g : vg_G) : vg_F := g.2.2.2.2.2.2.1
def vg_G.sz (g : vg_G) : vg_F := g.2.2.2.2.2.2.2.1
def vg_G.ef (g : vg_G) : vg_F := g.2.2.2.2.2.2.2.2.1
def vg_G.wp (g : vg_G) : vg_F := g.2.2.2.2.2.2.2.2.2.1
def vg_G.hd (g : vg_G) : Nat → Int32 := g.2.2.2.2.2.2.2.2.2.2.1
def vg_G.nd (g : vg_G) : vg_F := g.2.2.2.2.2.2.2.2.2.2.2.1
def vg_G.oF (g : vg_G) : vg_F := g.2.2.2.2.2.2.2.2.2.2.2.2.1
def vg_G.oH (g : vg_G) : vg_F := g.2.2.2.2.2.2.2.2.2.2.2.2.2.1
def vg_G.po (g : vg_G) : vg_F := g.2.2.2.2.2.2.2.2.2.2.2.2.2.2.1
def vg_G.dr (g : vg_G) : vg_F := g.2.2.2.2.2.2.2.2.2.2.2.2.2.2.2.1
def vg_G.dl (g : vg_G) : vg_F := g.2.2.2.2.2.2.2.2.2.2.2.2.2.2.2.2
def vg_un (f : vg_F) (k x : Nat) : vg_F := fun j => if j = k then x else f j
theorem un_ap (f : vg_F) (k x j : Nat) : vg_un f k x j = if j = k then x else f j := rfl
theorem un_s (f : vg_F) (k x : Nat) : vg_un f k x k = x := if_pos rfl
theorem un_n (f : vg_F) {k j : Nat} (x : Nat) (h : j ≠ k) : vg_un f k x j = f j := if_neg h
theorem un_id {f : vg_F} {k x : Nat} (h : f k = x) : vg_un f k x = f := by
  funext j; rw [un_ap]; split
  · rename_i e; rw [e, h]
  · rfl
theorem un_un {f : vg_F} {k x y : Nat} : vg_un (vg_un f k x) k y = vg_un f k y := by
  funext j; simp only [un_ap]; split <;> rfl
def vg_on (x : Nat) : Nat := x % 2 + x / 2 % 2 + x / 4 % 2 + x / 8 % 2 + x / 16 % 2
theorem on_le (x : Nat) : vg_on x ≤ 5 := by unfold vg_on; omega
def vg_cv (f : vg_F) : Nat → Int32 := fun j => nI (f j)
theorem cv_ap (f : vg_F) (j : Nat) : vg_cv f j = nI (f j) := rfl
theorem cv_up (f : vg_F) (k x : Nat) : upd (vg_cv f) k (nI x) = vg_cv (vg_un f k x) := by
  funext j; unfold upd vg_cv vg_un; split <;> rfl
def vg_tv (t : Nat) : Int32 := nI t - 1
def vg_mv (m : Nat) : Int32 := nI m - 2
def vg_cm (f : vg_F) : Nat → Int32 := fun j => vg_mv (f j)
def vg_beg (g : vg_G) (o k : Nat) : vg_G := (g.fm, g.ro, g.de, g.mo, g.tp, g.cu, vg_un g.ki o k, vg_un g.sz o 0, vg_un g.ef o 0, vg_un g.wp o 0, g.hd, fun j => if 15 * o ≤ j ∧ j < 15 * o + 15 then 0 else g.nd j, g.oF, g.oH, g.po, g.dr, g.dl)
theorem beg_fm (g : vg_G) (o k : Nat) : (vg_beg g o k).fm = g.fm := rfl
theorem beg_ro (g : vg_G) (o k : Nat) : (vg_beg g o k).ro = g.ro := rfl
theorem beg_de (g : vg_G) (o k : Nat) : (vg_beg g o k).de = g.de := rfl
theorem beg_mo (g : vg_G) (o k : Nat) : (vg_beg g o k).mo = g.mo := rfl
theorem beg_tp (g : vg_G) (o k : Nat) : (vg_beg g o k).tp = g.tp := rfl
theorem beg_cu (g : vg_G) (o k : Nat) : (vg_beg g o k).cu = g.cu := rfl
theorem beg_ki (g : vg_G) (o k : Nat) : (vg_beg g o k).ki = (vg_un g.ki o k) := rfl
theorem beg_sz (g : vg_G) (o k : Nat) : (vg_beg g o k).sz = (vg_un g.sz o 0) := rfl
theorem beg_ef (g : vg_G) (o k : Nat) : (vg_beg g o k).ef = (vg_un g.ef o 0) := rfl
theorem beg_wp (g : vg_G) (o k : Nat) : (vg_beg g o k).wp = (vg_un g.wp o 0) := rfl
theorem beg_hd (g : vg_G) (o k : Nat) : (vg_beg g o k).hd = g.hd := rfl
theorem beg_nd (g : vg_G) (o k : Nat) : (vg_beg g o k).nd = (fun j => if 15 * o ≤ j ∧ j < 15 * o + 15 then 0 else g.nd j) := rfl
theorem beg_oF (g : vg_G) (o k : Nat) : (vg_beg g o k).oF = g.oF := rfl
theorem beg_oH (g : vg_G) (o k : Nat) : (vg_beg g o k).oH = g.oH := rfl
theorem beg_po (g : vg_G) (o k : Nat) : (vg_beg g o k).po = g.po := rfl
theorem beg_dr (g : vg_G) (o k : Nat) : (vg_beg g o k).dr = g.dr := rfl
theorem beg_dl (g : vg_G) (o k : Nat) : (vg_beg g o k).dl = g.dl := rfl
def vg_put (g : vg_G) (p n t : Nat) : vg_G := (g.fm, g.ro, g.de, g.mo, g.tp, g.cu, g.ki, vg_un g.sz p (g.sz p + 1), g.ef, g.wp, g.hd, vg_un g.nd (15 * p + n) t, g.oF, g.oH, g.po, g.dr, g.dl)
theorem put_fm (g : vg_G) (p n t : Nat) : (vg_put g p n t).fm = g.fm := rfl
theorem put_ro (g : vg_G) (p n t : Nat) : (vg_put g p n t).ro = g.ro := rfl
theorem put_de (g : vg_G) (p n t : Nat) : (vg_put g p n t).de = g.de := rfl
theorem put_mo (g : vg_G) (p n t : Nat) : (vg_put g p n t).mo = g.mo := rfl
theorem put_tp (g : vg_G) (p n t : Nat) : (vg_put g p n t).tp = g.tp := rfl
theorem put_cu (g : vg_G) (p n t : Nat) : (vg_put g p n t).cu = g.cu := rfl
theorem put_ki (g : vg_G) (p n t : Nat) : (vg_put g p n t).ki = g.ki := rfl
theorem put_sz (g : vg_G) (p n t : Nat) : (vg_put g p n t).sz = (vg_un g.sz p (g.sz p + 1)) := rfl
theorem put_ef (g : vg_G) (p n t : Nat) : (vg_put g p n t).ef = g.ef := rfl
theorem put_wp (g : vg_G) (p n t : Nat) : (vg_put g p n t).wp = g.wp := rfl
theorem put_hd (g : vg_G) (p n t : Nat) : (vg_put g p n t).hd = g.hd := rfl
theorem put_nd (g : vg_G) (p n t : Nat) : (vg_put g p n t).nd = (vg_un g.nd (15 * p + n) t) := rfl
theorem put_oF (g : vg_G) (p n t : Nat) : (vg_put g p n t).oF = g.oF := rfl
theorem put_oH (g : vg_G) (p n t : Nat) : (vg_put g p n t).oH = g.oH := rfl
theorem put_po (g : vg_G) (p n t : Nat) : (vg_put g p n t).po = g.po := rfl
theorem put_dr (g : vg_G) (p n t : Nat) : (vg_put g p n t).dr = g.dr := rfl
theorem put_dl (g : vg_G) (p n t : Nat) : (vg_put g p n t).dl = g.dl := rfl
def vg_inc (g : vg_G) (t : Nat) : vg_G := (g.fm, g.ro, g.de, g.mo, g.tp, g.cu, g.ki, g.sz, vg_un g.ef t (g.ef t + 1), g.wp, g.hd, g.nd, g.oF, g.oH, g.po, g.dr, g.dl)
theorem inc_fm (g : vg_G) (t : Nat) : (vg_inc g t).fm = g.fm := rfl
theorem inc_ro (g : vg_G) (t : Nat) : (vg_inc g t).ro = g.ro := rfl
theorem inc_de (g : vg_G) (t : Nat) : (vg_inc g t).de = g.de := rfl
theorem inc_mo (g : vg_G) (t : Nat) : (vg_inc g t).mo = g.mo := rfl
theorem inc_tp (g : vg_G) (t : Nat) : (vg_inc g t).tp = g.tp := rfl
theorem inc_cu (g : vg_G) (t : Nat) : (vg_inc g t).cu = g.cu := rfl
theorem inc_ki (g : vg_G) (t : Nat) : (vg_inc g t).ki = g.ki := rfl
theorem inc_sz (g : vg_G) (t : Nat) : (vg_inc g t).sz = g.sz := rfl
theorem inc_ef (g : vg_G) (t : Nat) : (vg_inc g t).ef = (vg_un g.ef t (g.ef t + 1)) := rfl
theorem inc_wp (g : vg_G) (t : Nat) : (vg_inc g t).wp = g.wp := rfl
theorem inc_hd (g : vg_G) (t : Nat) : (vg_inc g t).hd = g.hd := rfl
theorem inc_nd (g : vg_G) (t : Nat) : (vg_inc g t).nd = g.nd := rfl
theorem inc_oF (g : vg_G) (t : Nat) : (vg_inc g t).oF = g.oF := rfl
theorem inc_oH (g : vg_G) (t : Nat) : (vg_inc g t).oH = g.oH := rfl
theorem inc_po (g : vg_G) (t : Nat) : (vg_inc g t).po = g.po := rfl
theorem inc_dr (g : vg_G) (t : Nat) : (vg_inc g t).dr = g.dr := rfl
theorem inc_dl (g : vg_G) (t : Nat) : (vg_inc g t).dl = g.dl := rfl
def vg_rem (g : vg_G) (p n : Nat) : vg_G := (g.fm, g.ro, g.de, g.mo, g.tp, g.cu, g.ki, vg_un g.sz p (g.sz p - 1), g.ef, g.wp, g.hd, vg_un g.nd (15 * p + n) 0, g.oF, g.oH, g.po, g.dr, g.dl)
theorem rem_fm (g : vg_G) (p n : Nat) : (vg_rem g p n).fm = g.fm := rfl
theorem rem_ro (g : vg_G) (p n : Nat) : (vg_rem g p n).ro = g.ro := rfl
theorem rem_de (g : vg_G) (p n : Nat) : (vg_rem g p n).de = g.de := rfl
theorem rem_mo (g : vg_G) (p n : Nat) : (vg_rem g p n).mo = g.mo := rfl
theorem rem_tp (g : vg_G) (p n : Nat) : (vg_rem g p n).tp = g.tp := rfl
theorem rem_cu (g : vg_G) (p n : Nat) : (vg_rem g p n).cu = g.cu := rfl
theorem rem_ki (g : vg_G) (p n : Nat) : (vg_rem g p n).ki = g.ki := rfl
theorem rem_sz (g : vg_G) (p n : Nat) : (vg_rem g p n).sz = (vg_un g.sz p (g.sz p - 1)) := rfl
theorem rem_ef (g : vg_G) (p n : Nat) : (vg_rem g p n).ef = g.ef := rfl
theorem rem_wp (g : vg_G) (p n : Nat) : (vg_rem g p n).wp = g.wp := rfl
theorem rem_hd (g : vg_G) (p n : Nat) : (vg_rem g p n).hd = g.hd := rfl
theorem rem_nd (g : vg_G) (p n : Nat) : (vg_rem g p n).nd = (vg_un g.nd (15 * p + n) 0) := rfl
theorem rem_oF (g : vg_G) (p n : Nat) : (vg_rem g p n).oF = g.oF := rfl
theorem rem_oH (g : vg_G) (p n : Nat) : (vg_rem g p n).oH = g.oH := rfl
theorem rem_po (g : vg_G) (p n : Nat) : (vg_rem g p n).po = g.po := rfl
theorem rem_dr (g : vg_G) (p n : Nat) : (vg_rem g p n).dr = g.dr := rfl
theorem rem_dl (g : vg_G) (p n : Nat) : (vg_rem g p n).dl = g.dl := rfl
def vg_dec (g : vg_G) (t : Nat) : vg_G := (g.fm, g.ro, g.de, g.mo, g.tp, g.cu, g.ki, g.sz, vg_un g.ef t (g.ef t - 1), g.wp, g.hd, g.nd, g.oF, g.oH, g.po, g.dr, g.dl)
theorem dec_fm (g : vg_G) (t : Nat) : (vg_dec g t).fm = g.fm := rfl
theorem dec_ro (g : vg_G) (t : Nat) : (vg_dec g t).ro = g.ro := rfl
theorem dec_de (g : vg_G) (t : Nat) : (vg_dec g t).de = g.de := rfl
theorem dec_mo (g : vg_G) (t : Nat) : (vg_dec g t).mo = g.mo := rfl
theorem dec_tp (g : vg_G) (t : Nat) : (vg_dec g t).tp = g.tp := rfl
theorem dec_cu (g : vg_G) (t : Nat) : (vg_dec g t).cu = g.cu := rfl
theorem dec_ki (g : vg_G) (t : Nat) : (vg_dec g t).ki = g.ki := rfl
theorem dec_sz (g : vg_G) (t : Nat) : (vg_dec g t).sz = g.sz := rfl
theorem dec_ef (g : vg_G) (t : Nat) : (vg_dec g t).ef = (vg_un g.ef t (g.ef t - 1)) := rfl
theorem dec_wp (g : vg_G) (t : Nat) : (vg_dec g t).wp = g.wp := rfl
theorem dec_hd (g : vg_G) (t : Nat) : (vg_dec g t).hd = g.hd := rfl
theorem dec_nd (g : vg_G) (t : Nat) : (vg_dec g t).nd = g.nd := rfl
theorem dec_oF (g : vg_G) (t : Nat) : (vg_dec g t).oF = g.oF := rfl
theorem dec_oH (g : vg_G) (t : Nat) : (vg_dec g t).oH = g.oH := rfl
theorem dec_po (g : vg_G) (t : Nat) : (vg_dec g t).po = g.po := rfl
theorem dec_dr (g : vg_G) (t : Nat) : (vg_dec g t).dr = g.dr := rfl
theorem dec_dl (g : vg_G) (t : Nat) : (vg_dec g t).dl = g.dl := rfl
def vg_ssz (g : vg_G) (o n : Nat) : vg_G := (g.fm, g.ro, if g.fm (o / 10) = 2 then vg_un g.de (o / 10) (g.de (o / 10) + (vg_on (g.wp o) - vg_on (g.wp o % 2 ^ ((n + 3) / 4)))) else g.de, g.mo, g.tp, g.cu, g.ki, vg_un g.sz o n, g.ef, vg_un g.wp o (g.wp o % 2 ^ ((n + 3) / 4)), fun j => if 20 * o + g.sz o ≤ j ∧ j < 20 * o + n then 0 else g.hd j, g.nd, g.oF, g.oH, g.po, g.dr, g.dl)
theorem ssz_fm (g : vg_G) (o n : Nat) : (vg_ssz g o n).fm = g.fm := rfl
theorem ssz_ro (g : vg_G) (o n : Nat) : (vg_ssz g o n).ro = g.ro := rfl
theorem ssz_de (g : vg_G) (o n : Nat) : (vg_ssz g o n).de = (if g.fm (o / 10) = 2 then vg_un g.de (o / 10) (g.de (o / 10) + (vg_on (g.wp o) - vg_on (g.wp o % 2 ^ ((n + 3) / 4)))) else g.de) := rfl
theorem ssz_mo (g : vg_G) (o n : Nat) : (vg_ssz g o n).mo = g.mo := rfl
theorem ssz_tp (g : vg_G) (o n : Nat) : (vg_ssz g o n).tp = g.tp := rfl
theorem ssz_cu (g : vg_G) (o n : Nat) : (vg_ssz g o n).cu = g.cu := rfl
theorem ssz_ki (g : vg_G) (o n : Nat) : (vg_ssz g o n).ki = g.ki := rfl
theorem ssz_sz (g : vg_G) (o n : Nat) : (vg_ssz g o n).sz = (vg_un g.sz o n) := rfl
theorem ssz_ef (g : vg_G) (o n : Nat) : (vg_ssz g o n).ef = g.ef := rfl
theorem ssz_wp (g : vg_G) (o n : Nat) : (vg_ssz g o n).wp = (vg_un g.wp o (g.wp o % 2 ^ ((n + 3) / 4))) := rfl
theorem ssz_hd (g : vg_G) (o n : Nat) : (vg_ssz g o n).hd = (fun j => if 20 * o + g.sz o ≤ j ∧ j < 20 * o + n then 0 else g.hd j) := rfl
theorem ssz_nd (g : vg_G) (o n : Nat) : (vg_ssz g o n).nd = g.nd := rfl
theorem ssz_oF (g : vg_G) (o n : Nat) : (vg_ssz g o n).oF = g.oF := rfl
theorem ssz_oH (g : vg_G) (o n : Nat) : (vg_ssz g o n).oH = g.oH := rfl
theorem ssz_po (g : vg_G) (o n : Nat) : (vg_ssz g o n).po = g.po := rfl
theorem ssz_dr (g : vg_G) (o n : Nat) : (vg_ssz g o n).dr = g.dr := rfl
theorem ssz_dl (g : vg_G) (o n : Nat) : (vg_ssz g o n).dl = g.dl := rfl
def vg_kil (g : vg_G) (o : Nat) : vg_G := (g.fm, g.ro, g.de, g.mo, g.tp, g.cu, vg_un g.ki o 0, g.sz, g.ef, g.wp, g.hd, g.nd, g.oF, g.oH, g.po, g.dr, g.dl)
theorem kil_fm (g : vg_G) (o : Nat) : (vg_kil g o).fm = g.fm := rfl
theorem kil_ro (g : vg_G) (o : Nat) : (vg_kil g o).ro = g.ro := rfl
theorem kil_de (g : vg_G) (o : Nat) : (vg_kil g o).de = g.de := rfl
theorem kil_mo (g : vg_G) (o : Nat) : (vg_kil g o).mo = g.mo := rfl
theorem kil_tp (g : vg_G) (o : Nat) : (vg_kil g o).tp = g.tp := rfl
theorem kil_cu (g : vg_G) (o : Nat) : (vg_kil g o).cu = g.cu := rfl
theorem kil_ki (g : vg_G) (o : Nat) : (vg_kil g o).ki = (vg_un g.ki o 0) := rfl
theorem kil_sz (g : vg_G) (o : Nat) : (vg_kil g o).sz = g.sz := rfl
theorem kil_ef (g : vg_G) (o : Nat) : (vg_kil g o).ef = g.ef := rfl
theorem kil_wp (g : vg_G) (o : Nat) : (vg_kil g o).wp = g.wp := rfl
theorem kil_hd (g : vg_G) (o : Nat) : (vg_kil g o).hd = g.hd := rfl
theorem kil_nd (g : vg_G) (o : Nat) : (vg_kil g o).nd = g.nd := rfl
theorem kil_oF (g : vg_G) (o : Nat) : (vg_kil g o).oF = g.oF := rfl
theorem kil_oH (g : vg_G) (o : Nat) : (vg_kil g o).oH = g.oH := rfl
theorem kil_po (g : vg_G) (o : Nat) : (vg_kil g o).po = g.po := rfl
theorem kil_dr (g : vg_G) (o : Nat) : (vg_kil g o).dr = g.dr := rfl
theorem kil_dl (g : vg_G) (o : Nat) : (vg_kil g o).dl = g.dl := rfl
def vg_clr (g : vg_G) (d f : Nat) : vg_G := (vg_un g.fm d f, vg_un g.ro d 0, vg_un g.de d 0, g.mo, g.tp, g.cu, fun j => if 10 * d ≤ j ∧ j < 10 * d + 10 then (if j = 10 * d then 1 else 0) else g.ki j, vg_un g.sz (10 * d) 0, vg_un g.ef (10 * d) 0, vg_un g.wp (10 * d) 0, g.hd, fun j => if 150 * d ≤ j ∧ j < 150 * d + 15 then 0 else g.nd j, g.oF, g.oH, g.po, g.dr, g.dl)
theorem clr_fm (g : vg_G) (d f : Nat) : (vg_clr g d f).fm = (vg_un g.fm d f) := rfl
theorem clr_ro (g : vg_G) (d f : Nat) : (vg_clr g d f).ro = (vg_un g.ro d 0) := rfl
theorem clr_de (g : vg_G) (d f : Nat) : (vg_clr g d f).de = (vg_un g.de d 0) := rfl
theorem clr_mo (g : vg_G) (d f : Nat) : (vg_clr g d f).mo = g.mo := rfl
theorem clr_tp (g : vg_G) (d f : Nat) : (vg_clr g d f).tp = g.tp := rfl
theorem clr_cu (g : vg_G) (d f : Nat) : (vg_clr g d f).cu = g.cu := rfl
theorem clr_ki (g : vg_G) (d f : Nat) : (vg_clr g d f).ki = (fun j => if 10 * d ≤ j ∧ j < 10 * d + 10 then (if j = 10 * d then 1 else 0) else g.ki j) := rfl
theorem clr_sz (g : vg_G) (d f : Nat) : (vg_clr g d f).sz = (vg_un g.sz (10 * d) 0) := rfl
theorem clr_ef (g : vg_G) (d f : Nat) : (vg_clr g d f).ef = (vg_un g.ef (10 * d) 0) := rfl
theorem clr_wp (g : vg_G) (d f : Nat) : (vg_clr g d f).wp = (vg_un g.wp (10 * d) 0) := rfl
theorem clr_hd (g : vg_G) (d f : Nat) : (vg_clr g d f).hd = g.hd := rfl
theorem clr_nd (g : vg_G) (d f : Nat) : (vg_clr g d f).nd = (fun j => if 150 * d ≤ j ∧ j < 150 * d + 15 then 0 else g.nd j) := rfl
theorem clr_oF (g : vg_G) (d f : Nat) : (vg_clr g d f).oF = g.oF := rfl
theorem clr_oH (g : vg_G) (d f : Nat) : (vg_clr g d f).oH = g.oH := rfl
theorem clr_po (g : vg_G) (d f : Nat) : (vg_clr g d f).po = g.po := rfl
theorem clr_dr (g : vg_G) (d f : Nat) : (vg_clr g d f).dr = g.dr := rfl
theorem clr_dl (g : vg_G) (d f : Nat) : (vg_clr g d f).dl = g.dl := rfl
def vg_pck (g : vg_G) (a b i : Nat) : vg_G := (vg_un g.fm b (g.fm a), vg_un g.ro b 1, vg_un g.de b 0, g.mo, g.tp, g.cu, fun j => if 10 * b ≤ j ∧ j < 10 * b + i then g.ki (j - 10 * b + 10 * a) else g.ki j, fun j => if 10 * b ≤ j ∧ j < 10 * b + i then g.sz (j - 10 * b + 10 * a) else g.sz j, fun j => if 10 * b ≤ j ∧ j < 10 * b + i then g.ef (j - 10 * b + 10 * a) else g.ef j, fun j => if 10 * b ≤ j ∧ j < 10 * b + i then g.wp (j - 10 * b + 10 * a) else g.wp j, fun j => if 200 * b ≤ j ∧ j < 200 * b + 20 * i then g.hd (j - 200 * b + 200 * a) else g.hd j, fun j => if 150 * b ≤ j ∧ j < 150 * b + 15 * i then (if g.nd (j - 150 * b + 150 * a) = 0 then 0 else g.nd (j - 150 * b + 150 * a) + 10 * b - 10 * a) else g.nd j, g.oF, g.oH, g.po, g.dr, g.dl)
theorem pck_fm (g : vg_G) (a b i : Nat) : (vg_pck g a b i).fm = (vg_un g.fm b (g.fm a)) := rfl
theorem pck_ro (g : vg_G) (a b i : Nat) : (vg_pck g a b i).ro = (vg_un g.ro b 1) := rfl
theorem pck_de (g : vg_G) (a b i : Nat) : (vg_pck g a b i).de = (vg_un g.de b 0) := rfl
theorem pck_mo (g : vg_G) (a b i : Nat) : (vg_pck g a b i).mo = g.mo := rfl
theorem pck_tp (g : vg_G) (a b i : Nat) : (vg_pck g a b i).tp = g.tp := rfl
theorem pck_cu (g : vg_G) (a b i : Nat) : (vg_pck g a b i).cu = g.cu := rfl
theorem pck_ki (g : vg_G) (a b i : Nat) : (vg_pck g a b i).ki = (fun j => if 10 * b ≤ j ∧ j < 10 * b + i then g.ki (j - 10 * b + 10 * a) else g.ki j) := rfl
theorem pck_sz (g : vg_G) (a b i : Nat) : (vg_pck g a b i).sz = (fun j => if 10 * b ≤ j ∧ j < 10 * b + i then g.sz (j - 10 * b + 10 * a) else g.sz j) := rfl
theorem pck_ef (g : vg_G) (a b i : Nat) : (vg_pck g a b i).ef = (fun j => if 10 * b ≤ j ∧ j < 10 * b + i then g.ef (j - 10 * b + 10 * a) else g.ef j) := rfl
theorem pck_wp (g : vg_G) (a b i : Nat) : (vg_pck g a b i).wp = (fun j => if 10 * b ≤ j ∧ j < 10 * b + i then g.wp (j - 10 * b + 10 * a) else g.wp j) := rfl
theorem pck_hd (g : vg_G) (a b i : Nat) : (vg_pck g a b i).hd = (fun j => if 200 * b ≤ j ∧ j < 200 * b + 20 * i then g.hd (j - 200 * b + 200 * a) else g.hd j) := rfl
theorem pck_nd (g : vg_G) (a b i : Nat) : (vg_pck g a b i).nd = (fun j => if 150 * b ≤ j ∧ j < 150 * b + 15 * i then (if g.nd (j - 150 * b + 150 * a) = 0 then 0 else g.nd (j - 150 * b + 150 * a) + 10 * b - 10 * a) else g.nd j) := rfl
theorem pck_oF (g : vg_G) (a b i : Nat) : (vg_pck g a b i).oF = g.oF := rfl
theorem pck_oH (g : vg_G) (a b i : Nat) : (vg_pck g a b i).oH = g.oH := rfl
theorem pck_po (g : vg_G) (a b i : Nat) : (vg_pck g a b i).po = g.po := rfl
theorem pck_dr (g : vg_G) (a b i : Nat) : (vg_pck g a b i).dr = g.dr := rfl
theorem pck_dl (g : vg_G) (a b i : Nat) : (vg_pck g a b i).dl = g.dl := rfl
def vg_hnp (g : vg_G) (f w q : vg_F) : vg_G := (g.fm, g.ro, g.de, g.mo, g.tp, g.cu, g.ki, g.sz, g.ef, g.wp, g.hd, g.nd, f, w, q, g.dr, g.dl)
theorem hnp_fm (g : vg_G) (f w q : vg_F) : (vg_hnp g f w q).fm = g.fm := rfl
theorem hnp_ro (g : vg_G) (f w q : vg_F) : (vg_hnp g f w q).ro = g.ro := rfl
theorem hnp_de (g : vg_G) (f w q : vg_F) : (vg_hnp g f w q).de = g.de := rfl
theorem hnp_mo (g : vg_G) (f w q : vg_F) : (vg_hnp g f w q).mo = g.mo := rfl
theorem hnp_tp (g : vg_G) (f w q : vg_F) : (vg_hnp g f w q).tp = g.tp := rfl
theorem hnp_cu (g : vg_G) (f w q : vg_F) : (vg_hnp g f w q).cu = g.cu := rfl
theorem hnp_ki (g : vg_G) (f w q : vg_F) : (vg_hnp g f w q).ki = g.ki := rfl
theorem hnp_sz (g : vg_G) (f w q : vg_F) : (vg_hnp g f w q).sz = g.sz := rfl
theorem hnp_ef (g : vg_G) (f w q : vg_F) : (vg_hnp g f w q).ef = g.ef := rfl
theorem hnp_wp (g : vg_G) (f w q : vg_F) : (vg_hnp g f w q).wp = g.wp := rfl
theorem hnp_hd (g : vg_G) (f w q : vg_F) : (vg_hnp g f w q).hd = g.hd := rfl
theorem hnp_nd (g : vg_G) (f w q : vg_F) : (vg_hnp g f w q).nd = g.nd := rfl
theorem hnp_oF (g : vg_G) (f w q : vg_F) : (vg_hnp g f w q).oF = (f) := rfl
theorem hnp_oH (g : vg_G) (f w q : vg_F) : (vg_hnp g f w q).oH = (w) := rfl
theorem hnp_po (g : vg_G) (f w q : vg_F) : (vg_hnp g f w q).po = (q) := rfl
theorem hnp_dr (g : vg_G) (f w q : vg_F) : (vg_hnp g f w q).dr = g.dr := rfl
theorem hnp_dl (g : vg_G) (f w q : vg_F) : (vg_hnp g f w q).dl = g.dl := rfl
def vg_sFM (g : vg_G) (y : vg_F) : vg_G := (y, g.ro, g.de, g.mo, g.tp, g.cu, g.ki, g.sz, g.ef, g.wp, g.hd, g.nd, g.oF, g.oH, g.po, g.dr, g.dl)
theorem sFM_fm (g : vg_G) (y : vg_F) : (vg_sFM g y).fm = (y) := rfl
theorem sFM_ro (g : vg_G) (y : vg_F) : (vg_sFM g y).ro = g.ro := rfl
theorem sFM_de (g : vg_G) (y : vg_F) : (vg_sFM g y).de = g.de := rfl
theorem sFM_mo (g : vg_G) (y : vg_F) : (vg_sFM g y).mo = g.mo := rfl
theorem sFM_tp (g : vg_G) (y : vg_F) : (vg_sFM g y).tp = g.tp := rfl
theorem sFM_cu (g : vg_G) (y : vg_F) : (vg_sFM g y).cu = g.cu := rfl
theorem sFM_ki (g : vg_G) (y : vg_F) : (vg_sFM g y).ki = g.ki := rfl
theorem sFM_sz (g : vg_G) (y : vg_F) : (vg_sFM g y).sz = g.sz := rfl
theorem sFM_ef (g : vg_G) (y : vg_F) : (vg_sFM g y).ef = g.ef := rfl
theorem sFM_wp (g : vg_G) (y : vg_F) : (vg_sFM g y).wp = g.wp := rfl
theorem sFM_hd (g : vg_G) (y : vg_F) : (vg_sFM g y).hd = g.hd := rfl
theorem sFM_nd (g : vg_G) (y : vg_F) : (vg_sFM g y).nd = g.nd := rfl
theorem sFM_oF (g : vg_G) (y : vg_F) : (vg_sFM g y).oF = g.oF := rfl
theorem sFM_oH (g : vg_G) (y : vg_F) : (vg_sFM g y).oH = g.oH := rfl
theorem sFM_po (g : vg_G) (y : vg_F) : (vg_sFM g y).po = g.po := rfl
theorem sFM_dr (g : vg_G) (y : vg_F) : (vg_sFM g y).dr = g.dr := rfl
theorem sFM_dl (g : vg_G) (y : vg_F) : (vg_sFM g y).dl = g.dl := rfl
def vg_sRO (g : vg_G) (y : vg_F) : vg_G := (g.fm, y, g.de, g.mo, g.tp, g.cu, g.ki, g.sz, g.ef, g.wp, g.hd, g.nd, g.oF, g.oH, g.po, g.dr, g.dl)
theorem sRO_fm (g : vg_G) (y : vg_F) : (vg_sRO g y).fm = g.fm := rfl
theorem sRO_ro (g : vg_G) (y : vg_F) : (vg_sRO g y).ro = (y) := rfl
theorem sRO_de (g : vg_G) (y : vg_F) : (vg_sRO g y).de = g.de := rfl
theorem sRO_mo (g : vg_G) (y : vg_F) : (vg_sRO g y).mo = g.mo := rfl
theorem sRO_tp (g : vg_G) (y : vg_F) : (vg_sRO g y).tp = g.tp := rfl
theorem sRO_cu (g : vg_G) (y : vg_F) : (vg_sRO g y).cu = g.cu := rfl
theorem sRO_ki (g : vg_G) (y : vg_F) : (vg_sRO g y).ki = g.ki := rfl
theorem sRO_sz (g : vg_G) (y : vg_F) : (vg_sRO g y).sz = g.sz := rfl
theorem sRO_ef (g : vg_G) (y : vg_F) : (vg_sRO g y).ef = g.ef := rfl
theorem sRO_wp (g : vg_G) (y : vg_F) : (vg_sRO g y).wp = g.wp := rfl
theorem sRO_hd (g : vg_G) (y : vg_F) : (vg_sRO g y).hd = g.hd := rfl
theorem sRO_nd (g : vg_G) (y : vg_F) : (vg_sRO g y).nd = g.nd := rfl
theorem sRO_oF (g : vg_G) (y : vg_F) : (vg_sRO g y).oF = g.oF := rfl
theorem sRO_oH (g : vg_G) (y : vg_F) : (vg_sRO g y).oH = g.oH := rfl
theorem sRO_po (g : vg_G) (y : vg_F) : (vg_sRO g y).po = g.po := rfl
theorem sRO_dr (g : vg_G) (y : vg_F) : (vg_sRO g y).dr = g.dr := rfl
theorem sRO_dl (g : vg_G) (y : vg_F) : (vg_sRO g y).dl = g.dl := rfl
def vg_sDE (g : vg_G) (y : vg_F) : vg_G := (g.fm, g.ro, y, g.mo, g.tp, g.cu, g.ki, g.sz, g.ef, g.wp, g.hd, g.nd, g.oF, g.oH, g.po, g.dr, g.dl)
theorem sDE_fm (g : vg_G) (y : vg_F) : (vg_sDE g y).fm = g.fm := rfl
theorem sDE_ro (g : vg_G) (y : vg_F) : (vg_sDE g y).ro = g.ro := rfl
theorem sDE_de (g : vg_G) (y : vg_F) : (vg_sDE g y).de = (y) := rfl
theorem sDE_mo (g : vg_G) (y : vg_F) : (vg_sDE g y).mo = g.mo := rfl
theorem sDE_tp (g : vg_G) (y : vg_F) : (vg_sDE g y).tp = g.tp := rfl
theorem sDE_cu (g : vg_G) (y : vg_F) : (vg_sDE g y).cu = g.cu := rfl
theorem sDE_ki (g : vg_G) (y : vg_F) : (vg_sDE g y).ki = g.ki := rfl
theorem sDE_sz (g : vg_G) (y : vg_F) : (vg_sDE g y).sz = g.sz := rfl
theorem sDE_ef (g : vg_G) (y : vg_F) : (vg_sDE g y).ef = g.ef := rfl
theorem sDE_wp (g : vg_G) (y : vg_F) : (vg_sDE g y).wp = g.wp := rfl
theorem sDE_hd (g : vg_G) (y : vg_F) : (vg_sDE g y).hd = g.hd := rfl
theorem sDE_nd (g : vg_G) (y : vg_F) : (vg_sDE g y).nd = g.nd := rfl
theorem sDE_oF (g : vg_G) (y : vg_F) : (vg_sDE g y).oF = g.oF := rfl
theorem sDE_oH (g : vg_G) (y : vg_F) : (vg_sDE g y).oH = g.oH := rfl
theorem sDE_po (g : vg_G) (y : vg_F) : (vg_sDE g y).po = g.po := rfl
theorem sDE_dr (g : vg_G) (y : vg_F) : (vg_sDE g y).dr = g.dr := rfl
theorem sDE_dl (g : vg_G) (y : vg_F) : (vg_sDE g y).dl = g.dl := rfl
def vg_sMO (g : vg_G) (y : vg_F) : vg_G := (g.fm, g.ro, g.de, y, g.tp, g.cu, g.ki, g.sz, g.ef, g.wp, g.hd, g.nd, g.oF, g.oH, g.po, g.dr, g.dl)
theorem sMO_fm (g : vg_G) (y : vg_F) : (vg_sMO g y).fm = g.fm := rfl
theorem sMO_ro (g : vg_G) (y : vg_F) : (vg_sMO g y).ro = g.ro := rfl
theorem sMO_de (g : vg_G) (y : vg_F) : (vg_sMO g y).de = g.de := rfl
theorem sMO_mo (g : vg_G) (y : vg_F) : (vg_sMO g y).mo = (y) := rfl
theorem sMO_tp (g : vg_G) (y : vg_F) : (vg_sMO g y).tp = g.tp := rfl
theorem sMO_cu (g : vg_G) (y : vg_F) : (vg_sMO g y).cu = g.cu := rfl
theorem sMO_ki (g : vg_G) (y : vg_F) : (vg_sMO g y).ki = g.ki := rfl
theorem sMO_sz (g : vg_G) (y : vg_F) : (vg_sMO g y).sz = g.sz := rfl
theorem sMO_ef (g : vg_G) (y : vg_F) : (vg_sMO g y).ef = g.ef := rfl
theorem sMO_wp (g : vg_G) (y : vg_F) : (vg_sMO g y).wp = g.wp := rfl
theorem sMO_hd (g : vg_G) (y : vg_F) : (vg_sMO g y).hd = g.hd := rfl
theorem sMO_nd (g : vg_G) (y : vg_F) : (vg_sMO g y).nd = g.nd := rfl
theorem sMO_oF (g : vg_G) (y : vg_F) : (vg_sMO g y).oF = g.oF := rfl
theorem sMO_oH (g : vg_G) (y : vg_F) : (vg_sMO g y).oH = g.oH := rfl
theorem sMO_po (g : vg_G) (y : vg_F) : (vg_sMO g y).po = g.po := rfl
theorem sMO_dr (g : vg_G) (y : vg_F) : (vg_sMO g y).dr = g.dr := rfl
theorem sMO_dl (g : vg_G) (y : vg_F) : (vg_sMO g y).dl = g.dl := rfl
def vg_sTP (g : vg_G) (y : Nat) : vg_G := (g.fm, g.ro, g.de, g.mo, y, g.cu, g.ki, g.sz, g.ef, g.wp, g.hd, g.nd, g.oF, g.oH, g.po, g.dr, g.dl)
theorem sTP_fm (g : vg_G) (y : Nat) : (vg_sTP g y).fm = g.fm := rfl
theorem sTP_ro (g : vg_G) (y : Nat) : (vg_sTP g y).ro = g.ro := rfl
theorem sTP_de (g : vg_G) (y : Nat) : (vg_sTP g y).de = g.de := rfl
theorem sTP_mo (g : vg_G) (y : Nat) : (vg_sTP g y).mo = g.mo := rfl
theorem sTP_tp (g : vg_G) (y : Nat) : (vg_sTP g y).tp = (y) := rfl
theorem sTP_cu (g : vg_G) (y : Nat) : (vg_sTP g y).cu = g.cu := rfl
theorem sTP_ki (g : vg_G) (y : Nat) : (vg_sTP g y).ki = g.ki := rfl
theorem sTP_sz (g : vg_G) (y : Nat) : (vg_sTP g y).sz = g.sz := rfl
theorem sTP_ef (g : vg_G) (y : Nat) : (vg_sTP g y).ef = g.ef := rfl
theorem sTP_wp (g : vg_G) (y : Nat) : (vg_sTP g y).wp = g.wp := rfl
theorem sTP_hd (g : vg_G) (y : Nat) : (vg_sTP g y).hd = g.hd := rfl
theorem sTP_nd (g : vg_G) (y : Nat) : (vg_sTP g y).nd = g.nd := rfl
theorem sTP_oF (g : vg_G) (y : Nat) : (vg_sTP g y).oF = g.oF := rfl
theorem sTP_oH (g : vg_G) (y : Nat) : (vg_sTP g y).oH = g.oH := rfl
theorem sTP_po (g : vg_G) (y : Nat) : (vg_sTP g y).po = g.po := rfl
theorem sTP_dr (g : vg_G) (y : Nat) : (vg_sTP g y).dr = g.dr := rfl
theorem sTP_dl (g : vg_G) (y : Nat) : (vg_sTP g y).dl = g.dl := rfl
def vg_sCU (g : vg_G) (y : Nat) : vg_G := (g.fm, g.ro, g.de, g.mo, g.tp, y, g.ki, g.sz, g.ef, g.wp, g.hd, g.nd, g.oF, g.oH, g.po, g.dr, g.dl)
theorem sCU_fm (g : vg_G) (y : Nat) : (vg_sCU g y).fm = g.fm := rfl
theorem sCU_ro (g : vg_G) (y : Nat) : (vg_sCU g y).ro = g.ro := rfl
theorem sCU_de (g : vg_G) (y : Nat) : (vg_sCU g y).de = g.de := rfl
theorem sCU_mo (g : vg_G) (y : Nat) : (vg_sCU g y).mo = g.mo := rfl
theorem sCU_tp (g : vg_G) (y : Nat) : (vg_sCU g y).tp = g.tp := rfl
theorem sCU_cu (g : vg_G) (y : Nat) : (vg_sCU g y).cu = (y) := rfl
theorem sCU_ki (g : vg_G) (y : Nat) : (vg_sCU g y).ki = g.ki := rfl
theorem sCU_sz (g : vg_G) (y : Nat) : (vg_sCU g y).sz = g.sz := rfl
theorem sCU_ef (g : vg_G) (y : Nat) : (vg_sCU g y).ef = g.ef := rfl
theorem sCU_wp (g : vg_G) (y : Nat) : (vg_sCU g y).wp = g.wp := rfl
theorem sCU_hd (g : vg_G) (y : Nat) : (vg_sCU g y).hd = g.hd := rfl
theorem sCU_nd (g : vg_G) (y : Nat) : (vg_sCU g y).nd = g.nd := rfl
theorem sCU_oF (g : vg_G) (y : Nat) : (vg_sCU g y).oF = g.oF := rfl
theorem sCU_oH (g : vg_G) (y : Nat) : (vg_sCU g y).oH = g.oH := rfl
theorem sCU_po (g : vg_G) (y : Nat) : (vg_sCU g y).po = g.po := rfl
theorem sCU_dr (g : vg_G) (y : Nat) : (vg_sCU g y).dr = g.dr := rfl
theorem sCU_dl (g : vg_G) (y : Nat) : (vg_sCU g y).dl = g.dl := rfl
def vg_sKI (g : vg_G) (y : vg_F) : vg_G := (g.fm, g.ro, g.de, g.mo, g.tp, g.cu, y, g.sz, g.ef, g.wp, g.hd, g.nd, g.oF, g.oH, g.po, g.dr, g.dl)
theorem sKI_fm (g : vg_G) (y : vg_F) : (vg_sKI g y).fm = g.fm := rfl
theorem sKI_ro (g : vg_G) (y : vg_F) : (vg_sKI g y).ro = g.ro := rfl
theorem sKI_de (g : vg_G) (y : vg_F) : (vg_sKI g y).de = g.de := rfl
theorem sKI_mo (g : vg_G) (y : vg_F) : (vg_sKI g y).mo = g.mo := rfl
theorem sKI_tp (g : vg_G) (y : vg_F) : (vg_sKI g y).tp = g.tp := rfl
theorem sKI_cu (g : vg_G) (y : vg_F) : (vg_sKI g y).cu = g.cu := rfl
theorem sKI_ki (g : vg_G) (y : vg_F) : (vg_sKI g y).ki = (y) := rfl
theorem sKI_sz (g : vg_G) (y : vg_F) : (vg_sKI g y).sz = g.sz := rfl
theorem sKI_ef (g : vg_G) (y : vg_F) : (vg_sKI g y).ef = g.ef := rfl
theorem sKI_wp (g : vg_G) (y : vg_F) : (vg_sKI g y).wp = g.wp := rfl
theorem sKI_hd (g : vg_G) (y : vg_F) : (vg_sKI g y).hd = g.hd := rfl
theorem sKI_nd (g : vg_G) (y : vg_F) : (vg_sKI g y).nd = g.nd := rfl
theorem sKI_oF (g : vg_G) (y : vg_F) : (vg_sKI g y).oF = g.oF := rfl
theorem sKI_oH (g : vg_G) (y : vg_F) : (vg_sKI g y).oH = g.oH := rfl
theorem sKI_po (g : vg_G) (y : vg_F) : (vg_sKI g y).po = g.po := rfl
theorem sKI_dr (g : vg_G) (y : vg_F) : (vg_sKI g y).dr = g.dr := rfl
theorem sKI_dl (g : vg_G) (y : vg_F) : (vg_sKI g y).dl = g.dl := rfl
def vg_sSZ (g : vg_G) (y : vg_F) : vg_G := (g.fm, g.ro, g.de, g.mo, g.tp, g.cu, g.ki, y, g.ef, g.wp, g.hd, g.nd, g.oF, g.oH, g.po, g.dr, g.dl)
theorem sSZ_fm (g : vg_G) (y : vg_F) : (vg_sSZ g y).fm = g.fm := rfl
theorem sSZ_ro (g : vg_G) (y : vg_F) : (vg_sSZ g y).ro = g.ro := rfl
theorem sSZ_de (g : vg_G) (y : vg_F) : (vg_sSZ g y).de = g.de := rfl
theorem sSZ_mo (g : vg_G) (y : vg_F) : (vg_sSZ g y).mo = g.mo := rfl
theorem sSZ_tp (g : vg_G) (y : vg_F) : (vg_sSZ g y).tp = g.tp := rfl
theorem sSZ_cu (g : vg_G) (y : vg_F) : (vg_sSZ g y).cu = g.cu := rfl
theorem sSZ_ki (g : vg_G) (y : vg_F) : (vg_sSZ g y).ki = g.ki := rfl
theorem sSZ_sz (g : vg_G) (y : vg_F) : (vg_sSZ g y).sz = (y) := rfl
theorem sSZ_ef (g : vg_G) (y : vg_F) : (vg_sSZ g y).ef = g.ef := rfl
theorem sSZ_wp (g : vg_G) (y : vg_F) : (vg_sSZ g y).wp = g.wp := rfl
theorem sSZ_hd (g : vg_G) (y : vg_F) : (vg_sSZ g y).hd = g.hd := rfl
theorem sSZ_nd (g : vg_G) (y : vg_F) : (vg_sSZ g y).nd = g.nd := rfl
theorem sSZ_oF (g : vg_G) (y : vg_F) : (vg_sSZ g y).oF = g.oF := rfl
theorem sSZ_oH (g : vg_G) (y : vg_F) : (vg_sSZ g y).oH = g.oH := rfl
theorem sSZ_po (g : vg_G) (y : vg_F) : (vg_sSZ g y).po = g.po := rfl
theorem sSZ_dr (g : vg_G) (y : vg_F) : (vg_sSZ g y).dr = g.dr := rfl
theorem sSZ_dl (g : vg_G) (y : vg_F) : (vg_sSZ g y).dl = g.dl := rfl
def vg_sEF (g : vg_G) (y : vg_F) : vg_G := (g.fm, g.ro, g.de, g.mo, g.tp, g.cu, g.ki, g.sz, y, g.wp, g.hd, g.nd, g.oF, g.oH, g.po, g.dr, g.dl)
theorem sEF_fm (g : vg_G) (y : vg_F) : (vg_sEF g y).fm = g.fm := rfl
theorem sEF_ro (g : vg_G) (y : vg_F) : (vg_sEF g y).ro = g.ro := rfl
theorem sEF_de (g : vg_G) (y : vg_F) : (vg_sEF g y).de = g.de := rfl
theorem sEF_mo (g : vg_G) (y : vg_F) : (vg_sEF g y).mo = g.mo := rfl
theorem sEF_tp (g : vg_G) (y : vg_F) : (vg_sEF g y).tp = g.tp := rfl
theorem sEF_cu (g : vg_G) (y : vg_F) : (vg_sEF g y).cu = g.cu := rfl
theorem sEF_ki (g : vg_G) (y : vg_F) : (vg_sEF g y).ki = g.ki := rfl
theorem sEF_sz (g : vg_G) (y : vg_F) : (vg_sEF g y).sz = g.sz := rfl
theorem sEF_ef (g : vg_G) (y : vg_F) : (vg_sEF g y).ef = (y) := rfl
theorem sEF_wp (g : vg_G) (y : vg_F) : (vg_sEF g y).wp = g.wp := rfl
theorem sEF_hd (g : vg_G) (y : vg_F) : (vg_sEF g y).hd = g.hd := rfl
theorem sEF_nd (g : vg_G) (y : vg_F) : (vg_sEF g y).nd = g.nd := rfl
theorem sEF_oF (g : vg_G) (y : vg_F) : (vg_sEF g y).oF = g.oF := rfl
theorem sEF_oH (g : vg_G) (y : vg_F) : (vg_sEF g y).oH = g.oH := rfl
theorem sEF_po (g : vg_G) (y : vg_F) : (vg_sEF g y).po = g.po := rfl
theorem sEF_dr (g : vg_G) (y : vg_F) : (vg_sEF g y).dr = g.dr := rfl
theorem sEF_dl (g : vg_G) (y : vg_F) : (vg_sEF g y).dl = g.dl := rfl
def vg_sWP (g : vg_G) (y : vg_F) : vg_G := (g.fm, g.ro, g.de, g.mo, g.tp, g.cu, g.ki, g.sz, g.ef, y, g.hd, g.nd, g.oF, g.oH, g.po, g.dr, g.dl)
theorem sWP_fm (g : vg_G) (y : vg_F) : (vg_sWP g y).fm = g.fm := rfl
theorem sWP_ro (g : vg_G) (y : vg_F) : (vg_sWP g y).ro = g.ro := rfl
theorem sWP_de (g : vg_G) (y : vg_F) : (vg_sWP g y).de = g.de := rfl
theorem sWP_mo (g : vg_G) (y : vg_F) : (vg_sWP g y).mo = g.mo := rfl
theorem sWP_tp (g : vg_G) (y : vg_F) : (vg_sWP g y).tp = g.tp := rfl
theorem sWP_cu (g : vg_G) (y : vg_F) : (vg_sWP g y).cu = g.cu := rfl
theorem sWP_ki (g : vg_G) (y : vg_F) : (vg_sWP g y).ki = g.ki := rfl
theorem sWP_sz (g : vg_G) (y : vg_F) : (vg_sWP g y).sz = g.sz := rfl
theorem sWP_ef (g : vg_G) (y : vg_F) : (vg_sWP g y).ef = g.ef := rfl
theorem sWP_wp (g : vg_G) (y : vg_F) : (vg_sWP g y).wp = (y) := rfl
theorem sWP_hd (g : vg_G) (y : vg_F) : (vg_sWP g y).hd = g.hd := rfl
theorem sWP_nd (g : vg_G) (y : vg_F) : (vg_sWP g y).nd = g.nd := rfl
theorem sWP_oF (g : vg_G) (y : vg_F) : (vg_sWP g y).oF = g.oF := rfl
theorem sWP_oH (g : vg_G) (y : vg_F) : (vg_sWP g y).oH = g.oH := rfl
theorem sWP_po (g : vg_G) (y : vg_F) : (vg_sWP g y).po = g.po := rfl
theorem sWP_dr (g : vg_G) (y : vg_F) : (vg_sWP g y).dr = g.dr := rfl
theorem sWP_dl (g : vg_G) (y : vg_F) : (vg_sWP g y).dl = g.dl := rfl
def vg_sHD (g : vg_G) (y : Nat → Int32) : vg_G := (g.fm, g.ro, g.de, g.mo, g.tp, g.cu, g.ki, g.sz, g.ef, g.wp, y, g.nd, g.oF, g.oH, g.po, g.dr, g.dl)
theorem sHD_fm (g : vg_G) (y : Nat → Int32) : (vg_sHD g y).fm = g.fm := rfl
theorem sHD_ro (g : vg_G) (y : Nat → Int32) : (vg_sHD g y).ro = g.ro := rfl
theorem sHD_de (g : vg_G) (y : Nat → Int32) : (vg_sHD g y).de = g.de := rfl
theorem sHD_mo (g : vg_G) (y : Nat → Int32) : (vg_sHD g y).mo = g.mo := rfl
theorem sHD_tp (g : vg_G) (y : Nat → Int32) : (vg_sHD g y).tp = g.tp := rfl
theorem sHD_cu (g : vg_G) (y : Nat → Int32) : (vg_sHD g y).cu = g.cu := rfl
theorem sHD_ki (g : vg_G) (y : Nat → Int32) : (vg_sHD g y).ki = g.ki := rfl
theorem sHD_sz (g : vg_G) (y : Nat → Int32) : (vg_sHD g y).sz = g.sz := rfl
theorem sHD_ef (g : vg_G) (y : Nat → Int32) : (vg_sHD g y).ef = g.ef := rfl
theorem sHD_wp (g : vg_G) (y : Nat → Int32) : (vg_sHD g y).wp = g.wp := rfl
theorem sHD_hd (g : vg_G) (y : Nat → Int32) : (vg_sHD g y).hd = (y) := rfl
theorem sHD_nd (g : vg_G) (y : Nat → Int32) : (vg_sHD g y).nd = g.nd := rfl
theorem sHD_oF (g : vg_G) (y : Nat → Int32) : (vg_sHD g y).oF = g.oF := rfl
theorem sHD_oH (g : vg_G) (y : Nat → Int32) : (vg_sHD g y).oH = g.oH := rfl
theorem sHD_po (g : vg_G) (y : Nat → Int32) : (vg_sHD g y).po = g.po := rfl
theorem sHD_dr (g : vg_G) (y : Nat → Int32) : (vg_sHD g y).dr = g.dr := rfl
theorem sHD_dl (g : vg_G) (y : Nat → Int32) : (vg_sHD g y).dl = g.dl := rfl
def vg_sND (g : vg_G) (y : vg_F) : vg_G := (g.fm, g.ro, g.de, g.mo, g.tp, g.cu, g.ki, g.sz, g.ef, g.wp, g.hd, y, g.oF, g.oH, g.po, g.dr, g.dl)
theorem sND_fm (g : vg_G) (y : vg_F) : (vg_sND g y).fm = g.fm := rfl
theorem sND_ro (g : vg_G) (y : vg_F) : (vg_sND g y).ro = g.ro := rfl
theorem sND_de (g : vg_G) (y : vg_F) : (vg_sND g y).de = g.de := rfl
theorem sND_mo (g : vg_G) (y : vg_F) : (vg_sND g y).mo = g.mo := rfl
theorem sND_tp (g : vg_G) (y : vg_F) : (vg_sND g y).tp = g.tp := rfl
theorem sND_cu (g : vg_G) (y : vg_F) : (vg_sND g y).cu = g.cu := rfl
theorem sND_ki (g : vg_G) (y : vg_F) : (vg_sND g y).ki = g.ki := rfl
theorem sND_sz (g : vg_G) (y : vg_F) : (vg_sND g y).sz = g.sz := rfl
theorem sND_ef (g : vg_G) (y : vg_F) : (vg_sND g y).ef = g.ef := rfl
theorem sND_wp (g : vg_G) (y : vg_F) : (vg_sND g y).wp = g.wp := rfl
theorem sND_hd (g : vg_G) (y : vg_F) : (vg_sND g y).hd = g.hd := rfl
theorem sND_nd (g : vg_G) (y : vg_F) : (vg_sND g y).nd = (y) := rfl
theorem sND_oF (g : vg_G) (y : vg_F) : (vg_sND g y).oF = g.oF := rfl
theorem sND_oH (g : vg_G) (y : vg_F) : (vg_sND g y).oH = g.oH := rfl
theorem sND_po (g : vg_G) (y : vg_F) : (vg_sND g y).po = g.po := rfl
theorem sND_dr (g : vg_G) (y : vg_F) : (vg_sND g y).dr = g.dr := rfl
theorem sND_dl (g : vg_G) (y : vg_F) : (vg_sND g y).dl = g.dl := rfl
def vg_sOF (g : vg_G) (y : vg_F) : vg_G := (g.fm, g.ro, g.de, g.mo, g.tp, g.cu, g.ki, g.sz, g.ef, g.wp, g.hd, g.nd, y, g.oH, g.po, g.dr, g.dl)
theorem sOF_fm (g : vg_G) (y : vg_F) : (vg_sOF g y).fm = g.fm := rfl
theorem sOF_ro (g : vg_G) (y : vg_F) : (vg_sOF g y).ro = g.ro := rfl
theorem sOF_de (g : vg_G) (y : vg_F) : (vg_sOF g y).de = g.de := rfl
theorem sOF_mo (g : vg_G) (y : vg_F) : (vg_sOF g y).mo = g.mo := rfl
theorem sOF_tp (g : vg_G) (y : vg_F) : (vg_sOF g y).tp = g.tp := rfl
theorem sOF_cu (g : vg_G) (y : vg_F) : (vg_sOF g y).cu = g.cu := rfl
theorem sOF_ki (g : vg_G) (y : vg_F) : (vg_sOF g y).ki = g.ki := rfl
theorem sOF_sz (g : vg_G) (y : vg_F) : (vg_sOF g y).sz = g.sz := rfl
theorem sOF_ef (g : vg_G) (y : vg_F) : (vg_sOF g y).ef = g.ef := rfl
theorem sOF_wp (g : vg_G) (y : vg_F) : (vg_sOF g y).wp = g.wp := rfl
theorem sOF_hd (g : vg_G) (y : vg_F) : (vg_sOF g y).hd = g.hd := rfl
theorem sOF_nd (g : vg_G) (y : vg_F) : (vg_sOF g y).nd = g.nd := rfl
theorem sOF_oF (g : vg_G) (y : vg_F) : (vg_sOF g y).oF = (y) := rfl
theorem sOF_oH (g : vg_G) (y : vg_F) : (vg_sOF g y).oH = g.oH := rfl
theorem sOF_po (g : vg_G) (y : vg_F) : (vg_sOF g y).po = g.po := rfl
theorem sOF_dr (g : vg_G) (y : vg_F) : (vg_sOF g y).dr = g.dr := rfl
theorem sOF_dl (g : vg_G) (y : vg_F) : (vg_sOF g y).dl = g.dl := rfl
def vg_sOH (g : vg_G) (y : vg_F) : vg_G := (g.fm, g.ro, g.de, g.mo, g.tp, g.cu, g.ki, g.sz, g.ef, g.wp, g.hd, g.nd, g.oF, y, g.po, g.dr, g.dl)
theorem sOH_fm (g : vg_G) (y : vg_F) : (vg_sOH g y).fm = g.fm := rfl
theorem sOH_ro (g : vg_G) (y : vg_F) : (vg_sOH g y).ro = g.ro := rfl
theorem sOH_de (g : vg_G) (y : vg_F) : (vg_sOH g y).de = g.de := rfl
theorem sOH_mo (g : vg_G) (y : vg_F) : (vg_sOH g y).mo = g.mo := rfl
theorem sOH_tp (g : vg_G) (y : vg_F) : (vg_sOH g y).tp = g.tp := rfl
theorem sOH_cu (g : vg_G) (y : vg_F) : (vg_sOH g y).cu = g.cu := rfl
theorem sOH_ki (g : vg_G) (y : vg_F) : (vg_sOH g y).ki = g.ki := rfl
theorem sOH_sz (g : vg_G) (y : vg_F) : (vg_sOH g y).sz = g.sz := rfl
theorem sOH_ef (g : vg_G) (y : vg_F) : (vg_sOH g y).ef = g.ef := rfl
theorem sOH_wp (g : vg_G) (y : vg_F) : (vg_sOH g y).wp = g.wp := rfl
theorem sOH_hd (g : vg_G) (y : vg_F) : (vg_sOH g y).hd = g.hd := rfl
theorem sOH_nd (g : vg_G) (y : vg_F) : (vg_sOH g y).nd = g.nd := rfl
theorem sOH_oF (g : vg_G) (y : vg_F) : (vg_sOH g y).oF = g.oF := rfl
theorem sOH_oH (g : vg_G) (y : vg_F) : (vg_sOH g y).oH = (y) := rfl
theorem sOH_po (g : vg_G) (y : vg_F) : (vg_sOH g y).po = g.po := rfl
theorem sOH_dr (g : vg_G) (y : vg_F) : (vg_sOH g y).dr = g.dr := rfl
theorem sOH_dl (g : vg_G) (y : vg_F) : (vg_sOH g y).dl = g.dl := rfl
def vg_sPO (g : vg_G) (y : vg_F) : vg_G := (g.fm, g.ro, g.de, g.mo, g.tp, g.cu, g.ki, g.sz, g.ef, g.wp, g.hd, g.nd, g.oF, g.oH, y, g.dr, g.dl)
theorem sPO_fm (g : vg_G) (y : vg_F) : (vg_sPO g y).fm = g.fm := rfl
theorem sPO_ro (g : vg_G) (y : vg_F) : (vg_sPO g y).ro = g.ro := rfl
theorem sPO_de (g : vg_G) (y : vg_F) : (vg_sPO g y).de = g.de := rfl
theorem sPO_mo (g : vg_G) (y : vg_F) : (vg_sPO g y).mo = g.mo := rfl
theorem sPO_tp (g : vg_G) (y : vg_F) : (vg_sPO g y).tp = g.tp := rfl
theorem sPO_cu (g : vg_G) (y : vg_F) : (vg_sPO g y).cu = g.cu := rfl
theorem sPO_ki (g : vg_G) (y : vg_F) : (vg_sPO g y).ki = g.ki := rfl
theorem sPO_sz (g : vg_G) (y : vg_F) : (vg_sPO g y).sz = g.sz := rfl
theorem sPO_ef (g : vg_G) (y : vg_F) : (vg_sPO g y).ef = g.ef := rfl
theorem sPO_wp (g : vg_G) (y : vg_F) : (vg_sPO g y).wp = g.wp := rfl
theorem sPO_hd (g : vg_G) (y : vg_F) : (vg_sPO g y).hd = g.hd := rfl
theorem sPO_nd (g : vg_G) (y : vg_F) : (vg_sPO g y).nd = g.nd := rfl
theorem sPO_oF (g : vg_G) (y : vg_F) : (vg_sPO g y).oF = g.oF := rfl
theorem sPO_oH (g : vg_G) (y : vg_F) : (vg_sPO g y).oH = g.oH := rfl
theorem sPO_po (g : vg_G) (y : vg_F) : (vg_sPO g y).po = (y) := rfl
theorem sPO_dr (g : vg_G) (y : vg_F) : (vg_sPO g y).dr = g.dr := rfl
theorem sPO_dl (g : vg_G) (y : vg_F) : (vg_sPO g y).dl = g.dl := rfl
def vg_sDR (g : vg_G) (y : vg_F) : vg_G := (g.fm, g.ro, g.de, g.mo, g.tp, g.cu, g.ki, g.sz, g.ef, g.wp, g.hd, g.nd, g.oF, g.oH, g.po, y, g.dl)
theorem sDR_fm (g : vg_G) (y : vg_F) : (vg_sDR g y).fm = g.fm := rfl
theorem sDR_ro (g : vg_G) (y : vg_F) : (vg_sDR g y).ro = g.ro := rfl
theorem sDR_de (g : vg_G) (y : vg_F) : (vg_sDR g y).de = g.de := rfl
theorem sDR_mo (g : vg_G) (y : vg_F) : (vg_sDR g y).mo = g.mo := rfl
theorem sDR_tp (g : vg_G) (y : vg_F) : (vg_sDR g y).tp = g.tp := rfl
theorem sDR_cu (g : vg_G) (y : vg_F) : (vg_sDR g y).cu = g.cu := rfl
theorem sDR_ki (g : vg_G) (y : vg_F) : (vg_sDR g y).ki = g.ki := rfl
theorem sDR_sz (g : vg_G) (y : vg_F) : (vg_sDR g y).sz = g.sz := rfl
theorem sDR_ef (g : vg_G) (y : vg_F) : (vg_sDR g y).ef = g.ef := rfl
theorem sDR_wp (g : vg_G) (y : vg_F) : (vg_sDR g y).wp = g.wp := rfl
theorem sDR_hd (g : vg_G) (y : vg_F) : (vg_sDR g y).hd = g.hd := rfl
theorem sDR_nd (g : vg_G) (y : vg_F) : (vg_sDR g y).nd = g.nd := rfl
theorem sDR_oF (g : vg_G) (y : vg_F) : (vg_sDR g y).oF = g.oF := rfl
theorem sDR_oH (g : vg_G) (y : vg_F) : (vg_sDR g y).oH = g.oH := rfl
theorem sDR_po (g : vg_G) (y : vg_F) : (vg_sDR g y).po = g.po := rfl
theorem sDR_dr (g : vg_G) (y : vg_F) : (vg_sDR g y).dr = (y) := rfl
theorem sDR_dl (g : vg_G) (y : vg_F) : (vg_sDR g y).dl = g.dl := rfl
def vg_sDL (g : vg_G) (y : vg_F) : vg_G := (g.fm, g.ro, g.de, g.mo, g.tp, g.cu, g.ki, g.sz, g.ef, g.wp, g.hd, g.nd, g.oF, g.oH, g.po, g.dr, y)
theorem sDL_fm (g : vg_G) (y : vg_F) : (vg_sDL g y).fm = g.fm := rfl
theorem sDL_ro (g : vg_G) (y : vg_F) : (vg_sDL g y).ro = g.ro := rfl
theorem sDL_de (g : vg_G) (y : vg_F) : (vg_sDL g y).de = g.de := rfl
theorem sDL_mo (g : vg_G) (y : vg_F) : (vg_sDL g y).mo = g.mo := rfl
theorem sDL_tp (g : vg_G) (y : vg_F) : (vg_sDL g y).tp = g.tp := rfl
theorem sDL_cu (g : vg_G) (y : vg_F) : (vg_sDL g y).cu = g.cu := rfl
theorem sDL_ki (g : vg_G) (y : vg_F) : (vg_sDL g y).ki = g.ki := rfl
theorem sDL_sz (g : vg_G) (y : vg_F) : (vg_sDL g y).sz = g.sz := rfl
theorem sDL_ef (g : vg_G) (y : vg_F) : (vg_sDL g y).ef = g.ef := rfl
theorem sDL_wp (g : vg_G) (y : vg_F) : (vg_sDL g y).wp = g.wp := rfl
theorem sDL_hd (g : vg_G) (y : vg_F) : (vg_sDL g y).hd = g.hd := rfl
theorem sDL_nd (g : vg_G) (y : vg_F) : (vg_sDL g y).nd = g.nd := rfl
theorem sDL_oF (g : vg_G) (y : vg_F) : (vg_sDL g y).oF = g.oF := rfl
theorem sDL_oH (g : vg_G) (y : vg_F) : (vg_sDL g y).oH = g.oH := rfl
theorem sDL_po (g : vg_G) (y : vg_F) : (vg_sDL g y).po = g.po := rfl
theorem sDL_dr (g : vg_G) (y : vg_F) : (vg_sDL g y).dr = g.dr := rfl
theorem sDL_dl (g : vg_G) (y : vg_F) : (vg_sDL g y).dl = (y) := rfl
end VG2
