section VZ53
variable {g : vg_G} {ac : Int32} {ah : Nat → Int32} {lf pl nm : Int32} {aM aB aC aZ aN aT aS aI aH aD : Nat → Int32}
theorem put_rem {x m t : Nat} (ht : g.nd (15 * x + m) = t) (hs : 1 ≤ g.sz x) : vg_put (vg_rem g x m) x m t = g := by
  refine vg_ext ((put_fm _ _ _ _).trans (rem_fm _ _ _)) ((put_ro _ _ _ _).trans (rem_ro _ _ _)) ((put_de _ _ _ _).trans (rem_de _ _ _)) ((put_mo _ _ _ _).trans (rem_mo _ _ _)) ((put_tp _ _ _ _).trans (rem_tp _ _ _)) ((put_cu _ _ _ _).trans (rem_cu _ _ _)) ((put_ki _ _ _ _).trans (rem_ki _ _ _)) ?_ ((put_ef _ _ _ _).trans (rem_ef _ _ _)) ((put_wp _ _ _ _).trans (rem_wp _ _ _)) ((put_hd _ _ _ _).trans (rem_hd _ _ _)) ?_ ((put_oF _ _ _ _).trans (rem_oF _ _ _)) ((put_oH _ _ _ _).trans (rem_oH _ _ _)) ((put_po _ _ _ _).trans (rem_po _ _ _)) ((put_dr _ _ _ _).trans (rem_dr _ _ _)) ((put_dl _ _ _ _).trans (rem_dl _ _ _))
  · rw [put_sz, rem_sz, un_s, un_un]
    exact un_id (by omega)
  · rw [put_nd, rem_nd, un_un]
    exact un_id ht
theorem bd_rem {x m : Nat} (h : iv_bd g) : iv_bd (vg_rem g x m) := by
  obtain ⟨b1, b2, b3, b4, b5, b6, b7, b8, b9, b10, b11, b12, b13, b14, b15, b16⟩ := h
  refine ⟨b1, b2, b3, b4, b5, b6, b7, fun j => ?_, b9, b10, fun j => ?_, b12, b13, b14, b15, b16⟩
  · rw [rem_sz, un_ap]; have := b8 j; have := b8 x; split <;> omega
  · rw [rem_nd, un_ap]; have := b11 j; split <;> omega
theorem cn_dec {G : vg_G} {t : Nat} (h : iv_cn (vg_dec G t)) : iv_cn G := h
theorem ud_nd {t : Nat} (hI : iv_I g) (ht : g.ki t ≠ 1) : ∀ k y, y < 40 → g.ki y = 1 → vg_ud g.ki g.nd t k y = 0 := by
  intro k
  induction k with
  | zero =>
    intro y hy hk
    exact if_neg (by intro e; rw [e] at hk; exact ht hk)
  | succ k ih =>
    intro y hy hk
    rw [ud_s, if_neg (by intro e; rw [e] at hk; exact ht hk)]
    by_cases e : y % 10 = 0
    · rw [if_pos e]
    · rw [if_neg e]
      obtain ⟨a, b, c, d⟩ := par_sp hI hy e hk
      exact ih _ a c
/-! what goes, field by field -/
theorem gon_f {o : Nat} : (vg_gon g o).fm = g.fm ∧ (vg_gon g o).nd = g.nd ∧ (vg_gon g o).mo = g.mo ∧ (vg_gon g o).dr = g.dr ∧ (vg_gon g o).dl = g.dl := by
  unfold vg_gon
  split
  · exact ⟨rfl, rfl, rfl, rfl, rfl⟩
  · split
    · exact ⟨(kil_fm _ _).trans (ssz_fm _ _ _), (kil_nd _ _).trans (ssz_nd _ _ _), (kil_mo _ _).trans (ssz_mo _ _ _), (kil_dr _ _).trans (ssz_dr _ _ _), (kil_dl _ _).trans (ssz_dl _ _ _)⟩
    · exact ⟨kil_fm _ _, kil_nd _ _, kil_mo _ _, kil_dr _ _, kil_dl _ _⟩
theorem gon_z {o z : Nat} (h : z ≠ o) : (vg_gon g o).ki z = g.ki z ∧ (vg_gon g o).sz z = g.sz z ∧ (vg_gon g o).wp z = g.wp z := by
  unfold vg_gon
  split
  · exact ⟨rfl, rfl, rfl⟩
  · split
    · rw [kil_ki, kil_sz, kil_wp, ssz_ki, ssz_sz, ssz_wp, un_n _ _ h, un_n _ _ h, un_n _ _ h]
      exact ⟨rfl, rfl, rfl⟩
    · rw [kil_ki, kil_sz, kil_wp, un_n _ _ h]
      exact ⟨rfl, rfl, rfl⟩
theorem gon_o {o : Nat} : vg_bk (vg_gon g o).fm (vg_gon g o).ki (vg_gon g o).sz (vg_gon g o).wp o ≤ vg_bk g.fm g.ki g.sz g.wp o := by
  by_cases e : 0 < g.ef o ∨ vg_fs (fun h => decide (g.oF h = o)) 5 0 < 5
  · unfold vg_gon
    rw [if_pos e]
    exact Nat.le_refl _
  · have hk : (vg_gon g o).ki o = 0 := by
      unfold vg_gon
      rw [if_neg e, kil_ki, un_s]
    have : vg_bk (vg_gon g o).fm (vg_gon g o).ki (vg_gon g o).sz (vg_gon g o).wp o = 0 := by
      unfold vg_bk
      rw [hk, if_neg (by decide), if_neg (by decide)]
    omega
theorem gon_d {o : Nat} (h : g.fm (o / 10) ≠ 2) : (vg_gon g o).de = g.de := by
  unfold vg_gon
  split
  · rfl
  · split
    · rw [kil_de, ssz_de, if_neg h]
    · rw [kil_de]
/-! room, when an entry moves -/
theorem bd_n0 {f s s' : Nat} (h : f ≠ 0) : vg_bd f s = vg_bd f s' := by
  unfold vg_bd
  rw [if_neg (fun z => h z.1), if_neg (fun z => h z.1)]
theorem bd_le {f s s' : Nat} (h : s ≤ s') : vg_bd f s ≤ vg_bd f s' := by
  unfold vg_bd
  split
  · rw [if_pos (by omega)]; omega
  · split <;> omega
theorem fr_rem {x m t : Nat} (hI : iv_I g) (hx : x < 40) (hk : g.ki x = 1) (hs : 1 ≤ g.sz x) : vg_fr (vg_dec (vg_rem g x m) t) (x / 10) = vg_fr g (x / 10) + (vg_bd (g.fm (x / 10)) (g.sz x) - vg_bd (g.fm (x / 10)) (g.sz x - 1)) := by
  have hbk := hI.2.2.2.2.2.2.2.2.2.2.2.2.2.1 (x / 10) (by omega)
  have h1 := tk_one (fm := g.fm) (ki := g.ki) (sz := g.sz) (wp := g.wp) (fm' := g.fm) (ki' := g.ki) (sz' := vg_un g.sz x (g.sz x - 1)) (wp' := g.wp) (d := x / 10) (x := x) rfl (fun y _ hne => bk_cg rfl rfl (un_n _ _ hne) rfl)
  unfold vg_bk at h1
  rw [hk, if_pos rfl, if_pos rfl, un_s] at h1
  have hb := bd_le (f := g.fm (x / 10)) (show g.sz x - 1 ≤ g.sz x by omega)
  have e1 : vg_fr (vg_dec (vg_rem g x m) t) (x / 10) = 32 - (g.de (x / 10) + vg_tk g.fm g.ki (vg_un g.sz x (g.sz x - 1)) g.wp (x / 10)) := rfl
  rw [e1]
  unfold vg_fr
  omega
/-- an entry moves to a name that is not there -/
theorem iv_sh {x m t y : Nat} (hI : iv_I g) (hx : vg_gd g x) (hkx : g.ki x = 1) (hm1 : 1 ≤ m) (hm : m ≤ 14) (ht : g.nd (15 * x + m) = t) (ht0 : t ≠ 0) (hy : vg_gd g y) (hky : g.ki y = 1) (hd : y / 10 = x / 10) (h1 : 1 ≤ vg_ls g 1) (h14 : vg_ls g 1 ≤ 14) (he : vg_eq g.fm g.nd y (vg_ls g 1) = 0) (hs : (vg_rem g x m).sz y ≤ 5)
    (hroom : vg_bd (g.fm (x / 10)) ((vg_rem g x m).sz y + 1) - vg_bd (g.fm (x / 10)) ((vg_rem g x m).sz y) ≤ vg_fr (vg_dec (vg_rem g x m) t) (x / 10)) (hu : vg_ud g.ki g.nd t 10 y = 0) : iv_I (vg_put (vg_rem g x m) y (vg_ls g 1) t) := by
  have hxl := hx.1
  have hyl := hy.1
  have hq := vq_0 h1 he
  have hR : ∀ j, (vg_rem g x m).nd j = if j = 15 * x + m then 0 else g.nd j := fun j => rfl
  have hz : ∀ j, g.nd j = 0 → (vg_rem g x m).nd j = 0 := by
    intro j hj
    rw [hR, hj]
    exact ite_self 0
  have hbl := bl_lt (nd := g.nd) (p := x) (m := m) (k := 15) (by omega) (by rw [ht]; exact ht0)
  have hcn := hI.2.2.2.2.1 x hxl hkx
  have hbk := hI.2.2.2.2.2.2.2.2.2.2.2.2.2.1 (x / 10) (by omega)
  refine iv_mov hI hxl hkx hm1 hm ht ht0 hyl hky hd h1 h14 (hz _ hq.1) (fun hf m' a b c => hz _ (hq.2 hf m' a b c)) hs ?_ (fun _ => hu)
  have hbk2 := (iv_rem hI hxl hkx (by omega) ht ht0).2.2.2.2.2.2.2.2.2.2.2.2.2.1 (x / 10) (by omega)
  have hbk3 : g.de (x / 10) + vg_tk g.fm g.ki (vg_rem g x m).sz g.wp (x / 10) ≤ 32 := hbk2
  have hfr : vg_fr (vg_dec (vg_rem g x m) t) (x / 10) = 32 - (g.de (x / 10) + vg_tk g.fm g.ki (vg_rem g x m).sz g.wp (x / 10)) := rfl
  have h2 := tk_one (fm := g.fm) (ki := g.ki) (sz := (vg_rem g x m).sz) (wp := g.wp) (fm' := g.fm) (ki' := g.ki) (sz' := (vg_put (vg_rem g x m) y (vg_ls g 1) t).sz) (wp' := g.wp) (d := x / 10) (x := y) hd (fun z _ hne => bk_cg rfl rfl (un_n _ _ hne) rfl)
  have e1 : vg_bk g.fm g.ki (vg_rem g x m).sz g.wp y = vg_bd (g.fm (x / 10)) ((vg_rem g x m).sz y) := by
    unfold vg_bk
    rw [hky, if_pos rfl, hd]
  have e2 : vg_bk g.fm g.ki (vg_put (vg_rem g x m) y (vg_ls g 1) t).sz g.wp y = vg_bd (g.fm (x / 10)) ((vg_rem g x m).sz y + 1) := by
    unfold vg_bk
    rw [hky, if_pos rfl, hd, put_sz, un_s]
  rw [e1, e2] at h2
  have hb := bd_le (f := g.fm (x / 10)) (show (vg_rem g x m).sz y ≤ (vg_rem g x m).sz y + 1 by omega)
  omega
end VZ53
