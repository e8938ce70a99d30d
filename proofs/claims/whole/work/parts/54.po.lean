section VZ54
variable {g : vg_G} {ac : Int32} {ah : Nat → Int32} {lf pl nm : Int32} {aM aB aC aZ aN aT aS aI aH aD : Nat → Int32}
/-- after an entry (y, n) for s was dropped: the ghost -/
def vz_dp (g : vg_G) (y n s : Nat) : vg_G := vg_gon (vg_dec (vg_rem g y n) s) s
theorem dp_nd {y n s : Nat} : (vz_dp g y n s).nd = vg_un g.nd (15 * y + n) 0 := by
  unfold vz_dp
  rw [gon_f.2.1, dec_nd, rem_nd]
theorem dp_fm {y n s : Nat} : (vz_dp g y n s).fm = g.fm := by
  unfold vz_dp
  rw [gon_f.1, dec_fm, rem_fm]
theorem dp_mo {y n s : Nat} : (vz_dp g y n s).mo = g.mo := by
  unfold vz_dp
  rw [gon_f.2.2.1, dec_mo, rem_mo]
theorem dp_ls {y n s p : Nat} : vg_ls (vz_dp g y n s) p = vg_ls g p := by
  unfold vg_ls vz_dp
  rw [gon_f.2.2.2.1, gon_f.2.2.2.2, dec_dr, dec_dl, rem_dr, rem_dl]
theorem dp_z {y n s z : Nat} (h : z ≠ s) : (vz_dp g y n s).ki z = g.ki z ∧ (vz_dp g y n s).sz z = (if z = y then g.sz y - 1 else g.sz z) ∧ (vz_dp g y n s).wp z = g.wp z := by
  unfold vz_dp
  have h1 := gon_z (g := vg_dec (vg_rem g y n) s) h
  refine ⟨h1.1.trans ?_, h1.2.1.trans ?_, h1.2.2.trans ?_⟩
  · rw [dec_ki, rem_ki]
  · rw [dec_sz, rem_sz, un_ap]
  · rw [dec_wp, rem_wp]
theorem ud_dp {y n s t : Nat} (hI : iv_I g) (hI2 : iv_I (vz_dp g y n s)) (hn : n < 15) (hs : g.nd (15 * y + n) = s) (hsd : g.ki s = 1 → g.sz s = 0) : ∀ k z, z < 40 → g.ki z = 1 → z ≠ s → vg_ud (vz_dp g y n s).ki (vz_dp g y n s).nd t k z = vg_ud g.ki g.nd t k z := by
  intro k
  induction k with
  | zero => intro z _ _ _; rfl
  | succ k ih =>
    intro z hz hk hzs
    rw [ud_s, ud_s]
    by_cases e1 : z = t
    · rw [if_pos e1, if_pos e1]
    · rw [if_neg e1, if_neg e1]
      by_cases e2 : z % 10 = 0
      · rw [if_pos e2, if_pos e2]
      · rw [if_neg e2, if_neg e2]
        obtain ⟨a, b, c, n', hn', e⟩ := par_sp hI hz e2 hk
        generalize hP : vg_par g.ki g.nd z = p at *
        have hps : p ≠ s := by
          intro hps
          rw [hps] at c e
          have h1 := hsd c
          have h2 := hI.2.2.2.2.1 s (by omega) c
          have h3 := bl_lt (nd := g.nd) (p := s) (m := n') (k := 15) hn' (by omega)
          omega
        have h4 : (vz_dp g y n s).nd (15 * p + n') = z := by
          rw [dp_nd, un_n _ _ (by intro hz2; rw [hz2, hs] at e; exact hzs e.symm)]
          exact e
        have h5 := par_uq hI2 hz e2 ((dp_z hzs).1.trans hk) a ((dp_z hps).1.trans c) hn' h4
        rw [h5]
        exact ih p a c hps
/-- what is equal to a name goes: then the name is free -/
theorem dp_eq {y n s l : Nat} (hI : iv_I g) (hy : y < 40) (hky : g.ki y = 1) (h1 : 1 ≤ l) (h14 : l ≤ 14) (he : vg_eq g.fm g.nd y l = n) (hn0 : n ≠ 0) : (vz_dp g y n s).nd (15 * y + l) = 0 ∧ (g.fm (y / 10) = 0 → ∀ m, 1 ≤ m → m ≤ 14 → (m = l + 7 ∨ l = m + 7) → (vz_dp g y n s).nd (15 * y + m) = 0) := by
  have htb := hI.2.2.2.2.2.1
  rw [dp_nd]
  unfold vg_eq at he
  by_cases e : g.nd (15 * y + l) ≠ 0
  · rw [if_pos e] at he
    subst he
    refine ⟨un_s _ _ _, fun hf m hm1 hm hc => ?_⟩
    rw [un_n _ _ (by omega)]
    rcases hc with hc | hc
    · have h2 := htb y l hy hky hf h1 (by omega)
      rw [show l + 7 = m by omega] at h2
      exact h2.resolve_left e
    · have h2 := htb y m hy hky hf hm1 (by omega)
      rw [show m + 7 = l by omega] at h2
      exact h2.resolve_right e
  · rw [if_neg e] at he
    have el : g.nd (15 * y + l) = 0 := Classical.byContradiction e
    by_cases ef : g.fm (y / 10) ≠ 0
    · rw [if_pos ef] at he
      exact absurd he.symm hn0
    · rw [if_neg ef] at he
      by_cases e3 : g.nd (15 * y + vg_oth l) ≠ 0
      · rw [if_pos e3] at he
        have hln : l ≠ n := by
          rw [← he]
          unfold vg_oth
          split <;> omega
        refine ⟨?_, fun _ m hm1 hm hc => ?_⟩
        · rw [un_n _ _ (by omega)]
          exact el
        · have : m = n := by
            rw [← he]
            unfold vg_oth
            split <;> omega
          rw [this]
          exact un_s _ _ _
      · rw [if_neg e3] at he
        exact absurd he.symm hn0
theorem iv_rp {x m t y n s : Nat} (hI : iv_I g) (hI2 : iv_I (vz_dp g y n s)) (hx : x < 40) (hkx : g.ki x = 1) (hm1 : 1 ≤ m) (hm : m ≤ 14) (ht : g.nd (15 * x + m) = t) (ht0 : t ≠ 0) (hy : y < 40) (hky : g.ki y = 1) (hd : y / 10 = x / 10) (h1 : 1 ≤ vg_ls g 1) (h14 : vg_ls g 1 ≤ 14) (he : vg_eq g.fm g.nd y (vg_ls g 1) = n) (hn0 : n ≠ 0) (hn : n ≤ 14) (hs : g.nd (15 * y + n) = s) (hs0 : s ≠ 0) (hts : t ≠ s) (hsd : g.ki s = 1 → g.sz s = 0) (hu : vg_ud g.ki g.nd t 10 y = 0) :
    (vz_dp g y n s).nd (15 * x + m) = t ∧ (vz_dp g y n s).ki x = 1 ∧ (vz_dp g y n s).ki y = 1 ∧ iv_I (vg_put (vg_rem (vz_dp g y n s) x m) y (vg_ls g 1) t) ∧ (vg_rem (vz_dp g y n s) x m).nd (15 * y + vg_ls g 1) = 0 ∧ (vg_rem (vz_dp g y n s) x m).sz y ≤ 5 := by
  have cx := hI.2.2.2.2.1 x hx hkx
  have cy := hI.2.2.2.2.1 y hy hky
  have bx := bl_lt (nd := g.nd) (p := x) (m := m) (k := 15) (by omega) (by rw [ht]; exact ht0)
  have by' := bl_lt (nd := g.nd) (p := y) (m := n) (k := 15) (by omega) (by rw [hs]; exact hs0)
  have hsn := hI.2.2.1 (15 * y + n) (by omega) (by rw [hs]; exact hs0)
  rw [hs] at hsn
  have hxs : x ≠ s := by intro e; rw [← e] at hsd; have := hsd hkx; omega
  have hys : y ≠ s := by intro e; rw [← e] at hsd; have := hsd hky; omega
  have dx := dp_z (g := g) (y := y) (n := n) hxs
  have dy := dp_z (g := g) (y := y) (n := n) hys
  rw [if_pos rfl] at dy
  have a1 : (vz_dp g y n s).nd (15 * x + m) = t := by
    rw [dp_nd, un_n _ _ (by intro z; rw [z, hs] at ht; exact hts ht.symm)]
    exact ht
  have a2 := dx.1.trans hkx
  have a3 := dy.1.trans hky
  have hq := dp_eq (s := s) hI hy hky h1 h14 he hn0
  have hz : ∀ j, (vz_dp g y n s).nd j = 0 → (vg_rem (vz_dp g y n s) x m).nd j = 0 := by
    intro j hj
    have hR : (vg_rem (vz_dp g y n s) x m).nd j = if j = 15 * x + m then 0 else (vz_dp g y n s).nd j := rfl
    rw [hR, hj]
    exact ite_self 0
  have hS : (vg_rem (vz_dp g y n s) x m).sz y ≤ 5 := by
    rw [rem_sz, un_ap]
    split
    · rename_i e
      rw [← e, dy.2.1]
      omega
    · rw [dy.2.1]
      omega
  refine ⟨a1, a2, a3, ?_, hz _ hq.1, hS⟩
  refine iv_mov hI2 hx a2 hm1 hm a1 ht0 hy a3 hd h1 h14 (hz _ hq.1) (fun hf m' b1 b2 b3 => hz _ (hq.2 (by rw [dp_fm] at hf; exact hf) m' b1 b2 b3)) hS ?_ (fun _ => ?_)
  · have hbk2 := hI2.2.2.2.2.2.2.2.2.2.2.2.2.2.1 (x / 10) (by omega)
    by_cases hf : g.fm (x / 10) = 0
    · have hbk := hI.2.2.2.2.2.2.2.2.2.2.2.2.2.1 (x / 10) (by omega)
      have hde : (vz_dp g y n s).de = g.de := by
        unfold vz_dp
        rw [gon_d (by rw [dec_fm, rem_fm, show s / 10 = x / 10 by omega]; omega), dec_de, rem_de]
      have hle : vg_tk (vz_dp g y n s).fm (vz_dp g y n s).ki (vg_put (vg_rem (vz_dp g y n s) x m) y (vg_ls g 1) t).sz (vz_dp g y n s).wp (x / 10) ≤ vg_tk g.fm g.ki g.sz g.wp (x / 10) := by
        unfold vg_tk
        refine sm_le (fun i hi => ?_)
        generalize hZ : 10 * (x / 10) + i = z
        by_cases ez : z = s
        · subst ez
          have g1 := gon_o (g := vg_dec (vg_rem g y n) z) (o := z)
          have g2 : vg_bk (vg_dec (vg_rem g y n) z).fm (vg_dec (vg_rem g y n) z).ki (vg_dec (vg_rem g y n) z).sz (vg_dec (vg_rem g y n) z).wp z = vg_bk g.fm g.ki g.sz g.wp z := bk_cg rfl rfl (un_n _ _ (fun w => hys w.symm)) rfl
          have g3 : vg_bk (vz_dp g y n z).fm (vz_dp g y n z).ki (vg_put (vg_rem (vz_dp g y n z) x m) y (vg_ls g 1) t).sz (vz_dp g y n z).wp z = vg_bk (vz_dp g y n z).fm (vz_dp g y n z).ki (vz_dp g y n z).sz (vz_dp g y n z).wp z := bk_cg rfl rfl (by rw [put_sz, un_n _ _ (fun w => hys w.symm), rem_sz, un_n _ _ (fun w => hxs w.symm)]) rfl
          rw [g3, ← g2]
          exact g1
        · have dz := dp_z (g := g) (y := y) (n := n) ez
          unfold vg_bk
          rw [dp_fm, dz.1, dz.2.2]
          by_cases ek : g.ki z = 1
          · rw [if_pos ek, if_pos ek]
            refine bd_le ?_
            rw [put_sz, un_ap, rem_sz, un_ap]
            by_cases e1 : z = y
            · rw [if_pos e1]
              by_cases e2 : y = x
              · rw [if_pos e2, ← e2, dy.2.1, e1]
                omega
              · rw [if_neg e2, dy.2.1, e1]
                omega
            · rw [if_neg e1, un_ap]
              by_cases e2 : z = x
              · rw [if_pos e2, dx.2.1, if_neg (by rw [← e2]; exact e1), e2]
                omega
              · rw [if_neg e2, dz.2.1, if_neg e1]
                omega
          · rw [if_neg ek, if_neg ek]
            by_cases ek2 : g.ki z = 2
            · have hzy : z ≠ y := by intro w; rw [w] at ek; exact ek hky
              have hzx : z ≠ x := by intro w; rw [w] at ek; exact ek hkx
              have hz9 : (vg_put (vg_rem (vz_dp g y n s) x m) y (vg_ls g 1) t).sz z = g.sz z := by
                rw [put_sz, un_n _ _ hzy, rem_sz, un_n _ _ hzx, dz.2.1, if_neg hzy]
              rw [hz9]
              exact Nat.le_refl _
            · rw [if_neg ek2, if_neg ek2]
              exact Nat.le_refl _
      have hde2 : (vz_dp g y n s).de (x / 10) = g.de (x / 10) := by rw [hde]
      rw [hde2]
      omega
    · have hcg : vg_tk (vz_dp g y n s).fm (vz_dp g y n s).ki (vg_put (vg_rem (vz_dp g y n s) x m) y (vg_ls g 1) t).sz (vz_dp g y n s).wp (x / 10) = vg_tk (vz_dp g y n s).fm (vz_dp g y n s).ki (vz_dp g y n s).sz (vz_dp g y n s).wp (x / 10) := by
        refine tk_cg (fun z hz2 => ?_)
        unfold vg_bk
        by_cases ek : (vz_dp g y n s).ki z = 1
        · rw [if_pos ek, if_pos ek]
          exact bd_n0 (by rw [dp_fm, hz2]; exact hf)
        · rw [if_neg ek, if_neg ek, put_sz, un_n _ _ (by intro w; rw [w] at ek; exact ek a3), rem_sz, un_n _ _ (by intro w; rw [w] at ek; exact ek a2)]
      rw [hcg]
      exact hbk2
  · rw [ud_dp hI hI2 (by omega) hs hsd 10 y hy hky hys]
    exact hu
/-! the component's part -/
theorem vx_refusal {post : Int32 → Prop} {x m y t : Nat} (hI : iv_I g) (hx : vg_gd g x) (hm : m < 15) (ht : g.nd (15 * x + m) = t) (htl : t < 40) (hy : vg_gd g y) (hky : g.ki y = 1) (h11 : x / 10 ≠ y / 10 → post (-11)) (h6 : x / 10 = y / 10 → g.ro (x / 10) ≠ 0 → post (-6)) (h8 : x / 10 = y / 10 → g.ro (x / 10) = 0 → vg_co g.mo t < 4 → post (-8)) (h12 : x / 10 = y / 10 → g.ro (x / 10) = 0 → ¬ vg_co g.mo t < 4 → vg_ud g.ki g.nd t 10 y = 1 → post (-12)) (h0 : x / 10 = y / 10 → g.ro (x / 10) = 0 → ¬ vg_co g.mo t < 4 → vg_ud g.ki g.nd t 10 y = 0 → post 0) : wpX_refusalToMove post (vx_S g ac ah) (nI x) (nI m) (nI y) := by
  have hxl := hx.1
  have hyl := hy.1
  have hrb := hI.1.2.1 (x / 10)
  have EI := vn_i15 x m
  unfold wpX_refusalToMove vx_S
  refine vx_diskOf (by omega) (vx_diskOf (by omega) (pk_eq (x / 10) (y / 10) (fun e => vx_diskOf (by omega) ⟨vp_in_nI (by omega) (by decide), ?_⟩) (fun e => h11 e)))
  rw [cv_at (f := g.ro) (by omega)]
  refine pk_eq (g.ro (x / 10)) 0 (fun er => ⟨by rw [EI]; exact vp_in_nI (by omega) (by decide), nm_r (e' := nI t) (by rw [EI, cv_at (by omega), ht]) ?_⟩) (fun er => h6 e er)
  refine vx_isCovered (g := g) (ac := ac) (ah := ah) hI htl (fun hc => br_t rfl ?_) (fun hc => br_f (by decide) (h8 e er hc))
  exact vx_below (g := g) (ac := ac) (ah := ah) hI htl hy hky (fun hu => br_f (by decide) (h12 e er hc hu)) (fun hu => br_t rfl (h0 e er hc hu))
theorem vx_moveNew {post : Int32 → SX → Prop} {x m y t : Nat} (hI : iv_I g) (hx : vg_gd g x) (hkx : g.ki x = 1) (hm : m < 15) (ht : g.nd (15 * x + m) = t) (ht0 : t ≠ 0) (hy : vg_gd g y) (hky : g.ki y = 1) (hd : y / 10 = x / 10) (hls : vg_ls g 1 < 15)
    (h7 : x ≠ y → (6 ≤ g.sz y ∨ vg_fr g (x / 10) + (vg_bd (g.fm (x / 10)) (g.sz x) - vg_bd (g.fm (x / 10)) (g.sz x - 1)) < vg_bd (g.fm (x / 10)) (g.sz y + 1) - vg_bd (g.fm (x / 10)) (g.sz y)) → post (-7) (vx_S g ac ah))
    (h0 : ¬ (x ≠ y ∧ (6 ≤ g.sz y ∨ vg_fr g (x / 10) + (vg_bd (g.fm (x / 10)) (g.sz x) - vg_bd (g.fm (x / 10)) (g.sz x - 1)) < vg_bd (g.fm (x / 10)) (g.sz y + 1) - vg_bd (g.fm (x / 10)) (g.sz y))) → post 0 (vx_S (vg_put (vg_rem g x m) y (vg_ls g 1) t) ac ah)) : wpX_moveToNewName post (vx_S g ac ah) (nI x) (nI m) (nI y) := by
  have hxl := hx.1
  have hyl := hy.1
  have hsx := hI.1.2.2.2.2.2.2.2.1 x
  have hsy := hI.1.2.2.2.2.2.2.2.1 y
  have cx := hI.2.2.2.2.1 x hxl hkx
  have bx := bl_lt (nd := g.nd) (p := x) (m := m) (k := 15) hm (by rw [ht]; exact ht0)
  have hix : vp_in (nI x) 40 := vp_in_nI hxl (by decide)
  have hiy : vp_in (nI y) 40 := vp_in_nI hyl (by decide)
  have hb := bd_le (f := g.fm (x / 10)) (show g.sz x - 1 ≤ g.sz x by omega)
  have hb2 := bd_mono (f := g.fm (x / 10)) (s := g.sz x)
  have hb3 := bd_mono (f := g.fm (x / 10)) (s := g.sz y + 1)
  have hfr : vg_fr g (x / 10) ≤ 32 := by unfold vg_fr; omega
  have mv : ¬ (x ≠ y ∧ (6 ≤ g.sz y ∨ vg_fr g (x / 10) + (vg_bd (g.fm (x / 10)) (g.sz x) - vg_bd (g.fm (x / 10)) (g.sz x - 1)) < vg_bd (g.fm (x / 10)) (g.sz y + 1) - vg_bd (g.fm (x / 10)) (g.sz y))) → wX_moveToNewName_71 post (nI x) (nI m) (nI y) (vg_tv g.tp) (nI g.cu) ac (vg_cv g.fm) (vg_cv g.ro) (vg_cv g.de) (vg_cm g.mo) (vg_cv g.ki) (vg_cv g.sz) (vg_cv g.ef) (vg_cv g.wp) g.hd (vg_cv g.nd) (vg_cv g.oF) (vg_cv g.oH) (vg_cv g.po) (vg_cv g.dr) (vg_cv g.dl) ah := by
    intro hc
    unfold wX_moveToNewName_71
    exact vx_moveEntry (g := g) (ac := ac) (ah := ah) hI hxl hkx hm ht ht0 hyl hls (h0 hc)
  unfold wpX_moveToNewName vx_S
  refine vx_diskOf (by omega) ?_
  rw [hd]
  refine pk_eq x y (fun e => mv (fun z => z.1 e)) (fun e => ⟨hix, ?_⟩)
  rw [cv_at (f := g.sz) (k := x) (by omega), cv_at (f := g.sz) (k := y) (by omega), vn_s1 (by omega)]
  refine vx_blocksOfDirectory (g := g) (ac := ac) (ah := ah) hI (by omega) (by omega) ⟨hix, vx_blocksOfDirectory (g := g) (ac := ac) (ah := ah) hI (by omega) (by omega) (nm_r (pk_sub hb) ⟨hiy, ?_⟩)⟩
  refine pk_le 6 (g.sz y) (fun e6 => h7 e (Or.inl e6)) (fun e6 => vx_further (g := g) (ac := ac) (ah := ah) hI hyl (vx_freeBlocks (g := g) (ac := ac) (ah := ah) hI (by omega) ?_))
  rw [hd, nI_add]
  exact pk_le _ _ (fun ec => mv (fun z => by omega)) (fun ec => h7 e (Or.inr ec)) rfl rfl (by omega) (by omega)
end VZ54
