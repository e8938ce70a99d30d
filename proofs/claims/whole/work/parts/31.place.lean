section VZ31
def vz_R (u : SX) (v : SY) : Prop := ∃ (g : vg_G) (ac : Int32) (ah : Nat → Int32) (lf pl nm : Int32) (aM aB aC aZ aN aT aS aI aH aD : Nat → Int32), iv_I g ∧ vy_R g aM aB aC aZ aN aT aS aI aH ∧ u = vx_S g ac ah ∧ v = vy_S g lf pl nm aM aB aC aZ aN aT aS aI aH aD
variable {g : vg_G} {ac : Int32} {ah : Nat → Int32} {lf pl nm : Int32} {aM aB aC aZ aN aT aS aI aH aD : Nat → Int32}
theorem vz_mk (hI : iv_I g) (hR : vy_R g aM aB aC aZ aN aT aS aI aH) : vz_R (vx_S g ac ah) (vy_S g lf pl nm aM aB aC aZ aN aT aS aI aH aD) := ⟨g, ac, ah, lf, pl, nm, aM, aB, aC, aZ, aN, aT, aS, aI, aH, aD, hI, hR, rfl, rfl⟩
theorem vz_t1 (hI : iv_I g) : vg_tv g.tp = -1 ↔ g.tp = 0 := tv_eq (by have := hI.1.2.2.2.2.1; omega)
theorem vz_t2 (hI : iv_I g) : 0 ≤ vg_tv g.tp ↔ g.tp ≠ 0 := tv_ge (by have := hI.1.2.2.2.2.1; omega)
theorem vz_t3 (hI : iv_I g) : vg_tv g.tp < 0 ↔ g.tp = 0 := tv_lt (by have := hI.1.2.2.2.2.1; omega)
theorem vz_k1 {x : Nat} (hI : iv_I g) (hx : x < 40) : vg_cv g.ki (nI x).toNatClampNeg = 1 ↔ g.ki x = 1 := by
  have := hI.1.2.2.2.2.2.2.1 x
  rw [cv_at (by omega)]
  exact vn_e1 (by omega)
theorem vw_neg3 {fl r : Int32} (h : vw_ok g fl r) : r < 0 ∨ ∃ x, vg_gd g x ∧ (fl ≠ 0 → g.ki x ≠ 3) ∧ r = nI x := by
  rcases h with h | h | h | h
  · exact Or.inr h
  · left; rw [h]; decide
  · left; rw [h]; decide
  · left; rw [h]; decide
theorem vw_neg {fl r : Int32} (h : vw_ok g fl r) : r < 0 ∨ ∃ x, vg_gd g x ∧ r = nI x := by
  rcases vw_neg3 h with h | ⟨x, a, _, b⟩
  · exact Or.inl h
  · exact Or.inr ⟨x, a, b⟩
theorem ls_b {p : Nat} (hI : iv_I g) : vg_ls g p ≤ 15 := by
  unfold vg_ls
  split
  · omega
  · exact hI.1.2.2.2.2.2.2.2.2.2.2.2.2.2.2.1 _
theorem vw_place {p : Nat} (hI : iv_I g) (hR : vy_R g aM aB aC aZ aN aT aS aI aH) (ht : g.tp ≠ 0) (hp : p < 2) :
    (∃ x, vg_gd g x ∧ g.ki x = 1 ∧ 1 ≤ vg_ls g p ∧ vg_ls g p ≤ 14 ∧ (∀ (post : Int32 → SX → Prop) ac ah, (∀ c a', post (nI x) (vx_S g c a')) → wpX_placeOf post (vx_S g ac ah) (nI p)) ∧ (∀ (post : Int32 → SY → Prop) lf pl nm aD, (∀ c a', post 0 (vy_S g c (nI x) (nI (vg_ls g p)) aM aB aC aZ aN aT aS aI aH a')) → wpY_findPlace post (vy_S g lf pl nm aM aB aC aZ aN aT aS aI aH aD) (nI p))) ∨
    (∃ r : Int32, r < 0 ∧ (∀ (post : Int32 → SX → Prop) ac ah, (∀ c a', post r (vx_S g c a')) → wpX_placeOf post (vx_S g ac ah) (nI p)) ∧ (∀ (post : Int32 → SY → Prop) lf pl nm aD, (∀ c a', post r (vy_S g c pl nm aM aB aC aZ aN aT aS aI aH a')) → wpY_findPlace post (vy_S g lf pl nm aM aB aC aZ aN aT aS aI aH aD) (nI p))) := by
  have hl := hI.1.2.2.2.2.2.2.2.2.2.2.2.2.2.2.2 p
  have hls := ls_b (p := p) hI
  have hip : vp_in (nI p) 2 := vp_in_nI hp (by decide)
  have X0 : ∀ (post : Int32 → SX → Prop) ac ah, (vg_ls g p = 0 ∨ vg_ls g p = 15) → (∀ c a', post (-12) (vx_S g c a')) → wpX_placeOf post (vx_S g ac ah) (nI p) := by
    intro post ac ah hz h
    unfold wpX_placeOf vx_S
    refine vx_lastStep (g := g) (ac := ac) (ah := ah) hl hp ?_
    refine pk_eq (vg_ls g p) 0 (fun _ => h _ _) (fun e => pk_eq (vg_ls g p) 15 (fun _ => h _ _) (fun e2 => absurd hz (by omega)))
  have Y0 : ∀ (post : Int32 → SY → Prop) lf pl nm aD, (∀ x2 : Int32, x2 = nI (g.dl p) → wY_findPlace_27 post (nI p) x2 (nI (vg_ls g p)) (vg_tv g.tp) (nI g.cu) lf pl nm (vg_cv g.fm) (vg_cv g.de) (vg_cv g.ro) aM aB (vg_cv g.ki) aC aZ (vg_cv g.wp) aN aT aS aI (vg_cv g.dr) (vg_cv g.dl) aH (vg_cv g.po) (vg_cv g.oH) aD) → wpY_findPlace post (vy_S g lf pl nm aM aB aC aZ aN aT aS aI aH aD) (nI p) := by
    intro post lf pl nm aD h
    unfold wpY_findPlace vy_S
    refine ⟨hip, nm_r (cv_at (by omega)) ?_⟩
    have h2 := h _ rfl
    unfold vg_ls at h2
    refine pk_le (g.dl p) 0 (fun e => ?_) (fun e => ?_)
    · rw [if_pos (by omega)] at h2
      exact h2
    · rw [if_neg (by omega)] at h2
      have eI : 5 * nI p + nI (g.dl p) - 1 = nI (5 * p + g.dl p - 1) := by rw [vn_ml5, nI_add, vn_s1 (by omega)]
      rw [eI, cv_at (by omega)]
      exact ⟨vp_in_nI (by omega) (by decide), h2⟩
  by_cases h0 : vg_ls g p = 0 ∨ vg_ls g p = 15
  · refine Or.inr ⟨-12, by decide, fun post ac ah h => X0 post ac ah h0 h, fun post lf pl nm aD h => Y0 post lf pl nm aD (fun x2 _ => ?_)⟩
    unfold wY_findPlace_27
    exact pk_eq (vg_ls g p) 0 (fun _ => h _ _) (fun e => pk_eq (vg_ls g p) 15 (fun _ => h _ _) (fun e2 => absurd h0 (by omega)))
  · have hd0 : g.dl p ≠ 0 := by intro e; apply h0; left; unfold vg_ls; rw [if_pos e]
    obtain ⟨r, ok, hX, hY⟩ := vw_walk (p := p) (n := g.dl p - 1) 1 hI hR ht hp (by omega)
    have X1 : ∀ (post : Int32 → SX → Prop) ac ah, (∀ c a', (r < 0 → post r (vx_S g c a')) ∧ (¬ r < 0 → (vp_in r 40 ∧ ((vg_cv g.ki r.toNatClampNeg = 1 → post r (vx_S g c a')) ∧ (¬ vg_cv g.ki r.toNatClampNeg = 1 → post (-2) (vx_S g c a')))))) → wpX_placeOf post (vx_S g ac ah) (nI p) := by
      intro post ac ah h
      unfold wpX_placeOf vx_S
      refine vx_lastStep (g := g) (ac := ac) (ah := ah) hl hp ?_
      refine pk_eq (vg_ls g p) 0 (fun e => absurd (Or.inl e) h0) (fun e => pk_eq (vg_ls g p) 15 (fun e2 => absurd (Or.inr e2) h0) (fun e2 => ⟨hip, ?_⟩))
      rw [cv_at (by omega), vn_s1 (by omega)]
      exact hX _ ac ah (fun c a' => h c a')
    have Y1 : ∀ (post : Int32 → SY → Prop) lf pl nm aD, (∀ c a', (0 ≤ r → (vp_in r 40 ∧ ((vg_cv g.ki r.toNatClampNeg = 1 → post 0 (vy_S g c r (nI (vg_ls g p)) aM aB aC aZ aN aT aS aI aH a')) ∧ (¬ vg_cv g.ki r.toNatClampNeg = 1 → post (-2) (vy_S g c pl nm aM aB aC aZ aN aT aS aI aH a'))))) ∧ (¬ 0 ≤ r → post r (vy_S g c pl nm aM aB aC aZ aN aT aS aI aH a'))) → wpY_findPlace post (vy_S g lf pl nm aM aB aC aZ aN aT aS aI aH aD) (nI p) := by
      intro post lf pl nm aD h
      refine Y0 post lf pl nm aD (fun x2 e2 => ?_)
      rw [e2]
      unfold wY_findPlace_27
      refine pk_eq (vg_ls g p) 0 (fun e => absurd (Or.inl e) h0) (fun e => pk_eq (vg_ls g p) 15 (fun e => absurd (Or.inr e) h0) (fun e => ?_))
      rw [vn_s1 (by omega)]
      exact hY _ lf pl nm aD (fun c a' => h c a')
    rcases vw_neg ok with hr | ⟨x, hx, rfl⟩
    · exact Or.inr ⟨r, hr, fun post ac ah h => X1 post ac ah (fun c a' => br_t hr (h c a')), fun post lf pl nm aD h => Y1 post lf pl nm aD (fun c a' => br_f (Int32.not_le.mpr hr) (h c a'))⟩
    · have hxl := hx.1
      have EK := vz_k1 hI hxl
      have hix : vp_in (nI x) 40 := vp_in_nI hxl (by decide)
      by_cases hk : g.ki x = 1
      · exact Or.inl ⟨x, hx, hk, by omega, by omega, fun post ac ah h => X1 post ac ah (fun c a' => br_f (nI_pos (by omega)) ⟨hix, br_t (EK.mpr hk) (h c a')⟩), fun post lf pl nm aD h => Y1 post lf pl nm aD (fun c a' => br_t (nI_pos' (by omega)) ⟨hix, br_t (EK.mpr hk) (h c a')⟩)⟩
      · exact Or.inr ⟨-2, by decide, fun post ac ah h => X1 post ac ah (fun c a' => br_f (nI_pos (by omega)) ⟨hix, br_f (fun z => hk (EK.mp z)) (h c a')⟩), fun post lf pl nm aD h => Y1 post lf pl nm aD (fun c a' => br_t (nI_pos' (by omega)) ⟨hix, br_f (fun z => hk (EK.mp z)) (h c a')⟩)⟩
theorem vx_nameAt {post : Int32 → Prop} {x p : Nat} (hI : iv_I g) (hp : p < 2) (hx : x < 40) (h1 : 1 ≤ vg_ls g p) (h14 : vg_ls g p ≤ 14) (h : post (nI (vg_eq g.fm g.nd x (vg_ls g p)))) : wpX_nameAt post (vx_S g ac ah) (nI x) (nI p) := by
  have hl := hI.1.2.2.2.2.2.2.2.2.2.2.2.2.2.2.2 p
  unfold wpX_nameAt vx_S
  refine vx_lastStep (g := g) (ac := ac) (ah := ah) hl hp ?_
  exact vx_equalName (g := g) (ac := ac) (ah := ah) hI hx h1 h14 h
theorem fi_neg {x n : Nat} (hI : iv_I g) (hx : x < 40) (hk : g.ki x = 1) (h1 : 1 ≤ n) (hn : n ≤ 14) : (vg_fi g x n < 0 ↔ vg_eq g.fm g.nd x n = 0) ∧ (0 ≤ vg_fi g x n ↔ vg_eq g.fm g.nd x n ≠ 0) := by
  unfold vg_fi
  by_cases e : vg_eq g.fm g.nd x n = 0
  · rw [if_pos e]
    exact ⟨⟨fun _ => e, fun _ => by decide⟩, ⟨fun z => absurd z (by decide), fun z => absurd e z⟩⟩
  · rw [if_neg e]
    have hne := vq_in e
    have hq := vq_le (fm := g.fm) (nd := g.nd) (p := x) hn h1
    have hbl := bl_lt (nd := g.nd) (p := x) (m := vg_eq g.fm g.nd x n) (k := 15) (by omega) hne
    have hc := hI.2.2.2.2.1 x hx hk
    exact ⟨⟨fun z => absurd z (nI_pos (by omega)), fun z => absurd z e⟩, ⟨fun _ => e, fun _ => nI_pos' (by omega)⟩⟩
/-- a place for something new -/
theorem vw_new (hI : iv_I g) (hR : vy_R g aM aB aC aZ aN aT aS aI aH) :
    (∃ x, g.tp ≠ 0 ∧ vg_gd g x ∧ g.ki x = 1 ∧ 1 ≤ vg_ls g 0 ∧ vg_ls g 0 ≤ 14 ∧ vg_eq g.fm g.nd x (vg_ls g 0) = 0 ∧ g.ro (x / 10) = 0 ∧ (∀ (post : Int32 → SX → Prop) ac ah, (∀ c a', post (nI x) (vx_S g c a')) → wpX_placeForNew post (vx_S g ac ah)) ∧ (∀ (post : Int32 → SY → Prop) lf pl nm aD, (∀ c a', post 0 (vy_S g c (nI x) (nI (vg_ls g 0)) aM aB aC aZ aN aT aS aI aH a')) → wpY_barred post (vy_S g lf pl nm aM aB aC aZ aN aT aS aI aH aD))) ∨
    (∃ r : Int32, r < 0 ∧ (∀ (post : Int32 → SX → Prop) ac ah, (∀ c a', post r (vx_S g c a')) → wpX_placeForNew post (vx_S g ac ah)) ∧ (∀ (post : Int32 → SY → Prop) lf pl nm aD, (∀ c pl' nm' a', post r (vy_S g c pl' nm' aM aB aC aZ aN aT aS aI aH a')) → wpY_barred post (vy_S g lf pl nm aM aB aC aZ aN aT aS aI aH aD))) := by
  by_cases ht : g.tp = 0
  · refine Or.inr ⟨-13, by decide, fun post ac ah h => ?_, fun post lf pl nm aD h => ?_⟩
    · unfold wpX_placeForNew vx_S
      exact br_t ((vz_t1 hI).mpr ht) (h _ _)
    · unfold wpY_barred vy_S
      exact br_f (fun z => (vz_t2 hI).mp z ht) (h _ _ _ _)
  · have nt1 : ¬ vg_tv g.tp = -1 := fun z => ht ((vz_t1 hI).mp z)
    have t2 := (vz_t2 hI).mpr ht
    rcases vw_place (p := 0) hI hR ht (by omega) with ⟨x, hx, hk, h1, h14, hX, hY⟩ | ⟨r, hr, hX, hY⟩
    · have hxl := hx.1
      have hrb := hI.1.2.1 (x / 10)
      have hq := vq_le (fm := g.fm) (nd := g.nd) (p := x) h14 h1
      have ER : vg_cv g.ro (nI (x / 10)).toNatClampNeg = 0 ↔ g.ro (x / 10) = 0 := by
        rw [cv_at (by omega)]
        exact vn_e0 (by omega)
      have hid : vp_in (nI (x / 10)) 4 := vp_in_nI (by omega) (by decide)
      have fn := fi_neg hI hxl hk h1 h14
      have XX : ∀ (post : Int32 → SX → Prop) ac ah, (∀ c a', ((vg_eq g.fm g.nd x (vg_ls g 0) = 0 → (g.ro (x / 10) = 0 → post (nI x) (vx_S g c a')) ∧ (g.ro (x / 10) ≠ 0 → post (-6) (vx_S g c a'))) ∧ (vg_eq g.fm g.nd x (vg_ls g 0) ≠ 0 → post (-4) (vx_S g c a')))) → wpX_placeForNew post (vx_S g ac ah) := by
        intro post ac ah h
        unfold wpX_placeForNew vx_S
        refine br_f nt1 ?_
        refine hX _ ac ah (fun c a' => br_t (nI_pos' (by omega)) ?_)
        refine vx_nameAt (g := g) (ac := c) (ah := a') (p := 0) hI (by omega) hxl h1 h14 ?_
        refine pk_eq (vg_eq g.fm g.nd x (vg_ls g 0)) 0 (fun e => vx_diskOf (by omega) ⟨hid, fun er => ((h c a').1 e).1 (ER.mp er), fun er => ((h c a').1 e).2 (fun z => er (ER.mpr z))⟩) (fun e => (h c a').2 e)
      have YY : ∀ (post : Int32 → SY → Prop) lf pl nm aD, (∀ c a', ((vg_eq g.fm g.nd x (vg_ls g 0) = 0 → (g.ro (x / 10) = 0 → post 0 (vy_S g c (nI x) (nI (vg_ls g 0)) aM aB aC aZ aN aT aS aI aH a')) ∧ (g.ro (x / 10) ≠ 0 → post (-6) (vy_S g c (nI x) (nI (vg_ls g 0)) aM aB aC aZ aN aT aS aI aH a'))) ∧ (vg_eq g.fm g.nd x (vg_ls g 0) ≠ 0 → post (-4) (vy_S g c (nI x) (nI (vg_ls g 0)) aM aB aC aZ aN aT aS aI aH a')))) → wpY_barred post (vy_S g lf pl nm aM aB aC aZ aN aT aS aI aH aD) := by
        intro post lf pl nm aD h
        unfold wpY_barred vy_S
        refine br_t t2 ?_
        refine hY _ lf pl nm aD (fun c a' => br_t rfl ?_)
        refine vy_find (lf := c) (pl := nI x) (nm := nI (vg_ls g 0)) (aD := a') hI hR.2.1 hxl hk h1 h14 ?_
        rw [vn_d10 (by omega)]
        exact ⟨fun e => ⟨vz_10, hid, fun er => ((h c a').1 (fn.1.mp e)).1 (ER.mp er), fun er => ((h c a').1 (fn.1.mp e)).2 (fun z => er (ER.mpr z))⟩, fun e => (h c a').2 (fun z => e (fn.1.mpr z))⟩
      by_cases he : vg_eq g.fm g.nd x (vg_ls g 0) = 0
      · by_cases hro : g.ro (x / 10) = 0
        · exact Or.inl ⟨x, ht, hx, hk, h1, h14, he, hro, fun post ac ah h => XX post ac ah (fun c a' => ⟨fun _ => ⟨fun _ => h c a', fun z => absurd hro z⟩, fun z => absurd he z⟩), fun post lf pl nm aD h => YY post lf pl nm aD (fun c a' => ⟨fun _ => ⟨fun _ => h c a', fun z => absurd hro z⟩, fun z => absurd he z⟩)⟩
        · exact Or.inr ⟨-6, by decide, fun post ac ah h => XX post ac ah (fun c a' => ⟨fun _ => ⟨fun z => absurd z hro, fun _ => h c a'⟩, fun z => absurd he z⟩), fun post lf pl nm aD h => YY post lf pl nm aD (fun c a' => ⟨fun _ => ⟨fun z => absurd z hro, fun _ => h c _ _ a'⟩, fun z => absurd he z⟩)⟩
      · exact Or.inr ⟨-4, by decide, fun post ac ah h => XX post ac ah (fun c a' => ⟨fun z => absurd z he, fun _ => h c a'⟩), fun post lf pl nm aD h => YY post lf pl nm aD (fun c a' => ⟨fun z => absurd z he, fun _ => h c _ _ a'⟩)⟩
    · refine Or.inr ⟨r, hr, fun post ac ah h => ?_, fun post lf pl nm aD h => ?_⟩
      · unfold wpX_placeForNew vx_S
        refine br_f nt1 ?_
        exact hX _ ac ah (fun c a' => br_f (Int32.not_le.mpr hr) (h c a'))
      · unfold wpY_barred vy_S
        refine br_t t2 ?_
        exact hY _ lf pl nm aD (fun c a' => br_f (fun z => by rw [z] at hr; exact absurd hr (by decide)) (h c _ _ a'))
/-- the place of an entry that is there -/
theorem vw_old (hI : iv_I g) (hR : vy_R g aM aB aC aZ aN aT aS aI aH) :
    (∃ x, g.tp ≠ 0 ∧ vg_gd g x ∧ g.ki x = 1 ∧ 1 ≤ vg_ls g 0 ∧ vg_ls g 0 ≤ 14 ∧ vg_eq g.fm g.nd x (vg_ls g 0) ≠ 0 ∧ (∀ (post : Int32 → SX → Prop) ac ah, (∀ c a', post (nI x) (vx_S g c a')) → wpX_placeOfEntry post (vx_S g ac ah)) ∧ (∀ (post : Int32 → SY → Prop) lf pl nm aD, (∀ c a', post (nI (6 * x + vg_bl g.nd x (vg_eq g.fm g.nd x (vg_ls g 0)))) (vy_S g c (nI x) (nI (vg_ls g 0)) aM aB aC aZ aN aT aS aI aH a')) → wpY_findEntry post (vy_S g lf pl nm aM aB aC aZ aN aT aS aI aH aD))) ∨
    (∃ r : Int32, r < 0 ∧ (∀ (post : Int32 → SX → Prop) ac ah, (∀ c a', post r (vx_S g c a')) → wpX_placeOfEntry post (vx_S g ac ah)) ∧ (∀ (post : Int32 → SY → Prop) lf pl nm aD, (∀ c pl' nm' a', post r (vy_S g c pl' nm' aM aB aC aZ aN aT aS aI aH a')) → wpY_findEntry post (vy_S g lf pl nm aM aB aC aZ aN aT aS aI aH aD))) := by
  by_cases ht : g.tp = 0
  · refine Or.inr ⟨-13, by decide, fun post ac ah h => ?_, fun post lf pl nm aD h => ?_⟩
    · unfold wpX_placeOfEntry vx_S
      exact br_t ((vz_t1 hI).mpr ht) (h _ _)
    · unfold wpY_findEntry vy_S
      exact br_f (fun z => (vz_t2 hI).mp z ht) (h _ _ _ _)
  · have nt1 : ¬ vg_tv g.tp = -1 := fun z => ht ((vz_t1 hI).mp z)
    have t2 := (vz_t2 hI).mpr ht
    rcases vw_place (p := 0) hI hR ht (by omega) with ⟨x, hx, hk, h1, h14, hX, hY⟩ | ⟨r, hr, hX, hY⟩
    · have hxl := hx.1
      have hq := vq_le (fm := g.fm) (nd := g.nd) (p := x) h14 h1
      have fn := fi_neg hI hxl hk h1 h14
      by_cases he : vg_eq g.fm g.nd x (vg_ls g 0) = 0
      · refine Or.inr ⟨-1, by decide, fun post ac ah h => ?_, fun post lf pl nm aD h => ?_⟩
        · unfold wpX_placeOfEntry vx_S
          refine br_f nt1 ?_
          refine hX _ ac ah (fun c a' => br_t (nI_pos' (by omega)) ?_)
          refine vx_nameAt (g := g) (ac := c) (ah := a') (p := 0) hI (by omega) hxl h1 h14 ?_
          exact pk_eq (vg_eq g.fm g.nd x (vg_ls g 0)) 0 (fun e => h c a') (fun e => absurd he e)
        · unfold wpY_findEntry vy_S
          refine br_t t2 ?_
          refine hY _ lf pl nm aD (fun c a' => br_t rfl ?_)
          refine vy_find (lf := c) (pl := nI x) (nm := nI (vg_ls g 0)) (aD := a') hI hR.2.1 hxl hk h1 h14 ?_
          exact br_f (fun z => (fn.2.mp z) he) (h c _ _ a')
      · refine Or.inl ⟨x, ht, hx, hk, h1, h14, he, fun post ac ah h => ?_, fun post lf pl nm aD h => ?_⟩
        · unfold wpX_placeOfEntry vx_S
          refine br_f nt1 ?_
          refine hX _ ac ah (fun c a' => br_t (nI_pos' (by omega)) ?_)
          refine vx_nameAt (g := g) (ac := c) (ah := a') (p := 0) hI (by omega) hxl h1 h14 ?_
          exact pk_eq (vg_eq g.fm g.nd x (vg_ls g 0)) 0 (fun e => absurd e he) (fun e => h c a')
        · unfold wpY_findEntry vy_S
          refine br_t t2 ?_
          refine hY _ lf pl nm aD (fun c a' => br_t rfl ?_)
          refine vy_find (lf := c) (pl := nI x) (nm := nI (vg_ls g 0)) (aD := a') hI hR.2.1 hxl hk h1 h14 ?_
          refine br_t (fn.2.mpr he) ?_
          unfold vg_fi
          rw [if_neg he]
          exact h c a'
    · refine Or.inr ⟨r, hr, fun post ac ah h => ?_, fun post lf pl nm aD h => ?_⟩
      · unfold wpX_placeOfEntry vx_S
        refine br_f nt1 ?_
        exact hX _ ac ah (fun c a' => br_f (Int32.not_le.mpr hr) (h c a'))
      · unfold wpY_findEntry vy_S
        refine br_t t2 ?_
        exact hY _ lf pl nm aD (fun c a' => br_f (fun z => by rw [z] at hr; exact absurd hr (by decide)) (h c _ _ a'))
end VZ31
