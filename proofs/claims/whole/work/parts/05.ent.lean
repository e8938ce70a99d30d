section VI5
theorem iv_w {g : vg_G} {x : Nat} (h : iv_I g) : iv_X g x := by
  obtain ⟨hb, hrt, hna, hnb, hcn, htb, hef, hd1, h⟩ := h
  exact ⟨hb, hrt, hna, hnb, hcn, htb, hef, fun o ho hr hk _ => hd1 o ho hr hk (by omega), h⟩
/-- a further entry for a file, on a disk of nodes -/
theorem iv_ent {g : vg_G} {p n t : Nat} (hI : iv_I g) (hp : p < 40) (hkp : g.ki p = 1) (hn1 : 1 ≤ n) (hn : n ≤ 14) (h0 : g.nd (15 * p + n) = 0)
    (hf : g.fm (p / 10) = 1) (hs : g.sz p ≤ 5) (ht : t < 40) (htd : t / 10 = p / 10) (htk : g.ki t = 2) :
    iv_I (vg_inc (vg_put g p n t) t) := by
  obtain ⟨hb, hrt, hna, hnb, hcn, htb, hef, hd1, hrk, hfl, hlk, hdr, hhn, hbk, hma, hmb⟩ := hI
  obtain ⟨b1, b2, b3, b4, b5, b6, b7, b8, b9, b10, b11, b12, b13, b14, b15, b16⟩ := hb
  have hpt : p ≠ t := by intro e; rw [e, htk] at hkp; omega
  have htr : t % 10 ≠ 0 := by
    intro e
    have := (hrt (t / 10) (by omega)).1
    rw [show 10 * (t / 10) = t by omega, htk] at this
    omega
  have hsz : ∀ q, (vg_inc (vg_put g p n t) t).sz q = if q = p then g.sz p + 1 else g.sz q := fun q => rfl
  have heF : ∀ q, (vg_inc (vg_put g p n t) t).ef q = if q = t then g.ef t + 1 else g.ef q := fun q => rfl
  have hnd0 : ∀ j, (vg_inc (vg_put g p n t) t).nd j = if j = 15 * p + n then t else g.nd j := fun j => rfl
  have hnd : ∀ q m, m < 15 → (vg_inc (vg_put g p n t) t).nd (15 * q + m) = if q = p ∧ m = n then t else g.nd (15 * q + m) := by
    intro q m hm
    rw [hnd0]
    by_cases h1 : q = p ∧ m = n
    · rw [if_pos (by omega), if_pos h1]
    · rw [if_neg (by omega), if_neg h1]
  have hun : (vg_inc (vg_put g p n t) t).nd = vg_un g.nd (15 * p + n) t := rfl
  have hET : g.ef t = vg_en g.ki g.nd t := hef t ht htr (by omega)
  have hE := en_150 (ki := g.ki) (nd := g.nd) (o := t)
  unfold iv_I iv_X iv_bd
  refine ⟨⟨b1, b2, b3, b4, b5, b6, b7, ?_, ?_, b10, ?_, b12, b13, b14, b15, b16⟩, ?_, ?_, ?_, ?_, ?_, ?_, ?_, ?_, ?_, ?_, hdr, hhn, ?_, hma, hmb⟩
  · intro j; rw [hsz]; have := b8 j; split <;> omega
  · intro j; rw [heF]; have := b9 j; split <;> omega
  · intro j; rw [hnd0]; have := b11 j; split <;> omega
  · intro d hd
    rw [heF, if_neg (by omega)]
    exact hrt d hd
  · intro j hj hne
    rw [hnd0] at hne ⊢
    by_cases e1 : j = 15 * p + n
    · rw [if_pos e1]; exact ⟨by omega, htr⟩
    · rw [if_neg e1] at hne ⊢; exact hna j hj hne
  · intro q m hq hk hm hne
    rw [hnd q m hm] at hne ⊢
    by_cases e1 : q = p ∧ m = n
    · rw [if_pos e1]; exact ⟨by omega, by show g.ki t ≠ 0; omega⟩
    · rw [if_neg e1] at hne ⊢; exact hnb q m hq hk hm hne
  · intro q hq hk
    rw [hsz]
    by_cases e1 : q = p
    · subst e1
      rw [if_pos rfl, hun, bl_un_i h0 (by omega), if_pos (by omega)]
      have := hcn q hq hkp
      omega
    · rw [if_neg e1, hun, bl_un_o e1 (by omega) (by omega)]
      exact hcn q hq hk
  · intro q m hq hk hfq h1 h7
    rw [hnd q m (by omega), hnd q (m + 7) (by omega)]
    have e1 : q ≠ p := by intro e; rw [e] at hfq; have : g.fm (p / 10) = 0 := hfq; omega
    rw [if_neg (by omega), if_neg (by omega)]
    exact htb q m hq hk hfq h1 h7
  · intro x hx hxr hxk
    rw [heF, hun]
    show _ = vg_en g.ki _ x
    by_cases e3 : p / 10 = x / 10
    · have h1 := en_un (ki := g.ki) (nd := g.nd) (p := p) (n := n) (t := t) (o := x) (by omega) hkp e3
      rw [h0, if_neg (show ¬ 0 = x by omega)] at h1
      have h2 := hef x hx hxr hxk
      by_cases e1 : x = t
      · subst e1; rw [if_pos rfl] at h1 ⊢; omega
      · rw [if_neg (fun z => e1 z.symm)] at h1; rw [if_neg e1]; omega
    · rw [en_un_o (by omega) e3, if_neg (by intro e; rw [e] at e3; exact e3 htd.symm)]
      exact hef x hx hxr hxk
  · intro x hx hxr hxk hx0
    rw [heF, if_neg (by intro e; rw [e] at hxk; have : g.ki t = 1 := hxk; omega)]
    exact hd1 x hx hxr hxk hx0
  · obtain ⟨rk, hr⟩ := hrk
    refine ⟨rk, ?_⟩
    intro q m hq hk hm hne hkt
    rw [hnd q m hm] at hne hkt ⊢
    by_cases e1 : q = p ∧ m = n
    · rw [if_pos e1] at hkt; have : g.ki t = 1 := hkt; omega
    · rw [if_neg e1] at hne hkt ⊢; exact hr q m hq hk hm hne hkt
  · intro x hx hxk
    rw [hsz, if_neg (by intro e; rw [e] at hxk; have : g.ki p = 2 := hxk; omega)]
    exact hfl x hx hxk
  · intro x hx hxk
    rw [hsz, if_neg (by intro e; rw [e] at hxk; have : g.ki p = 3 := hxk; omega)]
    exact hlk x hx hxk
  · intro d hd
    show g.de d + vg_tk g.fm g.ki (vg_inc (vg_put g p n t) t).sz g.wp d ≤ 32
    rw [tk_cg (ki := g.ki) (sz := g.sz) (fm := g.fm) (wp := g.wp) (fun y hy => by
      by_cases e1 : y = p
      · subst e1
        unfold vg_bk vg_bd
        rw [hkp, hf]
        rfl
      · exact bk_cg rfl rfl (by rw [hsz, if_neg e1]) rfl)]
    exact hbk d hd
/-- an entry goes; the object t that it named may then want one -/
theorem iv_rem {g : vg_G} {p n t : Nat} (hI : iv_I g) (hp : p < 40) (hkp : g.ki p = 1) (hn : n < 15) (h0 : g.nd (15 * p + n) = t) (ht0 : t ≠ 0) :
    iv_X (vg_dec (vg_rem g p n) t) t := by
  obtain ⟨hb, hrt, hna, hnb, hcn, htb, hef, hd1, hrk, hfl, hlk, hdr, hhn, hbk, hma, hmb⟩ := hI
  obtain ⟨b1, b2, b3, b4, b5, b6, b7, b8, b9, b10, b11, b12, b13, b14, b15, b16⟩ := hb
  have hsz : ∀ q, (vg_dec (vg_rem g p n) t).sz q = if q = p then g.sz p - 1 else g.sz q := fun q => rfl
  have heF : ∀ q, (vg_dec (vg_rem g p n) t).ef q = if q = t then g.ef t - 1 else g.ef q := fun q => rfl
  have hnd0 : ∀ j, (vg_dec (vg_rem g p n) t).nd j = if j = 15 * p + n then 0 else g.nd j := fun j => rfl
  have hnd : ∀ q m, m < 15 → (vg_dec (vg_rem g p n) t).nd (15 * q + m) = if q = p ∧ m = n then 0 else g.nd (15 * q + m) := by
    intro q m hm
    rw [hnd0]
    by_cases h1 : q = p ∧ m = n
    · rw [if_pos (by omega), if_pos h1]
    · rw [if_neg (by omega), if_neg h1]
  have hun : (vg_dec (vg_rem g p n) t).nd = vg_un g.nd (15 * p + n) 0 := rfl
  have htn := hna (15 * p + n) (by omega) (by rw [h0]; exact ht0)
  rw [h0] at htn
  have hta := (hnb p n hp hkp hn (by rw [h0]; exact ht0)).2
  rw [h0] at hta
  have ht : t < 40 := by rw [← h0]; exact b11 _
  unfold iv_X iv_bd
  refine ⟨⟨b1, b2, b3, b4, b5, b6, b7, ?_, ?_, b10, ?_, b12, b13, b14, b15, b16⟩, ?_, ?_, ?_, ?_, ?_, ?_, ?_, ?_, ?_, ?_, hdr, hhn, ?_, hma, hmb⟩
  · intro j; rw [hsz]; have := b8 j; have := b8 p; split <;> omega
  · intro j; rw [heF]; have := b9 j; have := b9 t; split <;> omega
  · intro j; rw [hnd0]; have := b11 j; split <;> omega
  · intro d hd
    rw [heF, if_neg (by omega)]
    exact hrt d hd
  · intro j hj hne
    rw [hnd0] at hne ⊢
    by_cases e1 : j = 15 * p + n
    · rw [if_pos e1] at hne; exact absurd rfl hne
    · rw [if_neg e1] at hne ⊢; exact hna j hj hne
  · intro q m hq hk hm hne
    rw [hnd q m hm] at hne ⊢
    by_cases e1 : q = p ∧ m = n
    · rw [if_pos e1] at hne; exact absurd rfl hne
    · rw [if_neg e1] at hne ⊢; exact hnb q m hq hk hm hne
  · intro q hq hk
    rw [hsz]
    by_cases e1 : q = p
    · subst e1
      have h1 := bl_un_d (nd := g.nd) (p := q) (n := n) (m := 15) (by rw [h0]; exact ht0)
      rw [if_pos hn] at h1
      rw [if_pos rfl, hun]
      have := hcn q hq hkp
      omega
    · rw [if_neg e1, hun, bl_un_o e1 (by omega) (by omega)]
      exact hcn q hq hk
  · intro q m hq hk hfq h1 h7
    rw [hnd q m (by omega), hnd q (m + 7) (by omega)]
    have h2 := htb q m hq hk hfq h1 h7
    split
    · left; rfl
    · split
      · right; rfl
      · exact h2
  · intro x hx hxr hxk
    rw [heF, hun]
    show _ = vg_en g.ki _ x
    by_cases e3 : p / 10 = x / 10
    · have h1 := en_un (ki := g.ki) (nd := g.nd) (p := p) (n := n) (t := 0) (o := x) hn hkp e3
      rw [h0, if_neg (show ¬ 0 = x by omega)] at h1
      have h2 := hef x hx hxr hxk
      by_cases e1 : x = t
      · subst e1; rw [if_pos rfl] at h1 ⊢; omega
      · rw [if_neg (fun z => e1 z.symm)] at h1; rw [if_neg e1]; omega
    · rw [en_un_o hn e3, if_neg (by intro e; rw [e] at e3; omega)]
      exact hef x hx hxr hxk
  · intro x hx hxr hxk hx0
    rw [heF, if_neg hx0]
    exact hd1 x hx hxr hxk (by omega)
  · obtain ⟨rk, hr⟩ := hrk
    refine ⟨rk, ?_⟩
    intro q m hq hk hm hne hkt
    rw [hnd q m hm] at hne hkt ⊢
    by_cases e1 : q = p ∧ m = n
    · rw [if_pos e1] at hne; exact absurd rfl hne
    · rw [if_neg e1] at hne hkt ⊢; exact hr q m hq hk hm hne hkt
  · intro x hx hxk
    rw [hsz, if_neg (by intro e; rw [e] at hxk; have : g.ki p = 2 := hxk; omega)]
    exact hfl x hx hxk
  · intro x hx hxk
    rw [hsz, if_neg (by intro e; rw [e] at hxk; have : g.ki p = 3 := hxk; omega)]
    exact hlk x hx hxk
  · intro d hd
    show g.de d + vg_tk g.fm g.ki (vg_dec (vg_rem g p n) t).sz g.wp d ≤ 32
    have h1 : vg_tk g.fm g.ki (vg_dec (vg_rem g p n) t).sz g.wp d ≤ vg_tk g.fm g.ki g.sz g.wp d := by
      unfold vg_tk
      refine sm_le (fun i hi => ?_)
      unfold vg_bk vg_bd
      rw [hsz]
      by_cases e1 : 10 * d + i = p
      · rw [if_pos e1, e1, hkp, if_pos rfl, if_pos rfl]
        split
        · rename_i h; rw [if_pos ⟨h.1, by omega⟩]; omega
        · split <;> omega
      · rw [if_neg e1]; exact Nat.le_refl _
    have := hbk d hd
    omega
/-- an object without entry and handle goes -/
theorem iv_kil {g : vg_G} {t : Nat} (hI : iv_X g t) (ht : t < 40) (htr : t % 10 ≠ 0) (hka : g.ki t ≠ 0) (he : g.ef t = 0) (ho : ∀ h, h < 5 → g.oF h ≠ t)
    (hdir : g.ki t = 1 → g.sz t = 0 ∧ t ≠ g.cu ∧ ∀ d, d < 4 → g.mo d ≠ t + 2) : iv_I (vg_kil g t) := by
  obtain ⟨hb, hrt, hna, hnb, hcn, htb, hef, hd1, hrk, hfl, hlk, hdr, hhn, hbk, hma, hmb⟩ := hI
  obtain ⟨b1, b2, b3, b4, b5, b6, b7, b8, b9, b10, b11, b12, b13, b14, b15, b16⟩ := hb
  have hki : ∀ q, (vg_kil g t).ki q = if q = t then 0 else g.ki q := fun q => rfl
  have hK : ∀ {q k : Nat}, (vg_kil g t).ki q = k → k ≠ 0 → q ≠ t ∧ g.ki q = k := by
    intro q k h1 h2
    rw [hki] at h1
    by_cases e : q = t
    · rw [if_pos e] at h1; exact absurd h1.symm h2
    · rw [if_neg e] at h1; exact ⟨e, h1⟩
  have hnt : ∀ q m, q < 40 → g.ki q = 1 → m < 15 → g.nd (15 * q + m) ≠ t := by
    intro q m hq hk hm e
    have h1 := hna (15 * q + m) (by omega) (by rw [e]; omega)
    have h2 := en_1 (ki := g.ki) (nd := g.nd) (p := q) (n := m) (o := t) hm hk (by rw [e] at h1; omega) e
    have h3 := hef t ht htr hka
    omega
  have hn0 : g.ki t = 1 → ∀ m, m < 15 → g.nd (15 * t + m) = 0 := by
    intro hk m hm
    apply Classical.byContradiction
    intro hne
    have h1 := (hcn t ht hk).1
    have h2 := bl_lt (nd := g.nd) (p := t) (m := m) (k := 15) hm hne
    have h3 := (hdir hk).1
    omega
  unfold iv_I iv_X iv_bd
  refine ⟨⟨b1, b2, b3, b4, b5, b6, ?_, b8, b9, b10, b11, b12, b13, b14, b15, b16⟩, ?_, hna, ?_, ?_, ?_, ?_, ?_, ?_, ?_, ?_, hdr, ?_, ?_, ?_, ?_⟩
  · intro j; rw [hki]; have := b7 j; split <;> omega
  · intro d hd
    rw [hki, if_neg (by omega)]
    exact hrt d hd
  · intro q m hq hk hm hne
    have h1 := hK hk (by omega)
    have h2 := hnb q m hq h1.2 hm hne
    refine ⟨h2.1, ?_⟩
    show (vg_kil g t).ki (g.nd (15 * q + m)) ≠ 0
    rw [hki, if_neg (hnt q m hq h1.2 hm)]
    exact h2.2
  · intro q hq hk
    exact hcn q hq (hK hk (by omega)).2
  · intro q m hq hk
    exact htb q m hq (hK hk (by omega)).2
  · intro x hx hxr hxk
    have h1 : x ≠ t := by intro e; rw [hki, if_pos e] at hxk; exact hxk rfl
    rw [hki, if_neg h1] at hxk
    have h2 := hef x hx hxr hxk
    show g.ef x = vg_en (vg_kil g t).ki g.nd x
    rw [h2]
    refine en_cg (fun q hq => ?_)
    rw [hki]
    by_cases e1 : q = t
    · rw [if_pos e1, if_neg (show ¬ (0 : Nat) = 1 by decide)]
      by_cases e2 : g.ki q = 1
      · rw [if_pos e2]
        exact dc_0 (fun m hm => by rw [e1] at e2 ⊢; rw [hn0 e2 m hm]; omega)
      · rw [if_neg e2]
    · rw [if_neg e1]
  · intro x hx hxr hxk _
    have h1 := hK hxk (by omega)
    exact hd1 x hx hxr h1.2 h1.1
  · obtain ⟨rk, hr⟩ := hrk
    refine ⟨rk, ?_⟩
    intro q m hq hk hm hne hkt
    exact hr q m hq (hK hk (by omega)).2 hm hne (hK hkt (by omega)).2
  · intro x hx hxk
    exact hfl x hx (hK hxk (by omega)).2
  · intro x hx hxk
    exact hlk x hx (hK hxk (by omega)).2
  · intro h hh hne
    have h1 := hhn h hh hne
    refine ⟨h1.1, ?_, h1.2.2⟩
    show (vg_kil g t).ki (g.oF h) = 2
    rw [hki, if_neg (ho h hh)]
    exact h1.2.1
  · intro d hd
    show g.de d + vg_tk g.fm (vg_kil g t).ki g.sz g.wp d ≤ 32
    have h1 : vg_tk g.fm (vg_kil g t).ki g.sz g.wp d ≤ vg_tk g.fm g.ki g.sz g.wp d := by
      unfold vg_tk
      refine sm_le (fun i hi => ?_)
      by_cases e1 : 10 * d + i = t
      · unfold vg_bk
        rw [hki, if_pos e1, if_neg (show ¬ (0 : Nat) = 1 by decide), if_neg (show ¬ (0 : Nat) = 2 by decide)]
        exact Nat.zero_le _
      · rw [bk_cg (ki := g.ki) rfl (by rw [hki, if_neg e1]) rfl rfl]
        exact Nat.le_refl _
    have := hbk d hd
    omega
  · refine ⟨hma.1, fun d hd h2 => ?_, hma.2.2⟩
    have h3 := hma.2.1 d hd h2
    refine ⟨h3.1, ?_, h3.2.2⟩
    show (vg_kil g t).ki (g.mo d - 2) = 1
    have h5 : g.mo d - 2 ≠ t := by
      intro e
      have h4 := h3.2.1
      rw [e] at h4
      have h6 := (hdir h4).2.2 d hd
      have h7 : 2 ≤ g.mo d := h2
      omega
    rw [hki, if_neg h5]
    exact h3.2.1
  · refine ⟨?_, hmb.2⟩
    show (vg_kil g t).ki g.cu = 1
    have h5 : g.cu ≠ t := by
      intro e
      have h4 := hmb.1
      rw [e] at h4
      exact (hdir h4).2.1 e.symm
    rw [hki, if_neg h5]
    exact hmb.1
theorem on_mod : ∀ x, x < 32 → ∀ k, k < 6 → vg_on (x % 2 ^ k) ≤ vg_on x := by decide +kernel
/-- a file's size is set -/
theorem iv_ssz {g : vg_G} {o n x : Nat} (hI : iv_X g x) (ho : o < 40) (hok : g.ki o = 2) (hn : n ≤ 20)
    (hroom : g.fm (o / 10) = 0 → g.de (o / 10) + vg_tk g.fm g.ki g.sz g.wp (o / 10) + (n + 3) / 4 ≤ 32 + (g.sz o + 3) / 4) : iv_X (vg_ssz g o n) x := by
  obtain ⟨hb, hrt, hna, hnb, hcn, htb, hef, hd1, hrk, hfl, hlk, hdr, hhn, hbk, hma, hmb⟩ := hI
  obtain ⟨b1, b2, b3, b4, b5, b6, b7, b8, b9, b10, b11, b12, b13, b14, b15, b16⟩ := hb
  have hon := on_mod (g.wp o) (b10 o) ((n + 3) / 4) (by omega)
  have hsz : ∀ q, (vg_ssz g o n).sz q = if q = o then n else g.sz q := fun q => rfl
  have hwp : ∀ q, (vg_ssz g o n).wp q = if q = o then g.wp o % 2 ^ ((n + 3) / 4) else g.wp q := fun q => rfl
  have hde : ∀ d, (vg_ssz g o n).de d = if g.fm (o / 10) = 2 ∧ d = o / 10 then g.de d + (vg_on (g.wp o) - vg_on (g.wp o % 2 ^ ((n + 3) / 4))) else g.de d := by
    intro d
    rw [ssz_de]
    by_cases e1 : g.fm (o / 10) = 2
    · rw [if_pos e1, un_ap]
      by_cases e2 : d = o / 10
      · rw [if_pos e2, if_pos ⟨e1, e2⟩, e2]
      · rw [if_neg e2, if_neg (fun z => e2 z.2)]
    · rw [if_neg e1, if_neg (fun z => e1 z.1)]
  have hhd : ∀ j, (vg_ssz g o n).hd j = if 20 * o + g.sz o ≤ j ∧ j < 20 * o + n then 0 else g.hd j := fun j => rfl
  have hor : o % 10 ≠ 0 := by
    intro e
    have := (hrt (o / 10) (by omega)).1
    rw [show 10 * (o / 10) = o by omega, hok] at this
    omega
  have hwl : g.wp o % 2 ^ ((n + 3) / 4) ≤ g.wp o := Nat.mod_le _ _
  have hsum : ∀ d, d < 4 → (vg_ssz g o n).de d + vg_tk g.fm g.ki (vg_ssz g o n).sz (vg_ssz g o n).wp d ≤ 32 := by
    intro d hd
    have h1 := hbk d hd
    by_cases e1 : o / 10 = d
    · have h2 := tk_one (fm := g.fm) (ki := g.ki) (sz := g.sz) (wp := g.wp) (fm' := g.fm) (ki' := g.ki) (sz' := (vg_ssz g o n).sz) (wp' := (vg_ssz g o n).wp) e1 (fun y _ hne => bk_cg rfl rfl (by rw [hsz, if_neg hne]) (by rw [hwp, if_neg hne]))
      unfold vg_bk at h2
      rw [hok, if_neg (show ¬ (2 : Nat) = 1 by decide), if_pos rfl, if_neg (show ¬ (2 : Nat) = 1 by decide), if_pos rfl, hsz, if_pos rfl, hwp, if_pos rfl] at h2
      rw [hde]
      subst e1
      by_cases e2 : g.fm (o / 10) = 2
      · rw [if_pos ⟨e2, rfl⟩]
        rw [if_neg (by omega), if_neg (by omega)] at h2
        omega
      · rw [if_neg (fun z => e2 z.1)]
        by_cases e3 : g.fm (o / 10) = 0
        · rw [if_pos e3, if_pos e3] at h2
          have := hroom e3
          omega
        · rw [if_neg e3, if_neg e3] at h2
          omega
    · rw [hde, if_neg (fun z => e1 z.2.symm), tk_cg (fun y hy => bk_cg rfl rfl (by rw [hsz, if_neg (by intro e; rw [e] at hy; exact e1 hy)]) (by rw [hwp, if_neg (by intro e; rw [e] at hy; exact e1 hy)]))]
      exact h1
  unfold iv_X iv_bd
  refine ⟨⟨b1, b2, ?_, b4, b5, b6, b7, ?_, b9, ?_, b11, b12, b13, b14, b15, b16⟩, ?_, hna, hnb, ?_, htb, hef, hd1, hrk, ?_, ?_, hdr, hhn, hsum, hma, hmb⟩
  · intro j
    by_cases e1 : j < 4
    · have := hsum j e1; omega
    · rw [hde, if_neg (by omega)]; exact b3 j
  · intro j; rw [hsz]; have := b8 j; split <;> omega
  · intro j; rw [hwp]; have := b10 j; have := b10 o; split <;> omega
  · intro d hd
    rw [hwp, if_neg (by omega)]
    exact hrt d hd
  · intro q hq hk
    rw [hsz, if_neg (by intro e; rw [e] at hk; have : g.ki o = 1 := hk; omega)]
    exact hcn q hq hk
  · intro q hq hk
    rw [hsz, hwp]
    by_cases e1 : q = o
    · rw [if_pos e1, if_pos e1]; exact Nat.mod_lt _ (Nat.two_pow_pos _)
    · rw [if_neg e1, if_neg e1]; exact hfl q hq hk
  · intro q hq hk
    have e1 : q ≠ o := by intro e; rw [e] at hk; have : g.ki o = 3 := hk; omega
    rw [hsz, if_neg e1]
    have h1 := hlk q hq hk
    refine ⟨h1.1, fun i hi => ?_⟩
    rw [hhd, if_neg (by omega)]
    exact h1.2 i hi
end VI5
