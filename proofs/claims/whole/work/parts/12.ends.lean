/-! what each way of collecting leaves behind -/
theorem cs_c_new {xr xf xk xf' xk' : Nat → Int32} {b0 : Nat} (W : cs_W 3 xf xk) (ok : ∀ r, r < 6 → cs_ok 3 xk (xr (18 + r))) (hb : cs_sg 3 b0) (hk : xk b0 = 0) (x3 : ∀ f, f < 3 → xf' (3 * b0 + f) = 0) (x4 : ∀ b f, b ≠ b0 → f < 3 → xf' (3 * b + f) = xf (3 * b + f)) (x6 : ∀ b, b ≠ b0 → xk' b = xk b) :
    cs_c xr xf' xk' b0 = 0 ∧ ∀ b, b < 1000 → b ≠ b0 → cs_c xr xf' xk' b = cs_c xr xf xk b := by
  have hb2 := hb
  unfold cs_sg at hb2
  have nok : ∀ w, cs_ok 3 xk w → ¬ w = nI (1000 + b0) := fun w o e => by
    rcases o with o | ⟨b', o1, o2, o3, o4⟩
    · exact cs_num_nw (B := 1000) (b := b0) (by omega) (by omega) o ⟨by omega, e⟩
    · have e2 : b0 = b' := cs_w_inj (B := 1000) (w := w) (by omega) ⟨by omega, e⟩ ⟨by omega, o4⟩
      exact o3 (e2 ▸ hk)
  have n0 : ∀ b, b < 1000 → ¬ (0 : Int32) = nI (1000 + b) := fun b hb e => cs_num_nw (B := 1000) (b := b) (by omega) (by omega) (w := 0) ⟨by decide, by decide⟩ ⟨hb, e⟩
  have fx : ∀ j, j < 144 → 144 + j / 3 ≠ b0 → xf' (432 + j) = xf (432 + j) := fun j hj e => by
    have := x4 (144 + j / 3) (j % 3) e (by omega)
    rw [show 3 * (144 + j / 3) + j % 3 = 432 + j by omega] at this
    exact this
  have fz : ∀ j, j < 144 → 144 + j / 3 = b0 → xf' (432 + j) = 0 := fun j hj e => by
    have := x3 (j % 3) (by omega)
    rw [show 3 * b0 + j % 3 = 432 + j by omega] at this
    exact this
  constructor
  · unfold cs_c
    rw [cs_n_0 (fun r hr => nok _ (ok r hr)), cs_n_0 (fun j hj z => ?_)]
    by_cases e : 144 + j / 3 = b0
    · rw [fz j hj e] at z
      exact n0 b0 (by omega) z.2
    · rw [fx j hj e, x6 _ e] at z
      have := W (144 + j / 3) (by omega) (by omega) z.1 (j % 3) (by omega)
      rw [show 3 * (144 + j / 3) + j % 3 = 432 + j by omega] at this
      exact nok _ this z.2
  · intro b hb' hne
    unfold cs_c
    have e2 := cs_n_eq (P := fun j => ¬ xk' (144 + j / 3) = 0 ∧ xf' (432 + j) = nI (1000 + b)) (Q := fun j => ¬ xk (144 + j / 3) = 0 ∧ xf (432 + j) = nI (1000 + b)) (N := 144) (fun j hj => by
      by_cases e : 144 + j / 3 = b0
      · rw [fz j hj e, e, hk]
        exact ⟨fun z => absurd z.2 (n0 b hb'), fun z => absurd rfl z.1⟩
      · rw [fx j hj e, x6 _ e])
    omega
theorem cs_J3_fin {h m : Int32} {xr xf xk xk' tl' rm sh yr yf q : Nat → Int32} {P : Nat → Nat → Prop} {L : Nat} (I : cs_I 3 P xr xf xk yr yf) (D : cs_D xr xf xk' tl' q (fun _ => 0) L L) : cs_J 3 h m xr xf xk' tl' rm sh yr yf := by
  obtain ⟨W, ok, K⟩ := cs_D_fin D
  exact ⟨⟨_, cs_I_sub (by omega) I ok W⟩, W, fun e => by omega, fun e => by omega, fun _ => K, fun e => by omega, fun e => by omega⟩
theorem cs_zero_num : cs_num 0 := ⟨by decide, by decide⟩
/-- copying has copied all -/
theorem cs_copy_end {h m : Int32} {xr xf xk tl rm sh yr yf xr' F K fw q : Nat → Int32} {sr tq : Nat → Nat} {L o d : Nat} (J : cs_J 1 h m xr xf xk tl rm sh yr yf) (ho : h = nI o) (hod : (o = 48 ∧ d = 72) ∨ (o = 72 ∧ d = 48))
    (E : cs_Ev 1 o (o + 24) d (d + 24) 0 (cs_V 1000 xr 6 0 6 xf) xf xk F K fw q sr tq L 0 L) (hr : ∀ r, r < 6 → cs_l (cs_mv 1 o (o + 24) 0 L xk sr tq) (xr (6 + r)) (xr' (6 + r))) {K' : Nat → Int32} (k1 : ∀ b, o ≤ b → b < o + 24 → K' b = 0) (k2 : ∀ b, ¬ (o ≤ b ∧ b < o + 24) → K' b = K b) {tl' rm' sh' : Nat → Int32} {m' : Int32} :
    cs_J 1 (nI d) m' xr' F K' tl' rm' sh' yr yf ∧ cs_X 1 xr' F K' yr yf := by
  obtain ⟨⟨P, I⟩, W, c1, _⟩ := J
  obtain ⟨H, a1, a2, a3⟩ := c1 rfl
  have eH : H = o := cs_nIinj (by omega) (by omega) (a1.symm.trans ho)
  subst eH
  have R : cs_rg 1 H (H + 24) d (d + 24) := by refine ⟨?_, ?_, ?_, ?_, ?_, ?_, ?_, ?_, ?_⟩ <;> omega
  have off : ∀ b, cs_sg 1 b → ¬ (H ≤ b ∧ b < H + 24) → xk b = 0 := fun b hb hn => Classical.byContradiction fun z => hn (a3 b hb z)
  obtain ⟨e1, e2, e3, e4, e5⟩ := cs_Ev_end R E (fun b hb hn hk => absurd (off b hb hn) hk) (K' := K') k1 k2
  have vM : ∀ b b', cs_mv 1 H (H + 24) 0 L xk sr tq b b' → cs_V 1000 xr (6 * 1) 0 6 xf b := fun b b' mm => by
    rcases mm with ⟨m1, m2, m3, m4⟩ | ⟨i, i1, i2, i3, i4⟩
    · exact absurd (off b m4 m1) m3
    · rw [← i3]; exact (E.2.1 i i2).2.1
  obtain ⟨g1, g2, g3⟩ := cs_mv_J (c := 1) (by omega) I e1 e2 e3 hr e4 (fun b' hb' hk' => by
    rcases (e5 b' hb' hk').2 with ⟨_, y⟩ | ⟨b, _, y⟩
    · exact ⟨b', y⟩
    · exact ⟨b, y⟩)
  refine ⟨⟨g1, g2, fun _ => ⟨d, rfl, by omega, fun b hb hk => ?_⟩, fun e => by omega, fun e => by omega, fun e => by omega, fun e => by omega⟩, g3 vM⟩
  have := (e5 b hb hk).1
  unfold cs_sg at hb
  omega
/-- ageing has emptied the nursery -/
theorem cs_age_end {h m : Int32} {xr xf xk tl rm sh yr yf xr' F K fw q : Nat → Int32} {sr tq : Nat → Nat} {L0 L : Nat} (J : cs_J 4 h m xr xf xk tl rm sh yr yf)
    (E : cs_Ev 4 192 208 208 240 L0 (fun b => cs_sg 4 b ∧ ¬ xk b = 0) xf xk F K fw q sr tq L 0 L) (hL : ∀ b, 208 ≤ b → b < 240 → ¬ xk b = 0 → ¬ rm b = 0 → ∃ i, i < L0 ∧ tq i = b) (hr : ∀ r, r < 6 → cs_l (cs_mv 4 192 208 L0 L xk sr tq) (xr (24 + r)) (xr' (24 + r))) {K' : Nat → Int32} (k1 : ∀ b, 192 ≤ b → b < 208 → K' b = 0) (k2 : ∀ b, ¬ (192 ≤ b ∧ b < 208) → K' b = K b) {h' m' : Int32} {tl' rm' sh' : Nat → Int32} :
    cs_J 4 h' m' xr' F K' tl' rm' sh' yr yf ∧ ((∀ b, cs_sg 4 b → ¬ xk b = 0 → cs_V 1000 xr 24 0 6 xf b) → cs_X 4 xr' F K' yr yf) := by
  obtain ⟨⟨P, I⟩, W, _, _, _, c4, _⟩ := J
  have K4 := c4 rfl
  have R : cs_rg 4 192 208 208 240 := by refine ⟨?_, ?_, ?_, ?_, ?_, ?_, ?_, ?_, ?_⟩ <;> omega
  obtain ⟨e1, e2, e3, e4, e5⟩ := cs_Ev_end R E (fun b hb hn hk hq g hg => by
    unfold cs_sg at hb
    rcases W b (by omega) (by omega) hk g hg with o | ⟨b', o1, o2, o3, o4⟩
    · exact Or.inl o
    · refine Or.inr ⟨b', fun y => ?_, o3, ⟨o1, o2⟩, o4⟩
      by_cases z : rm b = 0
      · exact K4 b g b' (by omega) (by omega) hk z hg o4 (by omega) y
      · obtain ⟨i, i1, i2⟩ := hL b (by omega) (by omega) hk z
        exact hq i i1 i2) (K' := K') k1 k2
  obtain ⟨g1, g2, g3⟩ := cs_mv_J (c := 4) (by omega) I e1 e2 e3 hr e4 (fun b' hb' hk' => by
    rcases (e5 b' hb' hk').2 with ⟨_, y⟩ | ⟨b, _, y⟩
    · exact ⟨b', y⟩
    · exact ⟨b, y⟩)
  refine ⟨⟨g1, g2, fun e => by omega, fun e => by omega, fun e => by omega, fun _ => ?_, fun e => by omega⟩, fun hv => g3 (fun b b' mm => ?_)⟩
  · intro b f b' h1 h2 h3 h4 hf hw hb' hyo
    rcases g2 b (by omega) (by omega) h3 f hf with o | ⟨b2, o1, o2, o3, o4⟩
    · exact cs_num_nw (B := 1000) (b := b') (by omega) (by omega) o ⟨hb', hw⟩
    · have e : b' = b2 := cs_w_inj (B := 1000) (w := F (3 * b + f)) (by omega) ⟨hb', hw⟩ ⟨by omega, o4⟩
      rw [← e] at o3
      exact o3 (k1 b' hyo.1 hyo.2)
  · rcases mm with ⟨m1, m2, m3, m4⟩ | ⟨i, i1, i2, i3, i4⟩
    · exact hv b m4 m3
    · have := (E.2.1 i i2).2.1
      rw [i3] at this
      exact hv b this.1 this.2
/-- sliding has slid all -/
theorem cs_slide_end {h m : Int32} {xr xf xk tl rm sh yr yf xr' F K' s : Nat → Int32} (J : cs_J 2 h m xr xf xk tl rm sh yr yf) (hs : ∀ b, cs_sg 2 b → (¬ s b = 0 ↔ cs_V 1000 xr 12 0 6 xf b)) (E : cs_Sl s xf F 144 0)
    (hr : ∀ r, r < 6 → cs_l (cs_sl s) (xr (12 + r)) (xr' (12 + r))) (k1 : ∀ b, cs_sg 2 b → (¬ K' b = 0 ↔ b < cs_rk s 144)) {h' m' : Int32} {tl' rm' sh' : Nat → Int32} : cs_J 2 h' m' xr' F K' tl' rm' sh' yr yf ∧ cs_X 2 xr' F K' yr yf := by
  obtain ⟨⟨P, I⟩, W, _⟩ := J
  have rkin : ∀ b, cs_sg 2 b → ¬ s b = 0 → 96 ≤ cs_rk s b ∧ cs_rk s b < 144 ∧ cs_rk s b < cs_rk s 144 := fun b hb hz => by
    unfold cs_sg at hb
    have a1 := cs_rk_le s (b := b) (by omega)
    have a2 := cs_rk_ge s b
    have a3 := cs_rk_lt (s := s) (a := b) (b := 144) (by omega) hz (by omega)
    omega
  obtain ⟨g1, g2, g3⟩ := cs_mv_J (c := 2) (by omega) I (M := cs_sl s) (xr' := xr') (xf' := F) (xk' := K') (fun b b' b'' m1 m2 => m1.2.2.trans m2.2.2.symm) (fun b b1 b' m1 m2 => cs_rk_inj (by have := m1.1.1; omega) (by have := m2.1.1; omega) m1.2.1 m2.2.1 (m1.2.2.symm.trans m2.2.2))
    (fun b b' mm => by
      have a := rkin b mm.1 mm.2.1
      have c := mm.1
      unfold cs_sg at c
      rw [mm.2.2]
      exact ⟨by omega, by omega, by omega, (k1 _ ⟨by omega, by omega⟩).mpr a.2.2⟩) hr
    (fun b b' mm f hf => by
      have c := mm.1
      unfold cs_sg at c
      rw [mm.2.2]
      exact E.1 b f mm.1 mm.2.1 hf (Or.inl (by omega)))
    (fun b' hb' hk' => by
      have c := hb'
      unfold cs_sg at c
      obtain ⟨b, b1, b2, b3, b4⟩ := cs_rk_onto (s := s) 144 (by omega) b' (by omega) ((k1 b' hb').mp hk')
      exact ⟨b, ⟨by omega, by omega⟩, b3, b4.symm⟩)
  refine ⟨⟨g1, g2, fun e => by omega, fun _ => fun b b' h1 h2 h3 h4 => ?_, fun e => by omega, fun e => by omega, fun e => by omega⟩, g3 (fun b b' mm => (hs b mm.1).mp mm.2.1)⟩
  have := (k1 b ⟨by omega, by omega⟩).mp h4
  exact (k1 b' ⟨by omega, by omega⟩).mpr (by omega)
/-- what a sweep leaves: any collector whose kept cells need nothing more -/
theorem cs_J_swept {c : Nat} {h m : Int32} {xr xf xk tl rm sh yr yf : Nat → Int32} (hc : c = 0 ∨ c = 4 ∨ c = 6) (J : cs_J c h m xr xf xk tl rm sh yr yf) {xk' : Nat → Int32} (hk : ∀ b, cs_sg c b → (¬ xk' b = 0 ↔ ¬ xk b = 0 ∧ cs_V 1000 xr (6 * c) 0 6 xf b)) : cs_J c h m xr xf xk' tl rm sh yr yf ∧ cs_X c xr xf xk' yr yf := by
  obtain ⟨⟨P, I⟩, W, _, _, _, c4, _⟩ := J
  have hk2 : ∀ b, cs_sg c b → (¬ xk' b = 0 ↔ cs_V 1000 xr (6 * c) 0 6 xf b) := fun b hb => (hk b hb).trans ⟨fun z => z.2, fun z => ⟨(cs_X_in (by omega) I (by omega) z).2.2, z⟩⟩
  obtain ⟨s1, s2⟩ := cs_sweep (by omega) I hk2
  have s3 := s1
  obtain ⟨P', I', _⟩ := s3
  refine ⟨⟨⟨P', I'⟩, s2, fun e => by omega, fun e => by omega, fun e => by omega, fun e => ?_, fun e => by omega⟩, s1⟩
  subst e
  intro b f b' h1 h2 h3 h4 hf hw hb' hyo
  exact c4 rfl b f b' h1 h2 ((hk b ⟨by omega, by omega⟩).mp h3).1 h4 hf hw hb' hyo
/-- marking has ended: what isn't shaded goes -/
theorem cs_mark_end {h m m' : Int32} {xr xf xk tl rm sh yr yf : Nat → Int32} (J : cs_J 5 h m xr xf xk tl rm sh yr yf) (S : cs_S5 xk sh) (T : cs_TC xr xf xk sh) (hg : ∀ b, cs_sg 5 b → ¬ sh b = 1) {xk' : Nat → Int32} (hk : ∀ b, cs_sg 5 b → (¬ xk' b = 0 ↔ ¬ xk b = 0 ∧ ¬ sh b = 0)) (hm : m' = 0) :
    cs_J 5 h m' xr xf xk' tl rm sh yr yf ∧ ((∀ b, cs_sg 5 b → ¬ sh b = 0 → cs_V 1000 xr 30 0 6 xf b) → cs_X 5 xr xf xk' yr yf) := by
  obtain ⟨⟨P, I⟩, W, _⟩ := J
  obtain ⟨t1, t2⟩ := cs_TC_end T S hg
  have vsh : ∀ b, cs_V 1000 xr (6 * 5) 0 6 xf b → cs_sg 5 b → ¬ sh b = 0 := fun b hb => by
    have k : cs_sg 5 b ∧ ¬ sh b = 0 := cs_R_i (fun b => cs_sg 5 b ∧ ¬ sh b = 0) (fun b hq => by
      have g := cs_X_in (p := 0) (q := 6) (by omega) I (by omega) (cs_R_b hq)
      exact ⟨⟨g.1, g.2.1⟩, t1 b hq ⟨g.1, g.2.1⟩⟩) (fun a b hR ha hE => by
      have g := cs_X_in (p := 0) (q := 6) (by omega) I (by omega) (cs_R_s hR hE)
      exact ⟨⟨g.1, g.2.1⟩, t2 a b ha.1 ha.2 hE ⟨g.1, g.2.1⟩⟩) hb
    exact fun _ => k.2
  have ok : ∀ w, cs_ok 5 xk w → (∀ b, cs_w 1000 w b → cs_sg 5 b → ¬ sh b = 0) → cs_ok 5 xk' w := fun w o hw => by
    rcases o with o | ⟨b, o1, o2, o3, o4⟩
    · exact Or.inl o
    · exact Or.inr ⟨b, o1, o2, (hk b ⟨o1, o2⟩).mpr ⟨o3, hw b ⟨by omega, o4⟩ ⟨o1, o2⟩⟩, o4⟩
  have W' : cs_W 5 xf xk' := fun b b1 b2 b3 f hf => by
    have z := (hk b ⟨b1, b2⟩).mp b3
    exact ok _ (W b b1 b2 z.1 f hf) (fun b' hw => t2 b b' ⟨b1, b2⟩ z.2 ⟨f, hf, hw⟩)
  have I' := cs_I_sub (c := 5) (by omega) I (xk' := xk') (fun r hr => ok _ (cs_m_ok I.2.2.1 (I.2.2.2.1 r hr)) (fun b hw => t1 b ⟨r, by omega, hr, hw⟩)) W'
  refine ⟨⟨⟨_, I'⟩, W', fun e => by omega, fun e => by omega, fun e => by omega, fun e => by omega, fun _ hz => absurd hm hz⟩, fun hv => ⟨_, I', fun b hb hkb => ?_⟩⟩
  have z := (hk b hb).mp hkb
  obtain ⟨a, a1, a2⟩ := cs_iso_xy (c := 5) (by omega) I (by omega) (hv b hb z.2)
  exact ⟨a, a2, a1, hkb⟩
/-- counting has dropped its cycles -/
theorem cs_cyc_end {h m : Int32} {xr xf xk tl rm sh yr yf : Nat → Int32} (J : cs_J 3 h m xr xf xk tl rm sh yr yf) {s xk' tl' : Nat → Int32} (hs : ∀ b, cs_sg 3 b → (¬ s b = 0 ↔ cs_V 1000 xr 18 0 6 xf b)) (ht : ∀ b, cs_sg 3 b ∧ ¬ xk b = 0 → tl' b = nI (cs_c xr xf (cs_kv s xk 192) b)) (hk : ∀ b, cs_sg 3 b → (¬ xk' b = 0 ↔ ¬ xk b = 0 ∧ ¬ s b = 0)) :
    cs_J 3 h m xr xf xk' tl' rm sh yr yf ∧ cs_X 3 xr xf xk' yr yf := by
  obtain ⟨⟨P, I⟩, W, _⟩ := J
  have hk2 : ∀ b, cs_sg 3 b → (¬ xk' b = 0 ↔ cs_V 1000 xr (6 * 3) 0 6 xf b) := fun b hb => (hk b hb).trans ⟨fun z => (hs b hb).mp z.2, fun z => ⟨(cs_X_in (c := 3) (by omega) I (by omega) z).2.2, (hs b hb).mpr z⟩⟩
  obtain ⟨s1, s2⟩ := cs_sweep (c := 3) (by omega) I hk2
  have s3 := s1
  obtain ⟨P', I', _⟩ := s3
  have ec : ∀ b, cs_c xr xf (cs_kv s xk 192) b = cs_c xr xf xk' b := cs_c_cg (fun _ _ => rfl) (fun _ _ _ => rfl) (fun b hb => by
    have hb2 := hb
    unfold cs_sg at hb2
    by_cases z : s b = 0
    · rw [cs_kv_t ⟨by omega, z⟩]
      exact ⟨fun _ => Classical.byContradiction fun y => ((hk b hb).mp y).2 z, fun _ => rfl⟩
    · rw [cs_kv_f (fun y => z y.2)]
      exact ⟨fun y => Classical.byContradiction fun y2 => ((hk b hb).mp y2).1 y, fun y => Classical.byContradiction fun y2 => ((hk b hb).mpr ⟨y2, z⟩) y⟩)
  refine ⟨⟨⟨P', I'⟩, s2, fun e => by omega, fun e => by omega, fun _ b hb hkb => ⟨?_, ?_⟩, fun e => by omega, fun e => by omega⟩, s1⟩
  · have v := (hk2 b hb).mp hkb
    have pos : ∀ b, cs_V 1000 xr (6 * 3) 0 6 xf b → 0 < cs_c xr xf xk' b := fun b hb => by
      refine cs_R_i (fun b => 0 < cs_c xr xf xk' b) (fun b ⟨r, r1, r2, r3⟩ => cs_c_pr r2 r3.2) (fun a b hR _ ⟨f, hf, hw⟩ => ?_) hb
      have g := cs_X_in (c := 3) (p := 0) (q := 6) (by omega) I (by omega) hR
      exact cs_c_pf (x := a) (f := f) ⟨g.1, g.2.1⟩ ((hk2 a ⟨g.1, g.2.1⟩).mpr hR) hf hw.2
    exact pos b v
  · rw [ht b ⟨hb, ((hk b hb).mp hkb).1⟩, ec b]
/-- a new cell in the counting collector, before its first reference is counted -/
theorem cs_new3 {h m : Int32} {xr xf xk tl rm sh yr yf xf' xk' tl1 yf' : Nat → Int32} (J : cs_J 3 h m xr xf xk tl rm sh yr yf) {r a0 b0 : Nat} (hr : r < 6) (ha : a0 < 48) (hn : ¬ cs_V 10000 yr 0 0 6 yf a0) (hb : cs_sg 3 b0) (hk : xk b0 = 0)
    (y3 : ∀ f, f < 3 → yf' (3 * a0 + f) = 0) (y4 : ∀ j, j < 3 * a0 ∨ 3 * a0 + 3 ≤ j → yf' j = yf j) (x3 : ∀ f, f < 3 → xf' (3 * b0 + f) = 0) (x4 : ∀ b f, b ≠ b0 → f < 3 → xf' (3 * b + f) = xf (3 * b + f)) (x5 : ¬ xk' b0 = 0) (x6 : ∀ b, b ≠ b0 → xk' b = xk b) (t1 : tl1 b0 = 0) (t2 : ∀ b, b ≠ b0 → tl1 b = tl b) :
    (∃ P, cs_I 3 P (upd xr (18 + r) (nI (1000 + b0))) xf' xk' (upd yr r (nI (10000 + a0))) yf') ∧ cs_W 3 xf' xk' ∧ (∀ j, j < 6 → cs_ok 3 xk' (xr (18 + j))) ∧ cs_ok 3 xk' (nI (1000 + b0)) ∧
    (∀ b, cs_sg 3 b → ¬ xk' b = 0 → tl1 b = nI (cs_c xr xf' xk' b) ∧ (0 < cs_c xr xf' xk' b ∨ nI (1000 + b0) = nI (1000 + b))) := by
  obtain ⟨⟨P, I⟩, W, _, _, k3, _⟩ := J
  have K := k3 rfl
  have ok : ∀ j, j < 6 → cs_ok 3 xk (xr (18 + j)) := fun j hj => cs_m_ok I.2.2.1 (I.2.2.2.1 j hj)
  obtain ⟨c1, c2⟩ := cs_c_new W ok hb hk x3 x4 x6
  refine ⟨cs_I_new (c := 3) (by omega) I (r := r) ha hn hb.1 hb.2 hk hr (fun j hj => cs_upd_n hj) (cs_upd_s _ _ _) y3 y4 (fun j hj e => cs_upd_n (by omega)) (cs_upd_s _ _ _) x3 (fun b f _ _ hb hf => x4 b f hb hf) x5 (fun b _ _ hb => x6 b hb), cs_W_new W hk x3 (fun b f _ _ hb hf => x4 b f hb hf) (fun b _ _ hb => x6 b hb), fun j hj => ?_, Or.inr ⟨b0, hb.1, hb.2, x5, rfl⟩, fun b hb' hkb => ?_⟩
  · rcases ok j hj with o | ⟨b, o1, o2, o3, o4⟩
    · exact Or.inl o
    · exact Or.inr ⟨b, o1, o2, by rw [x6 b (fun e => o3 (e ▸ hk))]; exact o3, o4⟩
  · by_cases e : b = b0
    · rw [e, c1, t1]; exact ⟨rfl, Or.inr rfl⟩
    · have hb2 := hb'
      unfold cs_sg at hb2
      rw [x6 b e] at hkb
      rw [c2 b (by omega) e, t2 b e]
      exact ⟨(K b hb' hkb).2, Or.inl (K b hb' hkb).1⟩
