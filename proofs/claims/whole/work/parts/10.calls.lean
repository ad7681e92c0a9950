/-! what calls do to one collector's invariant, continued -/
theorem cs_I_at {c : Nat} {P : Nat → Nat → Prop} {xr xf xk yr yf : Nat → Int32} (hc : c < 7) (I : cs_I c P xr xf xk yr yf) {r a : Nat} (hr : r < 6) (ha : a < 48) (hy : yr r = nI (10000 + a)) : ∃ b, P a b ∧ xr (6 * c + r) = nI (1000 + b) ∧ cs_sg c b ∧ ¬ xk b = 0 := by
  obtain ⟨b, h1, h2⟩ := cs_m_y hc I (I.2.2.2.1 r hr) (a := a) ⟨by omega, hy⟩
  obtain ⟨_, p1, p2, p3⟩ := I.2.2.1 a b h1
  exact ⟨b, h1, h2.2, ⟨p1, p2⟩, p3⟩
theorem cs_I_num {c : Nat} {P : Nat → Nat → Prop} {xr xf xk yr yf : Nat → Int32} (hc : c < 7) (I : cs_I c P xr xf xk yr yf) {y x : Int32} (m : cs_m P y x) (hy : cs_num y) : x = y := by
  rcases m with ⟨_, e⟩ | ⟨a, b, h1, h2, h3⟩
  · exact e
  · have := (I.2.2.1 a b h1).1
    exact absurd (⟨by omega, h2⟩ : cs_w 10000 y a) (cs_num_nw (by omega) (by omega) hy)
theorem cs_J_at {c : Nat} {h m : Int32} {xr xf xk tl rm sh yr yf : Nat → Int32} (hc : c < 7) (J : cs_J c h m xr xf xk tl rm sh yr yf) {r a : Nat} (hr : r < 6) (ha : a < 48) (hy : yr r = nI (10000 + a)) : ∃ b, xr (6 * c + r) = nI (1000 + b) ∧ cs_sg c b ∧ ¬ xk b = 0 := by
  obtain ⟨⟨P, I⟩, _⟩ := J
  obtain ⟨b, _, h2, h3, h4⟩ := cs_I_at hc I hr ha hy
  exact ⟨b, h2, h3, h4⟩
theorem cs_J_num {c : Nat} {h m : Int32} {xr xf xk tl rm sh yr yf : Nat → Int32} (hc : c < 7) (J : cs_J c h m xr xf xk tl rm sh yr yf) {r : Nat} (hr : r < 6) (hy : cs_num (yr r)) : xr (6 * c + r) = yr r := by
  obtain ⟨⟨P, I⟩, _⟩ := J
  exact cs_I_num hc I (I.2.2.2.1 r hr) hy
theorem cs_J_ok {c : Nat} {h m : Int32} {xr xf xk tl rm sh yr yf : Nat → Int32} (J : cs_J c h m xr xf xk tl rm sh yr yf) {r : Nat} (hr : r < 6) : cs_ok c xk (xr (6 * c + r)) := by
  obtain ⟨⟨P, I⟩, _⟩ := J
  exact cs_m_ok I.2.2.1 (I.2.2.2.1 r hr)
section
variable {c : Nat} {h m : Int32} {xr xf xk tl rm sh yr yf : Nat → Int32}
/-- a field is set, in any collector but the counting one -/
theorem cs_J_fld (hc : c < 7) (h3 : c ≠ 3) (J : cs_J c h m xr xf xk tl rm sh yr yf) {r s f a x : Nat} (hr : r < 6) (hs : s < 6) (hf : f < 3) (ha : a < 48) (hy : yr r = nI (10000 + a)) (hx : x < 1000) (hxr : xr (6 * c + r) = nI (1000 + x)) {rm' sh' : Nat → Int32}
    (r1 : ∀ b, b ≠ x → rm' b = rm b) (r2 : rm' x = 0 → rm x = 0) (r3 : c = 4 → 208 ≤ x → x < 240 → ∀ b', b' < 1000 → xr (6 * c + s) = nI (1000 + b') → 192 ≤ b' → b' < 208 → ¬ rm' x = 0)
    (s0 : c = 5 → ¬ m = 0 → ∀ b, cs_sg 5 b → sh' b = 0 ∨ sh' b = 1 ∨ sh' b = 2) (s1 : c = 5 → ¬ m = 0 → ∀ b, cs_w 1000 (xf (3 * x + f)) b → ¬ sh' b = 0) (s2 : ∀ b, ¬ sh b = 0 → sh' b = sh b) (s3 : ∀ b, sh' b = 2 → sh b = 2) (s4 : ∀ b, ¬ sh' b = 0 → sh b = 0 → cs_w 1000 (xf (3 * x + f)) b) :
    cs_J c h m xr (upd xf (3 * x + f) (xr (6 * c + s))) xk tl rm' sh' yr (upd yf (3 * a + f) (yr s)) := by
  obtain ⟨⟨P, I⟩, W, k1, k2, k3, k4, k5⟩ := J
  obtain ⟨b, p1, p2, p3, p4⟩ := cs_I_at hc I hr ha hy
  have p5 := p3
  unfold cs_sg at p5
  have eb : x = b := by
    have := cs_nIinj (by omega) (by omega) (hxr.symm.trans p2)
    omega
  subst eb
  have okw := cs_m_ok I.2.2.1 (I.2.2.2.1 s hs)
  have W' : cs_W c (upd xf (3 * x + f) (xr (6 * c + s))) xk := cs_W_fld W (b := x) (f := f) (fun j hj => cs_upd_n hj) (by rw [cs_upd_s]; exact okw)
  refine ⟨⟨P, cs_I_fld I p1 hf (fun j hj => cs_upd_n hj) (fun j hj => cs_upd_n hj) (by rw [cs_upd_s, cs_upd_s]; exact I.2.2.2.1 s hs)⟩, W', k1, k2, fun e => absurd e h3, fun e => ?_, fun e hm => ?_⟩
  · subst e
    intro b g b' h1 h2 h3' h4 hg hw hb' hyo
    by_cases e : 3 * b + g = 3 * x + f
    · have eb : b = x := by omega
      rw [e, cs_upd_s] at hw
      exact r3 rfl (by omega) (by omega) b' hb' hw hyo.1 hyo.2 (eb ▸ h4)
    · rw [cs_upd_n e] at hw
      refine k4 rfl b g b' h1 h2 h3' ?_ hg hw hb' hyo
      by_cases eb : b = x
      · rw [eb]; exact r2 (eb ▸ h4)
      · rw [← r1 b eb]; exact h4
  · subst e
    obtain ⟨a1, a2⟩ := k5 rfl hm
    have tgt : ∀ b, cs_w 1000 (xf (3 * x + f)) b → cs_sg 5 b ∧ ¬ xk b = 0 := fun b hb => by
      rcases W x p3.1 p3.2 p4 f hf with o | ⟨b', o1, o2, o3, o4⟩
      · exact absurd hb (cs_num_nw (by omega) (by omega) o)
      · have e2 : b = b' := cs_w_inj (B := 1000) (by omega) hb ⟨by omega, o4⟩
        rw [e2]; exact ⟨⟨o1, o2⟩, o3⟩
    refine ⟨⟨fun b hb hs' => ?_, s0 rfl hm⟩, cs_TC_fld a2 (x := x) (f := f) hf (fun j hj => cs_upd_n hj) (fun b hb => ⟨s, by omega, hs, by rw [cs_upd_s] at hb; exact hb⟩) (fun b hb _ _ => ⟨(tgt b hb).1, s1 rfl hm b hb⟩) s2 s3⟩
    by_cases e : sh b = 0
    · exact (tgt b (s4 b hs' e)).2
    · exact a1.1 b hb e
/-- a new cell, in any collector but the counting one -/
theorem cs_J_new (hc : c < 7) (h3 : c ≠ 3) (J : cs_J c h m xr xf xk tl rm sh yr yf) {r a0 b0 : Nat} (hr : r < 6) (ha : a0 < 48) (hn : ¬ cs_V 10000 yr 0 0 6 yf a0) (hb : cs_sg c b0) (hk : xk b0 = 0) {xr' xf' xk' tl' rm' sh' yf' : Nat → Int32}
    (n1 : c = 1 → ∀ H, h = nI H → H < 1000 → H ≤ b0 ∧ b0 < H + 24) (n2 : c = 2 → ∀ b, 96 ≤ b → b < b0 → ¬ xk b = 0) (n4 : c = 4 → b0 < 208)
    (y3 : ∀ f, f < 3 → yf' (3 * a0 + f) = 0) (y4 : ∀ j, j < 3 * a0 ∨ 3 * a0 + 3 ≤ j → yf' j = yf j)
    (x0 : xr' = upd xr (6 * c + r) (nI (1000 + b0))) (x3 : ∀ f, f < 3 → xf' (3 * b0 + f) = 0) (x4 : ∀ b f, b ≠ b0 → f < 3 → xf' (3 * b + f) = xf (3 * b + f)) (x5 : ¬ xk' b0 = 0) (x6 : ∀ b, b ≠ b0 → xk' b = xk b)
    (r1 : ∀ b, b ≠ b0 → rm' b = rm b) (s1 : ¬ m = 0 → sh' b0 = 2) (s2 : ∀ b, b ≠ b0 → sh' b = sh b) : cs_J c h m xr' xf' xk' tl' rm' sh' (upd yr r (nI (10000 + a0))) yf' := by
  obtain ⟨⟨P, I⟩, W, k1, k2, k3, k4, k5⟩ := J
  have hb2 := hb
  unfold cs_sg at hb2
  subst x0
  have I' := cs_I_new hc I (r := r) (xr' := upd xr (6 * c + r) (nI (1000 + b0))) (xf' := xf') (xk' := xk') (yr' := upd yr r (nI (10000 + a0))) (yf' := yf') ha hn hb.1 hb.2 hk hr (fun j hj => cs_upd_n hj) (cs_upd_s _ _ _) y3 y4 (fun j hj e => cs_upd_n (by omega)) (cs_upd_s _ _ _) x3 (fun b f _ _ hb hf => x4 b f hb hf) x5 (fun b _ _ hb => x6 b hb)
  have W' : cs_W c xf' xk' := cs_W_new W hk x3 (fun b f _ _ hb hf => x4 b f hb hf) (fun b _ _ hb => x6 b hb)
  have nq : ∀ j, j < 6 → ¬ xr (6 * c + j) = nI (1000 + b0) := fun j hj e => by
    rcases cs_m_ok I.2.2.1 (I.2.2.2.1 j hj) with o | ⟨b', o1, o2, o3, o4⟩
    · exact cs_num_nw (B := 1000) (b := b0) (by omega) (by omega) o ⟨by omega, e⟩
    · have e2 : b0 = b' := cs_w_inj (B := 1000) (w := xr (6 * c + j)) (by omega) ⟨by omega, e⟩ ⟨by omega, o4⟩
      exact o3 (e2 ▸ hk)
  refine ⟨I', W', fun e => ?_, fun e => ?_, fun e => absurd e h3, fun e => ?_, fun e hm => ?_⟩
  · obtain ⟨H, a1, a2, a3⟩ := k1 e
    subst e
    refine ⟨H, a1, a2, fun b hb' hk' => ?_⟩
    by_cases eb : b = b0
    · rw [eb]; exact n1 rfl H a1 (by omega)
    · rw [x6 b eb] at hk'
      exact a3 b hb' hk'
  · intro b b' h1 h2 h3' h4
    subst e
    by_cases eb : b' = b0
    · rw [eb]; exact x5
    · rw [x6 b' eb]
      by_cases eb2 : b = b0
      · exact n2 rfl b' h1 (by omega)
      · rw [x6 b eb2] at h4
        exact k2 rfl b b' h1 h2 h3' h4
  · subst e
    have b0lt := n4 rfl
    intro b g b' h1 h2 h3' h4 hg hw hb' hyo
    have eb : b ≠ b0 := by omega
    rw [x6 b eb] at h3'
    rw [r1 b eb] at h4
    rw [x4 b g eb hg] at hw
    exact k4 rfl b g b' h1 h2 h3' h4 hg hw hb' hyo
  · subst e
    obtain ⟨a1, a2⟩ := k5 rfl hm
    have sb0 : sh b0 = 0 := Classical.byContradiction fun z => a1.1 b0 hb z hk
    have two : ¬ (2 : Int32) = 0 := by decide
    refine ⟨⟨fun b hb' hs' => ?_, fun b hb' => ?_⟩, cs_TC_new a2 (x := b0) hb hk sb0 W (fun b ⟨j, j1, j2, j3⟩ => ?_) (fun b ⟨j, j1, j2, j3⟩ e => ?_) (fun b ⟨f, hf, hw⟩ => ?_) (fun a b ha' hne => ?_) (fun b _ hb' => x6 b hb') (by rw [s1 hm]; exact two) s2⟩
    · by_cases eb : b = b0
      · rw [eb]; exact x5
      · rw [x6 b eb]
        rw [s2 b eb] at hs'
        exact a1.1 b hb' hs'
    · by_cases eb : b = b0
      · rw [eb]; exact Or.inr (Or.inr (s1 hm))
      · rw [s2 b eb]; exact a1.2 b hb'
    · by_cases e : j = r
      · rw [e, show 30 + r = 6 * 5 + r by omega, cs_upd_s] at j3
        exact Or.inl (cs_w_inj (B := 1000) (by omega) j3 ⟨by omega, rfl⟩)
      · rw [show 30 + j = 6 * 5 + j by omega, cs_upd_n (by omega)] at j3
        exact Or.inr ⟨j, j1, j2, j3⟩
    · rw [e] at j3
      exact nq j j2 j3.2
    · rw [x3 f hf] at hw
      exact cs_num_nw (B := 1000) (b := b) (by omega) (by omega) ⟨by decide, by decide⟩ hw
    · constructor
      · intro ⟨f, hf, hw⟩
        exact ⟨f, hf, by rw [x4 a f hne hf] at hw; exact hw⟩
      · intro ⟨f, hf, hw⟩
        exact ⟨f, hf, by rw [x4 a f hne hf]; exact hw⟩
/-- nothing is kept but what can be come to -/
theorem cs_sweep {P : Nat → Nat → Prop} (hc : c < 7) (I : cs_I c P xr xf xk yr yf) {xk' : Nat → Int32} (hk : ∀ b, cs_sg c b → (¬ xk' b = 0 ↔ cs_V 1000 xr (6 * c) 0 6 xf b)) : cs_X c xr xf xk' yr yf ∧ cs_W c xf xk' := by
  have ok : ∀ {y x : Int32}, cs_m P y x → (∀ b, cs_w 1000 x b → cs_V 1000 xr (6 * c) 0 6 xf b) → cs_ok c xk' x := by
    intro y x m hv
    rcases m with ⟨m, e⟩ | ⟨a, b, h1, h2, h3⟩
    · exact Or.inl (e ▸ m)
    · obtain ⟨p0, p1, p2, p3⟩ := I.2.2.1 a b h1
      exact Or.inr ⟨b, p1, p2, (hk b ⟨p1, p2⟩).mpr (hv b ⟨by omega, h3⟩), h3⟩
  have W' : cs_W c xf xk' := fun b b1 b2 b3 f hf => by
    have v := (hk b ⟨b1, b2⟩).mp b3
    obtain ⟨a, h1, _⟩ := cs_iso_xy hc I (by omega) v
    exact ok (I.2.2.2.2 a b h1 f hf) (fun b' hw => cs_R_s v ⟨f, hf, hw⟩)
  refine ⟨⟨_, cs_I_sub hc I (xk' := xk') (fun r hr => ok (I.2.2.2.1 r hr) (fun b hw => cs_R_b ⟨r, by omega, hr, hw⟩)) W', fun b hb hb' => ?_⟩, W'⟩
  obtain ⟨a, h1, h2⟩ := cs_iso_xy hc I (by omega) ((hk b hb).mp hb')
  exact ⟨a, h2, h1, hb'⟩
end
/-! counting: from the invariant to lowering counts and back -/
section
variable {xr xf xk tl tl' q : Nat → Int32}
theorem cs_D_reg (W : cs_W 3 xf xk) (ok : ∀ r, r < 6 → cs_ok 3 xk (xr (18 + r))) {r : Nat} (hr : r < 6) {w : Int32} (okw : cs_ok 3 xk w) (K : ∀ b, cs_sg 3 b → ¬ xk b = 0 → tl b = nI (cs_c xr xf xk b) ∧ (0 < cs_c xr xf xk b ∨ w = nI (1000 + b)))
    (ht : ∀ b, cs_sg 3 b → tl' b = tl b + nI (cs_b (w = nI (1000 + b)))) : cs_D (upd xr (18 + r) w) xf xk tl' q (fun b => cs_b (xr (18 + r) = nI (1000 + b))) 0 0 := by
  have e : ∀ b, cs_c (upd xr (18 + r) w) xf xk b + cs_b (xr (18 + r) = nI (1000 + b)) = cs_c xr xf xk b + cs_b (w = nI (1000 + b)) := fun b => by
    have k := cs_c_reg (xr := xr) (xr' := upd xr (18 + r) w) (xf := xf) (xk := xk) hr (fun j _ hj => cs_upd_n (by omega)) b
    rw [cs_upd_s] at k
    exact k
  refine ⟨Nat.le_refl _, W, fun j hj => ?_, fun b hb hk => ?_, fun b hb hk => ?_, fun i hi => by omega, fun i j hi => by omega⟩
  · by_cases ej : j = r
    · rw [ej, cs_upd_s]; exact okw
    · rw [cs_upd_n (by omega)]; exact ok j hj
  · rw [ht b hb, (K b hb hk).1, nI_add]
    try dsimp only
    rw [e b]
  · try dsimp only
    rw [e b]
    constructor
    · intro z
      rcases (K b hb hk).2 with y | y
      · omega
      · rw [cs_bt y] at z; omega
    · intro ⟨i, i1, i2, _⟩; omega
theorem cs_D_fld (W : cs_W 3 xf xk) (ok : ∀ r, r < 6 → cs_ok 3 xk (xr (18 + r))) {x f : Nat} (hx : cs_sg 3 x) (hkx : ¬ xk x = 0) (hf : f < 3) {w : Int32} (okw : cs_ok 3 xk w) (K : cs_K3 xr xf xk tl)
    (ht : ∀ b, cs_sg 3 b → tl' b = tl b + nI (cs_b (w = nI (1000 + b)))) : cs_D xr (upd xf (3 * x + f) w) xk tl' q (fun b => cs_b (xf (3 * x + f) = nI (1000 + b))) 0 0 := by
  have e : ∀ b, cs_c xr (upd xf (3 * x + f) w) xk b + cs_b (xf (3 * x + f) = nI (1000 + b)) = cs_c xr xf xk b + cs_b (w = nI (1000 + b)) := fun b => by
    have k := cs_c_fld (xr := xr) (xf := xf) (xf' := upd xf (3 * x + f) w) (xk := xk) hx hf hkx (fun j hj => cs_upd_n hj) b
    rw [cs_upd_s] at k
    exact k
  refine ⟨Nat.le_refl _, cs_W_fld W (fun j hj => cs_upd_n hj) (by rw [cs_upd_s]; exact okw), ok, fun b hb hk => ?_, fun b hb hk => ?_, fun i hi => by omega, fun i j hi => by omega⟩
  · rw [ht b hb, (K b hb hk).2, nI_add]
    try dsimp only
    rw [e b]
  · try dsimp only
    rw [e b]
    constructor
    · intro z
      have := (K b hb hk).1
      omega
    · intro ⟨i, i1, i2, _⟩; omega
theorem cs_D_fin {L : Nat} (h : cs_D xr xf xk tl q (fun _ => 0) L L) : cs_W 3 xf xk ∧ (∀ r, r < 6 → cs_ok 3 xk (xr (18 + r))) ∧ cs_K3 xr xf xk tl := by
  obtain ⟨h0, h1, h2, h3, h4, h5, h6⟩ := h
  refine ⟨h1, h2, fun b hb hk => ⟨?_, h3 b hb hk⟩⟩
  rcases Nat.eq_zero_or_pos (cs_c xr xf xk b) with z | z
  · obtain ⟨i, i1, i2, _⟩ := (h4 b hb hk).mp z
    omega
  · exact z
end
/-! moving: from the end of the moving to the invariant -/
theorem cs_l_ok {c : Nat} {M : Nat → Nat → Prop} {xk' : Nat → Int32} (m3 : ∀ b b', M b b' → b < 1000 ∧ 48 * c ≤ b' ∧ b' < 48 * c + 48 ∧ ¬ xk' b' = 0) {w w' : Int32} (l : cs_l M w w') : cs_ok c xk' w' := by
  rcases l with ⟨l1, l2⟩ | ⟨b, b', l1, l2, l3⟩
  · exact Or.inl (l2 ▸ l1)
  · obtain ⟨_, a1, a2, a3⟩ := m3 b b' l1
    exact Or.inr ⟨b', a1, a2, a3, l3⟩
theorem cs_mv_J {c : Nat} {P : Nat → Nat → Prop} {xr xf xk yr yf xr' xf' xk' : Nat → Int32} (hc : c < 7) (I : cs_I c P xr xf xk yr yf) {M : Nat → Nat → Prop} (m1 : ∀ b b' b'', M b b' → M b b'' → b' = b'') (m2 : ∀ b b1 b', M b b' → M b1 b' → b = b1)
    (m3 : ∀ b b', M b b' → b < 1000 ∧ 48 * c ≤ b' ∧ b' < 48 * c + 48 ∧ ¬ xk' b' = 0) (hr : ∀ r, r < 6 → cs_l M (xr (6 * c + r)) (xr' (6 * c + r))) (hf : ∀ b b', M b b' → ∀ f, f < 3 → cs_l M (xf (3 * b + f)) (xf' (3 * b' + f)))
    (on : ∀ b', cs_sg c b' → ¬ xk' b' = 0 → ∃ b, M b b') : (∃ P', cs_I c P' xr' xf' xk' yr yf) ∧ cs_W c xf' xk' ∧ ((∀ b b', M b b' → cs_V 1000 xr (6 * c) 0 6 xf b) → cs_X c xr' xf' xk' yr yf) := by
  have I' := cs_I_mv hc I m1 m2 m3 hr hf
  refine ⟨⟨_, I'⟩, fun b' b1 b2 b3 f hf' => ?_, fun hv => ⟨_, I', fun b' hb hk => ?_⟩⟩
  · obtain ⟨b, hb⟩ := on b' ⟨b1, b2⟩ b3
    exact cs_l_ok m3 (hf b b' hb f hf')
  · obtain ⟨b, hm⟩ := on b' hb hk
    obtain ⟨a, a1, a2⟩ := cs_iso_xy hc I (by omega) (hv b b' hm)
    exact ⟨a, a2, b, a1, hm⟩
