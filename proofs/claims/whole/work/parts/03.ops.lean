/-! what the calls do to the pairing -/
section
variable {c : Nat} {P : Nat → Nat → Prop} {xr xf xk yr yf : Nat → Int32}
theorem cs_I_reg (I : cs_I c P xr xf xk yr yf) {r : Nat} {xr' yr' : Nat → Int32} (y1 : ∀ j, j ≠ r → yr' j = yr j) (x1 : ∀ j, j < 6 → j ≠ r → xr' (6 * c + j) = xr (6 * c + j)) (m : cs_m P (yr' r) (xr' (6 * c + r))) : cs_I c P xr' xf xk yr' yf := by
  refine ⟨I.1, I.2.1, I.2.2.1, fun j hj => ?_, I.2.2.2.2⟩
  by_cases e : j = r
  · rw [e]; exact m
  · rw [y1 j e, x1 j hj e]; exact I.2.2.2.1 j hj
theorem cs_I_fld (I : cs_I c P xr xf xk yr yf) {a b f : Nat} (hab : P a b) (hf : f < 3) {xf' yf' : Nat → Int32} (y1 : ∀ j, j ≠ 3 * a + f → yf' j = yf j) (x1 : ∀ j, j ≠ 3 * b + f → xf' j = xf j) (m : cs_m P (yf' (3 * a + f)) (xf' (3 * b + f))) : cs_I c P xr xf' xk yr yf' := by
  refine ⟨I.1, I.2.1, I.2.2.1, I.2.2.2.1, fun a' b' h g hg => ?_⟩
  by_cases e : a' = a
  · have e2 : b' = b := I.1 a b' b (e ▸ h) hab
    rw [e, e2]
    by_cases e3 : g = f
    · rw [e3]; exact m
    · rw [y1 _ (by omega), x1 _ (by omega)]; exact I.2.2.2.2 a b hab g hg
  · have e2 : b' ≠ b := fun z => e (I.2.1 a' a b (z ▸ h) hab)
    rw [y1 _ (by omega), x1 _ (by omega)]; exact I.2.2.2.2 a' b' h g hg
theorem cs_W_fld (hW : cs_W c xf xk) {b f : Nat} {xf' : Nat → Int32} (x1 : ∀ j, j ≠ 3 * b + f → xf' j = xf j) (m : cs_ok c xk (xf' (3 * b + f))) : cs_W c xf' xk := by
  intro b' p1 p2 p3 g hg
  by_cases e : 3 * b' + g = 3 * b + f
  · rw [e]; exact m
  · rw [x1 _ e]; exact hW b' p1 p2 p3 g hg
/-- a new object -/
theorem cs_I_new (hc : c < 7) (I : cs_I c P xr xf xk yr yf) {a0 b0 r : Nat} {xr' xf' xk' yr' yf' : Nat → Int32} (ha : a0 < 48) (hn : ¬ cs_V 10000 yr 0 0 6 yf a0) (hb : 48 * c ≤ b0) (hb' : b0 < 48 * c + 48) (hk : xk b0 = 0) (hr : r < 6)
    (y1 : ∀ j, j ≠ r → yr' j = yr j) (y2 : yr' r = nI (10000 + a0)) (y3 : ∀ f, f < 3 → yf' (3 * a0 + f) = 0) (y4 : ∀ j, j < 3 * a0 ∨ 3 * a0 + 3 ≤ j → yf' j = yf j)
    (x1 : ∀ j, j < 6 → j ≠ r → xr' (6 * c + j) = xr (6 * c + j)) (x2 : xr' (6 * c + r) = nI (1000 + b0)) (x3 : ∀ f, f < 3 → xf' (3 * b0 + f) = 0) (x4 : ∀ b f, 48 * c ≤ b → b < 48 * c + 48 → b ≠ b0 → f < 3 → xf' (3 * b + f) = xf (3 * b + f))
    (x5 : ¬ xk' b0 = 0) (x6 : ∀ b, 48 * c ≤ b → b < 48 * c + 48 → b ≠ b0 → xk' b = xk b) : ∃ P', cs_I c P' xr' xf' xk' yr' yf' := by
  have nb : ∀ a b, P a b → b ≠ b0 := fun a b h e => (I.2.2.1 a b h).2.2.2 (e ▸ hk)
  have key : ∀ {y x : Int32}, cs_m P y x → (∀ a, cs_w 10000 y a → cs_V 10000 yr 0 0 6 yf a) → cs_m (fun a b => (P a b ∧ cs_V 10000 yr 0 0 6 yf a) ∨ (a = a0 ∧ b = b0)) y x := by
    intro y x m h
    rcases m with m | ⟨a, b, h1, h2, h3⟩
    · exact Or.inl m
    · exact Or.inr ⟨a, b, Or.inl ⟨h1, h a ⟨by have := (I.2.2.1 a b h1).1; omega, h2⟩⟩, h2, h3⟩
  have na : ∀ a, cs_V 10000 yr 0 0 6 yf a → a ≠ a0 := fun a h e => hn (e ▸ h)
  refine ⟨fun a b => (P a b ∧ cs_V 10000 yr 0 0 6 yf a) ∨ (a = a0 ∧ b = b0), fun a b b' h h' => ?_, fun a a' b h h' => ?_, fun a b h => ?_, fun j hj => ?_, fun a b h f hf => ?_⟩
  · rcases h with ⟨h1, h2⟩ | ⟨h1, h2⟩ <;> rcases h' with ⟨h3, h4⟩ | ⟨h3, h4⟩
    · exact I.1 a b b' h1 h3
    · exact absurd h3 (na a h2)
    · exact absurd h1 (na a h4)
    · rw [h2, h4]
  · rcases h with ⟨h1, h2⟩ | ⟨h1, h2⟩ <;> rcases h' with ⟨h3, h4⟩ | ⟨h3, h4⟩
    · exact I.2.1 a a' b h1 h3
    · exact absurd h4 (nb a b h1)
    · exact absurd h2 (nb a' b h3)
    · rw [h1, h3]
  · rcases h with ⟨h1, h2⟩ | ⟨h1, h2⟩
    · obtain ⟨p0, p1, p2, p3⟩ := I.2.2.1 a b h1
      exact ⟨p0, p1, p2, by rw [x6 b p1 p2 (nb a b h1)]; exact p3⟩
    · rw [h1, h2]; exact ⟨ha, hb, hb', x5⟩
  · by_cases e : j = r
    · rw [e, y2, x2]; exact Or.inr ⟨a0, b0, Or.inr ⟨rfl, rfl⟩, rfl, rfl⟩
    · rw [y1 j e, x1 j hj e]
      exact key (I.2.2.2.1 j hj) (fun a ha' => cs_R_b ⟨j, by omega, hj, by rw [Nat.zero_add]; exact ha'⟩)
  · rcases h with ⟨h1, h2⟩ | ⟨h1, h2⟩
    · obtain ⟨p0, p1, p2, p3⟩ := I.2.2.1 a b h1
      have := na a h2
      rw [y4 _ (by omega), x4 b f p1 p2 (nb a b h1) hf]
      exact key (I.2.2.2.2 a b h1 f hf) (fun a' ha' => cs_R_s h2 ⟨f, hf, ha'⟩)
    · rw [h1, h2, y3 f hf, x3 f hf]
      exact Or.inl ⟨⟨by decide, by decide⟩, rfl⟩
theorem cs_W_new (hW : cs_W c xf xk) {b0 : Nat} {xf' xk' : Nat → Int32} (hk : xk b0 = 0) (x3 : ∀ f, f < 3 → xf' (3 * b0 + f) = 0) (x4 : ∀ b f, 48 * c ≤ b → b < 48 * c + 48 → b ≠ b0 → f < 3 → xf' (3 * b + f) = xf (3 * b + f))
    (x6 : ∀ b, 48 * c ≤ b → b < 48 * c + 48 → b ≠ b0 → xk' b = xk b) : cs_W c xf' xk' := by
  intro b p1 p2 p3 f hf
  by_cases e : b = b0
  · rw [e, x3 f hf]; exact Or.inl ⟨by decide, by decide⟩
  · rw [x4 b f p1 p2 e hf]
    rw [x6 b p1 p2 e] at p3
    rcases hW b p1 p2 p3 f hf with o | ⟨b', o1, o2, o3, o4⟩
    · exact Or.inl o
    · exact Or.inr ⟨b', o1, o2, by rw [x6 b' o1 o2 (fun z => o3 (z ▸ hk))]; exact o3, o4⟩
/-- w was moved to w' -/
def cs_l (M : Nat → Nat → Prop) (w w' : Int32) : Prop := (cs_num w ∧ w' = w) ∨ ∃ b b', M b b' ∧ w = nI (1000 + b) ∧ w' = nI (1000 + b')
/-- cells move: M says which to which -/
theorem cs_I_mv (hc : c < 7) (I : cs_I c P xr xf xk yr yf) {M : Nat → Nat → Prop} {xr' xf' xk' : Nat → Int32} (m1 : ∀ b b' b'', M b b' → M b b'' → b' = b'') (m2 : ∀ b b1 b', M b b' → M b1 b' → b = b1)
    (m3 : ∀ b b', M b b' → b < 1000 ∧ 48 * c ≤ b' ∧ b' < 48 * c + 48 ∧ ¬ xk' b' = 0) (hr : ∀ r, r < 6 → cs_l M (xr (6 * c + r)) (xr' (6 * c + r))) (hf : ∀ b b', M b b' → ∀ f, f < 3 → cs_l M (xf (3 * b + f)) (xf' (3 * b' + f))) :
    cs_I c (fun a b' => ∃ b, P a b ∧ M b b') xr' xf' xk' yr yf := by
  have key : ∀ {y x x' : Int32}, cs_m P y x → cs_l M x x' → cs_m (fun a b' => ∃ b, P a b ∧ M b b') y x' := by
    intro y x x' m l
    rcases m with ⟨m, e⟩ | ⟨a, b, h1, h2, h3⟩
    · rcases l with ⟨_, l2⟩ | ⟨b, b', l1, l2, l3⟩
      · exact Or.inl ⟨m, l2.trans e⟩
      · exact absurd (⟨(m3 b b' l1).1, e.symm.trans l2⟩ : cs_w 1000 y b) (cs_num_nw (by omega) (by omega) m)
    · obtain ⟨_, p1, p2, _⟩ := I.2.2.1 a b h1
      rcases l with ⟨l1, _⟩ | ⟨b1, b', l1, l2, l3⟩
      · exact absurd (⟨by omega, h3⟩ : cs_w 1000 x b) (cs_num_nw (by omega) (by omega) l1)
      · have e : b = b1 := cs_w_inj (B := 1000) (w := x) (by omega) ⟨by omega, h3⟩ ⟨(m3 b1 b' l1).1, l2⟩
        exact Or.inr ⟨a, b', ⟨b, h1, by rw [e]; exact l1⟩, h2, l3⟩
  refine ⟨fun a b b' h h' => ?_, fun a a' b h h' => ?_, fun a b h => ?_, fun r hr' => key (I.2.2.2.1 r hr') (hr r hr'), fun a b' h f hf' => ?_⟩
  · obtain ⟨b1, h1, h2⟩ := h
    obtain ⟨b2, h3, h4⟩ := h'
    have e := I.1 a b1 b2 h1 h3
    exact m1 b1 b b' h2 (e ▸ h4)
  · obtain ⟨b1, h1, h2⟩ := h
    obtain ⟨b2, h3, h4⟩ := h'
    have e := m2 b1 b2 b h2 h4
    exact I.2.1 a a' b1 h1 (e ▸ h3)
  · obtain ⟨b1, h1, h2⟩ := h
    exact ⟨(I.2.2.1 a b1 h1).1, (m3 b1 b h2).2⟩
  · obtain ⟨b1, h1, h2⟩ := h
    exact key (I.2.2.2.2 a b1 h1 f hf') (hf b1 b' h2 f hf')
/-- after a collection that keeps nothing that can't be come to: as many are kept as can be come to -/
theorem cs_kept_n (hc : c < 7) (I : cs_I c P xr xf xk yr yf) (hx : ∀ b, 48 * c ≤ b → b < 48 * c + 48 → ¬ xk b = 0 → ∃ a, cs_V 10000 yr 0 0 6 yf a ∧ P a b) : cs_n (fun i => ¬ xk (48 * c + i) = 0) 48 = cs_n (cs_V 10000 yr 0 0 6 yf) 48 := by
  refine cs_n_bij (Q := fun i a => P a (48 * c + i)) (fun i hi hA => ?_) (fun a _ hB => ?_) (fun i i' a h h' => ?_) (fun i a a' h h' => I.2.1 a a' _ h h')
  · obtain ⟨a, h1, h2⟩ := hx (48 * c + i) (by omega) (by omega) hA
    exact ⟨a, (I.2.2.1 a _ h2).1, h1, h2⟩
  · obtain ⟨b, h1, _⟩ := cs_iso_yx hc I (by omega) hB
    obtain ⟨_, p1, p2, p3⟩ := I.2.2.1 a b h1
    have e : 48 * c + (b - 48 * c) = b := by omega
    exact ⟨b - 48 * c, by omega, by rw [e]; exact p3, by rw [e]; exact h1⟩
  · have := I.1 a _ _ h h'
    omega
end
