/-! following references with a queue: the pure part -/
/-- Z holds cells of c alone, and their words are numbers or refer into Z -/
def cs_Z (c : Nat) (Z : Nat → Prop) (xf : Nat → Int32) : Prop := ∀ b, Z b → cs_sg c b ∧ ∀ f, f < 3 → cs_num (xf (3 * b + f)) ∨ ∃ b', Z b' ∧ xf (3 * b + f) = nI (1000 + b')
def cs_F (c : Nat) (Z S0 : Nat → Prop) (s q : Nat → Int32) (L : Nat) : Prop :=
  L ≤ 48 ∧ (∀ i, i < L → ∃ b, Z b ∧ q i = nI b ∧ ¬ s b = 0) ∧ (∀ i j, i < L → j < L → q i = q j → i = j) ∧
  (∀ b, S0 b → ¬ s b = 0) ∧ (∀ b, cs_sg c b → ¬ s b = 0 → S0 b ∨ ∃ i, i < L ∧ q i = nI b)
section
variable {c : Nat} {Z S0 : Nat → Prop} {s q xf : Nat → Int32} {L : Nat}
theorem cs_F_lt (hc : c < 7) (hZ : cs_Z c Z xf) (h : cs_F c Z S0 s q L) {b : Nat} (hb : cs_sg c b) (h0 : s b = 0) : L < 48 := by
  have k := cs_q_le (A := fun i => i ≠ b - 48 * c) (q := fun i => (q i).toNatClampNeg - 48 * c) (L := L) (m := 48) (fun i hi => by
    obtain ⟨b', z1, z2, z3⟩ := h.2.1 i hi
    have g := (hZ b' z1).1
    unfold cs_sg at g hb
    have e : (q i).toNatClampNeg = b' := by rw [z2]; exact nI_clamp (by omega)
    try dsimp only
    rw [e]
    refine ⟨by omega, fun z => z3 ?_⟩
    have : b' = b := by omega
    rw [this]; exact h0) (fun i j hi hj e => by
    obtain ⟨b1, z1, z2, _⟩ := h.2.1 i hi
    obtain ⟨b2, y1, y2, _⟩ := h.2.1 j hj
    have g1 := (hZ b1 z1).1
    have g2 := (hZ b2 y1).1
    unfold cs_sg at g1 g2
    try dsimp only at e
    have e1 : (q i).toNatClampNeg = b1 := by rw [z2]; exact nI_clamp (by omega)
    have e2 : (q j).toNatClampNeg = b2 := by rw [y2]; exact nI_clamp (by omega)
    rw [e1, e2] at e
    have e3 : b1 = b2 := by omega
    exact h.2.2.1 i j hi hj (by rw [z2, y2, e3]))
  unfold cs_sg at hb
  have k2 := cs_n_lt (P := fun i => i ≠ b - 48 * c) (Q := fun _ => True) (a := b - 48 * c) (fun z => z rfl) trivial (N := 48) (fun _ _ _ => trivial) (by omega)
  have k3 := cs_n_le (fun _ => True) 48
  omega
theorem cs_F_add (hc : c < 7) (hZ : cs_Z c Z xf) (h : cs_F c Z S0 s q L) {b : Nat} (hb : Z b) (h0 : s b = 0) : cs_F c Z S0 (upd s b 1) (upd q L (nI b)) (L + 1) := by
  have hg := (hZ b hb).1
  have hL := cs_F_lt hc hZ h hg h0
  have n1 : ¬ (1 : Int32) = 0 := by decide
  have up : ∀ x, ¬ s x = 0 → ¬ upd s b 1 x = 0 := fun x hx => by
    by_cases e : x = b
    · rw [e, cs_upd_s]; exact n1
    · rw [cs_upd_n e]; exact hx
  have nq : ∀ i, i < L → ¬ q i = nI b := fun i hi e => by
    obtain ⟨b', z1, z2, z3⟩ := h.2.1 i hi
    have g := (hZ b' z1).1
    unfold cs_sg at g hg
    have : b' = b := cs_nIinj (by omega) (by omega) (z2.symm.trans e)
    exact z3 (this ▸ h0)
  refine ⟨by omega, fun i hi => ?_, fun i j hi hj e => ?_, fun x hx => up x (h.2.2.2.1 x hx), fun x hx hs => ?_⟩
  · by_cases e : i = L
    · exact ⟨b, hb, by rw [e, cs_upd_s], by rw [cs_upd_s]; exact n1⟩
    · obtain ⟨b', z1, z2, z3⟩ := h.2.1 i (by omega)
      exact ⟨b', z1, by rw [cs_upd_n e]; exact z2, up b' z3⟩
  · by_cases e1 : i = L <;> by_cases e2 : j = L
    · rw [e1, e2]
    · rw [e1, cs_upd_s, cs_upd_n e2] at e
      exact absurd e.symm (nq j (by omega))
    · rw [e2, cs_upd_s, cs_upd_n e1] at e
      exact absurd e (nq i (by omega))
    · rw [cs_upd_n e1, cs_upd_n e2] at e
      exact h.2.2.1 i j (by omega) (by omega) e
  · by_cases e : x = b
    · exact Or.inr ⟨L, by omega, by rw [cs_upd_s, e]⟩
    · rw [cs_upd_n e] at hs
      rcases h.2.2.2.2 x hx hs with o | ⟨i, i1, i2⟩
      · exact Or.inl o
      · exact Or.inr ⟨i, by omega, by rw [cs_upd_n (by omega)]; exact i2⟩
/-- places below n, and the fields below f of place n, have been followed -/
def cs_pr (xf s q : Nat → Int32) (n f : Nat) : Prop := ∀ i a g b, (i < n ∨ (i = n ∧ g < f)) → g < 3 → a < 1000 → b < 1000 → q i = nI a → xf (3 * a + g) = nI (1000 + b) → ¬ s b = 0
theorem cs_pr_mono {n f : Nat} {s' q' : Nat → Int32} (h : cs_pr xf s q n f) (hs : ∀ b, ¬ s b = 0 → ¬ s' b = 0) (hq : ∀ i, i ≤ n → q' i = q i) : cs_pr xf s' q' n f := by
  intro i a g b h1 h2 h3 h4 h5 h6
  rw [hq i (by omega)] at h5
  exact hs b (h i a g b h1 h2 h3 h4 h5 h6)
theorem cs_pr_f {n f a : Nat} (h : cs_pr xf s q n f) (ha : a < 1000) (hq : q n = nI a) (hw : ∀ b, b < 1000 → xf (3 * a + f) = nI (1000 + b) → ¬ s b = 0) : cs_pr xf s q n (f + 1) := by
  intro i a' g b h1 h2 h3 h4 h5 h6
  by_cases e : i = n ∧ g = f
  · rw [e.1, hq] at h5
    have e2 : a = a' := cs_nIinj (by omega) (by omega) h5
    rw [← e2, e.2] at h6
    exact hw b h4 h6
  · exact h i a' g b (by omega) h2 h3 h4 h5 h6
theorem cs_pr_n {n : Nat} (h : cs_pr xf s q n 3) : cs_pr xf s q (n + 1) 0 := by
  intro i a g b h1 h2 h3 h4 h5 h6
  exact h i a g b (by omega) h2 h3 h4 h5 h6
theorem cs_pr_0 : cs_pr xf s q 0 0 := by
  intro i a g b h1
  omega
/-- the end of a trace: what is seen is what can be come to -/
theorem cs_F_end (hc : c < 7) {xr : Nat → Int32} {o p r : Nat} (hZ : cs_Z c (cs_V 1000 xr o p r xf) xf) (h : cs_F c (cs_V 1000 xr o p r xf) (fun _ => False) s q L) (hp : cs_pr xf s q L 0)
    (hr : ∀ b, cs_Q 1000 xr o p r b → ¬ s b = 0) : (∀ b, cs_sg c b → (¬ s b = 0 ↔ cs_V 1000 xr o p r xf b)) ∧ cs_n (fun i => cs_V 1000 xr o p r xf (48 * c + i)) 48 = L := by
  have sv : ∀ b, cs_sg c b → ¬ s b = 0 → ∃ i, i < L ∧ q i = nI b := fun b hb hs => by
    rcases h.2.2.2.2 b hb hs with z | z
    · exact z.elim
    · exact z
  have vs : ∀ b, cs_V 1000 xr o p r xf b → ¬ s b = 0 := fun b hb => by
    refine cs_R_i (fun b => ¬ s b = 0) hr (fun a b' hV hs hE => ?_) hb
    obtain ⟨g, hg, hw⟩ := hE
    have ga := (hZ a hV).1
    obtain ⟨i, i1, i2⟩ := sv a ga hs
    unfold cs_sg at ga
    exact hp i a g b' (Or.inl i1) hg (by omega) hw.1 i2 hw.2
  have iff : ∀ b, cs_sg c b → (¬ s b = 0 ↔ cs_V 1000 xr o p r xf b) := fun b hb => ⟨fun hs => by
    obtain ⟨i, i1, i2⟩ := sv b hb hs
    obtain ⟨b', z1, z2, z3⟩ := h.2.1 i i1
    have g := (hZ b' z1).1
    unfold cs_sg at g hb
    have e : b' = b := cs_nIinj (by omega) (by omega) (z2.symm.trans i2)
    exact e ▸ z1, vs b⟩
  refine ⟨iff, cs_q_eq (q := fun i => (q i).toNatClampNeg - 48 * c) (fun i hi => ?_) (fun i j hi hj e => ?_) (fun a ha hA => ?_)⟩
  · obtain ⟨b', z1, z2, z3⟩ := h.2.1 i hi
    have g := (hZ b' z1).1
    unfold cs_sg at g
    have e : (q i).toNatClampNeg = b' := by rw [z2]; exact nI_clamp (by omega)
    try dsimp only
    rw [e]
    have e2 : 48 * c + (b' - 48 * c) = b' := by omega
    exact ⟨by omega, by rw [e2]; exact z1⟩
  · obtain ⟨b1, z1, z2, _⟩ := h.2.1 i hi
    obtain ⟨b2, y1, y2, _⟩ := h.2.1 j hj
    have g1 := (hZ b1 z1).1
    have g2 := (hZ b2 y1).1
    unfold cs_sg at g1 g2
    try dsimp only at e
    have e1 : (q i).toNatClampNeg = b1 := by rw [z2]; exact nI_clamp (by omega)
    have e2 : (q j).toNatClampNeg = b2 := by rw [y2]; exact nI_clamp (by omega)
    rw [e1, e2] at e
    have e3 : b1 = b2 := by omega
    exact h.2.2.1 i j hi hj (by rw [z2, y2, e3])
  · have hg : cs_sg c (48 * c + a) := ⟨by omega, by omega⟩
    obtain ⟨i, i1, i2⟩ := sv _ hg (vs _ hA)
    refine ⟨i, i1, ?_⟩
    try dsimp only
    rw [i2, nI_clamp (by omega)]
    omega
end
theorem cs_Z_V {c : Nat} {P : Nat → Nat → Prop} {xr xf xk yr yf : Nat → Int32} (hc : c < 7) (I : cs_I c P xr xf xk yr yf) {p q : Nat} (hq : q ≤ 6) : cs_Z c (cs_V 1000 xr (6 * c) p q xf) xf := by
  intro b hb
  obtain ⟨a, h1, h2⟩ := cs_iso_xy hc I hq hb
  have g := I.2.2.1 a b h1
  refine ⟨⟨g.2.1, g.2.2.1⟩, fun f hf => ?_⟩
  rcases I.2.2.2.2 a b h1 f hf with ⟨m, e⟩ | ⟨a', b', m1, m2, m3⟩
  · exact Or.inl (e ▸ m)
  · have g' := I.2.2.1 a' b' m1
    exact Or.inr ⟨b', cs_R_s hb ⟨f, hf, by omega, m3⟩, m3⟩
theorem cs_Z_W {c : Nat} {xf xk : Nat → Int32} (h : cs_W c xf xk) : cs_Z c (fun b => cs_sg c b ∧ ¬ xk b = 0) xf := by
  intro b hb
  refine ⟨hb.1, fun f hf => ?_⟩
  rcases h b hb.1.1 hb.1.2 hb.2 f hf with o | ⟨b', o1, o2, o3, o4⟩
  · exact Or.inl o
  · exact Or.inr ⟨b', ⟨⟨o1, o2⟩, o3⟩, o4⟩
/-! pairing two collectors: the pure part -/
def cs_PQ (P P' : Nat → Nat → Prop) (b b' : Nat) : Prop := ∃ a, P a b ∧ P' a b'
def cs_mq (Q : Nat → Nat → Prop) (w w' : Int32) : Prop := (cs_num w ∧ w' = w) ∨ ∃ b b', Q b b' ∧ w = nI (1000 + b) ∧ w' = nI (1000 + b')
theorem cs_mq_of {c c' : Nat} {P P' : Nat → Nat → Prop} {xr xf xk xr' xf' xk' yr yf : Nat → Int32} (hc : c < 7) (hc' : c' < 7) (I : cs_I c P xr xf xk yr yf) (I' : cs_I c' P' xr' xf' xk' yr yf) {y x x' : Int32} (m : cs_m P y x) (m' : cs_m P' y x') : cs_mq (cs_PQ P P') x x' := by
  rcases m with ⟨m, e⟩ | ⟨a, b, h1, h2, h3⟩ <;> rcases m' with ⟨m', e'⟩ | ⟨a', b', h1', h2', h3'⟩
  · exact Or.inl ⟨e ▸ m, e'.trans e.symm⟩
  · have := (I'.2.2.1 a' b' h1').1
    exact absurd (⟨by omega, h2'⟩ : cs_w 10000 y a') (cs_num_nw (by omega) (by omega) m)
  · have := (I.2.2.1 a b h1).1
    exact absurd (⟨by omega, h2⟩ : cs_w 10000 y a) (cs_num_nw (by omega) (by omega) m')
  · have p := (I.2.2.1 a b h1).1
    have p' := (I'.2.2.1 a' b' h1').1
    have e : a = a' := cs_w_inj (B := 10000) (w := y) (by omega) ⟨by omega, h2⟩ ⟨by omega, h2'⟩
    exact Or.inr ⟨b, b', ⟨a, h1, e ▸ h1'⟩, h3, h3'⟩
/-- the partners that have been found so far are pairs -/
def cs_PP (Q : Nat → Nat → Prop) (pa pb q : Nat → Int32) (L : Nat) : Prop :=
  L ≤ 48 ∧ (∀ b b', Q b b' → (pa b = -1 ∧ pb b' = -1) ∨ (pa b = nI b' ∧ ¬ pb b' = -1)) ∧ (∀ i, i < L → ∃ b b', Q b b' ∧ q i = nI b ∧ pa b = nI b')
theorem cs_PP_new {Q : Nat → Nat → Prop} {pa pb q : Nat → Int32} {L b b' : Nat} (q1 : ∀ b b' b'', Q b b' → Q b b'' → b' = b'') (q2 : ∀ b b1 b', Q b b' → Q b1 b' → b = b1) (lt : ∀ b b', Q b b' → b < 1000 ∧ b' < 1000) (h : cs_PP Q pa pb q L) (hQ : Q b b') (h1 : pa b = -1) (h2 : pb b' = -1) :
    cs_PP Q (upd pa b (nI b')) (upd pb b' (nI b)) q L ∧ (L < 48 → cs_PP Q (upd pa b (nI b')) (upd pb b' (nI b)) (upd q L (nI b)) (L + 1)) := by
  obtain ⟨g0, g1, g2⟩ := h
  have lb := lt b b' hQ
  have nm : ∀ z : Nat, z < 1000 → ¬ nI z = -1 := fun z hz e => by
    have : (nI z).toInt = (-1 : Int32).toInt := by rw [e]
    rw [nI_toInt (by omega)] at this
    have e : (-1 : Int32).toInt = -1 := by decide
    omega
  have k1 : ∀ x x', Q x x' → (upd pa b (nI b') x = -1 ∧ upd pb b' (nI b) x' = -1) ∨ (upd pa b (nI b') x = nI x' ∧ ¬ upd pb b' (nI b) x' = -1) := fun x x' hx => by
    by_cases e : x = b
    · have e' : x' = b' := q1 b x' b' (e ▸ hx) hQ
      rw [e, e', cs_upd_s, cs_upd_s]
      exact Or.inr ⟨rfl, nm b lb.1⟩
    · have e' : x' ≠ b' := fun z => e (q2 x b b' (z ▸ hx) hQ)
      rw [cs_upd_n e, cs_upd_n e']
      exact g1 x x' hx
  have k2 : ∀ i, i < L → ∃ x x', Q x x' ∧ q i = nI x ∧ upd pa b (nI b') x = nI x' := fun i hi => by
    obtain ⟨x, x', z1, z2, z3⟩ := g2 i hi
    refine ⟨x, x', z1, z2, ?_⟩
    have e : x ≠ b := fun e => by
      rw [e, h1] at z3
      exact nm x' (lt x x' z1).2 z3.symm
    rw [cs_upd_n e]; exact z3
  refine ⟨⟨g0, k1, k2⟩, fun hL => ⟨by omega, k1, fun i hi => ?_⟩⟩
  by_cases e : i = L
  · exact ⟨b, b', hQ, by rw [e, cs_upd_s], cs_upd_s _ _ _⟩
  · rw [cs_upd_n e]; exact k2 i (by omega)
