/-! counting references: the pure part -/
/-- how many references there are to b: from registers, and from the fields of kept cells -/
noncomputable def cs_c (xr xf xk : Nat → Int32) (b : Nat) : Nat := cs_n (fun r => xr (18 + r) = nI (1000 + b)) 6 + cs_n (fun j => ¬ xk (144 + j / 3) = 0 ∧ xf (432 + j) = nI (1000 + b)) 144
theorem cs_c_le (xr xf xk : Nat → Int32) (b : Nat) : cs_c xr xf xk b ≤ 150 := by
  unfold cs_c
  have h1 := cs_n_le (fun r => xr (18 + r) = nI (1000 + b)) 6
  have h2 := cs_n_le (fun j => ¬ xk (144 + j / 3) = 0 ∧ xf (432 + j) = nI (1000 + b)) 144
  omega
theorem cs_c_reg {xr xr' xf xk : Nat → Int32} {r : Nat} (hr : r < 6) (h : ∀ j, j < 6 → j ≠ r → xr' (18 + j) = xr (18 + j)) (b : Nat) : cs_c xr' xf xk b + cs_b (xr (18 + r) = nI (1000 + b)) = cs_c xr xf xk b + cs_b (xr' (18 + r) = nI (1000 + b)) := by
  have e : cs_n (fun j => xr' (18 + j) = nI (1000 + b)) 6 + cs_b (xr (18 + r) = nI (1000 + b)) = cs_n (fun j => xr (18 + j) = nI (1000 + b)) 6 + cs_b (xr' (18 + r) = nI (1000 + b)) := by
    have k := cs_n_upd (A := fun j => j < 6 ∧ xr (18 + j) = nI (1000 + b)) (A' := fun j => j < 6 ∧ xr' (18 + j) = nI (1000 + b)) (k := r) (fun j hj => by
      constructor
      · intro z; exact ⟨z.1, by rw [h j z.1 hj]; exact z.2⟩
      · intro z; exact ⟨z.1, by rw [← h j z.1 hj]; exact z.2⟩) (N := 6) hr
    have k1 := cs_n_eq (P := fun j => j < 6 ∧ xr (18 + j) = nI (1000 + b)) (Q := fun j => xr (18 + j) = nI (1000 + b)) (N := 6) (fun j hj => ⟨fun z => z.2, fun z => ⟨hj, z⟩⟩)
    have k2 := cs_n_eq (P := fun j => j < 6 ∧ xr' (18 + j) = nI (1000 + b)) (Q := fun j => xr' (18 + j) = nI (1000 + b)) (N := 6) (fun j hj => ⟨fun z => z.2, fun z => ⟨hj, z⟩⟩)
    have k3 := cs_bcg (P := r < 6 ∧ xr (18 + r) = nI (1000 + b)) (Q := xr (18 + r) = nI (1000 + b)) ⟨fun z => z.2, fun z => ⟨hr, z⟩⟩
    have k4 := cs_bcg (P := r < 6 ∧ xr' (18 + r) = nI (1000 + b)) (Q := xr' (18 + r) = nI (1000 + b)) ⟨fun z => z.2, fun z => ⟨hr, z⟩⟩
    try dsimp only at k
    omega
  unfold cs_c
  omega
theorem cs_c_fld {xr xf xf' xk : Nat → Int32} {x f : Nat} (hx : cs_sg 3 x) (hf : f < 3) (hk : ¬ xk x = 0) (h : ∀ j, j ≠ 3 * x + f → xf' j = xf j) (b : Nat) : cs_c xr xf' xk b + cs_b (xf (3 * x + f) = nI (1000 + b)) = cs_c xr xf xk b + cs_b (xf' (3 * x + f) = nI (1000 + b)) := by
  unfold cs_sg at hx
  have e1 : 432 + (3 * (x - 144) + f) = 3 * x + f := by omega
  have e2 : 144 + (3 * (x - 144) + f) / 3 = x := by omega
  have k := cs_n_upd (A := fun j => ¬ xk (144 + j / 3) = 0 ∧ xf (432 + j) = nI (1000 + b)) (A' := fun j => ¬ xk (144 + j / 3) = 0 ∧ xf' (432 + j) = nI (1000 + b)) (k := 3 * (x - 144) + f) (fun j hj => by rw [h (432 + j) (by omega)]) (N := 144) (by omega)
  try dsimp only at k
  rw [e1, e2] at k
  have k3 := cs_bcg (P := ¬ xk x = 0 ∧ xf (3 * x + f) = nI (1000 + b)) (Q := xf (3 * x + f) = nI (1000 + b)) ⟨fun z => z.2, fun z => ⟨hk, z⟩⟩
  have k4 := cs_bcg (P := ¬ xk x = 0 ∧ xf' (3 * x + f) = nI (1000 + b)) (Q := xf' (3 * x + f) = nI (1000 + b)) ⟨fun z => z.2, fun z => ⟨hk, z⟩⟩
  unfold cs_c
  omega
/-- references to b from the fields f, .., 2 of x -/
noncomputable def cs_x (xf : Nat → Int32) (x f b : Nat) : Nat := cs_n (fun g => f ≤ g ∧ xf (3 * x + g) = nI (1000 + b)) 3
theorem cs_x_3 (xf : Nat → Int32) (x b : Nat) : cs_x xf x 3 b = 0 := cs_n_0 (fun k hk z => by have := z.1; omega)
theorem cs_x_s (xf : Nat → Int32) {x f : Nat} (hf : f < 3) (b : Nat) : cs_x xf x f b = cs_x xf x (f + 1) b + cs_b (xf (3 * x + f) = nI (1000 + b)) := by
  have k := cs_n_upd (A := fun g => f ≤ g ∧ xf (3 * x + g) = nI (1000 + b)) (A' := fun g => f + 1 ≤ g ∧ xf (3 * x + g) = nI (1000 + b)) (k := f) (fun j hj => ⟨fun z => ⟨by have := z.1; omega, z.2⟩, fun z => ⟨by have := z.1; omega, z.2⟩⟩) (N := 3) hf
  try dsimp only at k
  have k1 := cs_bcg (P := f ≤ f ∧ xf (3 * x + f) = nI (1000 + b)) (Q := xf (3 * x + f) = nI (1000 + b)) ⟨fun z => z.2, fun z => ⟨Nat.le_refl _, z⟩⟩
  have k2 := cs_bf (P := f + 1 ≤ f ∧ xf (3 * x + f) = nI (1000 + b)) (fun z => by have := z.1; omega)
  unfold cs_x
  omega
theorem cs_x_le (xf : Nat → Int32) (x f b : Nat) : cs_x xf x f b ≤ 3 := cs_n_le _ 3
/-- taking x out of the kept cells -/
theorem cs_c_drop {xr xf xk : Nat → Int32} {x : Nat} (hx : cs_sg 3 x) (hk : ¬ xk x = 0) (b : Nat) : cs_c xr xf xk b = cs_c xr xf (upd xk x 0) b + cs_x xf x 0 b := by
  unfold cs_sg at hx
  have key : ∀ f, f ≤ 3 → cs_n (fun j => (¬ upd xk x 0 (144 + j / 3) = 0 ∨ (144 + j / 3 = x ∧ f ≤ j % 3)) ∧ xf (432 + j) = nI (1000 + b)) 144 = cs_n (fun j => ¬ upd xk x 0 (144 + j / 3) = 0 ∧ xf (432 + j) = nI (1000 + b)) 144 + cs_x xf x f b := by
    intro f hf
    have h3 : ∀ d f, f + d = 3 → cs_n (fun j => (¬ upd xk x 0 (144 + j / 3) = 0 ∨ (144 + j / 3 = x ∧ f ≤ j % 3)) ∧ xf (432 + j) = nI (1000 + b)) 144 = cs_n (fun j => ¬ upd xk x 0 (144 + j / 3) = 0 ∧ xf (432 + j) = nI (1000 + b)) 144 + cs_x xf x f b := by
      intro d
      induction d with
      | zero =>
        intro f e
        have e' : f = 3 := by omega
        rw [e', cs_x_3, Nat.add_zero]
        refine cs_n_eq (fun j _ => ⟨fun z => ⟨?_, z.2⟩, fun z => ⟨Or.inl z.1, z.2⟩⟩)
        rcases z.1 with y | y
        · exact y
        · omega
      | succ d ih =>
        intro f e
        have i := ih (f + 1) (by omega)
        have e1 : 432 + (3 * (x - 144) + f) = 3 * x + f := by omega
        have e2 : 144 + (3 * (x - 144) + f) / 3 = x := by omega
        have e3 : (3 * (x - 144) + f) % 3 = f := by omega
        have k := cs_n_upd (A := fun j => (¬ upd xk x 0 (144 + j / 3) = 0 ∨ (144 + j / 3 = x ∧ f ≤ j % 3)) ∧ xf (432 + j) = nI (1000 + b)) (A' := fun j => (¬ upd xk x 0 (144 + j / 3) = 0 ∨ (144 + j / 3 = x ∧ f + 1 ≤ j % 3)) ∧ xf (432 + j) = nI (1000 + b)) (k := 3 * (x - 144) + f) (fun j hj => by
          constructor
          · intro z
            refine ⟨?_, z.2⟩
            rcases z.1 with y | y
            · exact Or.inl y
            · exact Or.inr (by omega)
          · intro z
            refine ⟨?_, z.2⟩
            rcases z.1 with y | y
            · exact Or.inl y
            · exact Or.inr (by omega)) (N := 144) (by omega)
        try dsimp only at k
        rw [e1, e2, e3, cs_upd_s] at k
        have k1 := cs_bcg (P := (¬ (0 : Int32) = 0 ∨ (x = x ∧ f ≤ f)) ∧ xf (3 * x + f) = nI (1000 + b)) (Q := xf (3 * x + f) = nI (1000 + b)) ⟨fun z => z.2, fun z => ⟨Or.inr ⟨rfl, Nat.le_refl _⟩, z⟩⟩
        have k2 := cs_bf (P := (¬ (0 : Int32) = 0 ∨ (x = x ∧ f + 1 ≤ f)) ∧ xf (3 * x + f) = nI (1000 + b)) (fun z => by
          rcases z.1 with y | y
          · exact y rfl
          · omega)
        have k3 := cs_x_s xf (x := x) (f := f) (by omega) b
        omega
    exact h3 (3 - f) f (by omega)
  have k := key 0 (by omega)
  have k0 : cs_n (fun j => ¬ xk (144 + j / 3) = 0 ∧ xf (432 + j) = nI (1000 + b)) 144 = cs_n (fun j => (¬ upd xk x 0 (144 + j / 3) = 0 ∨ (144 + j / 3 = x ∧ 0 ≤ j % 3)) ∧ xf (432 + j) = nI (1000 + b)) 144 := cs_n_eq (fun j _ => by
    by_cases e : 144 + j / 3 = x
    · rw [e]
      exact ⟨fun z => ⟨Or.inr ⟨rfl, Nat.zero_le _⟩, z.2⟩, fun z => ⟨hk, z.2⟩⟩
    · rw [cs_upd_n e]
      constructor
      · intro z; exact ⟨Or.inl z.1, z.2⟩
      · intro z
        refine ⟨?_, z.2⟩
        rcases z.1 with y | y
        · exact y
        · exact absurd y.1 e)
  unfold cs_c
  omega
theorem cs_c_pr {xr xf xk : Nat → Int32} {r b : Nat} (hr : r < 6) (h : xr (18 + r) = nI (1000 + b)) : 0 < cs_c xr xf xk b := by
  have := cs_n_rem (P := fun r => xr (18 + r) = nI (1000 + b)) (a := r) (N := 6) h hr
  unfold cs_c; omega
theorem cs_c_pf {xr xf xk : Nat → Int32} {x f b : Nat} (hx : cs_sg 3 x) (hk : ¬ xk x = 0) (hf : f < 3) (h : xf (3 * x + f) = nI (1000 + b)) : 0 < cs_c xr xf xk b := by
  unfold cs_sg at hx
  have e1 : 432 + (3 * (x - 144) + f) = 3 * x + f := by omega
  have e2 : 144 + (3 * (x - 144) + f) / 3 = x := by omega
  have := cs_n_rem (P := fun j => ¬ xk (144 + j / 3) = 0 ∧ xf (432 + j) = nI (1000 + b)) (a := 3 * (x - 144) + f) (N := 144) (by (try dsimp only); rw [e1, e2]; exact ⟨hk, h⟩) (by omega)
  unfold cs_c; omega
/-- while counts are lowered: ex b lowerings of b are still due; places n .. L - 1 of the queue wait -/
def cs_D (xr xf xk tl q : Nat → Int32) (ex : Nat → Nat) (n L : Nat) : Prop :=
  n ≤ L ∧ cs_W 3 xf xk ∧ (∀ r, r < 6 → cs_ok 3 xk (xr (18 + r))) ∧
  (∀ b, cs_sg 3 b → ¬ xk b = 0 → tl b = nI (cs_c xr xf xk b + ex b)) ∧
  (∀ b, cs_sg 3 b → ¬ xk b = 0 → (cs_c xr xf xk b + ex b = 0 ↔ ∃ i, n ≤ i ∧ i < L ∧ q i = nI b)) ∧
  (∀ i, i < L → ∃ b, cs_sg 3 b ∧ q i = nI b ∧ (n ≤ i → ¬ xk b = 0) ∧ (i < n → xk b = 0)) ∧
  (∀ i j, i < L → j < L → q i = q j → i = j)
section
variable {xr xf xk tl q : Nat → Int32} {ex : Nat → Nat} {n L : Nat}
theorem cs_D_ex {ex' : Nat → Nat} (h : cs_D xr xf xk tl q ex n L) (he : ∀ b, cs_sg 3 b → ex' b = ex b) : cs_D xr xf xk tl q ex' n L := by
  obtain ⟨h0, h1, h2, h3, h4, h5, h6⟩ := h
  exact ⟨h0, h1, h2, fun b hb hk => by rw [he b hb]; exact h3 b hb hk, fun b hb hk => by rw [he b hb]; exact h4 b hb hk, h5, h6⟩
theorem cs_D_lt (h : cs_D xr xf xk tl q ex n L) {b : Nat} (hb : cs_sg 3 b) (nb : ∀ i, i < L → ¬ q i = nI b) : L < 48 := by
  obtain ⟨h0, h1, h2, h3, h4, h5, h6⟩ := h
  have k := cs_q_le (A := fun i => i ≠ b - 144) (q := fun i => (q i).toNatClampNeg - 144) (L := L) (m := 48) (fun i hi => by
    obtain ⟨b', z1, z2, _⟩ := h5 i hi
    unfold cs_sg at z1 hb
    have e : (q i).toNatClampNeg = b' := by rw [z2]; exact nI_clamp (by omega)
    try dsimp only
    rw [e]
    refine ⟨by omega, fun z => nb i hi ?_⟩
    have : b' = b := by omega
    rw [z2, this]) (fun i j hi hj e => by
    obtain ⟨b1, z1, z2, _⟩ := h5 i hi
    obtain ⟨b2, y1, y2, _⟩ := h5 j hj
    unfold cs_sg at z1 y1
    try dsimp only at e
    have e1 : (q i).toNatClampNeg = b1 := by rw [z2]; exact nI_clamp (by omega)
    have e2 : (q j).toNatClampNeg = b2 := by rw [y2]; exact nI_clamp (by omega)
    rw [e1, e2] at e
    have e3 : b1 = b2 := by omega
    exact h6 i j hi hj (by rw [z2, y2, e3]))
  unfold cs_sg at hb
  have k2 := cs_n_lt (P := fun i => i ≠ b - 144) (Q := fun _ => True) (a := b - 144) (fun z => z rfl) trivial (N := 48) (fun _ _ _ => trivial) (by omega)
  have k3 := cs_n_le (fun _ => True) 48
  omega
theorem cs_D_low {ex' : Nat → Nat} {b v : Nat} (h : cs_D xr xf xk tl q ex n L) (hb : cs_sg 3 b) (hk : ¬ xk b = 0) (e1 : ex b = ex' b + 1) (e2 : ∀ z, cs_sg 3 z → z ≠ b → ex' z = ex z) (hv : v = cs_c xr xf xk b + ex' b) :
    tl b = nI (v + 1) ∧ (v = 0 → L < 48 ∧ cs_D xr xf xk (upd tl b (nI v)) (upd q L (nI b)) ex' n (L + 1)) ∧ (v ≠ 0 → cs_D xr xf xk (upd tl b (nI v)) q ex' n L) := by
  have H := h
  obtain ⟨h0, h1, h2, h3, h4, h5, h6⟩ := h
  have nb : ∀ i, i < L → ¬ q i = nI b := fun i hi e => by
    obtain ⟨b', z1, z2, z3, z4⟩ := h5 i hi
    unfold cs_sg at z1 hb
    have eb : b' = b := cs_nIinj (by omega) (by omega) (z2.symm.trans e)
    rcases Nat.lt_or_ge i n with y | y
    · exact hk (eb ▸ z4 y)
    · have := (h4 b hb hk).mpr ⟨i, y, hi, e⟩
      omega
  refine ⟨by rw [h3 b hb hk, e1, hv, Nat.add_assoc], fun hv0 => ⟨cs_D_lt H hb nb, by omega, h1, h2, fun z hz hkz => ?_, fun z hz hkz => ?_, fun i hi => ?_, fun i j hi hj e => ?_⟩, fun hv0 => ⟨h0, h1, h2, fun z hz hkz => ?_, fun z hz hkz => ?_, h5, h6⟩⟩
  · by_cases e : z = b
    · rw [e, cs_upd_s, hv]
    · rw [cs_upd_n e, e2 z hz e]; exact h3 z hz hkz
  · by_cases e : z = b
    · rw [e]
      exact ⟨fun _ => ⟨L, h0, by omega, by rw [cs_upd_s]⟩, fun _ => by omega⟩
    · rw [e2 z hz e]
      refine (h4 z hz hkz).trans ⟨fun ⟨i, i1, i2, i3⟩ => ⟨i, i1, by omega, by rw [cs_upd_n (by omega)]; exact i3⟩, fun ⟨i, i1, i2, i3⟩ => ?_⟩
      by_cases ei : i = L
      · rw [ei, cs_upd_s] at i3
        unfold cs_sg at hz hb
        exact absurd (cs_nIinj (by omega) (by omega) i3.symm) e
      · rw [cs_upd_n ei] at i3
        exact ⟨i, i1, by omega, i3⟩
  · by_cases ei : i = L
    · exact ⟨b, hb, by rw [ei, cs_upd_s], fun _ => hk, fun y => by omega⟩
    · rw [cs_upd_n ei]; exact h5 i (by omega)
  · by_cases ei : i = L <;> by_cases ej : j = L
    · rw [ei, ej]
    · rw [ei, cs_upd_s, cs_upd_n ej] at e
      exact absurd e.symm (nb j (by omega))
    · rw [ej, cs_upd_s, cs_upd_n ei] at e
      exact absurd e (nb i (by omega))
    · rw [cs_upd_n ei, cs_upd_n ej] at e
      exact h6 i j (by omega) (by omega) e
  · by_cases e : z = b
    · rw [e, cs_upd_s, hv]
    · rw [cs_upd_n e, e2 z hz e]; exact h3 z hz hkz
  · by_cases e : z = b
    · rw [e, ← hv]
      exact ⟨fun y => absurd y hv0, fun ⟨i, i1, i2, i3⟩ => absurd i3 (nb i i2)⟩
    · rw [e2 z hz e]; exact h4 z hz hkz
theorem cs_D_take (h : cs_D xr xf xk tl q (fun _ => 0) n L) (hn : n < L) : ∃ x, cs_sg 3 x ∧ q n = nI x ∧ ¬ xk x = 0 ∧ cs_D xr xf (upd xk x 0) tl q (cs_x xf x 0) (n + 1) L ∧ (∀ f, f < 3 → cs_ok 3 (upd xk x 0) (xf (3 * x + f))) := by
  obtain ⟨h0, h1, h2, h3, h4, h5, h6⟩ := h
  obtain ⟨x, hx, hq, hk, _⟩ := h5 n hn
  have kx := hk (Nat.le_refl _)
  have cx : cs_c xr xf xk x = 0 := (h4 x hx kx).mpr ⟨n, Nat.le_refl _, hn, hq⟩
  have ok' : ∀ w, (w = nI (1000 + x) → False) → cs_ok 3 xk w → cs_ok 3 (upd xk x 0) w := fun w nw o => by
    rcases o with o | ⟨b, o1, o2, o3, o4⟩
    · exact Or.inl o
    · have e : b ≠ x := fun e => nw (e ▸ o4)
      exact Or.inr ⟨b, o1, o2, by rw [cs_upd_n e]; exact o3, o4⟩
  have nf : ∀ b f, cs_sg 3 b → ¬ xk b = 0 → f < 3 → xf (3 * b + f) = nI (1000 + x) → False := fun b f hb hkb hf e => by
    have := cs_c_pf (xr := xr) hb hkb hf e
    omega
  refine ⟨x, hx, hq, kx, ⟨by omega, fun b p1 p2 p3 f hf => ?_, fun r hr => ok' _ (fun e => ?_) (h2 r hr), fun b hb hkb => ?_, fun b hb hkb => ?_, fun i hi => ?_, h6⟩, fun f hf => ok' _ (nf x f hx kx hf) (h1 x hx.1 hx.2 kx f hf)⟩
  · have e : b ≠ x := fun e => p3 (by rw [e]; exact cs_upd_s _ _ _)
    rw [cs_upd_n e] at p3
    exact ok' _ (nf b f ⟨p1, p2⟩ p3 hf) (h1 b p1 p2 p3 f hf)
  · have := cs_c_pr (xf := xf) (xk := xk) hr e
    omega
  · have e : b ≠ x := fun e => hkb (by rw [e]; exact cs_upd_s _ _ _)
    rw [cs_upd_n e] at hkb
    rw [← cs_c_drop hx kx b]; exact h3 b hb hkb
  · have e : b ≠ x := fun e => hkb (by rw [e]; exact cs_upd_s _ _ _)
    rw [cs_upd_n e] at hkb
    rw [← cs_c_drop hx kx b]
    refine (h4 b hb hkb).trans ⟨fun ⟨i, i1, i2, i3⟩ => ⟨i, ?_, i2, i3⟩, fun ⟨i, i1, i2, i3⟩ => ⟨i, by omega, i2, i3⟩⟩
    rcases Nat.lt_or_ge n i with y | y
    · exact y
    · have ei : i = n := by omega
      rw [ei, hq] at i3
      unfold cs_sg at hb hx
      exact absurd (cs_nIinj (by omega) (by omega) i3.symm) e
  · obtain ⟨b, z1, z2, z3, z4⟩ := h5 i hi
    refine ⟨b, z1, z2, fun y => ?_, fun y => ?_⟩
    · have e : b ≠ x := fun e => by
        have := h6 i n hi hn (by rw [z2, hq, e])
        omega
      rw [cs_upd_n e]; exact z3 (by omega)
    · by_cases e : b = x
      · rw [e]; exact cs_upd_s _ _ _
      · rw [cs_upd_n e]
        refine z4 ?_
        rcases Nat.lt_or_ge i n with y' | y'
        · exact y'
        · have ei : i = n := by omega
          rw [ei, hq] at z2
          unfold cs_sg at z1 hx
          exact absurd (cs_nIinj (by omega) (by omega) z2.symm) e
end
