/-! sliding: the pure part -/
noncomputable def cs_rk (s : Nat → Int32) (b : Nat) : Nat := 96 + cs_n (fun i => ¬ s (96 + i) = 0) (b - 96)
def cs_sl (s : Nat → Int32) (b b' : Nat) : Prop := cs_sg 2 b ∧ ¬ s b = 0 ∧ b' = cs_rk s b
section
variable {s F0 F : Nat → Int32}
theorem cs_rk_le (s : Nat → Int32) {b : Nat} (h : 96 ≤ b) : cs_rk s b ≤ b := by
  have := cs_n_le (fun i => ¬ s (96 + i) = 0) (b - 96)
  unfold cs_rk; omega
theorem cs_rk_ge (s : Nat → Int32) (b : Nat) : 96 ≤ cs_rk s b := by unfold cs_rk; omega
theorem cs_rk_suc {b : Nat} (hb : 96 ≤ b) (h : ¬ s b = 0) : cs_rk s (b + 1) = cs_rk s b + 1 := by
  unfold cs_rk
  have e : b + 1 - 96 = (b - 96) + 1 := by omega
  rw [e, cs_n_suc, cs_bt (P := ¬ s (96 + (b - 96)) = 0) (by rw [show 96 + (b - 96) = b by omega]; exact h)]
  omega
theorem cs_rk_suc0 {b : Nat} (hb : 96 ≤ b) (h : s b = 0) : cs_rk s (b + 1) = cs_rk s b := by
  unfold cs_rk
  have e : b + 1 - 96 = (b - 96) + 1 := by omega
  rw [e, cs_n_suc, cs_bf (P := ¬ s (96 + (b - 96)) = 0) (by rw [show 96 + (b - 96) = b by omega]; exact fun z => z h)]
  rfl
theorem cs_rk_lt {a b : Nat} (ha : 96 ≤ a) (h : ¬ s a = 0) (hab : a < b) : cs_rk s a < cs_rk s b := by
  have k := cs_rk_suc ha h
  have k2 : cs_rk s (a + 1) ≤ cs_rk s b := by
    unfold cs_rk
    have := cs_n_up (fun i => ¬ s (96 + i) = 0) (j := a + 1 - 96) (k := b - 96) (by omega)
    omega
  omega
theorem cs_rk_inj {a b : Nat} (ha : 96 ≤ a) (hb : 96 ≤ b) (h : ¬ s a = 0) (h' : ¬ s b = 0) (e : cs_rk s a = cs_rk s b) : a = b := by
  rcases Nat.lt_trichotomy a b with y | y | y
  · have := cs_rk_lt ha h y; omega
  · exact y
  · have := cs_rk_lt hb h' y; omega
/-- every place below the last rank is someone's -/
theorem cs_rk_onto : ∀ (k : Nat), 96 ≤ k → ∀ t, 96 ≤ t → t < cs_rk s k → ∃ b, 96 ≤ b ∧ b < k ∧ ¬ s b = 0 ∧ cs_rk s b = t
  | 0, h, _, _, _ => by omega
  | k + 1, h, t, t1, t2 => by
    by_cases e : k + 1 = 96
    · rw [e] at t2
      have := cs_rk_le s (b := 96) (by omega)
      omega
    · by_cases z : s k = 0
      · rw [cs_rk_suc0 (by omega) z] at t2
        obtain ⟨b, b1, b2, b3, b4⟩ := cs_rk_onto k (by omega) t t1 t2
        exact ⟨b, b1, by omega, b3, b4⟩
      · rw [cs_rk_suc (by omega) z] at t2
        by_cases y : t = cs_rk s k
        · exact ⟨k, by omega, by omega, z, y.symm⟩
        · obtain ⟨b, b1, b2, b3, b4⟩ := cs_rk_onto k (by omega) t t1 (by omega)
          exact ⟨b, b1, by omega, b3, b4⟩
/-- cells below k, and the fields below f of k, have been slid -/
def cs_Sl (s F0 F : Nat → Int32) (k f : Nat) : Prop :=
  (∀ b g, cs_sg 2 b → ¬ s b = 0 → g < 3 → (b < k ∨ (b = k ∧ g < f)) → cs_l (cs_sl s) (F0 (3 * b + g)) (F (3 * cs_rk s b + g))) ∧ (∀ j, 3 * k + f ≤ j → F j = F0 j)
theorem cs_Sl_0 : cs_Sl s F0 F0 96 0 := by
  refine ⟨fun b g hb _ _ h => ?_, fun _ _ => rfl⟩
  unfold cs_sg at hb; omega
theorem cs_Sl_w {k f : Nat} (h : cs_Sl s F0 F k f) : F (3 * k + f) = F0 (3 * k + f) := h.2 _ (Nat.le_refl _)
theorem cs_Sl_f {k f : Nat} (h : cs_Sl s F0 F k f) (hk : cs_sg 2 k) (hs : ¬ s k = 0) (hf : f < 3) {w : Int32} (l : cs_l (cs_sl s) (F0 (3 * k + f)) w) : cs_Sl s F0 (upd F (3 * cs_rk s k + f) w) k (f + 1) := by
  unfold cs_sg at hk
  have le := cs_rk_le s (b := k) (by omega)
  refine ⟨fun b g hb hs' hg hd => ?_, fun j hj => ?_⟩
  · unfold cs_sg at hb
    by_cases e : b = k ∧ g = f
    · rw [e.1, e.2, cs_upd_s]; exact l
    · have ne : 3 * cs_rk s b + g ≠ 3 * cs_rk s k + f := fun z => by
        have e1 : cs_rk s b = cs_rk s k := by omega
        have e2 : g = f := by omega
        exact e ⟨cs_rk_inj (by omega) (by omega) hs' hs e1, e2⟩
      rw [cs_upd_n ne]
      exact h.1 b g ⟨hb.1, hb.2⟩ hs' hg (by omega)
  · rw [cs_upd_n (by omega)]; exact h.2 j (by omega)
theorem cs_Sl_k {k : Nat} (h : cs_Sl s F0 F k 3) : cs_Sl s F0 F (k + 1) 0 :=
  ⟨fun b g hb hs hg hd => h.1 b g hb hs hg (by omega), fun j hj => h.2 j (by omega)⟩
theorem cs_Sl_k0 {k : Nat} (h : cs_Sl s F0 F k 0) (hs : s k = 0) : cs_Sl s F0 F (k + 1) 0 := by
  refine ⟨fun b g hb hs' hg hd => h.1 b g hb hs' hg ?_, fun j hj => h.2 j (by omega)⟩
  rcases Nat.lt_or_ge b k with y | y
  · exact Or.inl y
  · have e : b = k := by omega
    exact absurd (e ▸ hs) hs'
end
/-! moving cells out of o .. oe - 1 into d .. de - 1 with a queue: the pure part. Place i of the queue holds cell tq i, which was copied from sr i;
places below L0 are cells that stay where they are (sr i = tq i) -/
def cs_mv (c o oe L0 L : Nat) (K0 : Nat → Int32) (sr tq : Nat → Nat) (b b' : Nat) : Prop :=
  (¬ (o ≤ b ∧ b < oe) ∧ b' = b ∧ ¬ K0 b = 0 ∧ cs_sg c b) ∨ ∃ i, L0 ≤ i ∧ i < L ∧ sr i = b ∧ tq i = b'
/-- where the moving happens -/
def cs_rg (c o oe d de : Nat) : Prop := c < 7 ∧ 48 ≤ o ∧ 48 * c ≤ o ∧ o < oe ∧ oe ≤ 48 * c + 48 ∧ 48 * c ≤ d ∧ d < de ∧ de ≤ 48 * c + 48 ∧ (oe ≤ d ∨ de ≤ o)
def cs_Ev (c o oe d de L0 : Nat) (Z : Nat → Prop) (F0 K0 F K fw q : Nat → Int32) (sr tq : Nat → Nat) (n f L : Nat) : Prop :=
  (L0 ≤ L ∧ n ≤ L ∧ (n < L ∨ f = 0)) ∧
  (∀ i, i < L → q i = nI (tq i) ∧ Z (sr i) ∧ d ≤ tq i ∧ tq i < de ∧ (i < L0 → sr i = tq i ∧ ¬ K0 (tq i) = 0) ∧ (L0 ≤ i → o ≤ sr i ∧ sr i < oe ∧ K0 (tq i) = 0)) ∧
  (∀ i j, i < L → j < L → tq i = tq j → i = j) ∧
  (∀ i j, L0 ≤ i → i < L → L0 ≤ j → j < L → sr i = sr j → i = j) ∧
  (∀ b, o ≤ b → b < oe → (fw b = -1 ∧ ∀ i, L0 ≤ i → i < L → sr i ≠ b) ∨ ∃ i, L0 ≤ i ∧ i < L ∧ sr i = b ∧ fw b = nI (tq i)) ∧
  (∀ i, L0 ≤ i → i < L → ¬ K (tq i) = 0) ∧ (∀ b, (∀ i, L0 ≤ i → i < L → tq i ≠ b) → K b = K0 b) ∧
  (∀ i g, i < L → g < 3 → (i < n ∨ (i = n ∧ g < f)) → cs_l (cs_mv c o oe L0 L K0 sr tq) (F0 (3 * sr i + g)) (F (3 * tq i + g))) ∧
  (∀ i g, i < L → g < 3 → ¬ (i < n ∨ (i = n ∧ g < f)) → F (3 * tq i + g) = F0 (3 * sr i + g)) ∧
  (∀ b g, g < 3 → (∀ i, i < L → tq i ≠ b) → F (3 * b + g) = F0 (3 * b + g))
section
variable {c o oe d de L0 : Nat} {Z : Nat → Prop} {F0 K0 F K fw q : Nat → Int32} {sr tq : Nat → Nat} {n f L : Nat}
theorem cs_l_mono {M M' : Nat → Nat → Prop} (h : ∀ b b', M b b' → M' b b') {w w' : Int32} (l : cs_l M w w') : cs_l M' w w' := by
  rcases l with l | ⟨b, b', l1, l2, l3⟩
  · exact Or.inl l
  · exact Or.inr ⟨b, b', h b b' l1, l2, l3⟩
theorem cs_Ev_len (R : cs_rg c o oe d de) (h : cs_Ev c o oe d de L0 Z F0 K0 F K fw q sr tq n f L) : L ≤ 48 := by
  obtain ⟨h0, h1, h2, h3, h4, h5, h6, h7, h8, h9⟩ := h
  obtain ⟨r0, r1, r2, r3, r4, r5, r6, r7, r8⟩ := R
  have k := cs_q_le (A := fun _ => True) (q := fun i => tq i - 48 * c) (L := L) (m := 48) (fun i hi => by
    have := h1 i hi
    exact ⟨by (try dsimp only); omega, trivial⟩) (fun i j hi hj e => by
    have a := h1 i hi
    have b := h1 j hj
    try dsimp only at e
    exact h2 i j hi hj (by omega))
  have k2 := cs_n_le (fun _ => True) 48
  omega
/-- there is room for one more -/
theorem cs_Ev_room (R : cs_rg c o oe d de) (h : cs_Ev c o oe d de L0 Z F0 K0 F K fw q sr tq n f L) (hZ : ∀ b, Z b → ¬ K0 b = 0) (cap : cs_n (fun i => ¬ K0 (o + i) = 0) (oe - o) ≤ cs_n (fun i => K0 (d + i) = 0) (de - d)) {b : Nat} (hb : Z b) (b1 : o ≤ b) (b2 : b < oe) (hf : fw b = -1) : ∃ t, d ≤ t ∧ t < de ∧ K t = 0 := by
  obtain ⟨h0, h1, h2, h3, h4, h5, h6, h7, h8, h9⟩ := h
  have nb : ∀ i, L0 ≤ i → i < L → sr i ≠ b := by
    rcases h4 b b1 b2 with y | ⟨i, i1, i2, i3, i4⟩
    · exact y.2
    · have a := h1 i i2
      obtain ⟨r0, r1, r2, r3, r4, r5, r6, r7, r8⟩ := R
      rw [i4] at hf
      have : (nI (tq i)).toInt = (-1 : Int32).toInt := by rw [hf]
      rw [nI_toInt (by omega)] at this
      have e : (-1 : Int32).toInt = -1 := by decide
      omega
  refine Classical.byContradiction fun hn => ?_
  have full : ∀ t, d ≤ t → t < de → ¬ K t = 0 := fun t t1 t2 z => hn ⟨t, t1, t2, z⟩
  have tg : ∀ t, d ≤ t → t < de → K0 t = 0 → ∃ i, L0 ≤ i ∧ i < L ∧ tq i = t := fun t t1 t2 z => Classical.byContradiction fun hx => full t t1 t2 (by
    rw [h6 t (fun i i1 i2 e => hx ⟨i, i1, i2, e⟩)]; exact z)
  have k := cs_n_inj (A := fun i => K0 (d + i) = 0) (Q := fun i j => ∃ p, L0 ≤ p ∧ p < L ∧ tq p = d + i ∧ sr p = o + j) (m := oe - o) (de - d) (fun j => ¬ K0 (o + j) = 0 ∧ j ≠ b - o) (fun i hi hA => by
    obtain ⟨p, p1, p2, p3⟩ := tg (d + i) (by omega) (by omega) hA
    have a := h1 p p2
    have a2 := a.2.2.2.2.2 p1
    have e : o + (sr p - o) = sr p := by omega
    refine ⟨sr p - o, by omega, ⟨by rw [e]; exact hZ _ a.2.1, fun z => nb p p1 p2 (by omega)⟩, p, p1, p2, p3, by omega⟩) (fun i i' j _ _ ⟨p, p1, p2, p3, p4⟩ ⟨p', q1, q2, q3, q4⟩ => by
    have := h3 p p' p1 p2 q1 q2 (by omega)
    rw [this] at p3
    omega)
  have k2 := cs_n_rem (P := fun j => ¬ K0 (o + j) = 0) (a := b - o) (N := oe - o) (by (try dsimp only); rw [show o + (b - o) = b by omega]; exact hZ b hb) (by omega)
  omega
theorem cs_Ev_new (R : cs_rg c o oe d de) (h : cs_Ev c o oe d de L0 Z F0 K0 F K fw q sr tq n f L) {b t : Nat} (hb : Z b) (b1 : o ≤ b) (b2 : b < oe) (hf : fw b = -1) (t1 : d ≤ t) (t2 : t < de) (ht : K t = 0)
    {F' : Nat → Int32} (f1 : ∀ g, g < 3 → F' (3 * t + g) = F (3 * b + g)) (f2 : ∀ x g, g < 3 → x ≠ t → F' (3 * x + g) = F (3 * x + g)) :
    cs_Ev c o oe d de L0 Z F0 K0 F' (upd K t 1) (upd fw b (nI t)) (upd q L (nI t)) (cs_un sr L b) (cs_un tq L t) n f (L + 1) := by
  obtain ⟨⟨h0, h00, h000⟩, h1, h2, h3, h4, h5, h6, h7, h8, h9⟩ := h
  obtain ⟨r0, r1, r2, r3, r4, r5, r6, r7, r8⟩ := R
  have nt : ∀ i, i < L → tq i ≠ t := fun i hi e => by
    have a := h1 i hi
    rcases Nat.lt_or_ge i L0 with y | y
    · have a2 := (a.2.2.2.2.1 y).2
      rw [e] at a2
      have : K t = K0 t := h6 t (fun j j1 j2 ej => by
        have := h2 i j hi j2 (e.trans ej.symm)
        omega)
      exact a2 (this ▸ ht)
    · exact h5 i y hi (e ▸ ht)
  have k0t : K0 t = 0 := by rw [← h6 t (fun i _ i2 => nt i i2)]; exact ht
  have nb : ∀ i, L0 ≤ i → i < L → sr i ≠ b := by
    rcases h4 b b1 b2 with y | ⟨i, i1, i2, i3, i4⟩
    · exact y.2
    · have a := h1 i i2
      rw [i4] at hf
      have : (nI (tq i)).toInt = (-1 : Int32).toInt := by rw [hf]
      rw [nI_toInt (by omega)] at this
      have e : (-1 : Int32).toInt = -1 := by decide
      omega
  have es : ∀ i, i < L → cs_un sr L b i = sr i := fun i hi => cs_un_n (by omega)
  have et : ∀ i, i < L → cs_un tq L t i = tq i := fun i hi => cs_un_n (by omega)
  have bt : b ≠ t := by omega
  have mono : ∀ x x', cs_mv c o oe L0 L K0 sr tq x x' → cs_mv c o oe L0 (L + 1) K0 (cs_un sr L b) (cs_un tq L t) x x' := fun x x' m => by
    rcases m with m | ⟨i, i1, i2, i3, i4⟩
    · exact Or.inl m
    · exact Or.inr ⟨i, i1, by omega, by rw [es i i2]; exact i3, by rw [et i i2]; exact i4⟩
  have n1 : ¬ (1 : Int32) = 0 := by decide
  refine ⟨⟨by omega, by omega, by omega⟩, fun i hi => ?_, fun i j hi hj e => ?_, fun i j i1 i2 j1 j2 e => ?_, fun x x1 x2 => ?_, fun i i1 i2 => ?_, fun x hx => ?_, fun i g hi hg hs => ?_, fun i g hi hg hs => ?_, fun x g hg hx => ?_⟩
  · by_cases e : i = L
    · rw [e, cs_upd_s, cs_un_s, cs_un_s]
      exact ⟨rfl, hb, t1, t2, fun y => by omega, fun _ => ⟨b1, b2, k0t⟩⟩
    · rw [cs_upd_n e, es i (by omega), et i (by omega)]
      exact h1 i (by omega)
  · by_cases ei : i = L <;> by_cases ej : j = L
    · rw [ei, ej]
    · rw [ei, cs_un_s, et j (by omega)] at e
      exact absurd e.symm (nt j (by omega))
    · rw [ej, cs_un_s, et i (by omega)] at e
      exact absurd e (nt i (by omega))
    · rw [et i (by omega), et j (by omega)] at e
      exact h2 i j (by omega) (by omega) e
  · by_cases ei : i = L <;> by_cases ej : j = L
    · rw [ei, ej]
    · rw [ei, cs_un_s, es j (by omega)] at e
      exact absurd e.symm (nb j j1 (by omega))
    · rw [ej, cs_un_s, es i (by omega)] at e
      exact absurd e (nb i i1 (by omega))
    · rw [es i (by omega), es j (by omega)] at e
      exact h3 i j i1 (by omega) j1 (by omega) e
  · by_cases e : x = b
    · exact Or.inr ⟨L, h0, by omega, by rw [cs_un_s]; exact e.symm, by rw [e, cs_upd_s, cs_un_s]⟩
    · rw [cs_upd_n e]
      rcases h4 x x1 x2 with ⟨y1, y2⟩ | ⟨i, i1, i2, i3, i4⟩
      · refine Or.inl ⟨y1, fun i i1 i2 => ?_⟩
        by_cases ei : i = L
        · rw [ei, cs_un_s]; exact fun z => e z.symm
        · rw [es i (by omega)]; exact y2 i i1 (by omega)
      · exact Or.inr ⟨i, i1, by omega, by rw [es i i2]; exact i3, by rw [et i i2]; exact i4⟩
  · by_cases e : i = L
    · rw [e, cs_un_s, cs_upd_s]; exact n1
    · rw [et i (by omega), cs_upd_n (nt i (by omega))]; exact h5 i i1 (by omega)
  · have x1 : x ≠ t := fun e => hx L h0 (by omega) (by rw [cs_un_s]; exact e.symm)
    rw [cs_upd_n x1]
    exact h6 x (fun i i1 i2 => by have := hx i i1 (by omega); rw [et i i2] at this; exact this)
  · have e : i < L := by omega
    rw [es i e, et i e, f2 (tq i) g hg (nt i e)]
    exact cs_l_mono mono (h7 i g e hg hs)
  · by_cases e : i = L
    · rw [e, cs_un_s, cs_un_s, f1 g hg]
      exact h9 b g hg (fun j hj => by have := h1 j hj; omega)
    · rw [es i (by omega), et i (by omega), f2 (tq i) g hg (nt i (by omega))]
      exact h8 i g (by omega) hg hs
  · have x1 : x ≠ t := fun e => hx L (by omega) (by rw [cs_un_s]; exact e.symm)
    rw [f2 x g hg x1]
    exact h9 x g hg (fun i hi => by have := hx i (by omega); rw [et i hi] at this; exact this)
theorem cs_Ev_scan (R : cs_rg c o oe d de) (h : cs_Ev c o oe d de L0 Z F0 K0 F K fw q sr tq n f L) (hn : n < L) (hf : f < 3) {w' : Int32} (l : cs_l (cs_mv c o oe L0 L K0 sr tq) (F0 (3 * sr n + f)) w') :
    cs_Ev c o oe d de L0 Z F0 K0 (upd F (3 * tq n + f) w') K fw q sr tq n (f + 1) L := by
  obtain ⟨⟨h0, h00, h000⟩, h1, h2, h3, h4, h5, h6, h7, h8, h9⟩ := h
  have ne : ∀ i g, i < L → g < 3 → ¬ (i = n ∧ g = f) → 3 * tq i + g ≠ 3 * tq n + f := fun i g hi hg hx e => by
    have e1 : tq i = tq n := by omega
    have e2 : g = f := by omega
    exact hx ⟨h2 i n hi hn e1, e2⟩
  refine ⟨⟨h0, h00, Or.inl hn⟩, h1, h2, h3, h4, h5, h6, fun i g hi hg hs => ?_, fun i g hi hg hs => ?_, fun b g hg hb => ?_⟩
  · by_cases e : i = n ∧ g = f
    · rw [e.1, e.2, cs_upd_s]; exact l
    · rw [cs_upd_n (ne i g hi hg e)]
      exact h7 i g hi hg (by omega)
  · rw [cs_upd_n (ne i g hi hg (by omega))]
    exact h8 i g hi hg (by omega)
  · have := hb n hn
    rw [cs_upd_n (by omega)]
    exact h9 b g hg hb
theorem cs_Ev_next (h : cs_Ev c o oe d de L0 Z F0 K0 F K fw q sr tq n 3 L) (hn : n < L) : cs_Ev c o oe d de L0 Z F0 K0 F K fw q sr tq (n + 1) 0 L := by
  obtain ⟨⟨h0, h00, h000⟩, h1, h2, h3, h4, h5, h6, h7, h8, h9⟩ := h
  exact ⟨⟨h0, by omega, Or.inr rfl⟩, h1, h2, h3, h4, h5, h6, fun i g hi hg hs => h7 i g hi hg (by omega), fun i g hi hg hs => h8 i g hi hg (by omega), h9⟩
/-- the word that is looked at next is still the source's -/
theorem cs_Ev_w (h : cs_Ev c o oe d de L0 Z F0 K0 F K fw q sr tq n f L) (hn : n < L) (hf : f < 3) : F (3 * tq n + f) = F0 (3 * sr n + f) := by
  obtain ⟨h0, h1, h2, h3, h4, h5, h6, h7, h8, h9⟩ := h
  exact h8 n f hn hf (by omega)
/-- what holds of the moving when all has been looked at -/
theorem cs_Ev_end (R : cs_rg c o oe d de) (h : cs_Ev c o oe d de L0 Z F0 K0 F K fw q sr tq L 0 L)
    (nf : ∀ b, cs_sg c b → ¬ (o ≤ b ∧ b < oe) → ¬ K0 b = 0 → (∀ i, i < L0 → tq i ≠ b) → ∀ g, g < 3 → cs_num (F0 (3 * b + g)) ∨ ∃ b', ¬ (o ≤ b' ∧ b' < oe) ∧ ¬ K0 b' = 0 ∧ cs_sg c b' ∧ F0 (3 * b + g) = nI (1000 + b'))
    {K' : Nat → Int32} (k1 : ∀ b, o ≤ b → b < oe → K' b = 0) (k2 : ∀ b, ¬ (o ≤ b ∧ b < oe) → K' b = K b) :
    (∀ b b' b'', cs_mv c o oe L0 L K0 sr tq b b' → cs_mv c o oe L0 L K0 sr tq b b'' → b' = b'') ∧ (∀ b b1 b', cs_mv c o oe L0 L K0 sr tq b b' → cs_mv c o oe L0 L K0 sr tq b1 b' → b = b1) ∧
    (∀ b b', cs_mv c o oe L0 L K0 sr tq b b' → b < 1000 ∧ 48 * c ≤ b' ∧ b' < 48 * c + 48 ∧ ¬ K' b' = 0) ∧
    (∀ b b', cs_mv c o oe L0 L K0 sr tq b b' → ∀ g, g < 3 → cs_l (cs_mv c o oe L0 L K0 sr tq) (F0 (3 * b + g)) (F (3 * b' + g))) ∧
    (∀ b', cs_sg c b' → ¬ K' b' = 0 → ¬ (o ≤ b' ∧ b' < oe) ∧ ((¬ K0 b' = 0 ∧ cs_mv c o oe L0 L K0 sr tq b' b') ∨ ∃ b, Z b ∧ cs_mv c o oe L0 L K0 sr tq b b')) := by
  obtain ⟨h0, h1, h2, h3, h4, h5, h6, h7, h8, h9⟩ := h
  obtain ⟨r0, r1, r2, r3, r4, r5, r6, r7, r8⟩ := R
  refine ⟨fun b b' b'' m m' => ?_, fun b b1 b' m m' => ?_, fun b b' m => ?_, fun b b' m g hg => ?_, fun b' hb' hk => ?_⟩
  · rcases m with ⟨m1, m2, m3, m4⟩ | ⟨i, i1, i2, i3, i4⟩ <;> rcases m' with ⟨m1', m2', m3', m4'⟩ | ⟨j, j1, j2, j3, j4⟩
    · rw [m2, m2']
    · have a := (h1 j j2).2.2.2.2.2 j1
      omega
    · have a := (h1 i i2).2.2.2.2.2 i1
      omega
    · have e := h3 i j i1 i2 j1 j2 (i3.trans j3.symm)
      rw [← i4, ← j4, e]
  · rcases m with ⟨m1, m2, m3, m4⟩ | ⟨i, i1, i2, i3, i4⟩ <;> rcases m' with ⟨m1', m2', m3', m4'⟩ | ⟨j, j1, j2, j3, j4⟩
    · rw [← m2, ← m2']
    · have a := (h1 j j2).2.2.2.2.2 j1
      rw [← m2, ← j4] at m3
      exact absurd a.2.2 m3
    · have a := (h1 i i2).2.2.2.2.2 i1
      rw [← m2', ← i4] at m3'
      exact absurd a.2.2 m3'
    · have e := h2 i j i2 j2 (i4.trans j4.symm)
      rw [← i3, ← j3, e]
  · rcases m with ⟨m1, m2, m3, m4⟩ | ⟨i, i1, i2, i3, i4⟩
    · unfold cs_sg at m4
      rw [m2]
      refine ⟨by omega, m4.1, m4.2, ?_⟩
      rw [k2 b m1]
      by_cases e : ∃ i, L0 ≤ i ∧ i < L ∧ tq i = b
      · obtain ⟨i, i1, i2, i3⟩ := e
        rw [← i3]; exact h5 i i1 i2
      · rw [h6 b (fun i i1 i2 i3 => e ⟨i, i1, i2, i3⟩)]; exact m3
    · have a := h1 i i2
      have a2 := a.2.2.2.2.2 i1
      refine ⟨by omega, by omega, by omega, ?_⟩
      rw [k2 b' (by omega), ← i4]
      exact h5 i i1 i2
  · rcases m with ⟨m1, m2, m3, m4⟩ | ⟨i, i1, i2, i3, i4⟩
    · rw [m2]
      by_cases e : ∃ i, i < L ∧ tq i = b
      · obtain ⟨i, i2, i3⟩ := e
        have a := h1 i i2
        rcases Nat.lt_or_ge i L0 with y | y
        · have a2 := (a.2.2.2.2.1 y).1
          have := h7 i g i2 hg (Or.inl i2)
          rw [a2, i3] at this
          exact this
        · have a2 := a.2.2.2.2.2 y
          rw [i3] at a2
          exact absurd a2.2.2 m3
      · rw [h9 b g hg (fun i i1 i2 => e ⟨i, i1, i2⟩)]
        rcases nf b m4 m1 m3 (fun i i1 i2 => e ⟨i, by omega, i2⟩) g hg with y | ⟨b2, y1, y2, y3, y4⟩
        · exact Or.inl ⟨y, rfl⟩
        · exact Or.inr ⟨b2, b2, Or.inl ⟨y1, rfl, y2, y3⟩, y4, y4⟩
    · rw [← i3, ← i4]
      exact h7 i g i2 hg (Or.inl i2)
  · have no : ¬ (o ≤ b' ∧ b' < oe) := fun z => hk (k1 b' z.1 z.2)
    refine ⟨no, ?_⟩
    by_cases e : ∃ i, L0 ≤ i ∧ i < L ∧ tq i = b'
    · obtain ⟨i, i1, i2, i3⟩ := e
      exact Or.inr ⟨sr i, (h1 i i2).2.1, Or.inr ⟨i, i1, i2, rfl, i3⟩⟩
    · rw [k2 b' no, h6 b' (fun i i1 i2 i3 => e ⟨i, i1, i2, i3⟩)] at hk
      exact Or.inl ⟨hk, Or.inl ⟨no, rfl, hk, hb'⟩⟩
end
