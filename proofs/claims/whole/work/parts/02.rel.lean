/-! words, references, what can be come to; the pairing of one collector's cells with the reference's -/
def cs_num (w : Int32) : Prop := -999 ≤ w.toInt ∧ w.toInt ≤ 999
/-- word w refers to cell b (B: what a reference is added to) -/
def cs_w (B : Nat) (w : Int32) (b : Nat) : Prop := b < 1000 ∧ w = nI (B + b)
theorem cs_nIinj {a b : Nat} (ha : a < 2 ^ 31) (hb : b < 2 ^ 31) (h : nI a = nI b) : a = b := (nI_eq ha hb).mp h
theorem cs_w_inj {B : Nat} {w : Int32} {b b' : Nat} (hB : B ≤ 10000) (h : cs_w B w b) (h' : cs_w B w b') : b = b' := by
  have := cs_nIinj (by have := h.1; omega) (by have := h'.1; omega) (h.2.symm.trans h'.2)
  omega
theorem cs_num_lt {w : Int32} (h : cs_num w) : w < 1000 := by
  rw [Int32.lt_iff_toInt_lt]
  have e : (1000 : Int32).toInt = 1000 := by decide
  unfold cs_num at h; omega
theorem cs_num_nw {B : Nat} {w : Int32} {b : Nat} (h0 : 1000 ≤ B) (hB : B ≤ 10000) (h : cs_num w) : ¬ cs_w B w b := by
  intro z
  have e : w.toInt = ((B + b : Nat) : Int) := by rw [z.2]; exact nI_toInt (by have := z.1; omega)
  unfold cs_num at h
  have := z.1
  omega
theorem cs_ref_ge {b : Nat} (h : b < 1000) : ¬ nI (1000 + b) < 1000 := by
  rw [Int32.lt_iff_toInt_lt, nI_toInt (by omega)]
  have e : (1000 : Int32).toInt = 1000 := by decide
  omega
theorem cs_ref_sub (b : Nat) : nI (1000 + b) - 1000 = nI b := by
  have e : nI (1000 + b) = nI b + 1000 := by rw [Nat.add_comm, ← nI_add]; rfl
  rw [e]; grind
theorem cs_ref_add (b : Nat) : 1000 + nI b = nI (1000 + b) := by rw [← nI_add]; rfl
def cs_E (B : Nat) (fl : Nat → Int32) (a b : Nat) : Prop := ∃ f, f < 3 ∧ cs_w B (fl (3 * a + f)) b
def cs_Q (B : Nat) (rg : Nat → Int32) (o p q : Nat) (b : Nat) : Prop := ∃ r, p ≤ r ∧ r < q ∧ cs_w B (rg (o + r)) b
/-- what can be come to from registers p .. q - 1 -/
def cs_V (B : Nat) (rg : Nat → Int32) (o p q : Nat) (fl : Nat → Int32) : Nat → Prop := cs_R (cs_Q B rg o p q) (cs_E B fl)
/-- y (the reference's word) and x (the collector's) hold the same -/
def cs_m (P : Nat → Nat → Prop) (y x : Int32) : Prop := (cs_num y ∧ x = y) ∨ ∃ a b, P a b ∧ y = nI (10000 + a) ∧ x = nI (1000 + b)
theorem cs_m_mono {P Q : Nat → Nat → Prop} {y x : Int32} (h : ∀ a b, P a b → x = nI (1000 + b) → Q a b) (m : cs_m P y x) : cs_m Q y x := by
  rcases m with m | ⟨a, b, h1, h2, h3⟩
  · exact Or.inl m
  · exact Or.inr ⟨a, b, h a b h1 h3, h2, h3⟩
def cs_I (c : Nat) (P : Nat → Nat → Prop) (xr xf xk yr yf : Nat → Int32) : Prop :=
  (∀ a b b', P a b → P a b' → b = b') ∧ (∀ a a' b, P a b → P a' b → a = a') ∧
  (∀ a b, P a b → a < 48 ∧ 48 * c ≤ b ∧ b < 48 * c + 48 ∧ ¬ xk b = 0) ∧
  (∀ r, r < 6 → cs_m P (yr r) (xr (6 * c + r))) ∧
  (∀ a b, P a b → ∀ f, f < 3 → cs_m P (yf (3 * a + f)) (xf (3 * b + f)))
def cs_ok (c : Nat) (xk : Nat → Int32) (w : Int32) : Prop := cs_num w ∨ ∃ b, 48 * c ≤ b ∧ b < 48 * c + 48 ∧ ¬ xk b = 0 ∧ w = nI (1000 + b)
/-- every word of a kept cell is a number or refers to a kept cell of the same collector -/
def cs_W (c : Nat) (xf xk : Nat → Int32) : Prop := ∀ b, 48 * c ≤ b → b < 48 * c + 48 → ¬ xk b = 0 → ∀ f, f < 3 → cs_ok c xk (xf (3 * b + f))
theorem cs_m_ok {c : Nat} {P : Nat → Nat → Prop} {xk : Nat → Int32} (h : ∀ a b, P a b → a < 48 ∧ 48 * c ≤ b ∧ b < 48 * c + 48 ∧ ¬ xk b = 0) {y x : Int32} (m : cs_m P y x) : cs_ok c xk x := by
  rcases m with ⟨m, e⟩ | ⟨a, b, h1, h2, h3⟩
  · exact Or.inl (e ▸ m)
  · obtain ⟨_, p1, p2, p3⟩ := h a b h1
    exact Or.inr ⟨b, p1, p2, p3, h3⟩
section
variable {c : Nat} {P : Nat → Nat → Prop} {xr xf xk yr yf : Nat → Int32}
theorem cs_m_y (hc : c < 7) (I : cs_I c P xr xf xk yr yf) {y x : Int32} (m : cs_m P y x) {a : Nat} (h : cs_w 10000 y a) : ∃ b, P a b ∧ cs_w 1000 x b := by
  rcases m with ⟨m, _⟩ | ⟨a', b, h1, h2, h3⟩
  · exact absurd h (cs_num_nw (by omega) (by omega) m)
  · obtain ⟨p0, p1, p2, _⟩ := I.2.2.1 a' b h1
    have e : a = a' := cs_w_inj (B := 10000) (by omega) h ⟨by omega, h2⟩
    exact ⟨b, e ▸ h1, by omega, h3⟩
theorem cs_m_x (hc : c < 7) (I : cs_I c P xr xf xk yr yf) {y x : Int32} (m : cs_m P y x) {b : Nat} (h : cs_w 1000 x b) : ∃ a, P a b ∧ cs_w 10000 y a := by
  rcases m with ⟨m, e⟩ | ⟨a, b', h1, h2, h3⟩
  · exact absurd h (e ▸ cs_num_nw (by omega) (by omega) m)
  · obtain ⟨p0, p1, p2, _⟩ := I.2.2.1 a b' h1
    have e : b = b' := cs_w_inj (B := 1000) (by omega) h ⟨by omega, h3⟩
    exact ⟨a, e ▸ h1, by omega, h2⟩
theorem cs_iso_yx (hc : c < 7) (I : cs_I c P xr xf xk yr yf) {p q a : Nat} (hq : q ≤ 6) (h : cs_V 10000 yr 0 p q yf a) : ∃ b, P a b ∧ cs_V 1000 xr (6 * c) p q xf b := by
  refine cs_R_i (fun a => ∃ b, P a b ∧ cs_V 1000 xr (6 * c) p q xf b) (fun a ha => ?_) (fun a a' _ hb hE => ?_) h
  · obtain ⟨r, h1, h2, h3⟩ := ha
    rw [Nat.zero_add] at h3
    obtain ⟨b, h4, h5⟩ := cs_m_y hc I (I.2.2.2.1 r (by omega)) h3
    exact ⟨b, h4, cs_R_b ⟨r, h1, h2, h5⟩⟩
  · obtain ⟨b, h4, h5⟩ := hb
    obtain ⟨f, hf, hw⟩ := hE
    obtain ⟨b', h6, h7⟩ := cs_m_y hc I (I.2.2.2.2 a b h4 f hf) hw
    exact ⟨b', h6, cs_R_s h5 ⟨f, hf, h7⟩⟩
theorem cs_iso_xy (hc : c < 7) (I : cs_I c P xr xf xk yr yf) {p q b : Nat} (hq : q ≤ 6) (h : cs_V 1000 xr (6 * c) p q xf b) : ∃ a, P a b ∧ cs_V 10000 yr 0 p q yf a := by
  refine cs_R_i (fun b => ∃ a, P a b ∧ cs_V 10000 yr 0 p q yf a) (fun b hb => ?_) (fun b b' _ ha hE => ?_) h
  · obtain ⟨r, h1, h2, h3⟩ := hb
    obtain ⟨a, h4, h5⟩ := cs_m_x hc I (I.2.2.2.1 r (by omega)) h3
    exact ⟨a, h4, cs_R_b ⟨r, h1, h2, by rw [Nat.zero_add]; exact h5⟩⟩
  · obtain ⟨a, h4, h5⟩ := ha
    obtain ⟨f, hf, hw⟩ := hE
    obtain ⟨a', h6, h7⟩ := cs_m_x hc I (I.2.2.2.2 a b h4 f hf) hw
    exact ⟨a', h6, cs_R_s h5 ⟨f, hf, h7⟩⟩
theorem cs_Y_lt (hc : c < 7) (I : cs_I c P xr xf xk yr yf) {p q a : Nat} (hq : q ≤ 6) (h : cs_V 10000 yr 0 p q yf a) : a < 48 := by
  obtain ⟨b, hb, _⟩ := cs_iso_yx hc I hq h
  exact (I.2.2.1 a b hb).1
theorem cs_X_in (hc : c < 7) (I : cs_I c P xr xf xk yr yf) {p q b : Nat} (hq : q ≤ 6) (h : cs_V 1000 xr (6 * c) p q xf b) : 48 * c ≤ b ∧ b < 48 * c + 48 ∧ ¬ xk b = 0 := by
  obtain ⟨a, ha, _⟩ := cs_iso_xy hc I hq h
  exact (I.2.2.1 a b ha).2
/-- as many can be come to in the collector as in the reference -/
theorem cs_iso_n (hc : c < 7) (I : cs_I c P xr xf xk yr yf) {p q : Nat} (hq : q ≤ 6) : cs_n (cs_V 10000 yr 0 p q yf) 48 = cs_n (fun i => cs_V 1000 xr (6 * c) p q xf (48 * c + i)) 48 := by
  refine cs_n_bij (Q := fun a i => P a (48 * c + i)) (fun a _ hA => ?_) (fun i _ hB => ?_) (fun a a' b h h' => I.2.1 a a' _ h h') (fun a b b' h h' => ?_)
  · obtain ⟨b, h1, h2⟩ := cs_iso_yx hc I hq hA
    obtain ⟨_, p1, p2, _⟩ := I.2.2.1 a b h1
    have e : 48 * c + (b - 48 * c) = b := by omega
    exact ⟨b - 48 * c, by omega, by rw [e]; exact h2, by rw [e]; exact h1⟩
  · obtain ⟨a, h1, h2⟩ := cs_iso_xy hc I hq hB
    exact ⟨a, (I.2.2.1 a _ h1).1, h2, h1⟩
  · have := I.1 a _ _ h h'
    omega
/-- a smaller set of kept cells, closed under what registers and its cells refer to -/
theorem cs_I_sub (hc : c < 7) (I : cs_I c P xr xf xk yr yf) {xk' : Nat → Int32} (hr : ∀ r, r < 6 → cs_ok c xk' (xr (6 * c + r))) (hw : cs_W c xf xk') : cs_I c (fun a b => P a b ∧ ¬ xk' b = 0) xr xf xk' yr yf := by
  have key : ∀ {y x : Int32}, cs_m P y x → cs_ok c xk' x → cs_m (fun a b => P a b ∧ ¬ xk' b = 0) y x := by
    intro y x m o
    refine cs_m_mono (fun a b hP hx => ⟨hP, ?_⟩) m
    obtain ⟨_, p1, p2, _⟩ := I.2.2.1 a b hP
    rcases o with o | ⟨b', o1, o2, o3, o4⟩
    · exact absurd (⟨by omega, hx⟩ : cs_w 1000 x b) (cs_num_nw (by omega) (by omega) o)
    · have e : b = b' := cs_w_inj (B := 1000) (w := x) (by omega) ⟨by omega, hx⟩ ⟨by omega, o4⟩
      rw [e]; exact o3
  refine ⟨fun a b b' h h' => I.1 a b b' h.1 h'.1, fun a a' b h h' => I.2.1 a a' b h.1 h'.1, fun a b h => ?_, fun r hr' => key (I.2.2.2.1 r hr') (hr r hr'), fun a b h f hf => ?_⟩
  · obtain ⟨p0, p1, p2, _⟩ := I.2.2.1 a b h.1
    exact ⟨p0, p1, p2, h.2⟩
  · obtain ⟨_, p1, p2, _⟩ := I.2.2.1 a b h.1
    exact key (I.2.2.2.2 a b h.1 f hf) (hw b p1 p2 h.2 f hf)
/-- cs_I speaks of the collector's own stretch alone -/
theorem cs_I_cg (I : cs_I c P xr xf xk yr yf) {xr' xf' xk' : Nat → Int32} (h1 : ∀ r, r < 6 → xr' (6 * c + r) = xr (6 * c + r)) (h2 : ∀ j, 144 * c ≤ j → j < 144 * c + 144 → xf' j = xf j) (h3 : ∀ b, 48 * c ≤ b → b < 48 * c + 48 → xk' b = xk b) : cs_I c P xr' xf' xk' yr yf := by
  refine ⟨I.1, I.2.1, fun a b h => ?_, fun r hr => ?_, fun a b h f hf => ?_⟩
  · obtain ⟨p0, p1, p2, p3⟩ := I.2.2.1 a b h
    exact ⟨p0, p1, p2, by rw [h3 b p1 p2]; exact p3⟩
  · rw [h1 r hr]; exact I.2.2.2.1 r hr
  · obtain ⟨p0, p1, p2, p3⟩ := I.2.2.1 a b h
    rw [h2 (3 * b + f) (by omega) (by omega)]; exact I.2.2.2.2 a b h f hf
theorem cs_ok_cg {xk' : Nat → Int32} {w : Int32} (h : cs_ok c xk w) (h3 : ∀ b, 48 * c ≤ b → b < 48 * c + 48 → xk' b = xk b) : cs_ok c xk' w := by
  rcases h with h | ⟨b, o1, o2, o3, o4⟩
  · exact Or.inl h
  · exact Or.inr ⟨b, o1, o2, by rw [h3 b o1 o2]; exact o3, o4⟩
theorem cs_W_cg (h : cs_W c xf xk) {xf' xk' : Nat → Int32} (h2 : ∀ j, 144 * c ≤ j → j < 144 * c + 144 → xf' j = xf j) (h3 : ∀ b, 48 * c ≤ b → b < 48 * c + 48 → xk' b = xk b) : cs_W c xf' xk' := by
  intro b p1 p2 p3 f hf
  rw [h3 b p1 p2] at p3
  rw [h2 (3 * b + f) (by omega) (by omega)]
  exact cs_ok_cg (h b p1 p2 p3 f hf) h3
end
def cs_sg (c b : Nat) : Prop := 48 * c ≤ b ∧ b < 48 * c + 48
