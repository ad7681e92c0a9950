/-! the reference's sets of cells, and its sum: the pure part -/
def cs_B (N a : Nat) : Prop := N.testBit a = true
theorem cs_B_or {N a b : Nat} : cs_B (N ||| 2 ^ a) b ↔ cs_B N b ∨ b = a := by
  unfold cs_B
  rw [Nat.testBit_or, Nat.testBit_two_pow, Bool.or_eq_true, decide_eq_true_eq]
  exact ⟨fun h => h.imp id Eq.symm, fun h => h.imp id Eq.symm⟩
theorem cs_B_lt {N a : Nat} (h : N < 2 ^ 48) (hb : cs_B N a) : a < 48 := by
  rcases Nat.lt_or_ge a 48 with y | y
  · exact y
  · have k : N < 2 ^ a := Nat.lt_of_lt_of_le h (Nat.pow_le_pow_right (by decide) y)
    unfold cs_B at hb
    rw [Nat.testBit_lt_two_pow k] at hb
    exact absurd hb (by decide)
theorem cs_B_0 (a : Nat) : ¬ cs_B 0 a := by unfold cs_B; rw [Nat.zero_testBit]; decide
theorem cs_or_lt {N a : Nat} (h : N < 2 ^ 48) (ha : a < 48) : N ||| 2 ^ a < 2 ^ 48 := Nat.or_lt_two_pow h (Nat.pow_lt_pow_right (by decide) ha)
theorem cs_sm64 : ∀ k, k < 48 → ((lN k).toBitVec.smod 64).toNat = k := by decide +kernel
theorem cs_bit {N k : Nat} (hN : N < 2 ^ 48) (hk : k < 48) : ((lN N >>> ((nI k).toInt64 &&& 63)) &&& 1) = 1 ↔ cs_B N k := by
  rw [wb_c k (by omega), pf_shr (d := k) (cs_sm64 k hk) (by omega)]
  have h1 : N / 2 ^ k ≤ N := Nat.div_le_self _ _
  rw [wb_a1 (by omega), show (1 : Int64) = lN 1 from rfl, pk_lEQ (by omega) (by omega)]
  unfold cs_B
  rw [Nat.testBit_eq_decide_div_mod_eq, decide_eq_true_eq]
theorem cs_set {N a : Nat} (hN : N < 2 ^ 48) (ha : a < 48) : lN N ||| ((1 : Int64) <<< ((nI a).toInt64 &&& 63)) = lN (N ||| 2 ^ a) := by
  have e : (1 : Int64) <<< ((nI a).toInt64 &&& 63) = lN (1 * 2 ^ a) := wb_shl 1 (by omega)
  have k : 2 ^ a < 2 ^ 48 := Nat.pow_lt_pow_right (by decide) ha
  rw [e, Nat.one_mul, wb_or (by omega) (by omega)]
theorem cs_B_ne {M N : Nat} (hM : M < 2 ^ 48) (hN : N < 2 ^ 48) (hs : ∀ a, cs_B M a → cs_B N a) (hne : N ≠ M) : cs_n (fun a => ¬ cs_B N a) 48 < cs_n (fun a => ¬ cs_B M a) 48 := by
  have hx : ∃ a, cs_B N a ∧ ¬ cs_B M a := Classical.byContradiction fun hn => hne (Nat.eq_of_testBit_eq fun i => by
    have h1 : cs_B N i ↔ cs_B M i := ⟨fun h => Classical.byContradiction fun h2 => hn ⟨i, h, h2⟩, hs i⟩
    unfold cs_B at h1
    exact Bool.eq_iff_iff.mpr h1)
  obtain ⟨a, h1, h2⟩ := hx
  exact cs_n_lt (a := a) (fun z => z h1) h2 (fun k _ hk z => hk (hs k z)) (cs_B_lt hN h1)
/-- a word of the reference -/
def cs_yw (y : Int32) : Prop := cs_num y ∨ ∃ a, a < 48 ∧ y = nI (10000 + a)
theorem cs_yw_lt {y : Int32} (h : cs_num y) : ¬ (10000 : Int32) ≤ y := by
  rw [Int32.le_iff_toInt_le]
  have e : (10000 : Int32).toInt = 10000 := by decide
  unfold cs_num at h; omega
theorem cs_yw_ge {a : Nat} (h : a < 1000) : (10000 : Int32) ≤ nI (10000 + a) := nI_le (a := 10000) (by omega) (by omega)
theorem cs_yw_sub (a : Nat) : nI (10000 + a) - 10000 = nI a := by
  have e : nI (10000 + a) = nI a + 10000 := by rw [Nat.add_comm, ← nI_add]; rfl
  rw [e]; grind
theorem cs_yw_w {y : Int32} (h : cs_yw y) {b : Nat} (hw : cs_w 10000 y b) : b < 48 ∧ y = nI (10000 + b) := by
  rcases h with h | ⟨a, h1, h2⟩
  · exact absurd hw (cs_num_nw (by omega) (by omega) h)
  · have e : b = a := cs_w_inj (B := 10000) (by omega) hw ⟨by omega, h2⟩
    exact ⟨by omega, hw.2⟩
def cs_fI (R0 : Nat → Prop) (yf : Nat → Int32) (N : Nat) : Prop := N < 2 ^ 48 ∧ (∀ a, R0 a → cs_B N a) ∧ (∀ a, cs_B N a → cs_R R0 (cs_E 10000 yf) a)
/-- a pass that began at M has come to field c -/
def cs_ps (R0 : Nat → Prop) (yf : Nat → Int32) (M N c : Nat) : Prop := cs_fI R0 yf N ∧ (∀ a, cs_B M a → cs_B N a) ∧ (∀ j b, j < c → cs_B M (j / 3) → cs_w 10000 (yf j) b → cs_B N b)
section
variable {R0 : Nat → Prop} {yf : Nat → Int32} {M N c : Nat}
theorem cs_ps_0 (h : cs_fI R0 yf M) : cs_ps R0 yf M M 0 := ⟨h, fun _ z => z, fun j b z => by omega⟩
theorem cs_ps_on (h : cs_ps R0 yf M N c) (hc : c < 144) (hb : cs_B N (c / 3)) {b : Nat} (hb' : b < 48) (hw : yf c = nI (10000 + b)) : cs_ps R0 yf M (N ||| 2 ^ b) (c + 1) := by
  obtain ⟨⟨h1, h2, h3⟩, h4, h5⟩ := h
  refine ⟨⟨cs_or_lt h1 hb', fun a ha => cs_B_or.mpr (Or.inl (h2 a ha)), fun a ha => ?_⟩, fun a ha => cs_B_or.mpr (Or.inl (h4 a ha)), fun j b' hj hM hw' => ?_⟩
  · rcases cs_B_or.mp ha with y | y
    · exact h3 a y
    · rw [y]
      refine cs_R_s (h3 _ hb) ⟨c % 3, by omega, by omega, ?_⟩
      rw [show 3 * (c / 3) + c % 3 = c by omega]; exact hw
  · by_cases e : j = c
    · rw [e] at hw'
      have := cs_w_inj (B := 10000) (by omega) hw' ⟨by omega, hw⟩
      exact cs_B_or.mpr (Or.inr this)
    · exact cs_B_or.mpr (Or.inl (h5 j b' (by omega) hM hw'))
theorem cs_ps_off (h : cs_ps R0 yf M N c) (hn : cs_B N (c / 3) → cs_num (yf c)) : cs_ps R0 yf M N (c + 1) := by
  obtain ⟨h0, h4, h5⟩ := h
  refine ⟨h0, h4, fun j b' hj hM hw' => ?_⟩
  by_cases e : j = c
  · rw [e] at hw' hM
    exact absurd hw' (cs_num_nw (by omega) (by omega) (hn (h4 _ hM)))
  · exact h5 j b' (by omega) hM hw'
theorem cs_ps_end (h : cs_ps R0 yf N N 144) (a : Nat) : cs_B N a ↔ cs_R R0 (cs_E 10000 yf) a := by
  obtain ⟨⟨h1, h2, h3⟩, h4, h5⟩ := h
  refine ⟨h3 a, fun hR => cs_R_i (fun a => cs_B N a) h2 (fun x y _ hx hE => ?_) hR⟩
  obtain ⟨f, hf, hw⟩ := hE
  have := cs_B_lt h1 hx
  exact h5 (3 * x + f) y (by omega) (by rw [show (3 * x + f) / 3 = x by omega]; exact hx) hw
end
theorem cs_R_cg {R R' : Nat → Prop} {E E' : Nat → Nat → Prop} (h : ∀ a, R a → cs_R R' E' a) (hE : ∀ a b, cs_R R' E' a → E a b → cs_R R' E' b) {x : Nat} (hx : cs_R R E x) : cs_R R' E' x :=
  cs_R_i (cs_R R' E') h (fun a b _ ha he => hE a b ha he) hx
theorem cs_V_0 {B : Nat} {rg fl : Nat → Int32} {o p a : Nat} : ¬ cs_V B rg o p p fl a := by
  intro h
  exact cs_R_i (fun _ => False) (fun a ha => by obtain ⟨r, h1, h2, _⟩ := ha; omega) (fun _ _ _ z _ => z) h
theorem cs_V_s {rg fl : Nat → Int32} {q a : Nat} : cs_R (fun a => cs_V 10000 rg 0 0 q fl a ∨ cs_w 10000 (rg q) a) (cs_E 10000 fl) a ↔ cs_V 10000 rg 0 0 (q + 1) fl a := by
  constructor
  · refine cs_R_cg (fun a ha => ?_) (fun a b ha he => cs_R_s ha he)
    rcases ha with ha | ha
    · exact cs_R_cg (fun a ⟨r, h1, h2, h3⟩ => cs_R_b ⟨r, h1, by omega, h3⟩) (fun a b ha he => cs_R_s ha he) ha
    · exact cs_R_b ⟨q, by omega, by omega, by rw [Nat.zero_add]; exact ha⟩
  · refine cs_R_cg (fun a ⟨r, h1, h2, h3⟩ => cs_R_b ?_) (fun a b ha he => cs_R_s ha he)
    by_cases e : r = q
    · rw [Nat.zero_add, e] at h3; exact Or.inr h3
    · exact Or.inl (cs_R_b ⟨r, h1, by omega, h3⟩)
theorem cs_V_1 {rg fl : Nat → Int32} {q a : Nat} : cs_R (fun a => False ∨ cs_w 10000 (rg q) a) (cs_E 10000 fl) a ↔ cs_V 10000 rg 0 q (q + 1) fl a := by
  constructor
  · refine cs_R_cg (fun a ha => ?_) (fun a b ha he => cs_R_s ha he)
    rcases ha with ha | ha
    · exact ha.elim
    · exact cs_R_b ⟨q, by omega, by omega, by rw [Nat.zero_add]; exact ha⟩
  · refine cs_R_cg (fun a ⟨r, h1, h2, h3⟩ => cs_R_b ?_) (fun a b ha he => cs_R_s ha he)
    have e : r = q := by omega
    rw [Nat.zero_add, e] at h3; exact Or.inr h3
/-! sums of numbers -/
def cs_nv (w : Int32) : Int32 := if w < 1000 then w else 0
def cs_g (fl : Nat → Int32) (a : Nat) : Int32 := cs_nv (fl (3 * a + 0)) + cs_nv (fl (3 * a + 1)) + cs_nv (fl (3 * a + 2))
theorem cs_nv_num {w : Int32} (h : cs_num w) : cs_nv w = w := if_pos (cs_num_lt h)
theorem cs_nv_ref {B b : Nat} (h0 : 1000 ≤ B) (hB : B ≤ 10000) (h : b < 1000) : cs_nv (nI (B + b)) = 0 := if_neg (by
  rw [Int32.lt_iff_toInt_lt, nI_toInt (by omega)]
  have e : (1000 : Int32).toInt = 1000 := by decide
  omega)
theorem cs_s_3 (A : Nat → Prop) (h : Nat → Int32) : ∀ n, cs_s (fun j => A (j / 3)) h (3 * n) = cs_s A (fun a => h (3 * a + 0) + h (3 * a + 1) + h (3 * a + 2)) n
  | 0 => rfl
  | n + 1 => by
    have ih := cs_s_3 A h n
    show cs_s (fun j => A (j / 3)) h (3 * n + 1 + 1 + 1) = _
    simp only [cs_s]
    rw [ih, show (3 * n) / 3 = n by omega, show (3 * n + 1) / 3 = n by omega, show (3 * n + 1 + 1) / 3 = n by omega]
    rcases Classical.em (A n) with z | z
    · rw [cs_tt z, cs_tt z, cs_tt z, cs_tt z]
      show _ = _ + (h (3 * n) + h (3 * n + 1) + h (3 * n + 2))
      grind
    · rw [cs_tf z, cs_tf z, cs_tf z, cs_tf z]; grind
theorem cs_m_nv {c : Nat} {P : Nat → Nat → Prop} {xr xf xk yr yf : Nat → Int32} (hc : c < 7) (I : cs_I c P xr xf xk yr yf) {y x : Int32} (m : cs_m P y x) : cs_nv y = cs_nv x := by
  rcases m with ⟨_, e⟩ | ⟨a, b, h1, h2, h3⟩
  · rw [e]
  · obtain ⟨p0, p1, p2, _⟩ := I.2.2.1 a b h1
    rw [h2, h3, cs_nv_ref (by omega) (by omega) (by omega), cs_nv_ref (by omega) (by omega) (by omega)]
theorem cs_iso_s {c : Nat} {P : Nat → Nat → Prop} {xr xf xk yr yf : Nat → Int32} (hc : c < 7) (I : cs_I c P xr xf xk yr yf) {p q : Nat} (hq : q ≤ 6) : cs_s (cs_V 10000 yr 0 p q yf) (cs_g yf) 48 = cs_s (fun i => cs_V 1000 xr (6 * c) p q xf (48 * c + i)) (fun i => cs_g xf (48 * c + i)) 48 := by
  refine cs_s_bij (Q := fun a i => P a (48 * c + i)) (fun a a' b h h' => I.2.1 a a' _ h h') (fun a b b' h h' => ?_) (fun a i h => ?_) 48 _ (fun a _ hA => ?_) (fun i _ hB => ?_)
  · have := I.1 a _ _ h h'
    omega
  · unfold cs_g
    rw [cs_m_nv hc I (I.2.2.2.2 a _ h 0 (by omega)), cs_m_nv hc I (I.2.2.2.2 a _ h 1 (by omega)), cs_m_nv hc I (I.2.2.2.2 a _ h 2 (by omega))]
  · obtain ⟨b, h1, h2⟩ := cs_iso_yx hc I hq hA
    obtain ⟨_, p1, p2, _⟩ := I.2.2.1 a b h1
    have e : 48 * c + (b - 48 * c) = b := by omega
    exact ⟨b - 48 * c, by omega, by rw [e]; exact h2, by rw [e]; exact h1⟩
  · obtain ⟨a, h1, h2⟩ := cs_iso_xy hc I hq hB
    exact ⟨a, (I.2.2.1 a _ h1).1, h2, h1⟩
