section
/-! rows of the kit, pasted -/
theorem pk_sub {a b : Nat} (h : b ≤ a) : nI a - nI b = nI (a - b) := by
  obtain ⟨c, rfl⟩ : ∃ c, a = c + b := ⟨a - b, by omega⟩
  rw [← nI_add, Int32.add_sub_cancel, Nat.add_sub_cancel]
theorem pk_m1 (n : Nat) : nI (n + 1) + (-1) = nI n := by
  rw [← nI_1, Int32.add_assoc, show (1 : Int32) + (-1) = 0 from rfl, Int32.add_zero]
theorem pk_mul (a b : Nat) : nI a * nI b = nI (a * b) := (Int32.ofNat_mul a b).symm
theorem pk_div {a d : Nat} (ha : a < 2 ^ 31) (h0 : 0 < d) (hd : d < 2 ^ 31) : nI a / nI d = nI (a / d) := by
  apply Int32.toInt_inj.mp
  rw [lg_idiv_nonneg (by rw [nI_toInt ha]; omega) (by rw [nI_toInt hd]; omega), nI_toInt ha, nI_toInt hd, nI_toInt (Nat.lt_of_le_of_lt (Nat.div_le_self a d) ha)]
  first | rfl | exact (Int.natCast_ediv _ _).symm
theorem pk_sub_toInt {a b : Nat} (ha : a < 2 ^ 30) (hb : b < 2 ^ 30) : (nI a - nI b).toInt = (a : Int) - b := by
  rw [Int32.toInt_sub, nI_toInt (by omega), nI_toInt (by omega)]
  exact Int.bmod_eq_of_le (by omega) (by omega)
theorem pk_sneg {a b : Nat} (hb : b < 2 ^ 30) (h : a < b) : nI a - nI b < 0 := by
  rw [Int32.lt_iff_toInt_lt, pk_sub_toInt (by omega) hb, show (0 : Int32).toInt = 0 from by decide]
  omega
theorem pk_ix (x : Int32) {n : Nat} (hn : n < 2 ^ 31) : x < 0 ∨ nI n ≤ x ∨ ∃ j : Nat, j < n ∧ x = nI j := by
  by_cases h : x < 0
  · exact Or.inl h
  · obtain ⟨j, hj, rfl⟩ := nI_of h
    by_cases h2 : j < n
    · exact Or.inr (Or.inr ⟨j, h2, rfl⟩)
    · exact Or.inr (Or.inl (nI_le (by omega) hj))
theorem pk_le {x y : Int32} {A B : Prop} (a b : Nat) (f : a ≤ b → A) (g : b < a → B) (hx : x = nI a := by rfl) (hy : y = nI b := by rfl) (ha : a < 2 ^ 31 := by omega) (hb : b < 2 ^ 31 := by omega) : (x ≤ y → A) ∧ (¬ x ≤ y → B) := by
  subst hx hy
  rw [nI_leI ha hb]
  exact ⟨f, fun z => g (by omega)⟩
theorem pk_lt {x y : Int32} {A B : Prop} (a b : Nat) (f : a < b → A) (g : b ≤ a → B) (hx : x = nI a := by rfl) (hy : y = nI b := by rfl) (ha : a < 2 ^ 31 := by omega) (hb : b < 2 ^ 31 := by omega) : (x < y → A) ∧ (¬ x < y → B) := by
  subst hx hy
  rw [nI_ltI ha hb]
  exact ⟨f, fun z => g (by omega)⟩
theorem pk_eq {x y : Int32} {A B : Prop} (a b : Nat) (f : a = b → A) (g : a ≠ b → B) (hx : x = nI a := by rfl) (hy : y = nI b := by rfl) (ha : a < 2 ^ 31 := by omega) (hb : b < 2 ^ 31 := by omega) : (x = y → A) ∧ (¬ x = y → B) := by
  subst hx hy
  rw [nI_eq ha hb]
  exact ⟨f, g⟩
theorem pk_in {x : Int32} (n N : Nat) (h : n < N) (hx : x = nI n := by rfl) (hN : N < 2 ^ 31 := by omega) : vp_in x N := by
  subst hx
  exact vp_in_nI h hN
theorem pk_cl {x : Int32} (n : Nat) (hx : x = nI n := by rfl) (h : n < 2 ^ 31 := by omega) : x.toNatClampNeg = n := by
  subst hx
  exact nI_clamp h
theorem pk_lT {n : Nat} (h : n < 2 ^ 63) : (lN n).toInt = (n : Int) := lg_ofNat_toInt h
theorem pk_lLT {a b : Nat} (ha : a < 2 ^ 63) (hb : b < 2 ^ 63) : lN a < lN b ↔ a < b := by
  rw [Int64.lt_iff_toInt_lt, pk_lT ha, pk_lT hb]; omega
theorem pk_lLE {a b : Nat} (ha : a < 2 ^ 63) (hb : b < 2 ^ 63) : lN a ≤ lN b ↔ a ≤ b := by
  rw [Int64.le_iff_toInt_le, pk_lT ha, pk_lT hb]; omega
theorem pk_lEQ {a b : Nat} (ha : a < 2 ^ 63) (hb : b < 2 ^ 63) : lN a = lN b ↔ a = b := by
  rw [← Int64.toInt_inj, pk_lT ha, pk_lT hb]; omega
theorem pk_lOf {x : Int64} (h : ¬ x < 0) : ∃ k : Nat, k < 2 ^ 63 ∧ x = lN k := by
  rw [Int64.lt_iff_toInt_lt] at h
  have h0 : (0 : Int64).toInt = 0 := by decide
  have hx := Int64.toInt_lt x
  refine ⟨x.toInt.toNat, by omega, Int64.toInt_inj.mp ?_⟩
  rw [pk_lT (by omega)]
  omega
theorem pk_loop {σ : Type} (W : Nat → Nat → σ → Prop) (I : Nat → σ → Prop) (e i0 : Nat) (s : σ) (hi : i0 ≤ e) (h0 : I i0 s) (hx : ∀ n s, I e s → W (n + 1) e s)
    (hs : ∀ n i s, i < e → I i s → (∀ s', I (i + 1) s' → W n (i + 1) s') → W (n + 1) i s) : ∃ n, W n i0 s :=
  ⟨e + 1, loop_i W I e hx hs (e + 1) i0 s hi (by omega) h0⟩
theorem pk_least (P : Nat → Prop) (h : ∃ k, P k) : ∃ k, P k ∧ ∀ j, j < k → ¬ P j := by
  obtain ⟨k, hk⟩ := h
  induction k using Nat.strongRecOn with
  | ind k ih =>
    by_cases e : ∃ j, j < k ∧ P j
    · obtain ⟨j, hj, pj⟩ := e
      exact ih j hj pj
    · exact ⟨k, hk, fun j hj pj => e ⟨j, hj, pj⟩⟩
theorem wb_tb (n : Nat) : (lN n).toBitVec = BitVec.ofNat 64 n := rfl
theorem wb_inj {a b : Int64} (h : a.toBitVec = b.toBitVec) : a = b := Int64.toBitVec_inj.mp h
theorem wb_tn {n : Nat} (h : n < 2 ^ 64) : (lN n).toBitVec.toNat = n := by rw [wb_tb, BitVec.toNat_ofNat, Nat.mod_eq_of_lt h]
theorem wb_c : ∀ k, k < 64 → ((nI k).toInt64 &&& 63) = lN k := by decide +kernel
theorem wb_sm : ∀ k, k < 64 → (BitVec.ofNat 64 k).smod 64 = BitVec.ofNat 64 k := by decide +kernel
theorem wb_pw {a b : Nat} (h : a ≤ b) : 2 ^ b = 2 ^ a * 2 ^ (b - a) := by rw [← Nat.pow_add]; congr 1; omega
theorem wb_lt2 {a b : Nat} (h : a < b) : 2 ^ a < 2 ^ b := Nat.pow_lt_pow_right (by decide) h
theorem wb_shl (n : Nat) {k : Nat} (hk : k < 64) : lN n <<< ((nI k).toInt64 &&& 63) = lN (n * 2 ^ k) := by
  rw [wb_c k hk]
  apply wb_inj
  rw [Int64.toBitVec_shiftLeft, wb_tb, wb_tb, wb_tb, wb_sm k hk]
  apply BitVec.eq_of_toNat_eq
  rw [BitVec.shiftLeft_eq', BitVec.toNat_shiftLeft, BitVec.toNat_ofNat, BitVec.toNat_ofNat, BitVec.toNat_ofNat, Nat.mod_eq_of_lt (show k < 2 ^ 64 by omega), Nat.shiftLeft_eq, Nat.mul_mod, Nat.mod_mod, ← Nat.mul_mod]
theorem wb_and {a b : Nat} (ha : a < 2 ^ 64) (hb : b < 2 ^ 64) : lN a &&& lN b = lN (a &&& b) := by
  apply wb_inj
  rw [Int64.toBitVec_and, wb_tb, wb_tb, wb_tb]
  apply BitVec.eq_of_toNat_eq
  rw [BitVec.toNat_and, BitVec.toNat_ofNat, BitVec.toNat_ofNat, BitVec.toNat_ofNat, Nat.mod_eq_of_lt ha, Nat.mod_eq_of_lt hb, Nat.mod_eq_of_lt (Nat.and_lt_two_pow _ hb)]
theorem wb_or {a b : Nat} (ha : a < 2 ^ 64) (hb : b < 2 ^ 64) : lN a ||| lN b = lN (a ||| b) := by
  apply wb_inj
  rw [Int64.toBitVec_or, wb_tb, wb_tb, wb_tb]
  apply BitVec.eq_of_toNat_eq
  rw [BitVec.toNat_or, BitVec.toNat_ofNat, BitVec.toNat_ofNat, BitVec.toNat_ofNat, Nat.mod_eq_of_lt ha, Nat.mod_eq_of_lt hb, Nat.mod_eq_of_lt (Nat.or_lt_two_pow ha hb)]
theorem wb_mask {n k : Nat} (hn : n < 2 ^ 64) (hk : k < 64) : lN n &&& lN (2 ^ k - 1) = lN (n % 2 ^ k) := by
  rw [wb_and hn (by have := wb_lt2 hk; omega), Nat.and_two_pow_sub_one_eq_mod]
theorem wb_a1 {n : Nat} (hn : n < 2 ^ 64) : lN n &&& 1 = lN (n % 2) := wb_mask (k := 1) hn (by decide)
theorem pf_lI {a : Nat} (h : a < 2 ^ 63) : (lN a).toInt = (a : Int) := lg_ofNat_toInt h
theorem pf_shr {a d : Nat} {D : Int64} (hD : (D.toBitVec.smod 64).toNat = d) (h : a < 2 ^ 62) : lN a >>> D = lN (a / 2 ^ d) := by
  have hd : a / 2 ^ d ≤ a := Nat.div_le_self _ _
  apply Int64.toInt_inj.mp
  have e : (lN a >>> D).toInt = (lN a).toInt >>> d := by
    rw [← hD]
    exact BitVec.toInt_sshiftRight ..
  rw [e, Int.shiftRight_eq_div_pow, pf_lI (by omega), pf_lI (by omega)]
  rfl
end
section
/-! counting, sums and least sets; nothing of the program -/
noncomputable def cs_b (P : Prop) : Nat := @ite Nat P (Classical.propDecidable P) 1 0
theorem cs_bt {P : Prop} (h : P) : cs_b P = 1 := by unfold cs_b; rw [if_pos h]
theorem cs_bf {P : Prop} (h : ¬ P) : cs_b P = 0 := by unfold cs_b; rw [if_neg h]
theorem cs_ble (P : Prop) : cs_b P ≤ 1 := by
  rcases Classical.em P with h | h
  · rw [cs_bt h]; omega
  · rw [cs_bf h]; omega
theorem cs_bmono {P Q : Prop} (h : P → Q) : cs_b P ≤ cs_b Q := by
  rcases Classical.em P with hp | hp
  · rw [cs_bt hp, cs_bt (h hp)]; omega
  · rw [cs_bf hp]; omega
noncomputable def cs_n (P : Nat → Prop) : Nat → Nat
  | 0 => 0
  | k + 1 => cs_n P k + cs_b (P k)
theorem cs_n_mono {P Q : Nat → Prop} : ∀ {N : Nat}, (∀ k, k < N → P k → Q k) → cs_n P N ≤ cs_n Q N
  | 0, _ => Nat.le_refl _
  | N + 1, h => by
    have a := cs_n_mono (P := P) (Q := Q) (N := N) (fun k hk => h k (by omega))
    have b := cs_bmono (h N (by omega))
    simp only [cs_n]; omega
theorem cs_n_lt {P Q : Nat → Prop} {a : Nat} (hp : ¬ P a) (hq : Q a) : ∀ {N : Nat}, (∀ k, k < N → P k → Q k) → a < N → cs_n P N < cs_n Q N
  | 0, _, h => by omega
  | N + 1, h, ha => by
    simp only [cs_n]
    rcases Nat.lt_or_ge a N with z | z
    · have x := cs_n_lt hp hq (N := N) (fun k hk => h k (by omega)) z
      have b := cs_bmono (h N (by omega))
      omega
    · have e : a = N := by omega
      subst e
      have x := cs_n_mono (P := P) (Q := Q) (N := a) (fun k hk => h k (by omega))
      rw [cs_bt hq, cs_bf hp]; omega
theorem cs_n_le (P : Nat → Prop) : ∀ N, cs_n P N ≤ N
  | 0 => Nat.le_refl _
  | N + 1 => by have := cs_n_le P N; have := cs_ble (P N); simp only [cs_n]; omega
theorem cs_n_eq {P Q : Nat → Prop} {N : Nat} (h : ∀ k, k < N → (P k ↔ Q k)) : cs_n P N = cs_n Q N :=
  Nat.le_antisymm (cs_n_mono fun k hk => (h k hk).mp) (cs_n_mono fun k hk => (h k hk).mpr)
theorem cs_n_add {P : Nat → Prop} {a : Nat} (hp : ¬ P a) : ∀ {N : Nat}, a < N → cs_n (fun k => P k ∨ k = a) N = cs_n P N + 1
  | 0, h => by omega
  | N + 1, h => by
    simp only [cs_n]
    rcases Nat.lt_or_ge a N with z | z
    · rw [cs_n_add hp z]
      have : cs_b (P N ∨ N = a) = cs_b (P N) := Nat.le_antisymm (cs_bmono fun q => q.elim id (fun e => by omega)) (cs_bmono Or.inl)
      omega
    · have e : a = N := by omega
      subst e
      rw [cs_n_eq (P := fun k => P k ∨ k = a) (Q := P) (fun k hk => ⟨fun q => q.elim id (fun e => by omega), Or.inl⟩), cs_bt (Or.inr rfl), cs_bf hp]
theorem cs_n_rem {P : Nat → Prop} {a N : Nat} (hp : P a) (ha : a < N) : cs_n P N = cs_n (fun k => P k ∧ k ≠ a) N + 1 := by
  rw [← cs_n_add (P := fun k => P k ∧ k ≠ a) (a := a) (fun h => h.2 rfl) ha]
  refine cs_n_eq (fun k _ => ⟨fun h => ?_, fun h => ?_⟩)
  · by_cases e : k = a
    · exact Or.inr e
    · exact Or.inl ⟨h, e⟩
  · rcases h with h | h
    · exact h.1
    · rw [h]; exact hp
theorem cs_n_0 {P : Nat → Prop} : ∀ {N : Nat}, (∀ k, k < N → ¬ P k) → cs_n P N = 0
  | 0, _ => rfl
  | N + 1, h => by
    have a := cs_n_0 (P := P) (N := N) (fun k hk => h k (by omega))
    simp only [cs_n]; rw [cs_bf (h N (by omega))]; omega
theorem cs_n_all {P : Nat → Prop} : ∀ {N : Nat}, (∀ k, k < N → P k) → cs_n P N = N
  | 0, _ => rfl
  | N + 1, h => by
    have a := cs_n_all (P := P) (N := N) (fun k hk => h k (by omega))
    simp only [cs_n]; rw [cs_bt (h N (by omega))]; omega
theorem cs_n_pos {P : Nat → Prop} {N : Nat} (h : 0 < cs_n P N) : ∃ k, k < N ∧ P k := by
  refine Classical.byContradiction fun hn => ?_
  have := cs_n_0 (P := P) (N := N) (fun k hk hp => hn ⟨k, hk, hp⟩)
  omega
theorem cs_n_ex {P : Nat → Prop} {N : Nat} (h : cs_n P N < N) : ∃ k, k < N ∧ ¬ P k := by
  refine Classical.byContradiction fun hn => ?_
  have := cs_n_all (P := P) (N := N) (fun k hk => Classical.byContradiction fun hp => hn ⟨k, hk, hp⟩)
  omega
theorem cs_n_compl {P : Nat → Prop} : ∀ {N : Nat}, cs_n P N + cs_n (fun k => ¬ P k) N = N
  | 0 => rfl
  | N + 1 => by
    have a := cs_n_compl (P := P) (N := N)
    simp only [cs_n]
    rcases Classical.em (P N) with h | h
    · rw [cs_bt h, cs_bf (P := ¬ P N) (fun z => z h)]; omega
    · rw [cs_bf h, cs_bt (P := ¬ P N) h]; omega
theorem cs_n_inj {A : Nat → Prop} {Q : Nat → Nat → Prop} {m : Nat} : ∀ (n : Nat) (B : Nat → Prop), (∀ a, a < n → A a → ∃ b, b < m ∧ B b ∧ Q a b) → (∀ a a' b, a < n → a' < n → Q a b → Q a' b → a = a') → cs_n A n ≤ cs_n B m
  | 0, _, _, _ => Nat.zero_le _
  | n + 1, B, h, hi => by
    have hi' : ∀ a a' b, a < n → a' < n → Q a b → Q a' b → a = a' := fun a a' b h1 h2 => hi a a' b (by omega) (by omega)
    simp only [cs_n]
    rcases Classical.em (A n) with hA | hA
    · obtain ⟨b, hb, hB, hQ⟩ := h n (by omega) hA
      have ih := cs_n_inj n (fun k => B k ∧ k ≠ b) (fun a ha hAa => by
        obtain ⟨b', hb', hB', hQ'⟩ := h a (by omega) hAa
        refine ⟨b', hb', ⟨hB', fun e => ?_⟩, hQ'⟩
        rw [e] at hQ'
        have := hi a n b (by omega) (by omega) hQ' hQ
        omega) hi'
      have r := cs_n_rem hB hb
      rw [cs_bt hA]; omega
    · have ih := cs_n_inj n B (fun a ha => h a (by omega)) hi'
      rw [cs_bf hA]; omega
theorem cs_n_bij {A B : Nat → Prop} {Q : Nat → Nat → Prop} {n m : Nat} (h : ∀ a, a < n → A a → ∃ b, b < m ∧ B b ∧ Q a b) (h' : ∀ b, b < m → B b → ∃ a, a < n ∧ A a ∧ Q a b)
    (hi : ∀ a a' b, Q a b → Q a' b → a = a') (hf : ∀ a b b', Q a b → Q a b' → b = b') : cs_n A n = cs_n B m :=
  Nat.le_antisymm (cs_n_inj n B h (fun a a' b _ _ => hi a a' b)) (cs_n_inj (Q := fun b a => Q a b) m A h' (fun b b' a _ _ => hf a b b'))
/-- a queue without repetition within a set is no longer than the set -/
theorem cs_q_le {A : Nat → Prop} {q : Nat → Nat} {L m : Nat} (h : ∀ i, i < L → q i < m ∧ A (q i)) (hi : ∀ i j, i < L → j < L → q i = q j → i = j) : L ≤ cs_n A m := by
  have := cs_n_inj (A := fun _ => True) (Q := fun i b => b = q i) (m := m) L A (fun a ha _ => ⟨q a, (h a ha).1, (h a ha).2, rfl⟩) (fun a a' b h1 h2 e e' => hi a a' h1 h2 (e.symm.trans e'))
  rw [cs_n_all (fun _ _ => trivial)] at this
  exact this
theorem cs_q_eq {A : Nat → Prop} {q : Nat → Nat} {L m : Nat} (h : ∀ i, i < L → q i < m ∧ A (q i)) (hi : ∀ i j, i < L → j < L → q i = q j → i = j) (hs : ∀ a, a < m → A a → ∃ i, i < L ∧ q i = a) : cs_n A m = L := by
  have := cs_n_bij (A := fun _ => True) (B := A) (n := L) (m := m) (Q := fun i b => i < L ∧ b = q i) (fun a ha _ => ⟨q a, (h a ha).1, (h a ha).2, ha, rfl⟩)
    (fun b hb hB => by obtain ⟨i, h1, h2⟩ := hs b hb hB; exact ⟨i, h1, trivial, h1, h2.symm⟩)
    (fun a a' b e e' => hi a a' e.1 e'.1 (e.2.symm.trans e'.2)) (fun a b b' e e' => e.2.trans e'.2.symm)
  rw [cs_n_all (fun _ _ => trivial)] at this
  exact this.symm
noncomputable def cs_t (P : Prop) (x : Int32) : Int32 := @ite Int32 P (Classical.propDecidable P) x 0
theorem cs_tt {P : Prop} (h : P) (x : Int32) : cs_t P x = x := by unfold cs_t; rw [if_pos h]
theorem cs_tf {P : Prop} (h : ¬ P) (x : Int32) : cs_t P x = 0 := by unfold cs_t; rw [if_neg h]
noncomputable def cs_s (A : Nat → Prop) (g : Nat → Int32) : Nat → Int32
  | 0 => 0
  | k + 1 => cs_s A g k + cs_t (A k) (g k)
theorem cs_s_cg {A B : Nat → Prop} {g h : Nat → Int32} : ∀ {N : Nat}, (∀ k, k < N → (A k ↔ B k)) → (∀ k, k < N → A k → g k = h k) → cs_s A g N = cs_s B h N
  | 0, _, _ => rfl
  | N + 1, hA, hg => by
    have a := cs_s_cg (A := A) (B := B) (g := g) (h := h) (N := N) (fun k hk => hA k (by omega)) (fun k hk => hg k (by omega))
    simp only [cs_s]; rw [a]
    rcases Classical.em (A N) with z | z
    · rw [cs_tt z, cs_tt ((hA N (by omega)).mp z), hg N (by omega) z]
    · rw [cs_tf z, cs_tf (fun y => z ((hA N (by omega)).mpr y))]
theorem cs_s_0 {A : Nat → Prop} {g : Nat → Int32} : ∀ {N : Nat}, (∀ k, k < N → ¬ A k) → cs_s A g N = 0
  | 0, _ => rfl
  | N + 1, h => by
    have a := cs_s_0 (A := A) (g := g) (N := N) (fun k hk => h k (by omega))
    simp only [cs_s]; rw [a, cs_tf (h N (by omega))]; rfl
theorem cs_s_rem {A : Nat → Prop} {g : Nat → Int32} {a : Nat} (hp : A a) : ∀ {N : Nat}, a < N → cs_s A g N = cs_s (fun k => A k ∧ k ≠ a) g N + g a
  | 0, h => by omega
  | N + 1, h => by
    simp only [cs_s]
    rcases Nat.lt_or_ge a N with z | z
    · rw [cs_s_rem hp z]
      have e : cs_t (A N ∧ N ≠ a) (g N) = cs_t (A N) (g N) := by
        rcases Classical.em (A N) with y | y
        · rw [cs_tt y, cs_tt (⟨y, by omega⟩ : A N ∧ N ≠ a)]
        · rw [cs_tf y, cs_tf (fun w : A N ∧ N ≠ a => y w.1)]
      rw [e]; grind
    · have e : a = N := by omega
      subst e
      rw [cs_tt hp, cs_tf (fun w : A a ∧ a ≠ a => w.2 rfl), cs_s_cg (A := fun k => A k ∧ k ≠ a) (B := A) (h := g) (fun k hk => ⟨fun w => w.1, fun w => ⟨w, by omega⟩⟩) (fun _ _ _ => rfl)]
      grind
theorem cs_s_bij {A : Nat → Prop} {g h : Nat → Int32} {Q : Nat → Nat → Prop} {m : Nat} (hi : ∀ a a' b, Q a b → Q a' b → a = a') (hf : ∀ a b b', Q a b → Q a b' → b = b') (hg : ∀ a b, Q a b → g a = h b) :
    ∀ (n : Nat) (B : Nat → Prop), (∀ a, a < n → A a → ∃ b, b < m ∧ B b ∧ Q a b) → (∀ b, b < m → B b → ∃ a, a < n ∧ A a ∧ Q a b) → cs_s A g n = cs_s B h m
  | 0, B, _, h2 => by
    rw [cs_s_0 (A := B) (fun k hk hB => by obtain ⟨a, ha, _⟩ := h2 k hk hB; omega)]; rfl
  | n + 1, B, h1, h2 => by
    simp only [cs_s]
    rcases Classical.em (A n) with hA | hA
    · obtain ⟨b, hb, hB, hQ⟩ := h1 n (by omega) hA
      have ih := cs_s_bij hi hf hg n (fun k => B k ∧ k ≠ b) (fun a ha hAa => by
        obtain ⟨b', hb', hB', hQ'⟩ := h1 a (by omega) hAa
        refine ⟨b', hb', ⟨hB', fun e => ?_⟩, hQ'⟩
        rw [e] at hQ'
        have := hi a n b hQ' hQ
        omega) (fun b' hb' hB' => by
        obtain ⟨a, ha, hAa, hQ'⟩ := h2 b' hb' hB'.1
        refine ⟨a, ?_, hAa, hQ'⟩
        rcases Nat.lt_or_ge a n with z | z
        · exact z
        · have e : a = n := by omega
          rw [e] at hQ'
          exact absurd (hf n b' b hQ' hQ) hB'.2)
      rw [cs_s_rem hB hb, cs_tt hA, ih, hg n b hQ]
    · have ih := cs_s_bij hi hf hg n B (fun a ha => h1 a (by omega)) (fun b hb hB => by
        obtain ⟨a, ha, hAa, hQ'⟩ := h2 b hb hB
        refine ⟨a, ?_, hAa, hQ'⟩
        rcases Nat.lt_or_ge a n with z | z
        · exact z
        · have e : a = n := by omega
          rw [e] at hAa
          exact absurd hAa hA)
      rw [cs_tf hA, ih]; grind
/-- the least set that holds R and is closed under E -/
def cs_R (R : Nat → Prop) (E : Nat → Nat → Prop) (x : Nat) : Prop := ∀ S : Nat → Prop, (∀ a, R a → S a) → (∀ a b, S a → E a b → S b) → S x
theorem cs_R_b {R : Nat → Prop} {E : Nat → Nat → Prop} {x : Nat} (h : R x) : cs_R R E x := fun _ h0 _ => h0 x h
theorem cs_R_s {R : Nat → Prop} {E : Nat → Nat → Prop} {x y : Nat} (h : cs_R R E x) (e : E x y) : cs_R R E y := fun S h0 h1 => h1 x y (h S h0 h1) e
theorem cs_R_i {R : Nat → Prop} {E : Nat → Nat → Prop} (S : Nat → Prop) (h0 : ∀ a, R a → S a) (hs : ∀ a b, cs_R R E a → S a → E a b → S b) {x : Nat} (h : cs_R R E x) : S x :=
  (h (fun a => cs_R R E a ∧ S a) (fun a ha => ⟨cs_R_b ha, h0 a ha⟩) (fun a b hab hE => ⟨cs_R_s hab.1 hE, hs a b hab.1 hab.2 hE⟩)).2
theorem cs_bcg {P Q : Prop} (h : P ↔ Q) : cs_b P = cs_b Q := by rw [propext h]
theorem cs_n_upd {A A' : Nat → Prop} {k : Nat} (h : ∀ j, j ≠ k → (A j ↔ A' j)) : ∀ {N : Nat}, k < N → cs_n A' N + cs_b (A k) = cs_n A N + cs_b (A' k)
  | 0, z => by omega
  | N + 1, z => by
    simp only [cs_n]
    rcases Nat.lt_or_ge k N with y | y
    · have a := cs_n_upd h (N := N) y
      have b := cs_bcg (h N (by omega))
      omega
    · have e : k = N := by omega
      subst e
      have a := cs_n_eq (P := A') (Q := A) (N := k) (fun j hj => (h j (by omega)).symm)
      omega
theorem cs_n_suc (P : Nat → Prop) (k : Nat) : cs_n P (k + 1) = cs_n P k + cs_b (P k) := rfl
theorem cs_n_up (P : Nat → Prop) {j : Nat} : ∀ {k : Nat}, j ≤ k → cs_n P j ≤ cs_n P k
  | 0, h => by
    have e : j = 0 := by omega
    rw [e]; exact Nat.le_refl _
  | k + 1, h => by
    rcases Nat.lt_or_ge j (k + 1) with y | y
    · have := cs_n_up P (j := j) (k := k) (by omega)
      rw [cs_n_suc]; omega
    · have e : j = k + 1 := by omega
      rw [e]; exact Nat.le_refl _
def cs_un (t : Nat → Nat) (k v : Nat) : Nat → Nat := fun z => if z = k then v else t z
theorem cs_un_s (t : Nat → Nat) (k v : Nat) : cs_un t k v k = v := if_pos rfl
theorem cs_un_n {t : Nat → Nat} {k v z : Nat} (h : z ≠ k) : cs_un t k v z = t z := if_neg h
theorem cs_upd_s (a : Nat → Int32) (k : Nat) (x : Int32) : upd a k x k = x := if_pos rfl
theorem cs_upd_n {a : Nat → Int32} {k j : Nat} {x : Int32} (h : j ≠ k) : upd a k x j = a j := if_neg h
end
section
/-! words, references, what can be come to; the pairing of one collector's cells with the reference's -/
def cs_num (w : Int32) : Prop := -999 ≤ w.toInt ∧ w.toInt ≤ 999
/-- word w refers to cell b (B: what a reference is added to) -/
def cs_w (B : Nat) (w : Int32) (b : Nat) : Prop := b < 1000 ∧ w = nI (B + b)
theorem cs_nIinj {a b : Nat} (ha : a < 2 ^ 31) (hb : b < 2 ^ 31) (h : nI a = nI b) : a = b := (nI_eq ha hb).mp h
theorem cs_w_inj {B : Nat} {w : Int32} {b b' : Nat} (hB : B ≤ 10000) (h : cs_w B w b) (h' : cs_w B w b') : b = b' := by
  have := cs_nIinj (by have := h.1; omega) (by have := h'.1; omega) (h.2.symm.trans h'.2)
  omega
theorem cs_num_lt {w : Int32} (h : cs_num w) : w < 1000 := by
  rw [Int32.lt_iff_toInt_lt]
  have e : (1000 : Int32).toInt = 1000 := by decide
  unfold cs_num at h; omega
theorem cs_num_nw {B : Nat} {w : Int32} {b : Nat} (h0 : 1000 ≤ B) (hB : B ≤ 10000) (h : cs_num w) : ¬ cs_w B w b := by
  intro z
  have e : w.toInt = ((B + b : Nat) : Int) := by rw [z.2]; exact nI_toInt (by have := z.1; omega)
  unfold cs_num at h
  have := z.1
  omega
theorem cs_ref_ge {b : Nat} (h : b < 1000) : ¬ nI (1000 + b) < 1000 := by
  rw [Int32.lt_iff_toInt_lt, nI_toInt (by omega)]
  have e : (1000 : Int32).toInt = 1000 := by decide
  omega
theorem cs_ref_sub (b : Nat) : nI (1000 + b) - 1000 = nI b := by
  have e : nI (1000 + b) = nI b + 1000 := by rw [Nat.add_comm, ← nI_add]; rfl
  rw [e]; grind
theorem cs_ref_add (b : Nat) : 1000 + nI b = nI (1000 + b) := by rw [← nI_add]; rfl
def cs_E (B : Nat) (fl : Nat → Int32) (a b : Nat) : Prop := ∃ f, f < 3 ∧ cs_w B (fl (3 * a + f)) b
def cs_Q (B : Nat) (rg : Nat → Int32) (o p q : Nat) (b : Nat) : Prop := ∃ r, p ≤ r ∧ r < q ∧ cs_w B (rg (o + r)) b
/-- what can be come to from registers p .. q - 1 -/
def cs_V (B : Nat) (rg : Nat → Int32) (o p q : Nat) (fl : Nat → Int32) : Nat → Prop := cs_R (cs_Q B rg o p q) (cs_E B fl)
/-- y (the reference's word) and x (the collector's) hold the same -/
def cs_m (P : Nat → Nat → Prop) (y x : Int32) : Prop := (cs_num y ∧ x = y) ∨ ∃ a b, P a b ∧ y = nI (10000 + a) ∧ x = nI (1000 + b)
theorem cs_m_mono {P Q : Nat → Nat → Prop} {y x : Int32} (h : ∀ a b, P a b → x = nI (1000 + b) → Q a b) (m : cs_m P y x) : cs_m Q y x := by
  rcases m with m | ⟨a, b, h1, h2, h3⟩
  · exact Or.inl m
  · exact Or.inr ⟨a, b, h a b h1 h3, h2, h3⟩
def cs_I (c : Nat) (P : Nat → Nat → Prop) (xr xf xk yr yf : Nat → Int32) : Prop :=
  (∀ a b b', P a b → P a b' → b = b') ∧ (∀ a a' b, P a b → P a' b → a = a') ∧
  (∀ a b, P a b → a < 48 ∧ 48 * c ≤ b ∧ b < 48 * c + 48 ∧ ¬ xk b = 0) ∧
  (∀ r, r < 6 → cs_m P (yr r) (xr (6 * c + r))) ∧
  (∀ a b, P a b → ∀ f, f < 3 → cs_m P (yf (3 * a + f)) (xf (3 * b + f)))
def cs_ok (c : Nat) (xk : Nat → Int32) (w : Int32) : Prop := cs_num w ∨ ∃ b, 48 * c ≤ b ∧ b < 48 * c + 48 ∧ ¬ xk b = 0 ∧ w = nI (1000 + b)
/-- every word of a kept cell is a number or refers to a kept cell of the same collector -/
def cs_W (c : Nat) (xf xk : Nat → Int32) : Prop := ∀ b, 48 * c ≤ b → b < 48 * c + 48 → ¬ xk b = 0 → ∀ f, f < 3 → cs_ok c xk (xf (3 * b + f))
theorem cs_m_ok {c : Nat} {P : Nat → Nat → Prop} {xk : Nat → Int32} (h : ∀ a b, P a b → a < 48 ∧ 48 * c ≤ b ∧ b < 48 * c + 48 ∧ ¬ xk b = 0) {y x : Int32} (m : cs_m P y x) : cs_ok c xk x := by
  rcases m with ⟨m, e⟩ | ⟨a, b, h1, h2, h3⟩
  · exact Or.inl (e ▸ m)
  · obtain ⟨_, p1, p2, p3⟩ := h a b h1
    exact Or.inr ⟨b, p1, p2, p3, h3⟩
section
variable {c : Nat} {P : Nat → Nat → Prop} {xr xf xk yr yf : Nat → Int32}
theorem cs_m_y (hc : c < 7) (I : cs_I c P xr xf xk yr yf) {y x : Int32} (m : cs_m P y x) {a : Nat} (h : cs_w 10000 y a) : ∃ b, P a b ∧ cs_w 1000 x b := by
  rcases m with ⟨m, _⟩ | ⟨a', b, h1, h2, h3⟩
  · exact absurd h (cs_num_nw (by omega) (by omega) m)
  · obtain ⟨p0, p1, p2, _⟩ := I.2.2.1 a' b h1
    have e : a = a' := cs_w_inj (B := 10000) (by omega) h ⟨by omega, h2⟩
    exact ⟨b, e ▸ h1, by omega, h3⟩
theorem cs_m_x (hc : c < 7) (I : cs_I c P xr xf xk yr yf) {y x : Int32} (m : cs_m P y x) {b : Nat} (h : cs_w 1000 x b) : ∃ a, P a b ∧ cs_w 10000 y a := by
  rcases m with ⟨m, e⟩ | ⟨a, b', h1, h2, h3⟩
  · exact absurd h (e ▸ cs_num_nw (by omega) (by omega) m)
  · obtain ⟨p0, p1, p2, _⟩ := I.2.2.1 a b' h1
    have e : b = b' := cs_w_inj (B := 1000) (by omega) h ⟨by omega, h3⟩
    exact ⟨a, e ▸ h1, by omega, h2⟩
theorem cs_iso_yx (hc : c < 7) (I : cs_I c P xr xf xk yr yf) {p q a : Nat} (hq : q ≤ 6) (h : cs_V 10000 yr 0 p q yf a) : ∃ b, P a b ∧ cs_V 1000 xr (6 * c) p q xf b := by
  refine cs_R_i (fun a => ∃ b, P a b ∧ cs_V 1000 xr (6 * c) p q xf b) (fun a ha => ?_) (fun a a' _ hb hE => ?_) h
  · obtain ⟨r, h1, h2, h3⟩ := ha
    rw [Nat.zero_add] at h3
    obtain ⟨b, h4, h5⟩ := cs_m_y hc I (I.2.2.2.1 r (by omega)) h3
    exact ⟨b, h4, cs_R_b ⟨r, h1, h2, h5⟩⟩
  · obtain ⟨b, h4, h5⟩ := hb
    obtain ⟨f, hf, hw⟩ := hE
    obtain ⟨b', h6, h7⟩ := cs_m_y hc I (I.2.2.2.2 a b h4 f hf) hw
    exact ⟨b', h6, cs_R_s h5 ⟨f, hf, h7⟩⟩
theorem cs_iso_xy (hc : c < 7) (I : cs_I c P xr xf xk yr yf) {p q b : Nat} (hq : q ≤ 6) (h : cs_V 1000 xr (6 * c) p q xf b) : ∃ a, P a b ∧ cs_V 10000 yr 0 p q yf a := by
  refine cs_R_i (fun b => ∃ a, P a b ∧ cs_V 10000 yr 0 p q yf a) (fun b hb => ?_) (fun b b' _ ha hE => ?_) h
  · obtain ⟨r, h1, h2, h3⟩ := hb
    obtain ⟨a, h4, h5⟩ := cs_m_x hc I (I.2.2.2.1 r (by omega)) h3
    exact ⟨a, h4, cs_R_b ⟨r, h1, h2, by rw [Nat.zero_add]; exact h5⟩⟩
  · obtain ⟨a, h4, h5⟩ := ha
    obtain ⟨f, hf, hw⟩ := hE
    obtain ⟨a', h6, h7⟩ := cs_m_x hc I (I.2.2.2.2 a b h4 f hf) hw
    exact ⟨a', h6, cs_R_s h5 ⟨f, hf, h7⟩⟩
theorem cs_Y_lt (hc : c < 7) (I : cs_I c P xr xf xk yr yf) {p q a : Nat} (hq : q ≤ 6) (h : cs_V 10000 yr 0 p q yf a) : a < 48 := by
  obtain ⟨b, hb, _⟩ := cs_iso_yx hc I hq h
  exact (I.2.2.1 a b hb).1
theorem cs_X_in (hc : c < 7) (I : cs_I c P xr xf xk yr yf) {p q b : Nat} (hq : q ≤ 6) (h : cs_V 1000 xr (6 * c) p q xf b) : 48 * c ≤ b ∧ b < 48 * c + 48 ∧ ¬ xk b = 0 := by
  obtain ⟨a, ha, _⟩ := cs_iso_xy hc I hq h
  exact (I.2.2.1 a b ha).2
/-- as many can be come to in the collector as in the reference -/
theorem cs_iso_n (hc : c < 7) (I : cs_I c P xr xf xk yr yf) {p q : Nat} (hq : q ≤ 6) : cs_n (cs_V 10000 yr 0 p q yf) 48 = cs_n (fun i => cs_V 1000 xr (6 * c) p q xf (48 * c + i)) 48 := by
  refine cs_n_bij (Q := fun a i => P a (48 * c + i)) (fun a _ hA => ?_) (fun i _ hB => ?_) (fun a a' b h h' => I.2.1 a a' _ h h') (fun a b b' h h' => ?_)
  · obtain ⟨b, h1, h2⟩ := cs_iso_yx hc I hq hA
    obtain ⟨_, p1, p2, _⟩ := I.2.2.1 a b h1
    have e : 48 * c + (b - 48 * c) = b := by omega
    exact ⟨b - 48 * c, by omega, by rw [e]; exact h2, by rw [e]; exact h1⟩
  · obtain ⟨a, h1, h2⟩ := cs_iso_xy hc I hq hB
    exact ⟨a, (I.2.2.1 a _ h1).1, h2, h1⟩
  · have := I.1 a _ _ h h'
    omega
/-- a smaller set of kept cells, closed under what registers and its cells refer to -/
theorem cs_I_sub (hc : c < 7) (I : cs_I c P xr xf xk yr yf) {xk' : Nat → Int32} (hr : ∀ r, r < 6 → cs_ok c xk' (xr (6 * c + r))) (hw : cs_W c xf xk') : cs_I c (fun a b => P a b ∧ ¬ xk' b = 0) xr xf xk' yr yf := by
  have key : ∀ {y x : Int32}, cs_m P y x → cs_ok c xk' x → cs_m (fun a b => P a b ∧ ¬ xk' b = 0) y x := by
    intro y x m o
    refine cs_m_mono (fun a b hP hx => ⟨hP, ?_⟩) m
    obtain ⟨_, p1, p2, _⟩ := I.2.2.1 a b hP
    rcases o with o | ⟨b', o1, o2, o3, o4⟩
    · exact absurd (⟨by omega, hx⟩ : cs_w 1000 x b) (cs_num_nw (by omega) (by omega) o)
    · have e : b = b' := cs_w_inj (B := 1000) (w := x) (by omega) ⟨by omega, hx⟩ ⟨by omega, o4⟩
      rw [e]; exact o3
  refine ⟨fun a b b' h h' => I.1 a b b' h.1 h'.1, fun a a' b h h' => I.2.1 a a' b h.1 h'.1, fun a b h => ?_, fun r hr' => key (I.2.2.2.1 r hr') (hr r hr'), fun a b h f hf => ?_⟩
  · obtain ⟨p0, p1, p2, _⟩ := I.2.2.1 a b h.1
    exact ⟨p0, p1, p2, h.2⟩
  · obtain ⟨_, p1, p2, _⟩ := I.2.2.1 a b h.1
    exact key (I.2.2.2.2 a b h.1 f hf) (hw b p1 p2 h.2 f hf)
/-- cs_I speaks of the collector's own stretch alone -/
theorem cs_I_cg (I : cs_I c P xr xf xk yr yf) {xr' xf' xk' : Nat → Int32} (h1 : ∀ r, r < 6 → xr' (6 * c + r) = xr (6 * c + r)) (h2 : ∀ j, 144 * c ≤ j → j < 144 * c + 144 → xf' j = xf j) (h3 : ∀ b, 48 * c ≤ b → b < 48 * c + 48 → xk' b = xk b) : cs_I c P xr' xf' xk' yr yf := by
  refine ⟨I.1, I.2.1, fun a b h => ?_, fun r hr => ?_, fun a b h f hf => ?_⟩
  · obtain ⟨p0, p1, p2, p3⟩ := I.2.2.1 a b h
    exact ⟨p0, p1, p2, by rw [h3 b p1 p2]; exact p3⟩
  · rw [h1 r hr]; exact I.2.2.2.1 r hr
  · obtain ⟨p0, p1, p2, p3⟩ := I.2.2.1 a b h
    rw [h2 (3 * b + f) (by omega) (by omega)]; exact I.2.2.2.2 a b h f hf
theorem cs_ok_cg {xk' : Nat → Int32} {w : Int32} (h : cs_ok c xk w) (h3 : ∀ b, 48 * c ≤ b → b < 48 * c + 48 → xk' b = xk b) : cs_ok c xk' w := by
  rcases h with h | ⟨b, o1, o2, o3, o4⟩
  · exact Or.inl h
  · exact Or.inr ⟨b, o1, o2, by rw [h3 b o1 o2]; exact o3, o4⟩
theorem cs_W_cg (h : cs_W c xf xk) {xf' xk' : Nat → Int32} (h2 : ∀ j, 144 * c ≤ j → j < 144 * c + 144 → xf' j = xf j) (h3 : ∀ b, 48 * c ≤ b → b < 48 * c + 48 → xk' b = xk b) : cs_W c xf' xk' := by
  intro b p1 p2 p3 f hf
  rw [h3 b p1 p2] at p3
  rw [h2 (3 * b + f) (by omega) (by omega)]
  exact cs_ok_cg (h b p1 p2 p3 f hf) h3
end
def cs_sg (c b : Nat) : Prop := 48 * c ≤ b ∧ b < 48 * c + 48
end
section
/-! what the calls do to the pairing -/
section
variable {c : Nat} {P : Nat → Nat → Prop} {xr xf xk yr yf : Nat → Int32}
theorem cs_I_reg (I : cs_I c P xr xf xk yr yf) {r : Nat} {xr' yr' : Nat → Int32} (y1 : ∀ j, j ≠ r → yr' j = yr j) (x1 : ∀ j, j < 6 → j ≠ r → xr' (6 * c + j) = xr (6 * c + j)) (m : cs_m P (yr' r) (xr' (6 * c + r))) : cs_I c P xr' xf xk yr' yf := by
  refine ⟨I.1, I.2.1, I.2.2.1, fun j hj => ?_, I.2.2.2.2⟩
  by_cases e : j = r
  · rw [e]; exact m
  · rw [y1 j e, x1 j hj e]; exact I.2.2.2.1 j hj
theorem cs_I_fld (I : cs_I c P xr xf xk yr yf) {a b f : Nat} (hab : P a b) (hf : f < 3) {xf' yf' : Nat → Int32} (y1 : ∀ j, j ≠ 3 * a + f → yf' j = yf j) (x1 : ∀ j, j ≠ 3 * b + f → xf' j = xf j) (m : cs_m P (yf' (3 * a + f)) (xf' (3 * b + f))) : cs_I c P xr xf' xk yr yf' := by
  refine ⟨I.1, I.2.1, I.2.2.1, I.2.2.2.1, fun a' b' h g hg => ?_⟩
  by_cases e : a' = a
  · have e2 : b' = b := I.1 a b' b (e ▸ h) hab
    rw [e, e2]
    by_cases e3 : g = f
    · rw [e3]; exact m
    · rw [y1 _ (by omega), x1 _ (by omega)]; exact I.2.2.2.2 a b hab g hg
  · have e2 : b' ≠ b := fun z => e (I.2.1 a' a b (z ▸ h) hab)
    rw [y1 _ (by omega), x1 _ (by omega)]; exact I.2.2.2.2 a' b' h g hg
theorem cs_W_fld (hW : cs_W c xf xk) {b f : Nat} {xf' : Nat → Int32} (x1 : ∀ j, j ≠ 3 * b + f → xf' j = xf j) (m : cs_ok c xk (xf' (3 * b + f))) : cs_W c xf' xk := by
  intro b' p1 p2 p3 g hg
  by_cases e : 3 * b' + g = 3 * b + f
  · rw [e]; exact m
  · rw [x1 _ e]; exact hW b' p1 p2 p3 g hg
/-- a new object -/
theorem cs_I_new (hc : c < 7) (I : cs_I c P xr xf xk yr yf) {a0 b0 r : Nat} {xr' xf' xk' yr' yf' : Nat → Int32} (ha : a0 < 48) (hn : ¬ cs_V 10000 yr 0 0 6 yf a0) (hb : 48 * c ≤ b0) (hb' : b0 < 48 * c + 48) (hk : xk b0 = 0) (hr : r < 6)
    (y1 : ∀ j, j ≠ r → yr' j = yr j) (y2 : yr' r = nI (10000 + a0)) (y3 : ∀ f, f < 3 → yf' (3 * a0 + f) = 0) (y4 : ∀ j, j < 3 * a0 ∨ 3 * a0 + 3 ≤ j → yf' j = yf j)
    (x1 : ∀ j, j < 6 → j ≠ r → xr' (6 * c + j) = xr (6 * c + j)) (x2 : xr' (6 * c + r) = nI (1000 + b0)) (x3 : ∀ f, f < 3 → xf' (3 * b0 + f) = 0) (x4 : ∀ b f, 48 * c ≤ b → b < 48 * c + 48 → b ≠ b0 → f < 3 → xf' (3 * b + f) = xf (3 * b + f))
    (x5 : ¬ xk' b0 = 0) (x6 : ∀ b, 48 * c ≤ b → b < 48 * c + 48 → b ≠ b0 → xk' b = xk b) : ∃ P', cs_I c P' xr' xf' xk' yr' yf' := by
  have nb : ∀ a b, P a b → b ≠ b0 := fun a b h e => (I.2.2.1 a b h).2.2.2 (e ▸ hk)
  have key : ∀ {y x : Int32}, cs_m P y x → (∀ a, cs_w 10000 y a → cs_V 10000 yr 0 0 6 yf a) → cs_m (fun a b => (P a b ∧ cs_V 10000 yr 0 0 6 yf a) ∨ (a = a0 ∧ b = b0)) y x := by
    intro y x m h
    rcases m with m | ⟨a, b, h1, h2, h3⟩
    · exact Or.inl m
    · exact Or.inr ⟨a, b, Or.inl ⟨h1, h a ⟨by have := (I.2.2.1 a b h1).1; omega, h2⟩⟩, h2, h3⟩
  have na : ∀ a, cs_V 10000 yr 0 0 6 yf a → a ≠ a0 := fun a h e => hn (e ▸ h)
  refine ⟨fun a b => (P a b ∧ cs_V 10000 yr 0 0 6 yf a) ∨ (a = a0 ∧ b = b0), fun a b b' h h' => ?_, fun a a' b h h' => ?_, fun a b h => ?_, fun j hj => ?_, fun a b h f hf => ?_⟩
  · rcases h with ⟨h1, h2⟩ | ⟨h1, h2⟩ <;> rcases h' with ⟨h3, h4⟩ | ⟨h3, h4⟩
    · exact I.1 a b b' h1 h3
    · exact absurd h3 (na a h2)
    · exact absurd h1 (na a h4)
    · rw [h2, h4]
  · rcases h with ⟨h1, h2⟩ | ⟨h1, h2⟩ <;> rcases h' with ⟨h3, h4⟩ | ⟨h3, h4⟩
    · exact I.2.1 a a' b h1 h3
    · exact absurd h4 (nb a b h1)
    · exact absurd h2 (nb a' b h3)
    · rw [h1, h3]
  · rcases h with ⟨h1, h2⟩ | ⟨h1, h2⟩
    · obtain ⟨p0, p1, p2, p3⟩ := I.2.2.1 a b h1
      exact ⟨p0, p1, p2, by rw [x6 b p1 p2 (nb a b h1)]; exact p3⟩
    · rw [h1, h2]; exact ⟨ha, hb, hb', x5⟩
  · by_cases e : j = r
    · rw [e, y2, x2]; exact Or.inr ⟨a0, b0, Or.inr ⟨rfl, rfl⟩, rfl, rfl⟩
    · rw [y1 j e, x1 j hj e]
      exact key (I.2.2.2.1 j hj) (fun a ha' => cs_R_b ⟨j, by omega, hj, by rw [Nat.zero_add]; exact ha'⟩)
  · rcases h with ⟨h1, h2⟩ | ⟨h1, h2⟩
    · obtain ⟨p0, p1, p2, p3⟩ := I.2.2.1 a b h1
      have := na a h2
      rw [y4 _ (by omega), x4 b f p1 p2 (nb a b h1) hf]
      exact key (I.2.2.2.2 a b h1 f hf) (fun a' ha' => cs_R_s h2 ⟨f, hf, ha'⟩)
    · rw [h1, h2, y3 f hf, x3 f hf]
      exact Or.inl ⟨⟨by decide, by decide⟩, rfl⟩
theorem cs_W_new (hW : cs_W c xf xk) {b0 : Nat} {xf' xk' : Nat → Int32} (hk : xk b0 = 0) (x3 : ∀ f, f < 3 → xf' (3 * b0 + f) = 0) (x4 : ∀ b f, 48 * c ≤ b → b < 48 * c + 48 → b ≠ b0 → f < 3 → xf' (3 * b + f) = xf (3 * b + f))
    (x6 : ∀ b, 48 * c ≤ b → b < 48 * c + 48 → b ≠ b0 → xk' b = xk b) : cs_W c xf' xk' := by
  intro b p1 p2 p3 f hf
  by_cases e : b = b0
  · rw [e, x3 f hf]; exact Or.inl ⟨by decide, by decide⟩
  · rw [x4 b f p1 p2 e hf]
    rw [x6 b p1 p2 e] at p3
    rcases hW b p1 p2 p3 f hf with o | ⟨b', o1, o2, o3, o4⟩
    · exact Or.inl o
    · exact Or.inr ⟨b', o1, o2, by rw [x6 b' o1 o2 (fun z => o3 (z ▸ hk))]; exact o3, o4⟩
/-- w was moved to w' -/
def cs_l (M : Nat → Nat → Prop) (w w' : Int32) : Prop := (cs_num w ∧ w' = w) ∨ ∃ b b', M b b' ∧ w = nI (1000 + b) ∧ w' = nI (1000 + b')
/-- cells move: M says which to which -/
theorem cs_I_mv (hc : c < 7) (I : cs_I c P xr xf xk yr yf) {M : Nat → Nat → Prop} {xr' xf' xk' : Nat → Int32} (m1 : ∀ b b' b'', M b b' → M b b'' → b' = b'') (m2 : ∀ b b1 b', M b b' → M b1 b' → b = b1)
    (m3 : ∀ b b', M b b' → b < 1000 ∧ 48 * c ≤ b' ∧ b' < 48 * c + 48 ∧ ¬ xk' b' = 0) (hr : ∀ r, r < 6 → cs_l M (xr (6 * c + r)) (xr' (6 * c + r))) (hf : ∀ b b', M b b' → ∀ f, f < 3 → cs_l M (xf (3 * b + f)) (xf' (3 * b' + f))) :
    cs_I c (fun a b' => ∃ b, P a b ∧ M b b') xr' xf' xk' yr yf := by
  have key : ∀ {y x x' : Int32}, cs_m P y x → cs_l M x x' → cs_m (fun a b' => ∃ b, P a b ∧ M b b') y x' := by
    intro y x x' m l
    rcases m with ⟨m, e⟩ | ⟨a, b, h1, h2, h3⟩
    · rcases l with ⟨_, l2⟩ | ⟨b, b', l1, l2, l3⟩
      · exact Or.inl ⟨m, l2.trans e⟩
      · exact absurd (⟨(m3 b b' l1).1, e.symm.trans l2⟩ : cs_w 1000 y b) (cs_num_nw (by omega) (by omega) m)
    · obtain ⟨_, p1, p2, _⟩ := I.2.2.1 a b h1
      rcases l with ⟨l1, _⟩ | ⟨b1, b', l1, l2, l3⟩
      · exact absurd (⟨by omega, h3⟩ : cs_w 1000 x b) (cs_num_nw (by omega) (by omega) l1)
      · have e : b = b1 := cs_w_inj (B := 1000) (w := x) (by omega) ⟨by omega, h3⟩ ⟨(m3 b1 b' l1).1, l2⟩
        exact Or.inr ⟨a, b', ⟨b, h1, by rw [e]; exact l1⟩, h2, l3⟩
  refine ⟨fun a b b' h h' => ?_, fun a a' b h h' => ?_, fun a b h => ?_, fun r hr' => key (I.2.2.2.1 r hr') (hr r hr'), fun a b' h f hf' => ?_⟩
  · obtain ⟨b1, h1, h2⟩ := h
    obtain ⟨b2, h3, h4⟩ := h'
    have e := I.1 a b1 b2 h1 h3
    exact m1 b1 b b' h2 (e ▸ h4)
  · obtain ⟨b1, h1, h2⟩ := h
    obtain ⟨b2, h3, h4⟩ := h'
    have e := m2 b1 b2 b h2 h4
    exact I.2.1 a a' b1 h1 (e ▸ h3)
  · obtain ⟨b1, h1, h2⟩ := h
    exact ⟨(I.2.2.1 a b1 h1).1, (m3 b1 b h2).2⟩
  · obtain ⟨b1, h1, h2⟩ := h
    exact key (I.2.2.2.2 a b1 h1 f hf') (hf b1 b' h2 f hf')
/-- after a collection that keeps nothing that can't be come to: as many are kept as can be come to -/
theorem cs_kept_n (hc : c < 7) (I : cs_I c P xr xf xk yr yf) (hx : ∀ b, 48 * c ≤ b → b < 48 * c + 48 → ¬ xk b = 0 → ∃ a, cs_V 10000 yr 0 0 6 yf a ∧ P a b) : cs_n (fun i => ¬ xk (48 * c + i) = 0) 48 = cs_n (cs_V 10000 yr 0 0 6 yf) 48 := by
  refine cs_n_bij (Q := fun i a => P a (48 * c + i)) (fun i hi hA => ?_) (fun a _ hB => ?_) (fun i i' a h h' => ?_) (fun i a a' h h' => I.2.1 a a' _ h h')
  · obtain ⟨a, h1, h2⟩ := hx (48 * c + i) (by omega) (by omega) hA
    exact ⟨a, (I.2.2.1 a _ h2).1, h1, h2⟩
  · obtain ⟨b, h1, _⟩ := cs_iso_yx hc I (by omega) hB
    obtain ⟨_, p1, p2, p3⟩ := I.2.2.1 a b h1
    have e : 48 * c + (b - 48 * c) = b := by omega
    exact ⟨b - 48 * c, by omega, by rw [e]; exact p3, by rw [e]; exact h1⟩
  · have := I.1 a _ _ h h'
    omega
end
end
section
/-! following references with a queue: the pure part -/
/-- Z holds cells of c alone, and their words are numbers or refer into Z -/
def cs_Z (c : Nat) (Z : Nat → Prop) (xf : Nat → Int32) : Prop := ∀ b, Z b → cs_sg c b ∧ ∀ f, f < 3 → cs_num (xf (3 * b + f)) ∨ ∃ b', Z b' ∧ xf (3 * b + f) = nI (1000 + b')
def cs_F (c : Nat) (Z S0 : Nat → Prop) (s q : Nat → Int32) (L : Nat) : Prop :=
  L ≤ 48 ∧ (∀ i, i < L → ∃ b, Z b ∧ q i = nI b ∧ ¬ s b = 0) ∧ (∀ i j, i < L → j < L → q i = q j → i = j) ∧
  (∀ b, S0 b → ¬ s b = 0) ∧ (∀ b, cs_sg c b → ¬ s b = 0 → S0 b ∨ ∃ i, i < L ∧ q i = nI b)
section
variable {c : Nat} {Z S0 : Nat → Prop} {s q xf : Nat → Int32} {L : Nat}
theorem cs_F_lt (hc : c < 7) (hZ : cs_Z c Z xf) (h : cs_F c Z S0 s q L) {b : Nat} (hb : cs_sg c b) (h0 : s b = 0) : L < 48 := by
  have k := cs_q_le (A := fun i => i ≠ b - 48 * c) (q := fun i => (q i).toNatClampNeg - 48 * c) (L := L) (m := 48) (fun i hi => by
    obtain ⟨b', z1, z2, z3⟩ := h.2.1 i hi
    have g := (hZ b' z1).1
    unfold cs_sg at g hb
    have e : (q i).toNatClampNeg = b' := by rw [z2]; exact nI_clamp (by omega)
    try dsimp only
    rw [e]
    refine ⟨by omega, fun z => z3 ?_⟩
    have : b' = b := by omega
    rw [this]; exact h0) (fun i j hi hj e => by
    obtain ⟨b1, z1, z2, _⟩ := h.2.1 i hi
    obtain ⟨b2, y1, y2, _⟩ := h.2.1 j hj
    have g1 := (hZ b1 z1).1
    have g2 := (hZ b2 y1).1
    unfold cs_sg at g1 g2
    try dsimp only at e
    have e1 : (q i).toNatClampNeg = b1 := by rw [z2]; exact nI_clamp (by omega)
    have e2 : (q j).toNatClampNeg = b2 := by rw [y2]; exact nI_clamp (by omega)
    rw [e1, e2] at e
    have e3 : b1 = b2 := by omega
    exact h.2.2.1 i j hi hj (by rw [z2, y2, e3]))
  unfold cs_sg at hb
  have k2 := cs_n_lt (P := fun i => i ≠ b - 48 * c) (Q := fun _ => True) (a := b - 48 * c) (fun z => z rfl) trivial (N := 48) (fun _ _ _ => trivial) (by omega)
  have k3 := cs_n_le (fun _ => True) 48
  omega
theorem cs_F_add (hc : c < 7) (hZ : cs_Z c Z xf) (h : cs_F c Z S0 s q L) {b : Nat} (hb : Z b) (h0 : s b = 0) : cs_F c Z S0 (upd s b 1) (upd q L (nI b)) (L + 1) := by
  have hg := (hZ b hb).1
  have hL := cs_F_lt hc hZ h hg h0
  have n1 : ¬ (1 : Int32) = 0 := by decide
  have up : ∀ x, ¬ s x = 0 → ¬ upd s b 1 x = 0 := fun x hx => by
    by_cases e : x = b
    · rw [e, cs_upd_s]; exact n1
    · rw [cs_upd_n e]; exact hx
  have nq : ∀ i, i < L → ¬ q i = nI b := fun i hi e => by
    obtain ⟨b', z1, z2, z3⟩ := h.2.1 i hi
    have g := (hZ b' z1).1
    unfold cs_sg at g hg
    have : b' = b := cs_nIinj (by omega) (by omega) (z2.symm.trans e)
    exact z3 (this ▸ h0)
  refine ⟨by omega, fun i hi => ?_, fun i j hi hj e => ?_, fun x hx => up x (h.2.2.2.1 x hx), fun x hx hs => ?_⟩
  · by_cases e : i = L
    · exact ⟨b, hb, by rw [e, cs_upd_s], by rw [cs_upd_s]; exact n1⟩
    · obtain ⟨b', z1, z2, z3⟩ := h.2.1 i (by omega)
      exact ⟨b', z1, by rw [cs_upd_n e]; exact z2, up b' z3⟩
  · by_cases e1 : i = L <;> by_cases e2 : j = L
    · rw [e1, e2]
    · rw [e1, cs_upd_s, cs_upd_n e2] at e
      exact absurd e.symm (nq j (by omega))
    · rw [e2, cs_upd_s, cs_upd_n e1] at e
      exact absurd e (nq i (by omega))
    · rw [cs_upd_n e1, cs_upd_n e2] at e
      exact h.2.2.1 i j (by omega) (by omega) e
  · by_cases e : x = b
    · exact Or.inr ⟨L, by omega, by rw [cs_upd_s, e]⟩
    · rw [cs_upd_n e] at hs
      rcases h.2.2.2.2 x hx hs with o | ⟨i, i1, i2⟩
      · exact Or.inl o
      · exact Or.inr ⟨i, by omega, by rw [cs_upd_n (by omega)]; exact i2⟩
/-- places below n, and the fields below f of place n, have been followed -/
def cs_pr (xf s q : Nat → Int32) (n f : Nat) : Prop := ∀ i a g b, (i < n ∨ (i = n ∧ g < f)) → g < 3 → a < 1000 → b < 1000 → q i = nI a → xf (3 * a + g) = nI (1000 + b) → ¬ s b = 0
theorem cs_pr_mono {n f : Nat} {s' q' : Nat → Int32} (h : cs_pr xf s q n f) (hs : ∀ b, ¬ s b = 0 → ¬ s' b = 0) (hq : ∀ i, i ≤ n → q' i = q i) : cs_pr xf s' q' n f := by
  intro i a g b h1 h2 h3 h4 h5 h6
  rw [hq i (by omega)] at h5
  exact hs b (h i a g b h1 h2 h3 h4 h5 h6)
theorem cs_pr_f {n f a : Nat} (h : cs_pr xf s q n f) (ha : a < 1000) (hq : q n = nI a) (hw : ∀ b, b < 1000 → xf (3 * a + f) = nI (1000 + b) → ¬ s b = 0) : cs_pr xf s q n (f + 1) := by
  intro i a' g b h1 h2 h3 h4 h5 h6
  by_cases e : i = n ∧ g = f
  · rw [e.1, hq] at h5
    have e2 : a = a' := cs_nIinj (by omega) (by omega) h5
    rw [← e2, e.2] at h6
    exact hw b h4 h6
  · exact h i a' g b (by omega) h2 h3 h4 h5 h6
theorem cs_pr_n {n : Nat} (h : cs_pr xf s q n 3) : cs_pr xf s q (n + 1) 0 := by
  intro i a g b h1 h2 h3 h4 h5 h6
  exact h i a g b (by omega) h2 h3 h4 h5 h6
theorem cs_pr_0 : cs_pr xf s q 0 0 := by
  intro i a g b h1
  omega
/-- the end of a trace: what is seen is what can be come to -/
theorem cs_F_end (hc : c < 7) {xr : Nat → Int32} {o p r : Nat} (hZ : cs_Z c (cs_V 1000 xr o p r xf) xf) (h : cs_F c (cs_V 1000 xr o p r xf) (fun _ => False) s q L) (hp : cs_pr xf s q L 0)
    (hr : ∀ b, cs_Q 1000 xr o p r b → ¬ s b = 0) : (∀ b, cs_sg c b → (¬ s b = 0 ↔ cs_V 1000 xr o p r xf b)) ∧ cs_n (fun i => cs_V 1000 xr o p r xf (48 * c + i)) 48 = L := by
  have sv : ∀ b, cs_sg c b → ¬ s b = 0 → ∃ i, i < L ∧ q i = nI b := fun b hb hs => by
    rcases h.2.2.2.2 b hb hs with z | z
    · exact z.elim
    · exact z
  have vs : ∀ b, cs_V 1000 xr o p r xf b → ¬ s b = 0 := fun b hb => by
    refine cs_R_i (fun b => ¬ s b = 0) hr (fun a b' hV hs hE => ?_) hb
    obtain ⟨g, hg, hw⟩ := hE
    have ga := (hZ a hV).1
    obtain ⟨i, i1, i2⟩ := sv a ga hs
    unfold cs_sg at ga
    exact hp i a g b' (Or.inl i1) hg (by omega) hw.1 i2 hw.2
  have iff : ∀ b, cs_sg c b → (¬ s b = 0 ↔ cs_V 1000 xr o p r xf b) := fun b hb => ⟨fun hs => by
    obtain ⟨i, i1, i2⟩ := sv b hb hs
    obtain ⟨b', z1, z2, z3⟩ := h.2.1 i i1
    have g := (hZ b' z1).1
    unfold cs_sg at g hb
    have e : b' = b := cs_nIinj (by omega) (by omega) (z2.symm.trans i2)
    exact e ▸ z1, vs b⟩
  refine ⟨iff, cs_q_eq (q := fun i => (q i).toNatClampNeg - 48 * c) (fun i hi => ?_) (fun i j hi hj e => ?_) (fun a ha hA => ?_)⟩
  · obtain ⟨b', z1, z2, z3⟩ := h.2.1 i hi
    have g := (hZ b' z1).1
    unfold cs_sg at g
    have e : (q i).toNatClampNeg = b' := by rw [z2]; exact nI_clamp (by omega)
    try dsimp only
    rw [e]
    have e2 : 48 * c + (b' - 48 * c) = b' := by omega
    exact ⟨by omega, by rw [e2]; exact z1⟩
  · obtain ⟨b1, z1, z2, _⟩ := h.2.1 i hi
    obtain ⟨b2, y1, y2, _⟩ := h.2.1 j hj
    have g1 := (hZ b1 z1).1
    have g2 := (hZ b2 y1).1
    unfold cs_sg at g1 g2
    try dsimp only at e
    have e1 : (q i).toNatClampNeg = b1 := by rw [z2]; exact nI_clamp (by omega)
    have e2 : (q j).toNatClampNeg = b2 := by rw [y2]; exact nI_clamp (by omega)
    rw [e1, e2] at e
    have e3 : b1 = b2 := by omega
    exact h.2.2.1 i j hi hj (by rw [z2, y2, e3])
  · have hg : cs_sg c (48 * c + a) := ⟨by omega, by omega⟩
    obtain ⟨i, i1, i2⟩ := sv _ hg (vs _ hA)
    refine ⟨i, i1, ?_⟩
    try dsimp only
    rw [i2, nI_clamp (by omega)]
    omega
end
theorem cs_Z_V {c : Nat} {P : Nat → Nat → Prop} {xr xf xk yr yf : Nat → Int32} (hc : c < 7) (I : cs_I c P xr xf xk yr yf) {p q : Nat} (hq : q ≤ 6) : cs_Z c (cs_V 1000 xr (6 * c) p q xf) xf := by
  intro b hb
  obtain ⟨a, h1, h2⟩ := cs_iso_xy hc I hq hb
  have g := I.2.2.1 a b h1
  refine ⟨⟨g.2.1, g.2.2.1⟩, fun f hf => ?_⟩
  rcases I.2.2.2.2 a b h1 f hf with ⟨m, e⟩ | ⟨a', b', m1, m2, m3⟩
  · exact Or.inl (e ▸ m)
  · have g' := I.2.2.1 a' b' m1
    exact Or.inr ⟨b', cs_R_s hb ⟨f, hf, by omega, m3⟩, m3⟩
theorem cs_Z_W {c : Nat} {xf xk : Nat → Int32} (h : cs_W c xf xk) : cs_Z c (fun b => cs_sg c b ∧ ¬ xk b = 0) xf := by
  intro b hb
  refine ⟨hb.1, fun f hf => ?_⟩
  rcases h b hb.1.1 hb.1.2 hb.2 f hf with o | ⟨b', o1, o2, o3, o4⟩
  · exact Or.inl o
  · exact Or.inr ⟨b', ⟨⟨o1, o2⟩, o3⟩, o4⟩
/-! pairing two collectors: the pure part -/
def cs_PQ (P P' : Nat → Nat → Prop) (b b' : Nat) : Prop := ∃ a, P a b ∧ P' a b'
def cs_mq (Q : Nat → Nat → Prop) (w w' : Int32) : Prop := (cs_num w ∧ w' = w) ∨ ∃ b b', Q b b' ∧ w = nI (1000 + b) ∧ w' = nI (1000 + b')
theorem cs_mq_of {c c' : Nat} {P P' : Nat → Nat → Prop} {xr xf xk xr' xf' xk' yr yf : Nat → Int32} (hc : c < 7) (hc' : c' < 7) (I : cs_I c P xr xf xk yr yf) (I' : cs_I c' P' xr' xf' xk' yr yf) {y x x' : Int32} (m : cs_m P y x) (m' : cs_m P' y x') : cs_mq (cs_PQ P P') x x' := by
  rcases m with ⟨m, e⟩ | ⟨a, b, h1, h2, h3⟩ <;> rcases m' with ⟨m', e'⟩ | ⟨a', b', h1', h2', h3'⟩
  · exact Or.inl ⟨e ▸ m, e'.trans e.symm⟩
  · have := (I'.2.2.1 a' b' h1').1
    exact absurd (⟨by omega, h2'⟩ : cs_w 10000 y a') (cs_num_nw (by omega) (by omega) m)
  · have := (I.2.2.1 a b h1).1
    exact absurd (⟨by omega, h2⟩ : cs_w 10000 y a) (cs_num_nw (by omega) (by omega) m')
  · have p := (I.2.2.1 a b h1).1
    have p' := (I'.2.2.1 a' b' h1').1
    have e : a = a' := cs_w_inj (B := 10000) (w := y) (by omega) ⟨by omega, h2⟩ ⟨by omega, h2'⟩
    exact Or.inr ⟨b, b', ⟨a, h1, e ▸ h1'⟩, h3, h3'⟩
/-- the partners that have been found so far are pairs -/
def cs_PP (Q : Nat → Nat → Prop) (pa pb q : Nat → Int32) (L : Nat) : Prop :=
  L ≤ 48 ∧ (∀ b b', Q b b' → (pa b = -1 ∧ pb b' = -1) ∨ (pa b = nI b' ∧ ¬ pb b' = -1)) ∧ (∀ i, i < L → ∃ b b', Q b b' ∧ q i = nI b ∧ pa b = nI b')
theorem cs_PP_new {Q : Nat → Nat → Prop} {pa pb q : Nat → Int32} {L b b' : Nat} (q1 : ∀ b b' b'', Q b b' → Q b b'' → b' = b'') (q2 : ∀ b b1 b', Q b b' → Q b1 b' → b = b1) (lt : ∀ b b', Q b b' → b < 1000 ∧ b' < 1000) (h : cs_PP Q pa pb q L) (hQ : Q b b') (h1 : pa b = -1) (h2 : pb b' = -1) :
    cs_PP Q (upd pa b (nI b')) (upd pb b' (nI b)) q L ∧ (L < 48 → cs_PP Q (upd pa b (nI b')) (upd pb b' (nI b)) (upd q L (nI b)) (L + 1)) := by
  obtain ⟨g0, g1, g2⟩ := h
  have lb := lt b b' hQ
  have nm : ∀ z : Nat, z < 1000 → ¬ nI z = -1 := fun z hz e => by
    have : (nI z).toInt = (-1 : Int32).toInt := by rw [e]
    rw [nI_toInt (by omega)] at this
    have e : (-1 : Int32).toInt = -1 := by decide
    omega
  have k1 : ∀ x x', Q x x' → (upd pa b (nI b') x = -1 ∧ upd pb b' (nI b) x' = -1) ∨ (upd pa b (nI b') x = nI x' ∧ ¬ upd pb b' (nI b) x' = -1) := fun x x' hx => by
    by_cases e : x = b
    · have e' : x' = b' := q1 b x' b' (e ▸ hx) hQ
      rw [e, e', cs_upd_s, cs_upd_s]
      exact Or.inr ⟨rfl, nm b lb.1⟩
    · have e' : x' ≠ b' := fun z => e (q2 x b b' (z ▸ hx) hQ)
      rw [cs_upd_n e, cs_upd_n e']
      exact g1 x x' hx
  have k2 : ∀ i, i < L → ∃ x x', Q x x' ∧ q i = nI x ∧ upd pa b (nI b') x = nI x' := fun i hi => by
    obtain ⟨x, x', z1, z2, z3⟩ := g2 i hi
    refine ⟨x, x', z1, z2, ?_⟩
    have e : x ≠ b := fun e => by
      rw [e, h1] at z3
      exact nm x' (lt x x' z1).2 z3.symm
    rw [cs_upd_n e]; exact z3
  refine ⟨⟨g0, k1, k2⟩, fun hL => ⟨by omega, k1, fun i hi => ?_⟩⟩
  by_cases e : i = L
  · exact ⟨b, b', hQ, by rw [e, cs_upd_s], cs_upd_s _ _ _⟩
  · rw [cs_upd_n e]; exact k2 i (by omega)
end
section
/-! counting references: the pure part -/
/-- how many references there are to b: from registers, and from the fields of kept cells -/
noncomputable def cs_c (xr xf xk : Nat → Int32) (b : Nat) : Nat := cs_n (fun r => xr (18 + r) = nI (1000 + b)) 6 + cs_n (fun j => ¬ xk (144 + j / 3) = 0 ∧ xf (432 + j) = nI (1000 + b)) 144
theorem cs_c_le (xr xf xk : Nat → Int32) (b : Nat) : cs_c xr xf xk b ≤ 150 := by
  unfold cs_c
  have h1 := cs_n_le (fun r => xr (18 + r) = nI (1000 + b)) 6
  have h2 := cs_n_le (fun j => ¬ xk (144 + j / 3) = 0 ∧ xf (432 + j) = nI (1000 + b)) 144
  omega
theorem cs_c_reg {xr xr' xf xk : Nat → Int32} {r : Nat} (hr : r < 6) (h : ∀ j, j < 6 → j ≠ r → xr' (18 + j) = xr (18 + j)) (b : Nat) : cs_c xr' xf xk b + cs_b (xr (18 + r) = nI (1000 + b)) = cs_c xr xf xk b + cs_b (xr' (18 + r) = nI (1000 + b)) := by
  have e : cs_n (fun j => xr' (18 + j) = nI (1000 + b)) 6 + cs_b (xr (18 + r) = nI (1000 + b)) = cs_n (fun j => xr (18 + j) = nI (1000 + b)) 6 + cs_b (xr' (18 + r) = nI (1000 + b)) := by
    have k := cs_n_upd (A := fun j => j < 6 ∧ xr (18 + j) = nI (1000 + b)) (A' := fun j => j < 6 ∧ xr' (18 + j) = nI (1000 + b)) (k := r) (fun j hj => by
      constructor
      · intro z; exact ⟨z.1, by rw [h j z.1 hj]; exact z.2⟩
      · intro z; exact ⟨z.1, by rw [← h j z.1 hj]; exact z.2⟩) (N := 6) hr
    have k1 := cs_n_eq (P := fun j => j < 6 ∧ xr (18 + j) = nI (1000 + b)) (Q := fun j => xr (18 + j) = nI (1000 + b)) (N := 6) (fun j hj => ⟨fun z => z.2, fun z => ⟨hj, z⟩⟩)
    have k2 := cs_n_eq (P := fun j => j < 6 ∧ xr' (18 + j) = nI (1000 + b)) (Q := fun j => xr' (18 + j) = nI (1000 + b)) (N := 6) (fun j hj => ⟨fun z => z.2, fun z => ⟨hj, z⟩⟩)
    have k3 := cs_bcg (P := r < 6 ∧ xr (18 + r) = nI (1000 + b)) (Q := xr (18 + r) = nI (1000 + b)) ⟨fun z => z.2, fun z => ⟨hr, z⟩⟩
    have k4 := cs_bcg (P := r < 6 ∧ xr' (18 + r) = nI (1000 + b)) (Q := xr' (18 + r) = nI (1000 + b)) ⟨fun z => z.2, fun z => ⟨hr, z⟩⟩
    try dsimp only at k
    omega
  unfold cs_c
  omega
theorem cs_c_fld {xr xf xf' xk : Nat → Int32} {x f : Nat} (hx : cs_sg 3 x) (hf : f < 3) (hk : ¬ xk x = 0) (h : ∀ j, j ≠ 3 * x + f → xf' j = xf j) (b : Nat) : cs_c xr xf' xk b + cs_b (xf (3 * x + f) = nI (1000 + b)) = cs_c xr xf xk b + cs_b (xf' (3 * x + f) = nI (1000 + b)) := by
  unfold cs_sg at hx
  have e1 : 432 + (3 * (x - 144) + f) = 3 * x + f := by omega
  have e2 : 144 + (3 * (x - 144) + f) / 3 = x := by omega
  have k := cs_n_upd (A := fun j => ¬ xk (144 + j / 3) = 0 ∧ xf (432 + j) = nI (1000 + b)) (A' := fun j => ¬ xk (144 + j / 3) = 0 ∧ xf' (432 + j) = nI (1000 + b)) (k := 3 * (x - 144) + f) (fun j hj => by rw [h (432 + j) (by omega)]) (N := 144) (by omega)
  try dsimp only at k
  rw [e1, e2] at k
  have k3 := cs_bcg (P := ¬ xk x = 0 ∧ xf (3 * x + f) = nI (1000 + b)) (Q := xf (3 * x + f) = nI (1000 + b)) ⟨fun z => z.2, fun z => ⟨hk, z⟩⟩
  have k4 := cs_bcg (P := ¬ xk x = 0 ∧ xf' (3 * x + f) = nI (1000 + b)) (Q := xf' (3 * x + f) = nI (1000 + b)) ⟨fun z => z.2, fun z => ⟨hk, z⟩⟩
  unfold cs_c
  omega
/-- references to b from the fields f, .., 2 of x -/
noncomputable def cs_x (xf : Nat → Int32) (x f b : Nat) : Nat := cs_n (fun g => f ≤ g ∧ xf (3 * x + g) = nI (1000 + b)) 3
theorem cs_x_3 (xf : Nat → Int32) (x b : Nat) : cs_x xf x 3 b = 0 := cs_n_0 (fun k hk z => by have := z.1; omega)
theorem cs_x_s (xf : Nat → Int32) {x f : Nat} (hf : f < 3) (b : Nat) : cs_x xf x f b = cs_x xf x (f + 1) b + cs_b (xf (3 * x + f) = nI (1000 + b)) := by
  have k := cs_n_upd (A := fun g => f ≤ g ∧ xf (3 * x + g) = nI (1000 + b)) (A' := fun g => f + 1 ≤ g ∧ xf (3 * x + g) = nI (1000 + b)) (k := f) (fun j hj => ⟨fun z => ⟨by have := z.1; omega, z.2⟩, fun z => ⟨by have := z.1; omega, z.2⟩⟩) (N := 3) hf
  try dsimp only at k
  have k1 := cs_bcg (P := f ≤ f ∧ xf (3 * x + f) = nI (1000 + b)) (Q := xf (3 * x + f) = nI (1000 + b)) ⟨fun z => z.2, fun z => ⟨Nat.le_refl _, z⟩⟩
  have k2 := cs_bf (P := f + 1 ≤ f ∧ xf (3 * x + f) = nI (1000 + b)) (fun z => by have := z.1; omega)
  unfold cs_x
  omega
theorem cs_x_le (xf : Nat → Int32) (x f b : Nat) : cs_x xf x f b ≤ 3 := cs_n_le _ 3
/-- taking x out of the kept cells -/
theorem cs_c_drop {xr xf xk : Nat → Int32} {x : Nat} (hx : cs_sg 3 x) (hk : ¬ xk x = 0) (b : Nat) : cs_c xr xf xk b = cs_c xr xf (upd xk x 0) b + cs_x xf x 0 b := by
  unfold cs_sg at hx
  have key : ∀ f, f ≤ 3 → cs_n (fun j => (¬ upd xk x 0 (144 + j / 3) = 0 ∨ (144 + j / 3 = x ∧ f ≤ j % 3)) ∧ xf (432 + j) = nI (1000 + b)) 144 = cs_n (fun j => ¬ upd xk x 0 (144 + j / 3) = 0 ∧ xf (432 + j) = nI (1000 + b)) 144 + cs_x xf x f b := by
    intro f hf
    have h3 : ∀ d f, f + d = 3 → cs_n (fun j => (¬ upd xk x 0 (144 + j / 3) = 0 ∨ (144 + j / 3 = x ∧ f ≤ j % 3)) ∧ xf (432 + j) = nI (1000 + b)) 144 = cs_n (fun j => ¬ upd xk x 0 (144 + j / 3) = 0 ∧ xf (432 + j) = nI (1000 + b)) 144 + cs_x xf x f b := by
      intro d
      induction d with
      | zero =>
        intro f e
        have e' : f = 3 := by omega
        rw [e', cs_x_3, Nat.add_zero]
        refine cs_n_eq (fun j _ => ⟨fun z => ⟨?_, z.2⟩, fun z => ⟨Or.inl z.1, z.2⟩⟩)
        rcases z.1 with y | y
        · exact y
        · omega
      | succ d ih =>
        intro f e
        have i := ih (f + 1) (by omega)
        have e1 : 432 + (3 * (x - 144) + f) = 3 * x + f := by omega
        have e2 : 144 + (3 * (x - 144) + f) / 3 = x := by omega
        have e3 : (3 * (x - 144) + f) % 3 = f := by omega
        have k := cs_n_upd (A := fun j => (¬ upd xk x 0 (144 + j / 3) = 0 ∨ (144 + j / 3 = x ∧ f ≤ j % 3)) ∧ xf (432 + j) = nI (1000 + b)) (A' := fun j => (¬ upd xk x 0 (144 + j / 3) = 0 ∨ (144 + j / 3 = x ∧ f + 1 ≤ j % 3)) ∧ xf (432 + j) = nI (1000 + b)) (k := 3 * (x - 144) + f) (fun j hj => by
          constructor
          · intro z
            refine ⟨?_, z.2⟩
            rcases z.1 with y | y
            · exact Or.inl y
            · exact Or.inr (by omega)
          · intro z
            refine ⟨?_, z.2⟩
            rcases z.1 with y | y
            · exact Or.inl y
            · exact Or.inr (by omega)) (N := 144) (by omega)
        try dsimp only at k
        rw [e1, e2, e3, cs_upd_s] at k
        have k1 := cs_bcg (P := (¬ (0 : Int32) = 0 ∨ (x = x ∧ f ≤ f)) ∧ xf (3 * x + f) = nI (1000 + b)) (Q := xf (3 * x + f) = nI (1000 + b)) ⟨fun z => z.2, fun z => ⟨Or.inr ⟨rfl, Nat.le_refl _⟩, z⟩⟩
        have k2 := cs_bf (P := (¬ (0 : Int32) = 0 ∨ (x = x ∧ f + 1 ≤ f)) ∧ xf (3 * x + f) = nI (1000 + b)) (fun z => by
          rcases z.1 with y | y
          · exact y rfl
          · omega)
        have k3 := cs_x_s xf (x := x) (f := f) (by omega) b
        omega
    exact h3 (3 - f) f (by omega)
  have k := key 0 (by omega)
  have k0 : cs_n (fun j => ¬ xk (144 + j / 3) = 0 ∧ xf (432 + j) = nI (1000 + b)) 144 = cs_n (fun j => (¬ upd xk x 0 (144 + j / 3) = 0 ∨ (144 + j / 3 = x ∧ 0 ≤ j % 3)) ∧ xf (432 + j) = nI (1000 + b)) 144 := cs_n_eq (fun j _ => by
    by_cases e : 144 + j / 3 = x
    · rw [e]
      exact ⟨fun z => ⟨Or.inr ⟨rfl, Nat.zero_le _⟩, z.2⟩, fun z => ⟨hk, z.2⟩⟩
    · rw [cs_upd_n e]
      constructor
      · intro z; exact ⟨Or.inl z.1, z.2⟩
      · intro z
        refine ⟨?_, z.2⟩
        rcases z.1 with y | y
        · exact y
        · exact absurd y.1 e)
  unfold cs_c
  omega
theorem cs_c_pr {xr xf xk : Nat → Int32} {r b : Nat} (hr : r < 6) (h : xr (18 + r) = nI (1000 + b)) : 0 < cs_c xr xf xk b := by
  have := cs_n_rem (P := fun r => xr (18 + r) = nI (1000 + b)) (a := r) (N := 6) h hr
  unfold cs_c; omega
theorem cs_c_pf {xr xf xk : Nat → Int32} {x f b : Nat} (hx : cs_sg 3 x) (hk : ¬ xk x = 0) (hf : f < 3) (h : xf (3 * x + f) = nI (1000 + b)) : 0 < cs_c xr xf xk b := by
  unfold cs_sg at hx
  have e1 : 432 + (3 * (x - 144) + f) = 3 * x + f := by omega
  have e2 : 144 + (3 * (x - 144) + f) / 3 = x := by omega
  have := cs_n_rem (P := fun j => ¬ xk (144 + j / 3) = 0 ∧ xf (432 + j) = nI (1000 + b)) (a := 3 * (x - 144) + f) (N := 144) (by (try dsimp only); rw [e1, e2]; exact ⟨hk, h⟩) (by omega)
  unfold cs_c; omega
/-- while counts are lowered: ex b lowerings of b are still due; places n .. L - 1 of the queue wait -/
def cs_D (xr xf xk tl q : Nat → Int32) (ex : Nat → Nat) (n L : Nat) : Prop :=
  n ≤ L ∧ cs_W 3 xf xk ∧ (∀ r, r < 6 → cs_ok 3 xk (xr (18 + r))) ∧
  (∀ b, cs_sg 3 b → ¬ xk b = 0 → tl b = nI (cs_c xr xf xk b + ex b)) ∧
  (∀ b, cs_sg 3 b → ¬ xk b = 0 → (cs_c xr xf xk b + ex b = 0 ↔ ∃ i, n ≤ i ∧ i < L ∧ q i = nI b)) ∧
  (∀ i, i < L → ∃ b, cs_sg 3 b ∧ q i = nI b ∧ (n ≤ i → ¬ xk b = 0) ∧ (i < n → xk b = 0)) ∧
  (∀ i j, i < L → j < L → q i = q j → i = j)
section
variable {xr xf xk tl q : Nat → Int32} {ex : Nat → Nat} {n L : Nat}
theorem cs_D_ex {ex' : Nat → Nat} (h : cs_D xr xf xk tl q ex n L) (he : ∀ b, cs_sg 3 b → ex' b = ex b) : cs_D xr xf xk tl q ex' n L := by
  obtain ⟨h0, h1, h2, h3, h4, h5, h6⟩ := h
  exact ⟨h0, h1, h2, fun b hb hk => by rw [he b hb]; exact h3 b hb hk, fun b hb hk => by rw [he b hb]; exact h4 b hb hk, h5, h6⟩
theorem cs_D_lt (h : cs_D xr xf xk tl q ex n L) {b : Nat} (hb : cs_sg 3 b) (nb : ∀ i, i < L → ¬ q i = nI b) : L < 48 := by
  obtain ⟨h0, h1, h2, h3, h4, h5, h6⟩ := h
  have k := cs_q_le (A := fun i => i ≠ b - 144) (q := fun i => (q i).toNatClampNeg - 144) (L := L) (m := 48) (fun i hi => by
    obtain ⟨b', z1, z2, _⟩ := h5 i hi
    unfold cs_sg at z1 hb
    have e : (q i).toNatClampNeg = b' := by rw [z2]; exact nI_clamp (by omega)
    try dsimp only
    rw [e]
    refine ⟨by omega, fun z => nb i hi ?_⟩
    have : b' = b := by omega
    rw [z2, this]) (fun i j hi hj e => by
    obtain ⟨b1, z1, z2, _⟩ := h5 i hi
    obtain ⟨b2, y1, y2, _⟩ := h5 j hj
    unfold cs_sg at z1 y1
    try dsimp only at e
    have e1 : (q i).toNatClampNeg = b1 := by rw [z2]; exact nI_clamp (by omega)
    have e2 : (q j).toNatClampNeg = b2 := by rw [y2]; exact nI_clamp (by omega)
    rw [e1, e2] at e
    have e3 : b1 = b2 := by omega
    exact h6 i j hi hj (by rw [z2, y2, e3]))
  unfold cs_sg at hb
  have k2 := cs_n_lt (P := fun i => i ≠ b - 144) (Q := fun _ => True) (a := b - 144) (fun z => z rfl) trivial (N := 48) (fun _ _ _ => trivial) (by omega)
  have k3 := cs_n_le (fun _ => True) 48
  omega
theorem cs_D_low {ex' : Nat → Nat} {b v : Nat} (h : cs_D xr xf xk tl q ex n L) (hb : cs_sg 3 b) (hk : ¬ xk b = 0) (e1 : ex b = ex' b + 1) (e2 : ∀ z, cs_sg 3 z → z ≠ b → ex' z = ex z) (hv : v = cs_c xr xf xk b + ex' b) :
    tl b = nI (v + 1) ∧ (v = 0 → L < 48 ∧ cs_D xr xf xk (upd tl b (nI v)) (upd q L (nI b)) ex' n (L + 1)) ∧ (v ≠ 0 → cs_D xr xf xk (upd tl b (nI v)) q ex' n L) := by
  have H := h
  obtain ⟨h0, h1, h2, h3, h4, h5, h6⟩ := h
  have nb : ∀ i, i < L → ¬ q i = nI b := fun i hi e => by
    obtain ⟨b', z1, z2, z3, z4⟩ := h5 i hi
    unfold cs_sg at z1 hb
    have eb : b' = b := cs_nIinj (by omega) (by omega) (z2.symm.trans e)
    rcases Nat.lt_or_ge i n with y | y
    · exact hk (eb ▸ z4 y)
    · have := (h4 b hb hk).mpr ⟨i, y, hi, e⟩
      omega
  refine ⟨by rw [h3 b hb hk, e1, hv, Nat.add_assoc], fun hv0 => ⟨cs_D_lt H hb nb, by omega, h1, h2, fun z hz hkz => ?_, fun z hz hkz => ?_, fun i hi => ?_, fun i j hi hj e => ?_⟩, fun hv0 => ⟨h0, h1, h2, fun z hz hkz => ?_, fun z hz hkz => ?_, h5, h6⟩⟩
  · by_cases e : z = b
    · rw [e, cs_upd_s, hv]
    · rw [cs_upd_n e, e2 z hz e]; exact h3 z hz hkz
  · by_cases e : z = b
    · rw [e]
      exact ⟨fun _ => ⟨L, h0, by omega, by rw [cs_upd_s]⟩, fun _ => by omega⟩
    · rw [e2 z hz e]
      refine (h4 z hz hkz).trans ⟨fun ⟨i, i1, i2, i3⟩ => ⟨i, i1, by omega, by rw [cs_upd_n (by omega)]; exact i3⟩, fun ⟨i, i1, i2, i3⟩ => ?_⟩
      by_cases ei : i = L
      · rw [ei, cs_upd_s] at i3
        unfold cs_sg at hz hb
        exact absurd (cs_nIinj (by omega) (by omega) i3.symm) e
      · rw [cs_upd_n ei] at i3
        exact ⟨i, i1, by omega, i3⟩
  · by_cases ei : i = L
    · exact ⟨b, hb, by rw [ei, cs_upd_s], fun _ => hk, fun y => by omega⟩
    · rw [cs_upd_n ei]; exact h5 i (by omega)
  · by_cases ei : i = L <;> by_cases ej : j = L
    · rw [ei, ej]
    · rw [ei, cs_upd_s, cs_upd_n ej] at e
      exact absurd e.symm (nb j (by omega))
    · rw [ej, cs_upd_s, cs_upd_n ei] at e
      exact absurd e (nb i (by omega))
    · rw [cs_upd_n ei, cs_upd_n ej] at e
      exact h6 i j (by omega) (by omega) e
  · by_cases e : z = b
    · rw [e, cs_upd_s, hv]
    · rw [cs_upd_n e, e2 z hz e]; exact h3 z hz hkz
  · by_cases e : z = b
    · rw [e, ← hv]
      exact ⟨fun y => absurd y hv0, fun ⟨i, i1, i2, i3⟩ => absurd i3 (nb i i2)⟩
    · rw [e2 z hz e]; exact h4 z hz hkz
theorem cs_D_take (h : cs_D xr xf xk tl q (fun _ => 0) n L) (hn : n < L) : ∃ x, cs_sg 3 x ∧ q n = nI x ∧ ¬ xk x = 0 ∧ cs_D xr xf (upd xk x 0) tl q (cs_x xf x 0) (n + 1) L ∧ (∀ f, f < 3 → cs_ok 3 (upd xk x 0) (xf (3 * x + f))) := by
  obtain ⟨h0, h1, h2, h3, h4, h5, h6⟩ := h
  obtain ⟨x, hx, hq, hk, _⟩ := h5 n hn
  have kx := hk (Nat.le_refl _)
  have cx : cs_c xr xf xk x = 0 := (h4 x hx kx).mpr ⟨n, Nat.le_refl _, hn, hq⟩
  have ok' : ∀ w, (w = nI (1000 + x) → False) → cs_ok 3 xk w → cs_ok 3 (upd xk x 0) w := fun w nw o => by
    rcases o with o | ⟨b, o1, o2, o3, o4⟩
    · exact Or.inl o
    · have e : b ≠ x := fun e => nw (e ▸ o4)
      exact Or.inr ⟨b, o1, o2, by rw [cs_upd_n e]; exact o3, o4⟩
  have nf : ∀ b f, cs_sg 3 b → ¬ xk b = 0 → f < 3 → xf (3 * b + f) = nI (1000 + x) → False := fun b f hb hkb hf e => by
    have := cs_c_pf (xr := xr) hb hkb hf e
    omega
  refine ⟨x, hx, hq, kx, ⟨by omega, fun b p1 p2 p3 f hf => ?_, fun r hr => ok' _ (fun e => ?_) (h2 r hr), fun b hb hkb => ?_, fun b hb hkb => ?_, fun i hi => ?_, h6⟩, fun f hf => ok' _ (nf x f hx kx hf) (h1 x hx.1 hx.2 kx f hf)⟩
  · have e : b ≠ x := fun e => p3 (by rw [e]; exact cs_upd_s _ _ _)
    rw [cs_upd_n e] at p3
    exact ok' _ (nf b f ⟨p1, p2⟩ p3 hf) (h1 b p1 p2 p3 f hf)
  · have := cs_c_pr (xf := xf) (xk := xk) hr e
    omega
  · have e : b ≠ x := fun e => hkb (by rw [e]; exact cs_upd_s _ _ _)
    rw [cs_upd_n e] at hkb
    rw [← cs_c_drop hx kx b]; exact h3 b hb hkb
  · have e : b ≠ x := fun e => hkb (by rw [e]; exact cs_upd_s _ _ _)
    rw [cs_upd_n e] at hkb
    rw [← cs_c_drop hx kx b]
    refine (h4 b hb hkb).trans ⟨fun ⟨i, i1, i2, i3⟩ => ⟨i, ?_, i2, i3⟩, fun ⟨i, i1, i2, i3⟩ => ⟨i, by omega, i2, i3⟩⟩
    rcases Nat.lt_or_ge n i with y | y
    · exact y
    · have ei : i = n := by omega
      rw [ei, hq] at i3
      unfold cs_sg at hb hx
      exact absurd (cs_nIinj (by omega) (by omega) i3.symm) e
  · obtain ⟨b, z1, z2, z3, z4⟩ := h5 i hi
    refine ⟨b, z1, z2, fun y => ?_, fun y => ?_⟩
    · have e : b ≠ x := fun e => by
        have := h6 i n hi hn (by rw [z2, hq, e])
        omega
      rw [cs_upd_n e]; exact z3 (by omega)
    · by_cases e : b = x
      · rw [e]; exact cs_upd_s _ _ _
      · rw [cs_upd_n e]
        refine z4 ?_
        rcases Nat.lt_or_ge i n with y' | y'
        · exact y'
        · have ei : i = n := by omega
          rw [ei, hq] at z2
          unfold cs_sg at z1 hx
          exact absurd (cs_nIinj (by omega) (by omega) z2.symm) e
end
end
section
/-! sliding: the pure part -/
noncomputable def cs_rk (s : Nat → Int32) (b : Nat) : Nat := 96 + cs_n (fun i => ¬ s (96 + i) = 0) (b - 96)
def cs_sl (s : Nat → Int32) (b b' : Nat) : Prop := cs_sg 2 b ∧ ¬ s b = 0 ∧ b' = cs_rk s b
section
variable {s F0 F : Nat → Int32}
theorem cs_rk_le (s : Nat → Int32) {b : Nat} (h : 96 ≤ b) : cs_rk s b ≤ b := by
  have := cs_n_le (fun i => ¬ s (96 + i) = 0) (b - 96)
  unfold cs_rk; omega
theorem cs_rk_ge (s : Nat → Int32) (b : Nat) : 96 ≤ cs_rk s b := by unfold cs_rk; omega
theorem cs_rk_suc {b : Nat} (hb : 96 ≤ b) (h : ¬ s b = 0) : cs_rk s (b + 1) = cs_rk s b + 1 := by
  unfold cs_rk
  have e : b + 1 - 96 = (b - 96) + 1 := by omega
  rw [e, cs_n_suc, cs_bt (P := ¬ s (96 + (b - 96)) = 0) (by rw [show 96 + (b - 96) = b by omega]; exact h)]
  omega
theorem cs_rk_suc0 {b : Nat} (hb : 96 ≤ b) (h : s b = 0) : cs_rk s (b + 1) = cs_rk s b := by
  unfold cs_rk
  have e : b + 1 - 96 = (b - 96) + 1 := by omega
  rw [e, cs_n_suc, cs_bf (P := ¬ s (96 + (b - 96)) = 0) (by rw [show 96 + (b - 96) = b by omega]; exact fun z => z h)]
  rfl
theorem cs_rk_lt {a b : Nat} (ha : 96 ≤ a) (h : ¬ s a = 0) (hab : a < b) : cs_rk s a < cs_rk s b := by
  have k := cs_rk_suc ha h
  have k2 : cs_rk s (a + 1) ≤ cs_rk s b := by
    unfold cs_rk
    have := cs_n_up (fun i => ¬ s (96 + i) = 0) (j := a + 1 - 96) (k := b - 96) (by omega)
    omega
  omega
theorem cs_rk_inj {a b : Nat} (ha : 96 ≤ a) (hb : 96 ≤ b) (h : ¬ s a = 0) (h' : ¬ s b = 0) (e : cs_rk s a = cs_rk s b) : a = b := by
  rcases Nat.lt_trichotomy a b with y | y | y
  · have := cs_rk_lt ha h y; omega
  · exact y
  · have := cs_rk_lt hb h' y; omega
/-- every place below the last rank is someone's -/
theorem cs_rk_onto : ∀ (k : Nat), 96 ≤ k → ∀ t, 96 ≤ t → t < cs_rk s k → ∃ b, 96 ≤ b ∧ b < k ∧ ¬ s b = 0 ∧ cs_rk s b = t
  | 0, h, _, _, _ => by omega
  | k + 1, h, t, t1, t2 => by
    by_cases e : k + 1 = 96
    · rw [e] at t2
      have := cs_rk_le s (b := 96) (by omega)
      omega
    · by_cases z : s k = 0
      · rw [cs_rk_suc0 (by omega) z] at t2
        obtain ⟨b, b1, b2, b3, b4⟩ := cs_rk_onto k (by omega) t t1 t2
        exact ⟨b, b1, by omega, b3, b4⟩
      · rw [cs_rk_suc (by omega) z] at t2
        by_cases y : t = cs_rk s k
        · exact ⟨k, by omega, by omega, z, y.symm⟩
        · obtain ⟨b, b1, b2, b3, b4⟩ := cs_rk_onto k (by omega) t t1 (by omega)
          exact ⟨b, b1, by omega, b3, b4⟩
/-- cells below k, and the fields below f of k, have been slid -/
def cs_Sl (s F0 F : Nat → Int32) (k f : Nat) : Prop :=
  (∀ b g, cs_sg 2 b → ¬ s b = 0 → g < 3 → (b < k ∨ (b = k ∧ g < f)) → cs_l (cs_sl s) (F0 (3 * b + g)) (F (3 * cs_rk s b + g))) ∧ (∀ j, 3 * k + f ≤ j → F j = F0 j)
theorem cs_Sl_0 : cs_Sl s F0 F0 96 0 := by
  refine ⟨fun b g hb _ _ h => ?_, fun _ _ => rfl⟩
  unfold cs_sg at hb; omega
theorem cs_Sl_w {k f : Nat} (h : cs_Sl s F0 F k f) : F (3 * k + f) = F0 (3 * k + f) := h.2 _ (Nat.le_refl _)
theorem cs_Sl_f {k f : Nat} (h : cs_Sl s F0 F k f) (hk : cs_sg 2 k) (hs : ¬ s k = 0) (hf : f < 3) {w : Int32} (l : cs_l (cs_sl s) (F0 (3 * k + f)) w) : cs_Sl s F0 (upd F (3 * cs_rk s k + f) w) k (f + 1) := by
  unfold cs_sg at hk
  have le := cs_rk_le s (b := k) (by omega)
  refine ⟨fun b g hb hs' hg hd => ?_, fun j hj => ?_⟩
  · unfold cs_sg at hb
    by_cases e : b = k ∧ g = f
    · rw [e.1, e.2, cs_upd_s]; exact l
    · have ne : 3 * cs_rk s b + g ≠ 3 * cs_rk s k + f := fun z => by
        have e1 : cs_rk s b = cs_rk s k := by omega
        have e2 : g = f := by omega
        exact e ⟨cs_rk_inj (by omega) (by omega) hs' hs e1, e2⟩
      rw [cs_upd_n ne]
      exact h.1 b g ⟨hb.1, hb.2⟩ hs' hg (by omega)
  · rw [cs_upd_n (by omega)]; exact h.2 j (by omega)
theorem cs_Sl_k {k : Nat} (h : cs_Sl s F0 F k 3) : cs_Sl s F0 F (k + 1) 0 :=
  ⟨fun b g hb hs hg hd => h.1 b g hb hs hg (by omega), fun j hj => h.2 j (by omega)⟩
theorem cs_Sl_k0 {k : Nat} (h : cs_Sl s F0 F k 0) (hs : s k = 0) : cs_Sl s F0 F (k + 1) 0 := by
  refine ⟨fun b g hb hs' hg hd => h.1 b g hb hs' hg ?_, fun j hj => h.2 j (by omega)⟩
  rcases Nat.lt_or_ge b k with y | y
  · exact Or.inl y
  · have e : b = k := by omega
    exact absurd (e ▸ hs) hs'
end
/-! moving cells out of o .. oe - 1 into d .. de - 1 with a queue: the pure part. Place i of the queue holds cell tq i, which was copied from sr i;
places below L0 are cells that stay where they are (sr i = tq i) -/
def cs_mv (c o oe L0 L : Nat) (K0 : Nat → Int32) (sr tq : Nat → Nat) (b b' : Nat) : Prop :=
  (¬ (o ≤ b ∧ b < oe) ∧ b' = b ∧ ¬ K0 b = 0 ∧ cs_sg c b) ∨ ∃ i, L0 ≤ i ∧ i < L ∧ sr i = b ∧ tq i = b'
/-- where the moving happens -/
def cs_rg (c o oe d de : Nat) : Prop := c < 7 ∧ 48 ≤ o ∧ 48 * c ≤ o ∧ o < oe ∧ oe ≤ 48 * c + 48 ∧ 48 * c ≤ d ∧ d < de ∧ de ≤ 48 * c + 48 ∧ (oe ≤ d ∨ de ≤ o)
def cs_Ev (c o oe d de L0 : Nat) (Z : Nat → Prop) (F0 K0 F K fw q : Nat → Int32) (sr tq : Nat → Nat) (n f L : Nat) : Prop :=
  (L0 ≤ L ∧ n ≤ L ∧ (n < L ∨ f = 0)) ∧
  (∀ i, i < L → q i = nI (tq i) ∧ Z (sr i) ∧ d ≤ tq i ∧ tq i < de ∧ (i < L0 → sr i = tq i ∧ ¬ K0 (tq i) = 0) ∧ (L0 ≤ i → o ≤ sr i ∧ sr i < oe ∧ K0 (tq i) = 0)) ∧
  (∀ i j, i < L → j < L → tq i = tq j → i = j) ∧
  (∀ i j, L0 ≤ i → i < L → L0 ≤ j → j < L → sr i = sr j → i = j) ∧
  (∀ b, o ≤ b → b < oe → (fw b = -1 ∧ ∀ i, L0 ≤ i → i < L → sr i ≠ b) ∨ ∃ i, L0 ≤ i ∧ i < L ∧ sr i = b ∧ fw b = nI (tq i)) ∧
  (∀ i, L0 ≤ i → i < L → ¬ K (tq i) = 0) ∧ (∀ b, (∀ i, L0 ≤ i → i < L → tq i ≠ b) → K b = K0 b) ∧
  (∀ i g, i < L → g < 3 → (i < n ∨ (i = n ∧ g < f)) → cs_l (cs_mv c o oe L0 L K0 sr tq) (F0 (3 * sr i + g)) (F (3 * tq i + g))) ∧
  (∀ i g, i < L → g < 3 → ¬ (i < n ∨ (i = n ∧ g < f)) → F (3 * tq i + g) = F0 (3 * sr i + g)) ∧
  (∀ b g, g < 3 → (∀ i, i < L → tq i ≠ b) → F (3 * b + g) = F0 (3 * b + g))
section
variable {c o oe d de L0 : Nat} {Z : Nat → Prop} {F0 K0 F K fw q : Nat → Int32} {sr tq : Nat → Nat} {n f L : Nat}
theorem cs_l_mono {M M' : Nat → Nat → Prop} (h : ∀ b b', M b b' → M' b b') {w w' : Int32} (l : cs_l M w w') : cs_l M' w w' := by
  rcases l with l | ⟨b, b', l1, l2, l3⟩
  · exact Or.inl l
  · exact Or.inr ⟨b, b', h b b' l1, l2, l3⟩
theorem cs_Ev_len (R : cs_rg c o oe d de) (h : cs_Ev c o oe d de L0 Z F0 K0 F K fw q sr tq n f L) : L ≤ 48 := by
  obtain ⟨h0, h1, h2, h3, h4, h5, h6, h7, h8, h9⟩ := h
  obtain ⟨r0, r1, r2, r3, r4, r5, r6, r7, r8⟩ := R
  have k := cs_q_le (A := fun _ => True) (q := fun i => tq i - 48 * c) (L := L) (m := 48) (fun i hi => by
    have := h1 i hi
    exact ⟨by (try dsimp only); omega, trivial⟩) (fun i j hi hj e => by
    have a := h1 i hi
    have b := h1 j hj
    try dsimp only at e
    exact h2 i j hi hj (by omega))
  have k2 := cs_n_le (fun _ => True) 48
  omega
/-- there is room for one more -/
theorem cs_Ev_room (R : cs_rg c o oe d de) (h : cs_Ev c o oe d de L0 Z F0 K0 F K fw q sr tq n f L) (hZ : ∀ b, Z b → ¬ K0 b = 0) (cap : cs_n (fun i => ¬ K0 (o + i) = 0) (oe - o) ≤ cs_n (fun i => K0 (d + i) = 0) (de - d)) {b : Nat} (hb : Z b) (b1 : o ≤ b) (b2 : b < oe) (hf : fw b = -1) : ∃ t, d ≤ t ∧ t < de ∧ K t = 0 := by
  obtain ⟨h0, h1, h2, h3, h4, h5, h6, h7, h8, h9⟩ := h
  have nb : ∀ i, L0 ≤ i → i < L → sr i ≠ b := by
    rcases h4 b b1 b2 with y | ⟨i, i1, i2, i3, i4⟩
    · exact y.2
    · have a := h1 i i2
      obtain ⟨r0, r1, r2, r3, r4, r5, r6, r7, r8⟩ := R
      rw [i4] at hf
      have : (nI (tq i)).toInt = (-1 : Int32).toInt := by rw [hf]
      rw [nI_toInt (by omega)] at this
      have e : (-1 : Int32).toInt = -1 := by decide
      omega
  refine Classical.byContradiction fun hn => ?_
  have full : ∀ t, d ≤ t → t < de → ¬ K t = 0 := fun t t1 t2 z => hn ⟨t, t1, t2, z⟩
  have tg : ∀ t, d ≤ t → t < de → K0 t = 0 → ∃ i, L0 ≤ i ∧ i < L ∧ tq i = t := fun t t1 t2 z => Classical.byContradiction fun hx => full t t1 t2 (by
    rw [h6 t (fun i i1 i2 e => hx ⟨i, i1, i2, e⟩)]; exact z)
  have k := cs_n_inj (A := fun i => K0 (d + i) = 0) (Q := fun i j => ∃ p, L0 ≤ p ∧ p < L ∧ tq p = d + i ∧ sr p = o + j) (m := oe - o) (de - d) (fun j => ¬ K0 (o + j) = 0 ∧ j ≠ b - o) (fun i hi hA => by
    obtain ⟨p, p1, p2, p3⟩ := tg (d + i) (by omega) (by omega) hA
    have a := h1 p p2
    have a2 := a.2.2.2.2.2 p1
    have e : o + (sr p - o) = sr p := by omega
    refine ⟨sr p - o, by omega, ⟨by rw [e]; exact hZ _ a.2.1, fun z => nb p p1 p2 (by omega)⟩, p, p1, p2, p3, by omega⟩) (fun i i' j _ _ ⟨p, p1, p2, p3, p4⟩ ⟨p', q1, q2, q3, q4⟩ => by
    have := h3 p p' p1 p2 q1 q2 (by omega)
    rw [this] at p3
    omega)
  have k2 := cs_n_rem (P := fun j => ¬ K0 (o + j) = 0) (a := b - o) (N := oe - o) (by (try dsimp only); rw [show o + (b - o) = b by omega]; exact hZ b hb) (by omega)
  omega
theorem cs_Ev_new (R : cs_rg c o oe d de) (h : cs_Ev c o oe d de L0 Z F0 K0 F K fw q sr tq n f L) {b t : Nat} (hb : Z b) (b1 : o ≤ b) (b2 : b < oe) (hf : fw b = -1) (t1 : d ≤ t) (t2 : t < de) (ht : K t = 0)
    {F' : Nat → Int32} (f1 : ∀ g, g < 3 → F' (3 * t + g) = F (3 * b + g)) (f2 : ∀ x g, g < 3 → x ≠ t → F' (3 * x + g) = F (3 * x + g)) :
    cs_Ev c o oe d de L0 Z F0 K0 F' (upd K t 1) (upd fw b (nI t)) (upd q L (nI t)) (cs_un sr L b) (cs_un tq L t) n f (L + 1) := by
  obtain ⟨⟨h0, h00, h000⟩, h1, h2, h3, h4, h5, h6, h7, h8, h9⟩ := h
  obtain ⟨r0, r1, r2, r3, r4, r5, r6, r7, r8⟩ := R
  have nt : ∀ i, i < L → tq i ≠ t := fun i hi e => by
    have a := h1 i hi
    rcases Nat.lt_or_ge i L0 with y | y
    · have a2 := (a.2.2.2.2.1 y).2
      rw [e] at a2
      have : K t = K0 t := h6 t (fun j j1 j2 ej => by
        have := h2 i j hi j2 (e.trans ej.symm)
        omega)
      exact a2 (this ▸ ht)
    · exact h5 i y hi (e ▸ ht)
  have k0t : K0 t = 0 := by rw [← h6 t (fun i _ i2 => nt i i2)]; exact ht
  have nb : ∀ i, L0 ≤ i → i < L → sr i ≠ b := by
    rcases h4 b b1 b2 with y | ⟨i, i1, i2, i3, i4⟩
    · exact y.2
    · have a := h1 i i2
      rw [i4] at hf
      have : (nI (tq i)).toInt = (-1 : Int32).toInt := by rw [hf]
      rw [nI_toInt (by omega)] at this
      have e : (-1 : Int32).toInt = -1 := by decide
      omega
  have es : ∀ i, i < L → cs_un sr L b i = sr i := fun i hi => cs_un_n (by omega)
  have et : ∀ i, i < L → cs_un tq L t i = tq i := fun i hi => cs_un_n (by omega)
  have bt : b ≠ t := by omega
  have mono : ∀ x x', cs_mv c o oe L0 L K0 sr tq x x' → cs_mv c o oe L0 (L + 1) K0 (cs_un sr L b) (cs_un tq L t) x x' := fun x x' m => by
    rcases m with m | ⟨i, i1, i2, i3, i4⟩
    · exact Or.inl m
    · exact Or.inr ⟨i, i1, by omega, by rw [es i i2]; exact i3, by rw [et i i2]; exact i4⟩
  have n1 : ¬ (1 : Int32) = 0 := by decide
  refine ⟨⟨by omega, by omega, by omega⟩, fun i hi => ?_, fun i j hi hj e => ?_, fun i j i1 i2 j1 j2 e => ?_, fun x x1 x2 => ?_, fun i i1 i2 => ?_, fun x hx => ?_, fun i g hi hg hs => ?_, fun i g hi hg hs => ?_, fun x g hg hx => ?_⟩
  · by_cases e : i = L
    · rw [e, cs_upd_s, cs_un_s, cs_un_s]
      exact ⟨rfl, hb, t1, t2, fun y => by omega, fun _ => ⟨b1, b2, k0t⟩⟩
    · rw [cs_upd_n e, es i (by omega), et i (by omega)]
      exact h1 i (by omega)
  · by_cases ei : i = L <;> by_cases ej : j = L
    · rw [ei, ej]
    · rw [ei, cs_un_s, et j (by omega)] at e
      exact absurd e.symm (nt j (by omega))
    · rw [ej, cs_un_s, et i (by omega)] at e
      exact absurd e (nt i (by omega))
    · rw [et i (by omega), et j (by omega)] at e
      exact h2 i j (by omega) (by omega) e
  · by_cases ei : i = L <;> by_cases ej : j = L
    · rw [ei, ej]
    · rw [ei, cs_un_s, es j (by omega)] at e
      exact absurd e.symm (nb j j1 (by omega))
    · rw [ej, cs_un_s, es i (by omega)] at e
      exact absurd e (nb i i1 (by omega))
    · rw [es i (by omega), es j (by omega)] at e
      exact h3 i j i1 (by omega) j1 (by omega) e
  · by_cases e : x = b
    · exact Or.inr ⟨L, h0, by omega, by rw [cs_un_s]; exact e.symm, by rw [e, cs_upd_s, cs_un_s]⟩
    · rw [cs_upd_n e]
      rcases h4 x x1 x2 with ⟨y1, y2⟩ | ⟨i, i1, i2, i3, i4⟩
      · refine Or.inl ⟨y1, fun i i1 i2 => ?_⟩
        by_cases ei : i = L
        · rw [ei, cs_un_s]; exact fun z => e z.symm
        · rw [es i (by omega)]; exact y2 i i1 (by omega)
      · exact Or.inr ⟨i, i1, by omega, by rw [es i i2]; exact i3, by rw [et i i2]; exact i4⟩
  · by_cases e : i = L
    · rw [e, cs_un_s, cs_upd_s]; exact n1
    · rw [et i (by omega), cs_upd_n (nt i (by omega))]; exact h5 i i1 (by omega)
  · have x1 : x ≠ t := fun e => hx L h0 (by omega) (by rw [cs_un_s]; exact e.symm)
    rw [cs_upd_n x1]
    exact h6 x (fun i i1 i2 => by have := hx i i1 (by omega); rw [et i i2] at this; exact this)
  · have e : i < L := by omega
    rw [es i e, et i e, f2 (tq i) g hg (nt i e)]
    exact cs_l_mono mono (h7 i g e hg hs)
  · by_cases e : i = L
    · rw [e, cs_un_s, cs_un_s, f1 g hg]
      exact h9 b g hg (fun j hj => by have := h1 j hj; omega)
    · rw [es i (by omega), et i (by omega), f2 (tq i) g hg (nt i (by omega))]
      exact h8 i g (by omega) hg hs
  · have x1 : x ≠ t := fun e => hx L (by omega) (by rw [cs_un_s]; exact e.symm)
    rw [f2 x g hg x1]
    exact h9 x g hg (fun i hi => by have := hx i (by omega); rw [et i hi] at this; exact this)
theorem cs_Ev_scan (R : cs_rg c o oe d de) (h : cs_Ev c o oe d de L0 Z F0 K0 F K fw q sr tq n f L) (hn : n < L) (hf : f < 3) {w' : Int32} (l : cs_l (cs_mv c o oe L0 L K0 sr tq) (F0 (3 * sr n + f)) w') :
    cs_Ev c o oe d de L0 Z F0 K0 (upd F (3 * tq n + f) w') K fw q sr tq n (f + 1) L := by
  obtain ⟨⟨h0, h00, h000⟩, h1, h2, h3, h4, h5, h6, h7, h8, h9⟩ := h
  have ne : ∀ i g, i < L → g < 3 → ¬ (i = n ∧ g = f) → 3 * tq i + g ≠ 3 * tq n + f := fun i g hi hg hx e => by
    have e1 : tq i = tq n := by omega
    have e2 : g = f := by omega
    exact hx ⟨h2 i n hi hn e1, e2⟩
  refine ⟨⟨h0, h00, Or.inl hn⟩, h1, h2, h3, h4, h5, h6, fun i g hi hg hs => ?_, fun i g hi hg hs => ?_, fun b g hg hb => ?_⟩
  · by_cases e : i = n ∧ g = f
    · rw [e.1, e.2, cs_upd_s]; exact l
    · rw [cs_upd_n (ne i g hi hg e)]
      exact h7 i g hi hg (by omega)
  · rw [cs_upd_n (ne i g hi hg (by omega))]
    exact h8 i g hi hg (by omega)
  · have := hb n hn
    rw [cs_upd_n (by omega)]
    exact h9 b g hg hb
theorem cs_Ev_next (h : cs_Ev c o oe d de L0 Z F0 K0 F K fw q sr tq n 3 L) (hn : n < L) : cs_Ev c o oe d de L0 Z F0 K0 F K fw q sr tq (n + 1) 0 L := by
  obtain ⟨⟨h0, h00, h000⟩, h1, h2, h3, h4, h5, h6, h7, h8, h9⟩ := h
  exact ⟨⟨h0, by omega, Or.inr rfl⟩, h1, h2, h3, h4, h5, h6, fun i g hi hg hs => h7 i g hi hg (by omega), fun i g hi hg hs => h8 i g hi hg (by omega), h9⟩
/-- the word that is looked at next is still the source's -/
theorem cs_Ev_w (h : cs_Ev c o oe d de L0 Z F0 K0 F K fw q sr tq n f L) (hn : n < L) (hf : f < 3) : F (3 * tq n + f) = F0 (3 * sr n + f) := by
  obtain ⟨h0, h1, h2, h3, h4, h5, h6, h7, h8, h9⟩ := h
  exact h8 n f hn hf (by omega)
/-- what holds of the moving when all has been looked at -/
theorem cs_Ev_end (R : cs_rg c o oe d de) (h : cs_Ev c o oe d de L0 Z F0 K0 F K fw q sr tq L 0 L)
    (nf : ∀ b, cs_sg c b → ¬ (o ≤ b ∧ b < oe) → ¬ K0 b = 0 → (∀ i, i < L0 → tq i ≠ b) → ∀ g, g < 3 → cs_num (F0 (3 * b + g)) ∨ ∃ b', ¬ (o ≤ b' ∧ b' < oe) ∧ ¬ K0 b' = 0 ∧ cs_sg c b' ∧ F0 (3 * b + g) = nI (1000 + b'))
    {K' : Nat → Int32} (k1 : ∀ b, o ≤ b → b < oe → K' b = 0) (k2 : ∀ b, ¬ (o ≤ b ∧ b < oe) → K' b = K b) :
    (∀ b b' b'', cs_mv c o oe L0 L K0 sr tq b b' → cs_mv c o oe L0 L K0 sr tq b b'' → b' = b'') ∧ (∀ b b1 b', cs_mv c o oe L0 L K0 sr tq b b' → cs_mv c o oe L0 L K0 sr tq b1 b' → b = b1) ∧
    (∀ b b', cs_mv c o oe L0 L K0 sr tq b b' → b < 1000 ∧ 48 * c ≤ b' ∧ b' < 48 * c + 48 ∧ ¬ K' b' = 0) ∧
    (∀ b b', cs_mv c o oe L0 L K0 sr tq b b' → ∀ g, g < 3 → cs_l (cs_mv c o oe L0 L K0 sr tq) (F0 (3 * b + g)) (F (3 * b' + g))) ∧
    (∀ b', cs_sg c b' → ¬ K' b' = 0 → ¬ (o ≤ b' ∧ b' < oe) ∧ ((¬ K0 b' = 0 ∧ cs_mv c o oe L0 L K0 sr tq b' b') ∨ ∃ b, Z b ∧ cs_mv c o oe L0 L K0 sr tq b b')) := by
  obtain ⟨h0, h1, h2, h3, h4, h5, h6, h7, h8, h9⟩ := h
  obtain ⟨r0, r1, r2, r3, r4, r5, r6, r7, r8⟩ := R
  refine ⟨fun b b' b'' m m' => ?_, fun b b1 b' m m' => ?_, fun b b' m => ?_, fun b b' m g hg => ?_, fun b' hb' hk => ?_⟩
  · rcases m with ⟨m1, m2, m3, m4⟩ | ⟨i, i1, i2, i3, i4⟩ <;> rcases m' with ⟨m1', m2', m3', m4'⟩ | ⟨j, j1, j2, j3, j4⟩
    · rw [m2, m2']
    · have a := (h1 j j2).2.2.2.2.2 j1
      omega
    · have a := (h1 i i2).2.2.2.2.2 i1
      omega
    · have e := h3 i j i1 i2 j1 j2 (i3.trans j3.symm)
      rw [← i4, ← j4, e]
  · rcases m with ⟨m1, m2, m3, m4⟩ | ⟨i, i1, i2, i3, i4⟩ <;> rcases m' with ⟨m1', m2', m3', m4'⟩ | ⟨j, j1, j2, j3, j4⟩
    · rw [← m2, ← m2']
    · have a := (h1 j j2).2.2.2.2.2 j1
      rw [← m2, ← j4] at m3
      exact absurd a.2.2 m3
    · have a := (h1 i i2).2.2.2.2.2 i1
      rw [← m2', ← i4] at m3'
      exact absurd a.2.2 m3'
    · have e := h2 i j i2 j2 (i4.trans j4.symm)
      rw [← i3, ← j3, e]
  · rcases m with ⟨m1, m2, m3, m4⟩ | ⟨i, i1, i2, i3, i4⟩
    · unfold cs_sg at m4
      rw [m2]
      refine ⟨by omega, m4.1, m4.2, ?_⟩
      rw [k2 b m1]
      by_cases e : ∃ i, L0 ≤ i ∧ i < L ∧ tq i = b
      · obtain ⟨i, i1, i2, i3⟩ := e
        rw [← i3]; exact h5 i i1 i2
      · rw [h6 b (fun i i1 i2 i3 => e ⟨i, i1, i2, i3⟩)]; exact m3
    · have a := h1 i i2
      have a2 := a.2.2.2.2.2 i1
      refine ⟨by omega, by omega, by omega, ?_⟩
      rw [k2 b' (by omega), ← i4]
      exact h5 i i1 i2
  · rcases m with ⟨m1, m2, m3, m4⟩ | ⟨i, i1, i2, i3, i4⟩
    · rw [m2]
      by_cases e : ∃ i, i < L ∧ tq i = b
      · obtain ⟨i, i2, i3⟩ := e
        have a := h1 i i2
        rcases Nat.lt_or_ge i L0 with y | y
        · have a2 := (a.2.2.2.2.1 y).1
          have := h7 i g i2 hg (Or.inl i2)
          rw [a2, i3] at this
          exact this
        · have a2 := a.2.2.2.2.2 y
          rw [i3] at a2
          exact absurd a2.2.2 m3
      · rw [h9 b g hg (fun i i1 i2 => e ⟨i, i1, i2⟩)]
        rcases nf b m4 m1 m3 (fun i i1 i2 => e ⟨i, by omega, i2⟩) g hg with y | ⟨b2, y1, y2, y3, y4⟩
        · exact Or.inl ⟨y, rfl⟩
        · exact Or.inr ⟨b2, b2, Or.inl ⟨y1, rfl, y2, y3⟩, y4, y4⟩
    · rw [← i3, ← i4]
      exact h7 i g i2 hg (Or.inl i2)
  · have no : ¬ (o ≤ b' ∧ b' < oe) := fun z => hk (k1 b' z.1 z.2)
    refine ⟨no, ?_⟩
    by_cases e : ∃ i, L0 ≤ i ∧ i < L ∧ tq i = b'
    · obtain ⟨i, i1, i2, i3⟩ := e
      exact Or.inr ⟨sr i, (h1 i i2).2.1, Or.inr ⟨i, i1, i2, rfl, i3⟩⟩
    · rw [k2 b' no, h6 b' (fun i i1 i2 i3 => e ⟨i, i1, i2, i3⟩)] at hk
      exact Or.inl ⟨hk, Or.inl ⟨no, rfl, hk, hb'⟩⟩
end
end
section
/-! marking a little at a time: the pure part. Shades: 0 white, 1 grey, 2 black -/
def cs_TC (xr xf xk sh : Nat → Int32) : Prop := ∀ T : Nat → Prop, (∀ b, cs_sg 5 b → ¬ sh b = 0 → T b) → (∀ a b, cs_sg 5 a → ¬ xk a = 0 → T a → ¬ sh a = 2 → cs_E 1000 xf a b → T b) →
  (∀ b, cs_Q 1000 xr 30 0 6 b → T b) ∧ (∀ a b, cs_sg 5 a → ¬ xk a = 0 → sh a = 2 → cs_E 1000 xf a b → T b)
def cs_S5 (xk sh : Nat → Int32) : Prop := (∀ b, cs_sg 5 b → ¬ sh b = 0 → ¬ xk b = 0) ∧ (∀ b, cs_sg 5 b → sh b = 0 ∨ sh b = 1 ∨ sh b = 2)
section
variable {xr xf xk sh : Nat → Int32}
theorem cs_TC_reg (h : cs_TC xr xf xk sh) {xr' : Nat → Int32} (hr : ∀ b, cs_Q 1000 xr' 30 0 6 b → cs_Q 1000 xr 30 0 6 b ∨ (cs_sg 5 b ∧ ¬ sh b = 0) ∨ ∃ a, cs_Q 1000 xr 30 0 6 a ∧ cs_sg 5 a ∧ ¬ xk a = 0 ∧ cs_E 1000 xf a b) : cs_TC xr' xf xk sh := by
  intro T h1 h2
  obtain ⟨g1, g2⟩ := h T h1 h2
  refine ⟨fun b hb => ?_, g2⟩
  rcases hr b hb with y | ⟨y1, y2⟩ | ⟨a, y1, y2, y3, y4⟩
  · exact g1 b y
  · exact h1 b y1 y2
  · by_cases e : sh a = 2
    · exact g2 a b y2 y3 e y4
    · exact h2 a b y2 y3 (g1 a y1) e y4
/-- a field is changed: what it held is shaded, what it holds now a register refers to -/
theorem cs_TC_fld (h : cs_TC xr xf xk sh) {x f : Nat} {xf' sh' : Nat → Int32} (hf : f < 3) (h1 : ∀ j, j ≠ 3 * x + f → xf' j = xf j) (h2 : ∀ b, cs_w 1000 (xf' (3 * x + f)) b → cs_Q 1000 xr 30 0 6 b)
    (s1 : ∀ b, cs_w 1000 (xf (3 * x + f)) b → cs_sg 5 x → ¬ xk x = 0 → cs_sg 5 b ∧ ¬ sh' b = 0) (s2 : ∀ b, ¬ sh b = 0 → sh' b = sh b) (s3 : ∀ b, sh' b = 2 → sh b = 2) : cs_TC xr xf' xk sh' := by
  intro T t1 t2
  have eE : ∀ a b, cs_E 1000 xf a b → cs_E 1000 xf' a b ∨ (a = x ∧ cs_w 1000 (xf (3 * x + f)) b) := fun a b ⟨g, hg, hw⟩ => by
    by_cases e : 3 * a + g = 3 * x + f
    · exact Or.inr ⟨by omega, e ▸ hw⟩
    · exact Or.inl ⟨g, hg, by rw [h1 _ e]; exact hw⟩
  have eE' : ∀ a b, cs_E 1000 xf' a b → cs_E 1000 xf a b ∨ cs_w 1000 (xf' (3 * x + f)) b := fun a b ⟨g, hg, hw⟩ => by
    by_cases e : 3 * a + g = 3 * x + f
    · exact Or.inr (e ▸ hw)
    · exact Or.inl ⟨g, hg, by rw [h1 _ e] at hw; exact hw⟩
  obtain ⟨g1, g2⟩ := h T (fun b hb hs => t1 b hb (by rw [s2 b hs]; exact hs)) (fun a b ha hk hT hs hE => by
    rcases eE a b hE with y | ⟨y1, y2⟩
    · exact t2 a b ha hk hT (fun z => hs (s3 a z)) y
    · rw [y1] at ha hk
      have z := s1 b y2 ha hk
      exact t1 b z.1 z.2)
  refine ⟨g1, fun a b ha hk hs hE => ?_⟩
  rcases eE' a b hE with y | y
  · exact g2 a b ha hk (s3 a hs) y
  · exact g1 b (h2 b y)
/-- a grey cell becomes black and what it refers to is shaded -/
theorem cs_TC_black (h : cs_TC xr xf xk sh) {x : Nat} {sh' : Nat → Int32} (hx : sh x = 1) (s0 : ¬ sh' x = 0) (s1 : ∀ b, cs_E 1000 xf x b → cs_sg 5 b ∧ ¬ sh' b = 0) (s2 : ∀ b, ¬ sh b = 0 → ¬ sh' b = 0) (s3 : ∀ b, b ≠ x → sh' b = 2 → sh b = 2) : cs_TC xr xf xk sh' := by
  intro T t1 t2
  obtain ⟨g1, g2⟩ := h T (fun b hb hs => t1 b hb (s2 b hs)) (fun a b ha hk hT hs hE => by
    by_cases e : a = x
    · have z := s1 b (e ▸ hE)
      exact t1 b z.1 z.2
    · exact t2 a b ha hk hT (fun z => hs (s3 a e z)) hE)
  refine ⟨g1, fun a b ha hk hs hE => ?_⟩
  by_cases e : a = x
  · have z := s1 b (e ▸ hE)
    exact t1 b z.1 z.2
  · exact g2 a b ha hk (s3 a e hs) hE
theorem cs_TC_begin (h1 : ∀ b, cs_Q 1000 xr 30 0 6 b → cs_sg 5 b ∧ ¬ sh b = 0) (h2 : ∀ b, cs_sg 5 b → ¬ sh b = 2) : cs_TC xr xf xk sh := by
  intro T t1 _
  exact ⟨fun b hb => t1 b (h1 b hb).1 (h1 b hb).2, fun a b ha _ hs _ => absurd hs (h2 a ha)⟩
/-- nothing is grey: what is shaded holds all that can be come to -/
theorem cs_TC_end (h : cs_TC xr xf xk sh) (hs : cs_S5 xk sh) (hg : ∀ b, cs_sg 5 b → ¬ sh b = 1) : (∀ b, cs_Q 1000 xr 30 0 6 b → cs_sg 5 b → ¬ sh b = 0) ∧ (∀ a b, cs_sg 5 a → ¬ sh a = 0 → cs_E 1000 xf a b → cs_sg 5 b → ¬ sh b = 0) := by
  obtain ⟨g1, g2⟩ := h (fun b => cs_sg 5 b → ¬ sh b = 0) (fun b _ y _ => y) (fun a b ha _ hT hn _ _ => by
    rcases hs.2 a ha with y | y | y
    · exact absurd y (hT ha)
    · exact absurd y (hg a ha)
    · exact absurd y hn)
  refine ⟨g1, fun a b ha h0 hE => ?_⟩
  rcases hs.2 a ha with y | y | y
  · exact absurd y h0
  · exact absurd y (hg a ha)
  · exact g2 a b ha (hs.1 a ha h0) y hE
/-- a new cell, black, without references; kept cells refer to kept cells alone -/
theorem cs_TC_new (h : cs_TC xr xf xk sh) {x : Nat} {xr' xf' xk' sh' : Nat → Int32} (hx : cs_sg 5 x) (hk : xk x = 0) (hsx : sh x = 0) (hW : cs_W 5 xf xk)
    (q1 : ∀ b, cs_Q 1000 xr' 30 0 6 b → b = x ∨ (cs_Q 1000 xr 30 0 6 b)) (q0 : ∀ b, cs_Q 1000 xr 30 0 6 b → ¬ b = x)
    (f1 : ∀ b, ¬ cs_E 1000 xf' x b) (f2 : ∀ a b, cs_sg 5 a → a ≠ x → (cs_E 1000 xf' a b ↔ cs_E 1000 xf a b)) (k2 : ∀ b, cs_sg 5 b → b ≠ x → xk' b = xk b) (s1 : ¬ sh' x = 0) (s2 : ∀ b, b ≠ x → sh' b = sh b) : cs_TC xr' xf' xk' sh' := by
  intro T t1 t2
  have nE : ∀ a b, cs_sg 5 a → ¬ xk a = 0 → cs_E 1000 xf a b → b ≠ x := fun a b ha hka ⟨g, hg, hw⟩ e => by
    rcases hW a ha.1 ha.2 hka g hg with o | ⟨b', o1, o2, o3, o4⟩
    · exact cs_num_nw (by omega) (by omega) o hw
    · have eb : b = b' := cs_w_inj (B := 1000) (by omega) hw ⟨by omega, o4⟩
      exact o3 (by rw [← eb, e]; exact hk)
  obtain ⟨g1, g2⟩ := h (fun b => T b ∧ b ≠ x) (fun b hb hs => by
    have e : b ≠ x := fun e => hs (e ▸ hsx)
    exact ⟨t1 b hb (by rw [s2 b e]; exact hs), e⟩) (fun a b ha hka hT hs hE => by
    refine ⟨t2 a b ha (by rw [k2 a ha hT.2]; exact hka) hT.1 (by rw [s2 a hT.2]; exact hs) ((f2 a b ha hT.2).mpr hE), nE a b ha hka hE⟩)
  refine ⟨fun b hb => ?_, fun a b ha hka hs hE => ?_⟩
  · rcases q1 b hb with e | y
    · rw [e]; exact t1 x hx s1
    · exact (g1 b y).1
  · by_cases e : a = x
    · rw [e] at hE; exact absurd hE (f1 b)
    · rw [k2 a ha e] at hka
      rw [s2 a e] at hs
      exact (g2 a b ha hka hs ((f2 a b ha e).mp hE)).1
end
/-! marking by turning references round: the pure part -/
def cs_bk : List Nat → Int32
  | [] => 0
  | p :: _ => nI (1000 + p)
/-- the fields while the way back st stands in them -/
def cs_ov (F0 : Nat → Int32) (t : Nat → Nat) : List Nat → Nat → Int32
  | [] => F0
  | p :: st => upd (cs_ov F0 t st) (3 * p + t p) (cs_bk st)
def cs_ch (F0 : Nat → Int32) (t : Nat → Nat) : List Nat → Nat → Prop
  | [], _ => True
  | p :: st, x => t p < 3 ∧ F0 (3 * p + t p) = nI (1000 + x) ∧ cs_ch F0 t st p
def cs_sm (t : Nat → Nat) : List Nat → Nat
  | [] => 0
  | p :: st => (4 - t p) + cs_sm t st
section
variable {F0 : Nat → Int32} {t : Nat → Nat}
theorem cs_ov_t {t' : Nat → Nat} : ∀ (st : List Nat), (∀ p, p ∈ st → t' p = t p) → cs_ov F0 t' st = cs_ov F0 t st
  | [], _ => rfl
  | p :: st, h => by
    simp only [cs_ov]
    rw [cs_ov_t st (fun z hz => h z (List.mem_cons_of_mem _ hz)), h p List.mem_cons_self]
theorem cs_ch_t {t' : Nat → Nat} : ∀ (st : List Nat) (x : Nat), (∀ p, p ∈ st → t' p = t p) → cs_ch F0 t st x → cs_ch F0 t' st x
  | [], _, _, _ => trivial
  | p :: st, x, h, hc => by
    have e := h p List.mem_cons_self
    refine ⟨by rw [e]; exact hc.1, by rw [e]; exact hc.2.1, cs_ch_t st p (fun z hz => h z (List.mem_cons_of_mem _ hz)) hc.2.2⟩
theorem cs_sm_t {t' : Nat → Nat} : ∀ (st : List Nat), (∀ p, p ∈ st → t' p = t p) → cs_sm t' st = cs_sm t st
  | [], _ => rfl
  | p :: st, h => by
    simp only [cs_sm]
    rw [cs_sm_t st (fun z hz => h z (List.mem_cons_of_mem _ hz)), h p List.mem_cons_self]
theorem cs_ov_off : ∀ (st : List Nat) (x : Nat), cs_ch F0 t st x → ∀ p g, p ∉ st → g < 3 → cs_ov F0 t st (3 * p + g) = F0 (3 * p + g)
  | [], _, _, _, _, _, _ => rfl
  | z :: st, x, hc, p, g, hp, hg => by
    simp only [cs_ov]
    have n1 : p ≠ z := fun e => hp (e ▸ List.mem_cons_self)
    have h3 := hc.1
    rw [cs_upd_n (by omega)]
    exact cs_ov_off st z hc.2.2 p g (fun e => hp (List.mem_cons_of_mem _ e)) hg
end
def cs_SW (c : Nat) (F0 s0 : Nat → Int32) (Z : Nat → Prop) (F s ta : Nat → Int32) (t : Nat → Nat) (st : List Nat) (x m : Nat) : Prop :=
  F = cs_ov F0 t st ∧ cs_ch F0 t st x ∧ (x :: st).Nodup ∧ (∀ p, p ∈ x :: st → Z p ∧ ¬ s p = 0 ∧ s0 p = 0 ∧ ta p = nI (t p)) ∧ t x ≤ 3 ∧
  (∀ b, ¬ s0 b = 0 → ¬ s b = 0) ∧ (∀ b, ¬ s b = 0 → s0 b = 0 → Z b) ∧
  (∀ p g b, ¬ s p = 0 → s0 p = 0 → g < 3 → (p ∈ x :: st → g < t p) → b < 1000 → F0 (3 * p + g) = nI (1000 + b) → ¬ s b = 0) ∧
  5 * cs_n (fun i => s (48 * c + i) = 0) 48 + cs_sm t (x :: st) + m ≤ 240
section
variable {c : Nat} {F0 s0 F s ta : Nat → Int32} {Z : Nat → Prop} {t : Nat → Nat} {st : List Nat} {x m : Nat}
/-- the word that is looked at is the first one's own -/
theorem cs_SW_w (h : cs_SW c F0 s0 Z F s ta t st x m) (ht : t x < 3) : F (3 * x + t x) = F0 (3 * x + t x) := by
  obtain ⟨h1, h2, h3, _⟩ := h
  rw [h1]
  exact cs_ov_off st x h2 x (t x) (List.nodup_cons.mp h3).1 ht
theorem cs_SW_adv (h : cs_SW c F0 s0 Z F s ta t st x m) (ht : t x < 3) (hw : ∀ b, b < 1000 → F0 (3 * x + t x) = nI (1000 + b) → ¬ s b = 0) : cs_SW c F0 s0 Z F s (upd ta x (nI (t x + 1))) (cs_un t x (t x + 1)) st x (m + 1) := by
  obtain ⟨h1, h2, h3, h4, h5, h6, h7, h8, h9⟩ := h
  have nx := (List.nodup_cons.mp h3).1
  have ag : ∀ p, p ∈ st → cs_un t x (t x + 1) p = t p := fun p hp => cs_un_n (fun e => nx (e ▸ hp))
  refine ⟨by rw [cs_ov_t st ag]; exact h1, cs_ch_t st x ag h2, h3, fun p hp => ?_, by rw [cs_un_s]; omega, h6, h7, fun p g b q1 q2 q3 q4 q5 q6 => ?_, ?_⟩
  · obtain ⟨z1, z2, z3, z4⟩ := h4 p hp
    refine ⟨z1, z2, z3, ?_⟩
    by_cases e : p = x
    · rw [e, cs_upd_s, cs_un_s]
    · rw [cs_upd_n e, cs_un_n e]; exact z4
  · by_cases e : p = x
    · have g1 := q4 (by rw [e]; exact List.mem_cons_self)
      rw [e, cs_un_s] at g1
      by_cases e2 : g = t x
      · rw [e, e2] at q6; exact hw b q5 q6
      · exact h8 p g b q1 q2 q3 (fun _ => by rw [e]; omega) q5 q6
    · exact h8 p g b q1 q2 q3 (fun z => by have := q4 z; rw [cs_un_n e] at this; exact this) q5 q6
  · simp only [cs_sm] at h9 ⊢
    rw [cs_un_s, cs_sm_t st ag]
    omega
theorem cs_SW_push (hc : c < 7) (hZ : cs_Z c Z F0) (h : cs_SW c F0 s0 Z F s ta t st x m) (ht : t x < 3) {y : Nat} (hy : y < 1000) (hw : F0 (3 * x + t x) = nI (1000 + y)) (hs : s y = 0) :
    cs_SW c F0 s0 Z (upd F (3 * x + t x) (cs_bk st)) (upd s y 1) (upd ta y 0) (cs_un t y 0) (x :: st) y (m + 1) := by
  obtain ⟨h1, h2, h3, h4, h5, h6, h7, h8, h9⟩ := h
  have n1 : ¬ (1 : Int32) = 0 := by decide
  have ny : y ∉ x :: st := fun z => (h4 y z).2.1 hs
  have ag : ∀ p, p ∈ x :: st → cs_un t y 0 p = t p := fun p hp => cs_un_n (fun e => ny (e ▸ hp))
  have up : ∀ b, ¬ s b = 0 → ¬ upd s y 1 b = 0 := fun b hb => by
    by_cases e : b = y
    · rw [e, cs_upd_s]; exact n1
    · rw [cs_upd_n e]; exact hb
  have zy : Z y := by
    have zx := (h4 x List.mem_cons_self).1
    rcases (hZ x zx).2 (t x) ht with o | ⟨b', o1, o2⟩
    · exact absurd (⟨hy, hw⟩ : cs_w 1000 _ y) (cs_num_nw (by omega) (by omega) o)
    · have g := (hZ b' o1).1
      unfold cs_sg at g
      have e : y = b' := cs_w_inj (B := 1000) (w := F0 (3 * x + t x)) (by omega) ⟨hy, hw⟩ ⟨by omega, o2⟩
      rw [e]; exact o1
  have s0y : s0 y = 0 := Classical.byContradiction fun z => h6 y z hs
  have gy := (hZ y zy).1
  unfold cs_sg at gy
  refine ⟨?_, ⟨by rw [ag x List.mem_cons_self]; exact ht, by rw [ag x List.mem_cons_self]; exact hw, cs_ch_t st x (fun p hp => ag p (List.mem_cons_of_mem _ hp)) h2⟩, List.nodup_cons.mpr ⟨ny, h3⟩, fun p hp => ?_, by rw [cs_un_s]; omega, fun b hb => up b (h6 b hb), fun b hb hb0 => ?_, fun p g b q1 q2 q3 q4 q5 q6 => ?_, ?_⟩
  · simp only [cs_ov]
    rw [cs_ov_t st (fun p hp => ag p (List.mem_cons_of_mem _ hp)), ag x List.mem_cons_self, h1]
  · rcases List.mem_cons.mp hp with e | hp'
    · rw [e]; exact ⟨zy, by rw [cs_upd_s]; exact n1, s0y, by rw [cs_upd_s, cs_un_s]; rfl⟩
    · obtain ⟨z1, z2, z3, z4⟩ := h4 p hp'
      have e : p ≠ y := fun e => ny (e ▸ hp')
      exact ⟨z1, up p z2, z3, by rw [cs_upd_n e, cs_un_n e]; exact z4⟩
  · by_cases e : b = y
    · rw [e]; exact zy
    · rw [cs_upd_n e] at hb; exact h7 b hb hb0
  · by_cases e : p = y
    · have := q4 (by rw [e]; exact List.mem_cons_self)
      rw [e, cs_un_s] at this
      omega
    · rw [cs_upd_n e] at q1
      exact up b (h8 p g b q1 q2 q3 (fun z => by have := q4 (List.mem_cons_of_mem _ z); rw [cs_un_n e] at this; exact this) q5 q6)
  · have k := cs_n_rem (P := fun i => s (48 * c + i) = 0) (a := y - 48 * c) (N := 48) (by (try dsimp only); rw [show 48 * c + (y - 48 * c) = y by omega]; exact hs) (by omega)
    have k2 : cs_n (fun i => upd s y 1 (48 * c + i) = 0) 48 = cs_n (fun i => s (48 * c + i) = 0 ∧ i ≠ y - 48 * c) 48 := cs_n_eq (fun i hi => by
      by_cases e : 48 * c + i = y
      · rw [e, cs_upd_s]
        exact ⟨fun z => absurd z n1, fun z => absurd (by omega) z.2⟩
      · rw [cs_upd_n e]
        exact ⟨fun z => ⟨z, by omega⟩, fun z => z.1⟩)
    rw [k2]
    have k3 : cs_sm (cs_un t y 0) (y :: x :: st) = 4 + cs_sm t (x :: st) := by
      have := cs_sm_t (t := t) (t' := cs_un t y 0) (x :: st) ag
      show (4 - cs_un t y 0 y) + cs_sm (cs_un t y 0) (x :: st) = _
      rw [this, cs_un_s]
    rw [k3]
    omega
theorem cs_SW_pop (hc : c < 7) (hZ : cs_Z c Z F0) {p : Nat} (h : cs_SW c F0 s0 Z F s ta t (p :: st) x m) (ht : t x = 3) : F (3 * p + t p) = cs_bk st ∧ t p < 3 ∧ ta p = nI (t p) ∧ cs_SW c F0 s0 Z (upd F (3 * p + t p) (nI (1000 + x))) s (upd ta p (nI (t p + 1))) (cs_un t p (t p + 1)) st p (m + 1) := by
  obtain ⟨h1, h2, h3, h4, h5, h6, h7, h8, h9⟩ := h
  have nd := List.nodup_cons.mp h3
  have nd2 := List.nodup_cons.mp nd.2
  have pm : p ∈ x :: p :: st := List.mem_cons_of_mem _ List.mem_cons_self
  have xp : x ≠ p := fun e => nd.1 (e ▸ List.mem_cons_self)
  have ag : ∀ z, z ∈ st → cs_un t p (t p + 1) z = t z := fun z hz => cs_un_n (fun e => nd2.1 (e ▸ hz))
  have off := cs_ov_off st p h2.2.2 p (t p) nd2.1 h2.1
  refine ⟨by rw [h1]; exact cs_upd_s _ _ _, h2.1, (h4 p pm).2.2.2, ?_, cs_ch_t st p ag h2.2.2, nd.2, fun z hz => ?_, by rw [cs_un_s]; have := h2.1; omega, h6, h7, fun z g b q1 q2 q3 q4 q5 q6 => ?_, ?_⟩
  · rw [cs_ov_t st ag, h1]
    funext j
    simp only [cs_ov]
    by_cases e : j = 3 * p + t p
    · rw [e, cs_upd_s, off]; exact h2.2.1.symm
    · rw [cs_upd_n e, cs_upd_n e]
  · obtain ⟨z1, z2, z3, z4⟩ := h4 z (List.mem_cons_of_mem _ hz)
    refine ⟨z1, z2, z3, ?_⟩
    by_cases e : z = p
    · rw [e, cs_upd_s, cs_un_s]
    · rw [cs_upd_n e, cs_un_n e]; exact z4
  · by_cases e : z = p
    · have g1 := q4 (by rw [e]; exact List.mem_cons_self)
      rw [e, cs_un_s] at g1
      by_cases e2 : g = t p
      · rw [e, e2] at q6
        have e3 : 1000 + b = 1000 + x := by
          have zx := (h4 x List.mem_cons_self).1
          exact cs_nIinj (by omega) (by have g := (hZ x zx).1; unfold cs_sg at g; omega) (q6.symm.trans h2.2.1)
        have e4 : b = x := by omega
        rw [e4]; exact (h4 x List.mem_cons_self).2.1
      · exact h8 z g b q1 q2 q3 (fun _ => by rw [e]; omega) q5 q6
    · refine h8 z g b q1 q2 q3 (fun y => ?_) q5 q6
      rcases List.mem_cons.mp y with e2 | y
      · rw [e2, ht]; exact q3
      · have := q4 y
        rw [cs_un_n e] at this
        exact this
  · simp only [cs_sm] at h9 ⊢
    rw [cs_un_s, cs_sm_t st ag]
    have := h2.1
    omega
theorem cs_SW_end (h : cs_SW c F0 s0 Z F s ta t [] x m) (ht : t x = 3) : F = F0 ∧ (∀ p g b, ¬ s p = 0 → s0 p = 0 → g < 3 → b < 1000 → F0 (3 * p + g) = nI (1000 + b) → ¬ s b = 0) := by
  obtain ⟨h1, h2, h3, h4, h5, h6, h7, h8, h9⟩ := h
  refine ⟨h1, fun p g b q1 q2 q3 q4 q5 => h8 p g b q1 q2 q3 (fun z => ?_) q4 q5⟩
  rcases List.mem_cons.mp z with e | z
  · rw [e, ht]; exact q3
  · exact absurd z List.not_mem_nil
end
end
section
/-! the reference's sets of cells, and its sum: the pure part -/
def cs_B (N a : Nat) : Prop := N.testBit a = true
theorem cs_B_or {N a b : Nat} : cs_B (N ||| 2 ^ a) b ↔ cs_B N b ∨ b = a := by
  unfold cs_B
  rw [Nat.testBit_or, Nat.testBit_two_pow, Bool.or_eq_true, decide_eq_true_eq]
  exact ⟨fun h => h.imp id Eq.symm, fun h => h.imp id Eq.symm⟩
theorem cs_B_lt {N a : Nat} (h : N < 2 ^ 48) (hb : cs_B N a) : a < 48 := by
  rcases Nat.lt_or_ge a 48 with y | y
  · exact y
  · have k : N < 2 ^ a := Nat.lt_of_lt_of_le h (Nat.pow_le_pow_right (by decide) y)
    unfold cs_B at hb
    rw [Nat.testBit_lt_two_pow k] at hb
    exact absurd hb (by decide)
theorem cs_B_0 (a : Nat) : ¬ cs_B 0 a := by unfold cs_B; rw [Nat.zero_testBit]; decide
theorem cs_or_lt {N a : Nat} (h : N < 2 ^ 48) (ha : a < 48) : N ||| 2 ^ a < 2 ^ 48 := Nat.or_lt_two_pow h (Nat.pow_lt_pow_right (by decide) ha)
theorem cs_sm64 : ∀ k, k < 48 → ((lN k).toBitVec.smod 64).toNat = k := by decide +kernel
theorem cs_bit {N k : Nat} (hN : N < 2 ^ 48) (hk : k < 48) : ((lN N >>> ((nI k).toInt64 &&& 63)) &&& 1) = 1 ↔ cs_B N k := by
  rw [wb_c k (by omega), pf_shr (d := k) (cs_sm64 k hk) (by omega)]
  have h1 : N / 2 ^ k ≤ N := Nat.div_le_self _ _
  rw [wb_a1 (by omega), show (1 : Int64) = lN 1 from rfl, pk_lEQ (by omega) (by omega)]
  unfold cs_B
  rw [Nat.testBit_eq_decide_div_mod_eq, decide_eq_true_eq]
theorem cs_set {N a : Nat} (hN : N < 2 ^ 48) (ha : a < 48) : lN N ||| ((1 : Int64) <<< ((nI a).toInt64 &&& 63)) = lN (N ||| 2 ^ a) := by
  have e : (1 : Int64) <<< ((nI a).toInt64 &&& 63) = lN (1 * 2 ^ a) := wb_shl 1 (by omega)
  have k : 2 ^ a < 2 ^ 48 := Nat.pow_lt_pow_right (by decide) ha
  rw [e, Nat.one_mul, wb_or (by omega) (by omega)]
theorem cs_B_ne {M N : Nat} (hM : M < 2 ^ 48) (hN : N < 2 ^ 48) (hs : ∀ a, cs_B M a → cs_B N a) (hne : N ≠ M) : cs_n (fun a => ¬ cs_B N a) 48 < cs_n (fun a => ¬ cs_B M a) 48 := by
  have hx : ∃ a, cs_B N a ∧ ¬ cs_B M a := Classical.byContradiction fun hn => hne (Nat.eq_of_testBit_eq fun i => by
    have h1 : cs_B N i ↔ cs_B M i := ⟨fun h => Classical.byContradiction fun h2 => hn ⟨i, h, h2⟩, hs i⟩
    unfold cs_B at h1
    exact Bool.eq_iff_iff.mpr h1)
  obtain ⟨a, h1, h2⟩ := hx
  exact cs_n_lt (a := a) (fun z => z h1) h2 (fun k _ hk z => hk (hs k z)) (cs_B_lt hN h1)
/-- a word of the reference -/
def cs_yw (y : Int32) : Prop := cs_num y ∨ ∃ a, a < 48 ∧ y = nI (10000 + a)
theorem cs_yw_lt {y : Int32} (h : cs_num y) : ¬ (10000 : Int32) ≤ y := by
  rw [Int32.le_iff_toInt_le]
  have e : (10000 : Int32).toInt = 10000 := by decide
  unfold cs_num at h; omega
theorem cs_yw_ge {a : Nat} (h : a < 1000) : (10000 : Int32) ≤ nI (10000 + a) := nI_le (a := 10000) (by omega) (by omega)
theorem cs_yw_sub (a : Nat) : nI (10000 + a) - 10000 = nI a := by
  have e : nI (10000 + a) = nI a + 10000 := by rw [Nat.add_comm, ← nI_add]; rfl
  rw [e]; grind
theorem cs_yw_w {y : Int32} (h : cs_yw y) {b : Nat} (hw : cs_w 10000 y b) : b < 48 ∧ y = nI (10000 + b) := by
  rcases h with h | ⟨a, h1, h2⟩
  · exact absurd hw (cs_num_nw (by omega) (by omega) h)
  · have e : b = a := cs_w_inj (B := 10000) (by omega) hw ⟨by omega, h2⟩
    exact ⟨by omega, hw.2⟩
def cs_fI (R0 : Nat → Prop) (yf : Nat → Int32) (N : Nat) : Prop := N < 2 ^ 48 ∧ (∀ a, R0 a → cs_B N a) ∧ (∀ a, cs_B N a → cs_R R0 (cs_E 10000 yf) a)
/-- a pass that began at M has come to field c -/
def cs_ps (R0 : Nat → Prop) (yf : Nat → Int32) (M N c : Nat) : Prop := cs_fI R0 yf N ∧ (∀ a, cs_B M a → cs_B N a) ∧ (∀ j b, j < c → cs_B M (j / 3) → cs_w 10000 (yf j) b → cs_B N b)
section
variable {R0 : Nat → Prop} {yf : Nat → Int32} {M N c : Nat}
theorem cs_ps_0 (h : cs_fI R0 yf M) : cs_ps R0 yf M M 0 := ⟨h, fun _ z => z, fun j b z => by omega⟩
theorem cs_ps_on (h : cs_ps R0 yf M N c) (hc : c < 144) (hb : cs_B N (c / 3)) {b : Nat} (hb' : b < 48) (hw : yf c = nI (10000 + b)) : cs_ps R0 yf M (N ||| 2 ^ b) (c + 1) := by
  obtain ⟨⟨h1, h2, h3⟩, h4, h5⟩ := h
  refine ⟨⟨cs_or_lt h1 hb', fun a ha => cs_B_or.mpr (Or.inl (h2 a ha)), fun a ha => ?_⟩, fun a ha => cs_B_or.mpr (Or.inl (h4 a ha)), fun j b' hj hM hw' => ?_⟩
  · rcases cs_B_or.mp ha with y | y
    · exact h3 a y
    · rw [y]
      refine cs_R_s (h3 _ hb) ⟨c % 3, by omega, by omega, ?_⟩
      rw [show 3 * (c / 3) + c % 3 = c by omega]; exact hw
  · by_cases e : j = c
    · rw [e] at hw'
      have := cs_w_inj (B := 10000) (by omega) hw' ⟨by omega, hw⟩
      exact cs_B_or.mpr (Or.inr this)
    · exact cs_B_or.mpr (Or.inl (h5 j b' (by omega) hM hw'))
theorem cs_ps_off (h : cs_ps R0 yf M N c) (hn : cs_B N (c / 3) → cs_num (yf c)) : cs_ps R0 yf M N (c + 1) := by
  obtain ⟨h0, h4, h5⟩ := h
  refine ⟨h0, h4, fun j b' hj hM hw' => ?_⟩
  by_cases e : j = c
  · rw [e] at hw' hM
    exact absurd hw' (cs_num_nw (by omega) (by omega) (hn (h4 _ hM)))
  · exact h5 j b' (by omega) hM hw'
theorem cs_ps_end (h : cs_ps R0 yf N N 144) (a : Nat) : cs_B N a ↔ cs_R R0 (cs_E 10000 yf) a := by
  obtain ⟨⟨h1, h2, h3⟩, h4, h5⟩ := h
  refine ⟨h3 a, fun hR => cs_R_i (fun a => cs_B N a) h2 (fun x y _ hx hE => ?_) hR⟩
  obtain ⟨f, hf, hw⟩ := hE
  have := cs_B_lt h1 hx
  exact h5 (3 * x + f) y (by omega) (by rw [show (3 * x + f) / 3 = x by omega]; exact hx) hw
end
theorem cs_R_cg {R R' : Nat → Prop} {E E' : Nat → Nat → Prop} (h : ∀ a, R a → cs_R R' E' a) (hE : ∀ a b, cs_R R' E' a → E a b → cs_R R' E' b) {x : Nat} (hx : cs_R R E x) : cs_R R' E' x :=
  cs_R_i (cs_R R' E') h (fun a b _ ha he => hE a b ha he) hx
theorem cs_V_0 {B : Nat} {rg fl : Nat → Int32} {o p a : Nat} : ¬ cs_V B rg o p p fl a := by
  intro h
  exact cs_R_i (fun _ => False) (fun a ha => by obtain ⟨r, h1, h2, _⟩ := ha; omega) (fun _ _ _ z _ => z) h
theorem cs_V_s {rg fl : Nat → Int32} {q a : Nat} : cs_R (fun a => cs_V 10000 rg 0 0 q fl a ∨ cs_w 10000 (rg q) a) (cs_E 10000 fl) a ↔ cs_V 10000 rg 0 0 (q + 1) fl a := by
  constructor
  · refine cs_R_cg (fun a ha => ?_) (fun a b ha he => cs_R_s ha he)
    rcases ha with ha | ha
    · exact cs_R_cg (fun a ⟨r, h1, h2, h3⟩ => cs_R_b ⟨r, h1, by omega, h3⟩) (fun a b ha he => cs_R_s ha he) ha
    · exact cs_R_b ⟨q, by omega, by omega, by rw [Nat.zero_add]; exact ha⟩
  · refine cs_R_cg (fun a ⟨r, h1, h2, h3⟩ => cs_R_b ?_) (fun a b ha he => cs_R_s ha he)
    by_cases e : r = q
    · rw [Nat.zero_add, e] at h3; exact Or.inr h3
    · exact Or.inl (cs_R_b ⟨r, h1, by omega, h3⟩)
theorem cs_V_1 {rg fl : Nat → Int32} {q a : Nat} : cs_R (fun a => False ∨ cs_w 10000 (rg q) a) (cs_E 10000 fl) a ↔ cs_V 10000 rg 0 q (q + 1) fl a := by
  constructor
  · refine cs_R_cg (fun a ha => ?_) (fun a b ha he => cs_R_s ha he)
    rcases ha with ha | ha
    · exact ha.elim
    · exact cs_R_b ⟨q, by omega, by omega, by rw [Nat.zero_add]; exact ha⟩
  · refine cs_R_cg (fun a ⟨r, h1, h2, h3⟩ => cs_R_b ?_) (fun a b ha he => cs_R_s ha he)
    have e : r = q := by omega
    rw [Nat.zero_add, e] at h3; exact Or.inr h3
/-! sums of numbers -/
def cs_nv (w : Int32) : Int32 := if w < 1000 then w else 0
def cs_g (fl : Nat → Int32) (a : Nat) : Int32 := cs_nv (fl (3 * a + 0)) + cs_nv (fl (3 * a + 1)) + cs_nv (fl (3 * a + 2))
theorem cs_nv_num {w : Int32} (h : cs_num w) : cs_nv w = w := if_pos (cs_num_lt h)
theorem cs_nv_ref {B b : Nat} (h0 : 1000 ≤ B) (hB : B ≤ 10000) (h : b < 1000) : cs_nv (nI (B + b)) = 0 := if_neg (by
  rw [Int32.lt_iff_toInt_lt, nI_toInt (by omega)]
  have e : (1000 : Int32).toInt = 1000 := by decide
  omega)
theorem cs_s_3 (A : Nat → Prop) (h : Nat → Int32) : ∀ n, cs_s (fun j => A (j / 3)) h (3 * n) = cs_s A (fun a => h (3 * a + 0) + h (3 * a + 1) + h (3 * a + 2)) n
  | 0 => rfl
  | n + 1 => by
    have ih := cs_s_3 A h n
    show cs_s (fun j => A (j / 3)) h (3 * n + 1 + 1 + 1) = _
    simp only [cs_s]
    rw [ih, show (3 * n) / 3 = n by omega, show (3 * n + 1) / 3 = n by omega, show (3 * n + 1 + 1) / 3 = n by omega]
    rcases Classical.em (A n) with z | z
    · rw [cs_tt z, cs_tt z, cs_tt z, cs_tt z]
      show _ = _ + (h (3 * n) + h (3 * n + 1) + h (3 * n + 2))
      grind
    · rw [cs_tf z, cs_tf z, cs_tf z, cs_tf z]; grind
theorem cs_m_nv {c : Nat} {P : Nat → Nat → Prop} {xr xf xk yr yf : Nat → Int32} (hc : c < 7) (I : cs_I c P xr xf xk yr yf) {y x : Int32} (m : cs_m P y x) : cs_nv y = cs_nv x := by
  rcases m with ⟨_, e⟩ | ⟨a, b, h1, h2, h3⟩
  · rw [e]
  · obtain ⟨p0, p1, p2, _⟩ := I.2.2.1 a b h1
    rw [h2, h3, cs_nv_ref (by omega) (by omega) (by omega), cs_nv_ref (by omega) (by omega) (by omega)]
theorem cs_iso_s {c : Nat} {P : Nat → Nat → Prop} {xr xf xk yr yf : Nat → Int32} (hc : c < 7) (I : cs_I c P xr xf xk yr yf) {p q : Nat} (hq : q ≤ 6) : cs_s (cs_V 10000 yr 0 p q yf) (cs_g yf) 48 = cs_s (fun i => cs_V 1000 xr (6 * c) p q xf (48 * c + i)) (fun i => cs_g xf (48 * c + i)) 48 := by
  refine cs_s_bij (Q := fun a i => P a (48 * c + i)) (fun a a' b h h' => I.2.1 a a' _ h h') (fun a b b' h h' => ?_) (fun a i h => ?_) 48 _ (fun a _ hA => ?_) (fun i _ hB => ?_)
  · have := I.1 a _ _ h h'
    omega
  · unfold cs_g
    rw [cs_m_nv hc I (I.2.2.2.2 a _ h 0 (by omega)), cs_m_nv hc I (I.2.2.2.2 a _ h 1 (by omega)), cs_m_nv hc I (I.2.2.2.2 a _ h 2 (by omega))]
  · obtain ⟨b, h1, h2⟩ := cs_iso_yx hc I hq hA
    obtain ⟨_, p1, p2, _⟩ := I.2.2.1 a b h1
    have e : 48 * c + (b - 48 * c) = b := by omega
    exact ⟨b - 48 * c, by omega, by rw [e]; exact h2, by rw [e]; exact h1⟩
  · obtain ⟨a, h1, h2⟩ := cs_iso_xy hc I hq hB
    exact ⟨a, (I.2.2.1 a _ h1).1, h2, h1⟩
end
section
/-! what holds of one collector between calls -/
def cs_K1 (h : Int32) (xk : Nat → Int32) : Prop := ∃ H, h = nI H ∧ (H = 48 ∨ H = 72) ∧ ∀ b, cs_sg 1 b → ¬ xk b = 0 → H ≤ b ∧ b < H + 24
def cs_K2 (xk : Nat → Int32) : Prop := ∀ b b', 96 ≤ b' → b' < b → b < 144 → ¬ xk b = 0 → ¬ xk b' = 0
def cs_K3 (xr xf xk tl : Nat → Int32) : Prop := ∀ b, cs_sg 3 b → ¬ xk b = 0 → 0 < cs_c xr xf xk b ∧ tl b = nI (cs_c xr xf xk b)
def cs_K4 (xf xk rm : Nat → Int32) : Prop := ∀ b f b', 208 ≤ b → b < 240 → ¬ xk b = 0 → rm b = 0 → f < 3 → xf (3 * b + f) = nI (1000 + b') → b' < 1000 → ¬ (192 ≤ b' ∧ b' < 208)
def cs_K5 (m : Int32) (xr xf xk sh : Nat → Int32) : Prop := ¬ m = 0 → cs_S5 xk sh ∧ cs_TC xr xf xk sh
def cs_J (c : Nat) (h m : Int32) (xr xf xk tl rm sh yr yf : Nat → Int32) : Prop :=
  (∃ P, cs_I c P xr xf xk yr yf) ∧ cs_W c xf xk ∧ (c = 1 → cs_K1 h xk) ∧ (c = 2 → cs_K2 xk) ∧ (c = 3 → cs_K3 xr xf xk tl) ∧ (c = 4 → cs_K4 xf xk rm) ∧ (c = 5 → cs_K5 m xr xf xk sh)
/-- exact: no cell is kept that can't be come to -/
def cs_X (c : Nat) (xr xf xk yr yf : Nat → Int32) : Prop := ∃ P, cs_I c P xr xf xk yr yf ∧ ∀ b, cs_sg c b → ¬ xk b = 0 → ∃ a, cs_V 10000 yr 0 0 6 yf a ∧ P a b
def cs_Fr (c : Nat) (h m : Int32) (xr xf xk tl rm sh : Nat → Int32) (h' m' : Int32) (xr' xf' xk' tl' rm' sh' : Nat → Int32) : Prop :=
  (c ≠ 1 → h' = h) ∧ (c ≠ 5 → m' = m) ∧ (∀ j, ¬ (6 * c ≤ j ∧ j < 6 * c + 6) → xr' j = xr j) ∧ (∀ j, ¬ (144 * c ≤ j ∧ j < 144 * c + 144) → xf' j = xf j) ∧
  (∀ b, ¬ cs_sg c b → xk' b = xk b ∧ tl' b = tl b ∧ rm' b = rm b ∧ sh' b = sh b)
theorem cs_c_cg {xr xf xk xr' xf' xk' : Nat → Int32} (h1 : ∀ r, r < 6 → xr' (18 + r) = xr (18 + r)) (h2 : ∀ j, 432 ≤ j → j < 576 → xf' j = xf j) (h3 : ∀ b, cs_sg 3 b → (xk' b = 0 ↔ xk b = 0)) (b : Nat) : cs_c xr' xf' xk' b = cs_c xr xf xk b := by
  unfold cs_c
  have e1 := cs_n_eq (P := fun r => xr' (18 + r) = nI (1000 + b)) (Q := fun r => xr (18 + r) = nI (1000 + b)) (N := 6) (fun r hr => by rw [h1 r hr])
  have e2 := cs_n_eq (P := fun j => ¬ xk' (144 + j / 3) = 0 ∧ xf' (432 + j) = nI (1000 + b)) (Q := fun j => ¬ xk (144 + j / 3) = 0 ∧ xf (432 + j) = nI (1000 + b)) (N := 144) (fun j hj => by
    rw [h2 (432 + j) (by omega) (by omega), h3 (144 + j / 3) ⟨by omega, by omega⟩])
  omega
theorem cs_TC_cg {xr xf xk sh xr' xf' xk' sh' : Nat → Int32} (h : cs_TC xr xf xk sh) (h1 : ∀ r, r < 6 → xr' (30 + r) = xr (30 + r)) (h2 : ∀ j, 720 ≤ j → j < 864 → xf' j = xf j) (h3 : ∀ b, cs_sg 5 b → (xk' b = xk b)) (h4 : ∀ b, cs_sg 5 b → sh' b = sh b) : cs_TC xr' xf' xk' sh' := by
  have eE : ∀ a b, cs_sg 5 a → (cs_E 1000 xf' a b ↔ cs_E 1000 xf a b) := fun a b ha => by
    unfold cs_sg at ha
    constructor
    · intro ⟨f, hf, hw⟩
      exact ⟨f, hf, by rw [h2 _ (by omega) (by omega)] at hw; exact hw⟩
    · intro ⟨f, hf, hw⟩
      exact ⟨f, hf, by rw [h2 _ (by omega) (by omega)]; exact hw⟩
  have eQ : ∀ b, cs_Q 1000 xr' 30 0 6 b → cs_Q 1000 xr 30 0 6 b := fun b ⟨r, a1, a2, a3⟩ => ⟨r, a1, a2, by rw [h1 r a2] at a3; exact a3⟩
  intro T t1 t2
  obtain ⟨g1, g2⟩ := h T (fun b hb hs => t1 b hb (by rw [h4 b hb]; exact hs)) (fun a b ha hk hT hs hE => t2 a b ha (by rw [h3 a ha]; exact hk) hT (by rw [h4 a ha]; exact hs) ((eE a b ha).mpr hE))
  exact ⟨fun b hb => g1 b (eQ b hb), fun a b ha hk hs hE => g2 a b ha (by rw [← h3 a ha]; exact hk) (by rw [← h4 a ha]; exact hs) ((eE a b ha).mp hE)⟩
theorem cs_J_fr {c d : Nat} {h m h' m' : Int32} {xr xf xk tl rm sh xr' xf' xk' tl' rm' sh' yr yf : Nat → Int32} (hd : d ≠ c) (F : cs_Fr c h m xr xf xk tl rm sh h' m' xr' xf' xk' tl' rm' sh') (J : cs_J d h m xr xf xk tl rm sh yr yf) : cs_J d h' m' xr' xf' xk' tl' rm' sh' yr yf := by
  obtain ⟨f1, f2, f3, f4, f5⟩ := F
  obtain ⟨⟨P, I⟩, W, k1, k2, k3, k4, k5⟩ := J
  have er : ∀ r, r < 6 → xr' (6 * d + r) = xr (6 * d + r) := fun r hr => f3 _ (by omega)
  have ef : ∀ j, 144 * d ≤ j → j < 144 * d + 144 → xf' j = xf j := fun j j1 j2 => f4 _ (by omega)
  have es : ∀ b, cs_sg d b → ¬ cs_sg c b := fun b hb hc => by unfold cs_sg at hb hc; omega
  have ek : ∀ b, 48 * d ≤ b → b < 48 * d + 48 → xk' b = xk b := fun b b1 b2 => (f5 b (es b ⟨b1, b2⟩)).1
  refine ⟨⟨P, cs_I_cg I er ef ek⟩, cs_W_cg W ef ek, fun e => ?_, fun e => ?_, fun e => ?_, fun e => ?_, fun e => ?_⟩
  · obtain ⟨H, a1, a2, a3⟩ := k1 e
    exact ⟨H, by rw [f1 (by omega)]; exact a1, a2, fun b hb hk => a3 b hb (by
      subst e
      rw [← (f5 b (es b hb)).1]; exact hk)⟩
  · intro b b' h1 h2 h3 h4
    subst e
    rw [ek b' (by omega) (by omega)]
    rw [ek b (by omega) (by omega)] at h4
    exact k2 rfl b b' h1 h2 h3 h4
  · subst e
    intro b hb hk
    rw [ek b hb.1 hb.2] at hk
    have e2 := cs_c_cg (xr := xr) (xf := xf) (xk := xk) (xr' := xr') (xf' := xf') (xk' := xk') (fun r hr => er r hr) (fun j j1 j2 => ef j (by omega) (by omega)) (fun b hb => by rw [ek b hb.1 hb.2]) b
    rw [e2, (f5 b (es b hb)).2.1]
    exact k3 rfl b hb hk
  · subst e
    intro b f b' h1 h2 h3 h4 h5 h6 h7
    rw [ek b (by omega) (by omega)] at h3
    rw [(f5 b (es b ⟨by omega, by omega⟩)).2.2.1] at h4
    rw [ef _ (by omega) (by omega)] at h6
    exact k4 rfl b f b' h1 h2 h3 h4 h5 h6 h7
  · subst e
    intro hm
    rw [f2 (by omega)] at hm
    obtain ⟨a1, a2⟩ := k5 rfl hm
    refine ⟨⟨fun b hb hs => ?_, fun b hb => ?_⟩, cs_TC_cg a2 (fun r hr => er r hr) (fun j j1 j2 => ef j (by omega) (by omega)) (fun b hb => ek b hb.1 hb.2) (fun b hb => (f5 b (es b hb)).2.2.2)⟩
    · rw [(f5 b (es b hb)).2.2.2] at hs
      rw [ek b hb.1 hb.2]; exact a1.1 b hb hs
    · rw [(f5 b (es b hb)).2.2.2]; exact a1.2 b hb
theorem cs_X_n {c : Nat} {xr xf xk yr yf : Nat → Int32} (hc : c < 7) (h : cs_X c xr xf xk yr yf) : cs_n (fun i => ¬ xk (48 * c + i) = 0) 48 = cs_n (cs_V 10000 yr 0 0 6 yf) 48 := by
  obtain ⟨P, I, hx⟩ := h
  exact cs_kept_n hc I (fun b b1 b2 => hx b ⟨b1, b2⟩)
theorem cs_Fr_rfl {c : Nat} {h m : Int32} {xr xf xk tl rm sh : Nat → Int32} : cs_Fr c h m xr xf xk tl rm sh h m xr xf xk tl rm sh :=
  ⟨fun _ => rfl, fun _ => rfl, fun _ _ => rfl, fun _ _ => rfl, fun _ _ => ⟨rfl, rfl, rfl, rfl⟩⟩
theorem cs_Fr_tr {c : Nat} {h m h1 m1 h2 m2 : Int32} {xr xf xk tl rm sh xr1 xf1 xk1 tl1 rm1 sh1 xr2 xf2 xk2 tl2 rm2 sh2 : Nat → Int32} (A : cs_Fr c h m xr xf xk tl rm sh h1 m1 xr1 xf1 xk1 tl1 rm1 sh1) (B : cs_Fr c h1 m1 xr1 xf1 xk1 tl1 rm1 sh1 h2 m2 xr2 xf2 xk2 tl2 rm2 sh2) : cs_Fr c h m xr xf xk tl rm sh h2 m2 xr2 xf2 xk2 tl2 rm2 sh2 := by
  obtain ⟨a1, a2, a3, a4, a5⟩ := A
  obtain ⟨b1, b2, b3, b4, b5⟩ := B
  refine ⟨fun z => (b1 z).trans (a1 z), fun z => (b2 z).trans (a2 z), fun j z => (b3 j z).trans (a3 j z), fun j z => (b4 j z).trans (a4 j z), fun b z => ?_⟩
  have x := a5 b z
  have y := b5 b z
  exact ⟨y.1.trans x.1, y.2.1.trans x.2.1, y.2.2.1.trans x.2.2.1, y.2.2.2.trans x.2.2.2⟩
/-- the reference's words, and how many of its cells can be come to -/
def cs_Y (yr yf : Nat → Int32) : Prop := (∀ r, r < 6 → cs_yw (yr r)) ∧ (∀ j, j < 144 → cs_yw (yf j)) ∧ cs_n (cs_V 10000 yr 0 0 6 yf) 48 ≤ 24
theorem cs_Y_ch {yr yf yr' yf' : Nat → Int32} (h : cs_Y yr yf) (h1 : ∀ r, r < 6 → cs_yw (yr' r)) (h2 : ∀ j, j < 144 → cs_yw (yf' j)) (h3 : ∀ a, cs_V 10000 yr' 0 0 6 yf' a → cs_V 10000 yr 0 0 6 yf a) : cs_Y yr' yf' :=
  ⟨h1, h2, Nat.le_trans (cs_n_mono fun k _ => h3 k) h.2.2⟩
/-- a register is set to what can be come to, or to a number -/
theorem cs_V_reg {yr yf yr' : Nat → Int32} {r : Nat} (h : ∀ j, j ≠ r → yr' j = yr j) (hw : ∀ a, cs_w 10000 (yr' r) a → cs_V 10000 yr 0 0 6 yf a) {a : Nat} (ha : cs_V 10000 yr' 0 0 6 yf a) : cs_V 10000 yr 0 0 6 yf a := by
  refine cs_R_cg (fun a ⟨j, h1, h2, h3⟩ => ?_) (fun a b ha he => cs_R_s ha he) ha
  rw [Nat.zero_add] at h3
  by_cases e : j = r
  · exact hw a (e ▸ h3)
  · exact cs_R_b ⟨j, h1, h2, by rw [Nat.zero_add]; rw [h j e] at h3; exact h3⟩
theorem cs_V_fld {yr yf yf' : Nat → Int32} {k : Nat} (h : ∀ j, j ≠ k → yf' j = yf j) (hw : ∀ a, cs_w 10000 (yf' k) a → cs_V 10000 yr 0 0 6 yf a) {a : Nat} (ha : cs_V 10000 yr 0 0 6 yf' a) : cs_V 10000 yr 0 0 6 yf a := by
  refine cs_R_cg (fun a hq => cs_R_b hq) (fun a b ha ⟨f, hf, he⟩ => ?_) ha
  by_cases e : 3 * a + f = k
  · exact hw b (e ▸ he)
  · exact cs_R_s ha ⟨f, hf, by rw [h _ e] at he; exact he⟩
/-- a new cell: at most one more can be come to -/
theorem cs_V_new {yr yf yr' yf' : Nat → Int32} {r x : Nat} (hx : x < 48) (h1 : ∀ j, j ≠ r → yr' j = yr j) (h2 : yr' r = nI (10000 + x)) (h3 : ∀ f, f < 3 → yf' (3 * x + f) = 0) (h4 : ∀ j, j < 3 * x ∨ 3 * x + 3 ≤ j → yf' j = yf j) {a : Nat} (ha : cs_V 10000 yr' 0 0 6 yf' a) : cs_V 10000 yr 0 0 6 yf a ∨ a = x := by
  refine cs_R_i (fun a => cs_V 10000 yr 0 0 6 yf a ∨ a = x) (fun a ⟨j, j1, j2, j3⟩ => ?_) (fun a b _ ha ⟨f, hf, he⟩ => ?_) ha
  · rw [Nat.zero_add] at j3
    by_cases e : j = r
    · rw [e, h2] at j3
      exact Or.inr (cs_w_inj (B := 10000) (by omega) j3 ⟨by omega, rfl⟩)
    · exact Or.inl (cs_R_b ⟨j, j1, j2, by rw [Nat.zero_add]; rw [h1 j e] at j3; exact j3⟩)
  · by_cases e : a = x
    · rw [e, h3 f hf] at he
      exact absurd he (cs_num_nw (by omega) (by omega) ⟨by decide, by decide⟩)
    · rw [h4 _ (by omega)] at he
      rcases ha with ha | ha
      · exact Or.inl (cs_R_s ha ⟨f, hf, he⟩)
      · exact absurd ha e
theorem cs_Y_new {yr yf yr' yf' : Nat → Int32} {r x : Nat} (h : cs_Y yr yf) (hn : cs_n (cs_V 10000 yr 0 0 6 yf) 48 < 24) (hx : x < 48) (h1 : ∀ j, j ≠ r → yr' j = yr j) (h2 : yr' r = nI (10000 + x)) (h3 : ∀ f, f < 3 → yf' (3 * x + f) = 0) (h4 : ∀ j, j < 3 * x ∨ 3 * x + 3 ≤ j → yf' j = yf j) : cs_Y yr' yf' := by
  refine ⟨fun j hj => ?_, fun j hj => ?_, ?_⟩
  · by_cases e : j = r
    · rw [e, h2]; exact Or.inr ⟨x, hx, rfl⟩
    · rw [h1 j e]; exact h.1 j hj
  · by_cases e : 3 * x ≤ j ∧ j < 3 * x + 3
    · have := h3 (j - 3 * x) (by omega)
      rw [show 3 * x + (j - 3 * x) = j by omega] at this
      rw [this]; exact Or.inl ⟨by decide, by decide⟩
    · rw [h4 j (by omega)]; exact h.2.1 j hj
  · have k1 := cs_n_mono (P := cs_V 10000 yr' 0 0 6 yf') (Q := fun a => cs_V 10000 yr 0 0 6 yf a ∨ a = x) (N := 48) (fun a _ ha => cs_V_new hx h1 h2 h3 h4 ha)
    by_cases z : cs_V 10000 yr 0 0 6 yf x
    · have k2 := cs_n_mono (P := fun a => cs_V 10000 yr 0 0 6 yf a ∨ a = x) (Q := cs_V 10000 yr 0 0 6 yf) (N := 48) (fun a _ ha => ha.elim id (fun e => e ▸ z))
      omega
    · have k2 := cs_n_add (P := cs_V 10000 yr 0 0 6 yf) (a := x) z (N := 48) hx
      omega
/-! counting's cycles -/
def cs_kv (s K : Nat → Int32) (k b : Nat) : Int32 := if b < k ∧ s b = 0 then 0 else K b
theorem cs_kv_t {s K : Nat → Int32} {k b : Nat} (h : b < k ∧ s b = 0) : cs_kv s K k b = 0 := if_pos h
theorem cs_kv_f {s K : Nat → Int32} {k b : Nat} (h : ¬ (b < k ∧ s b = 0)) : cs_kv s K k b = K b := if_neg h
theorem cs_kv_drop {s K : Nat → Int32} {k : Nat} (h : s k = 0) : cs_kv s K (k + 1) = upd (cs_kv s K k) k 0 := by
  funext b
  by_cases e : b = k
  · rw [e, cs_upd_s]; exact cs_kv_t ⟨by omega, h⟩
  · rw [cs_upd_n e]
    by_cases z : b < k ∧ s b = 0
    · rw [cs_kv_t z, cs_kv_t ⟨by omega, z.2⟩]
    · rw [cs_kv_f z, cs_kv_f (fun y => z ⟨by omega, y.2⟩)]
theorem cs_kv_keep {s K : Nat → Int32} {k : Nat} (h : ¬ s k = 0 ∨ K k = 0) : cs_kv s K (k + 1) = cs_kv s K k := by
  funext b
  by_cases e : b = k
  · rw [cs_kv_f (b := b) (k := k) (fun y => by omega), e]
    rcases h with h | h
    · exact cs_kv_f (fun y => h y.2)
    · rw [h]
      by_cases z : k < k + 1 ∧ s k = 0
      · exact cs_kv_t z
      · rw [cs_kv_f z]; exact h
  · by_cases z : b < k ∧ s b = 0
    · rw [cs_kv_t z, cs_kv_t ⟨by omega, z.2⟩]
    · rw [cs_kv_f z, cs_kv_f (fun y => z ⟨by omega, y.2⟩)]
/-- one lowering of a count -/
theorem cs_low {xf T : Nat → Int32} {A : Nat → Nat} {Z : Nat → Prop} {x f : Nat} (hZ : ∀ b, Z b → b < 1000) (hf : f < 3) (h : ∀ b, Z b → T b = nI (A b + cs_x xf x f b)) {b0 : Nat} (hb : b0 < 1000) (hw : xf (3 * x + f) = nI (1000 + b0)) : ∀ b, Z b → upd T b0 (T b0 - 1) b = nI (A b + cs_x xf x (f + 1) b) := by
  intro b hs
  have k := cs_x_s xf (x := x) (f := f) hf b
  by_cases e : b = b0
  · have k2 : cs_b (xf (3 * x + f) = nI (1000 + b)) = 1 := cs_bt (by rw [hw, e])
    rw [k2] at k
    rw [e, cs_upd_s, ← e, h b hs, k, ← Nat.add_assoc]
    exact nI_pred _
  · have k2 : cs_b (xf (3 * x + f) = nI (1000 + b)) = 0 := cs_bf (fun z => by
      rw [hw] at z
      have := hZ b hs
      have := cs_nIinj (by omega) (by omega) z
      omega)
    rw [k2] at k
    rw [cs_upd_n e, h b hs, k, Nat.add_zero]
theorem cs_low0 {xf T : Nat → Int32} {A : Nat → Nat} {Z : Nat → Prop} {x f : Nat} (hZ : ∀ b, Z b → b < 1000) (hf : f < 3) (h : ∀ b, Z b → T b = nI (A b + cs_x xf x f b)) (hw : cs_num (xf (3 * x + f))) : ∀ b, Z b → T b = nI (A b + cs_x xf x (f + 1) b) := by
  intro b hs
  have k := cs_x_s xf (x := x) (f := f) hf b
  have k2 : cs_b (xf (3 * x + f) = nI (1000 + b)) = 0 := cs_bf (fun z => cs_num_nw (B := 1000) (b := b) (by omega) (by omega) hw ⟨hZ b hs, z⟩)
  rw [k2] at k
  rw [h b hs, k, Nat.add_zero]
/-! what calls do to one collector's invariant -/
section
variable {c : Nat} {h m : Int32} {xr xf xk tl rm sh yr yf : Nat → Int32}
/-- a register is set, in any collector but the counting one -/
theorem cs_J_reg (hc : c < 7) (h3 : c ≠ 3) (J : cs_J c h m xr xf xk tl rm sh yr yf) {r : Nat} (hr : r < 6) {y w : Int32} (hm : ∀ P, cs_I c P xr xf xk yr yf → cs_m P y w)
    (hq : ∀ b, cs_w 1000 w b → cs_Q 1000 xr (6 * c) 0 6 b ∨ ∃ a, cs_Q 1000 xr (6 * c) 0 6 a ∧ cs_E 1000 xf a b) : cs_J c h m (upd xr (6 * c + r) w) xf xk tl rm sh (upd yr r y) yf := by
  obtain ⟨⟨P, I⟩, W, k1, k2, k3, k4, k5⟩ := J
  refine ⟨⟨P, cs_I_reg I (r := r) (fun j hj => cs_upd_n hj) (fun j hj e => cs_upd_n (by omega)) (by rw [cs_upd_s, cs_upd_s]; exact hm P I)⟩, W, k1, k2, fun e => absurd e h3, k4, fun e hm' => ?_⟩
  subst e
  obtain ⟨a1, a2⟩ := k5 rfl hm'
  refine ⟨a1, cs_TC_reg a2 (fun b ⟨j, j1, j2, j3⟩ => ?_)⟩
  by_cases e : j = r
  · rw [e, show 30 + r = 6 * 5 + r by omega, cs_upd_s] at j3
    rcases hq b j3 with y | ⟨a, y1, y2⟩
    · exact Or.inl y
    · refine Or.inr (Or.inr ⟨a, y1, ?_⟩)
      obtain ⟨q, q1, q2, q3⟩ := y1
      have ok := cs_m_ok I.2.2.1 (I.2.2.2.1 q q2)
      rcases ok with o | ⟨b', o1, o2, o3, o4⟩
      · exact absurd q3 (cs_num_nw (by omega) (by omega) o)
      · have e2 : a = b' := cs_w_inj (B := 1000) (by omega) q3 ⟨by omega, o4⟩
        rw [e2] at y2 ⊢
        exact ⟨⟨o1, o2⟩, o3, y2⟩
  · exact Or.inl ⟨j, j1, j2, by rw [show 30 + j = 6 * 5 + j by omega, cs_upd_n (by omega)] at j3; exact j3⟩
end
end
section
/-! what calls do to one collector's invariant, continued -/
theorem cs_I_at {c : Nat} {P : Nat → Nat → Prop} {xr xf xk yr yf : Nat → Int32} (hc : c < 7) (I : cs_I c P xr xf xk yr yf) {r a : Nat} (hr : r < 6) (ha : a < 48) (hy : yr r = nI (10000 + a)) : ∃ b, P a b ∧ xr (6 * c + r) = nI (1000 + b) ∧ cs_sg c b ∧ ¬ xk b = 0 := by
  obtain ⟨b, h1, h2⟩ := cs_m_y hc I (I.2.2.2.1 r hr) (a := a) ⟨by omega, hy⟩
  obtain ⟨_, p1, p2, p3⟩ := I.2.2.1 a b h1
  exact ⟨b, h1, h2.2, ⟨p1, p2⟩, p3⟩
theorem cs_I_num {c : Nat} {P : Nat → Nat → Prop} {xr xf xk yr yf : Nat → Int32} (hc : c < 7) (I : cs_I c P xr xf xk yr yf) {y x : Int32} (m : cs_m P y x) (hy : cs_num y) : x = y := by
  rcases m with ⟨_, e⟩ | ⟨a, b, h1, h2, h3⟩
  · exact e
  · have := (I.2.2.1 a b h1).1
    exact absurd (⟨by omega, h2⟩ : cs_w 10000 y a) (cs_num_nw (by omega) (by omega) hy)
theorem cs_J_at {c : Nat} {h m : Int32} {xr xf xk tl rm sh yr yf : Nat → Int32} (hc : c < 7) (J : cs_J c h m xr xf xk tl rm sh yr yf) {r a : Nat} (hr : r < 6) (ha : a < 48) (hy : yr r = nI (10000 + a)) : ∃ b, xr (6 * c + r) = nI (1000 + b) ∧ cs_sg c b ∧ ¬ xk b = 0 := by
  obtain ⟨⟨P, I⟩, _⟩ := J
  obtain ⟨b, _, h2, h3, h4⟩ := cs_I_at hc I hr ha hy
  exact ⟨b, h2, h3, h4⟩
theorem cs_J_num {c : Nat} {h m : Int32} {xr xf xk tl rm sh yr yf : Nat → Int32} (hc : c < 7) (J : cs_J c h m xr xf xk tl rm sh yr yf) {r : Nat} (hr : r < 6) (hy : cs_num (yr r)) : xr (6 * c + r) = yr r := by
  obtain ⟨⟨P, I⟩, _⟩ := J
  exact cs_I_num hc I (I.2.2.2.1 r hr) hy
theorem cs_J_ok {c : Nat} {h m : Int32} {xr xf xk tl rm sh yr yf : Nat → Int32} (J : cs_J c h m xr xf xk tl rm sh yr yf) {r : Nat} (hr : r < 6) : cs_ok c xk (xr (6 * c + r)) := by
  obtain ⟨⟨P, I⟩, _⟩ := J
  exact cs_m_ok I.2.2.1 (I.2.2.2.1 r hr)
section
variable {c : Nat} {h m : Int32} {xr xf xk tl rm sh yr yf : Nat → Int32}
/-- a field is set, in any collector but the counting one -/
theorem cs_J_fld (hc : c < 7) (h3 : c ≠ 3) (J : cs_J c h m xr xf xk tl rm sh yr yf) {r s f a x : Nat} (hr : r < 6) (hs : s < 6) (hf : f < 3) (ha : a < 48) (hy : yr r = nI (10000 + a)) (hx : x < 1000) (hxr : xr (6 * c + r) = nI (1000 + x)) {rm' sh' : Nat → Int32}
    (r1 : ∀ b, b ≠ x → rm' b = rm b) (r2 : rm' x = 0 → rm x = 0) (r3 : c = 4 → 208 ≤ x → x < 240 → ∀ b', b' < 1000 → xr (6 * c + s) = nI (1000 + b') → 192 ≤ b' → b' < 208 → ¬ rm' x = 0)
    (s0 : c = 5 → ¬ m = 0 → ∀ b, cs_sg 5 b → sh' b = 0 ∨ sh' b = 1 ∨ sh' b = 2) (s1 : c = 5 → ¬ m = 0 → ∀ b, cs_w 1000 (xf (3 * x + f)) b → ¬ sh' b = 0) (s2 : ∀ b, ¬ sh b = 0 → sh' b = sh b) (s3 : ∀ b, sh' b = 2 → sh b = 2) (s4 : ∀ b, ¬ sh' b = 0 → sh b = 0 → cs_w 1000 (xf (3 * x + f)) b) :
    cs_J c h m xr (upd xf (3 * x + f) (xr (6 * c + s))) xk tl rm' sh' yr (upd yf (3 * a + f) (yr s)) := by
  obtain ⟨⟨P, I⟩, W, k1, k2, k3, k4, k5⟩ := J
  obtain ⟨b, p1, p2, p3, p4⟩ := cs_I_at hc I hr ha hy
  have p5 := p3
  unfold cs_sg at p5
  have eb : x = b := by
    have := cs_nIinj (by omega) (by omega) (hxr.symm.trans p2)
    omega
  subst eb
  have okw := cs_m_ok I.2.2.1 (I.2.2.2.1 s hs)
  have W' : cs_W c (upd xf (3 * x + f) (xr (6 * c + s))) xk := cs_W_fld W (b := x) (f := f) (fun j hj => cs_upd_n hj) (by rw [cs_upd_s]; exact okw)
  refine ⟨⟨P, cs_I_fld I p1 hf (fun j hj => cs_upd_n hj) (fun j hj => cs_upd_n hj) (by rw [cs_upd_s, cs_upd_s]; exact I.2.2.2.1 s hs)⟩, W', k1, k2, fun e => absurd e h3, fun e => ?_, fun e hm => ?_⟩
  · subst e
    intro b g b' h1 h2 h3' h4 hg hw hb' hyo
    by_cases e : 3 * b + g = 3 * x + f
    · have eb : b = x := by omega
      rw [e, cs_upd_s] at hw
      exact r3 rfl (by omega) (by omega) b' hb' hw hyo.1 hyo.2 (eb ▸ h4)
    · rw [cs_upd_n e] at hw
      refine k4 rfl b g b' h1 h2 h3' ?_ hg hw hb' hyo
      by_cases eb : b = x
      · rw [eb]; exact r2 (eb ▸ h4)
      · rw [← r1 b eb]; exact h4
  · subst e
    obtain ⟨a1, a2⟩ := k5 rfl hm
    have tgt : ∀ b, cs_w 1000 (xf (3 * x + f)) b → cs_sg 5 b ∧ ¬ xk b = 0 := fun b hb => by
      rcases W x p3.1 p3.2 p4 f hf with o | ⟨b', o1, o2, o3, o4⟩
      · exact absurd hb (cs_num_nw (by omega) (by omega) o)
      · have e2 : b = b' := cs_w_inj (B := 1000) (by omega) hb ⟨by omega, o4⟩
        rw [e2]; exact ⟨⟨o1, o2⟩, o3⟩
    refine ⟨⟨fun b hb hs' => ?_, s0 rfl hm⟩, cs_TC_fld a2 (x := x) (f := f) hf (fun j hj => cs_upd_n hj) (fun b hb => ⟨s, by omega, hs, by rw [cs_upd_s] at hb; exact hb⟩) (fun b hb _ _ => ⟨(tgt b hb).1, s1 rfl hm b hb⟩) s2 s3⟩
    by_cases e : sh b = 0
    · exact (tgt b (s4 b hs' e)).2
    · exact a1.1 b hb e
/-- a new cell, in any collector but the counting one -/
theorem cs_J_new (hc : c < 7) (h3 : c ≠ 3) (J : cs_J c h m xr xf xk tl rm sh yr yf) {r a0 b0 : Nat} (hr : r < 6) (ha : a0 < 48) (hn : ¬ cs_V 10000 yr 0 0 6 yf a0) (hb : cs_sg c b0) (hk : xk b0 = 0) {xr' xf' xk' tl' rm' sh' yf' : Nat → Int32}
    (n1 : c = 1 → ∀ H, h = nI H → H < 1000 → H ≤ b0 ∧ b0 < H + 24) (n2 : c = 2 → ∀ b, 96 ≤ b → b < b0 → ¬ xk b = 0) (n4 : c = 4 → b0 < 208)
    (y3 : ∀ f, f < 3 → yf' (3 * a0 + f) = 0) (y4 : ∀ j, j < 3 * a0 ∨ 3 * a0 + 3 ≤ j → yf' j = yf j)
    (x0 : xr' = upd xr (6 * c + r) (nI (1000 + b0))) (x3 : ∀ f, f < 3 → xf' (3 * b0 + f) = 0) (x4 : ∀ b f, b ≠ b0 → f < 3 → xf' (3 * b + f) = xf (3 * b + f)) (x5 : ¬ xk' b0 = 0) (x6 : ∀ b, b ≠ b0 → xk' b = xk b)
    (r1 : ∀ b, b ≠ b0 → rm' b = rm b) (s1 : ¬ m = 0 → sh' b0 = 2) (s2 : ∀ b, b ≠ b0 → sh' b = sh b) : cs_J c h m xr' xf' xk' tl' rm' sh' (upd yr r (nI (10000 + a0))) yf' := by
  obtain ⟨⟨P, I⟩, W, k1, k2, k3, k4, k5⟩ := J
  have hb2 := hb
  unfold cs_sg at hb2
  subst x0
  have I' := cs_I_new hc I (r := r) (xr' := upd xr (6 * c + r) (nI (1000 + b0))) (xf' := xf') (xk' := xk') (yr' := upd yr r (nI (10000 + a0))) (yf' := yf') ha hn hb.1 hb.2 hk hr (fun j hj => cs_upd_n hj) (cs_upd_s _ _ _) y3 y4 (fun j hj e => cs_upd_n (by omega)) (cs_upd_s _ _ _) x3 (fun b f _ _ hb hf => x4 b f hb hf) x5 (fun b _ _ hb => x6 b hb)
  have W' : cs_W c xf' xk' := cs_W_new W hk x3 (fun b f _ _ hb hf => x4 b f hb hf) (fun b _ _ hb => x6 b hb)
  have nq : ∀ j, j < 6 → ¬ xr (6 * c + j) = nI (1000 + b0) := fun j hj e => by
    rcases cs_m_ok I.2.2.1 (I.2.2.2.1 j hj) with o | ⟨b', o1, o2, o3, o4⟩
    · exact cs_num_nw (B := 1000) (b := b0) (by omega) (by omega) o ⟨by omega, e⟩
    · have e2 : b0 = b' := cs_w_inj (B := 1000) (w := xr (6 * c + j)) (by omega) ⟨by omega, e⟩ ⟨by omega, o4⟩
      exact o3 (e2 ▸ hk)
  refine ⟨I', W', fun e => ?_, fun e => ?_, fun e => absurd e h3, fun e => ?_, fun e hm => ?_⟩
  · obtain ⟨H, a1, a2, a3⟩ := k1 e
    subst e
    refine ⟨H, a1, a2, fun b hb' hk' => ?_⟩
    by_cases eb : b = b0
    · rw [eb]; exact n1 rfl H a1 (by omega)
    · rw [x6 b eb] at hk'
      exact a3 b hb' hk'
  · intro b b' h1 h2 h3' h4
    subst e
    by_cases eb : b' = b0
    · rw [eb]; exact x5
    · rw [x6 b' eb]
      by_cases eb2 : b = b0
      · exact n2 rfl b' h1 (by omega)
      · rw [x6 b eb2] at h4
        exact k2 rfl b b' h1 h2 h3' h4
  · subst e
    have b0lt := n4 rfl
    intro b g b' h1 h2 h3' h4 hg hw hb' hyo
    have eb : b ≠ b0 := by omega
    rw [x6 b eb] at h3'
    rw [r1 b eb] at h4
    rw [x4 b g eb hg] at hw
    exact k4 rfl b g b' h1 h2 h3' h4 hg hw hb' hyo
  · subst e
    obtain ⟨a1, a2⟩ := k5 rfl hm
    have sb0 : sh b0 = 0 := Classical.byContradiction fun z => a1.1 b0 hb z hk
    have two : ¬ (2 : Int32) = 0 := by decide
    refine ⟨⟨fun b hb' hs' => ?_, fun b hb' => ?_⟩, cs_TC_new a2 (x := b0) hb hk sb0 W (fun b ⟨j, j1, j2, j3⟩ => ?_) (fun b ⟨j, j1, j2, j3⟩ e => ?_) (fun b ⟨f, hf, hw⟩ => ?_) (fun a b ha' hne => ?_) (fun b _ hb' => x6 b hb') (by rw [s1 hm]; exact two) s2⟩
    · by_cases eb : b = b0
      · rw [eb]; exact x5
      · rw [x6 b eb]
        rw [s2 b eb] at hs'
        exact a1.1 b hb' hs'
    · by_cases eb : b = b0
      · rw [eb]; exact Or.inr (Or.inr (s1 hm))
      · rw [s2 b eb]; exact a1.2 b hb'
    · by_cases e : j = r
      · rw [e, show 30 + r = 6 * 5 + r by omega, cs_upd_s] at j3
        exact Or.inl (cs_w_inj (B := 1000) (by omega) j3 ⟨by omega, rfl⟩)
      · rw [show 30 + j = 6 * 5 + j by omega, cs_upd_n (by omega)] at j3
        exact Or.inr ⟨j, j1, j2, j3⟩
    · rw [e] at j3
      exact nq j j2 j3.2
    · rw [x3 f hf] at hw
      exact cs_num_nw (B := 1000) (b := b) (by omega) (by omega) ⟨by decide, by decide⟩ hw
    · constructor
      · intro ⟨f, hf, hw⟩
        exact ⟨f, hf, by rw [x4 a f hne hf] at hw; exact hw⟩
      · intro ⟨f, hf, hw⟩
        exact ⟨f, hf, by rw [x4 a f hne hf]; exact hw⟩
/-- nothing is kept but what can be come to -/
theorem cs_sweep {P : Nat → Nat → Prop} (hc : c < 7) (I : cs_I c P xr xf xk yr yf) {xk' : Nat → Int32} (hk : ∀ b, cs_sg c b → (¬ xk' b = 0 ↔ cs_V 1000 xr (6 * c) 0 6 xf b)) : cs_X c xr xf xk' yr yf ∧ cs_W c xf xk' := by
  have ok : ∀ {y x : Int32}, cs_m P y x → (∀ b, cs_w 1000 x b → cs_V 1000 xr (6 * c) 0 6 xf b) → cs_ok c xk' x := by
    intro y x m hv
    rcases m with ⟨m, e⟩ | ⟨a, b, h1, h2, h3⟩
    · exact Or.inl (e ▸ m)
    · obtain ⟨p0, p1, p2, p3⟩ := I.2.2.1 a b h1
      exact Or.inr ⟨b, p1, p2, (hk b ⟨p1, p2⟩).mpr (hv b ⟨by omega, h3⟩), h3⟩
  have W' : cs_W c xf xk' := fun b b1 b2 b3 f hf => by
    have v := (hk b ⟨b1, b2⟩).mp b3
    obtain ⟨a, h1, _⟩ := cs_iso_xy hc I (by omega) v
    exact ok (I.2.2.2.2 a b h1 f hf) (fun b' hw => cs_R_s v ⟨f, hf, hw⟩)
  refine ⟨⟨_, cs_I_sub hc I (xk' := xk') (fun r hr => ok (I.2.2.2.1 r hr) (fun b hw => cs_R_b ⟨r, by omega, hr, hw⟩)) W', fun b hb hb' => ?_⟩, W'⟩
  obtain ⟨a, h1, h2⟩ := cs_iso_xy hc I (by omega) ((hk b hb).mp hb')
  exact ⟨a, h2, h1, hb'⟩
end
/-! counting: from the invariant to lowering counts and back -/
section
variable {xr xf xk tl tl' q : Nat → Int32}
theorem cs_D_reg (W : cs_W 3 xf xk) (ok : ∀ r, r < 6 → cs_ok 3 xk (xr (18 + r))) {r : Nat} (hr : r < 6) {w : Int32} (okw : cs_ok 3 xk w) (K : ∀ b, cs_sg 3 b → ¬ xk b = 0 → tl b = nI (cs_c xr xf xk b) ∧ (0 < cs_c xr xf xk b ∨ w = nI (1000 + b)))
    (ht : ∀ b, cs_sg 3 b → tl' b = tl b + nI (cs_b (w = nI (1000 + b)))) : cs_D (upd xr (18 + r) w) xf xk tl' q (fun b => cs_b (xr (18 + r) = nI (1000 + b))) 0 0 := by
  have e : ∀ b, cs_c (upd xr (18 + r) w) xf xk b + cs_b (xr (18 + r) = nI (1000 + b)) = cs_c xr xf xk b + cs_b (w = nI (1000 + b)) := fun b => by
    have k := cs_c_reg (xr := xr) (xr' := upd xr (18 + r) w) (xf := xf) (xk := xk) hr (fun j _ hj => cs_upd_n (by omega)) b
    rw [cs_upd_s] at k
    exact k
  refine ⟨Nat.le_refl _, W, fun j hj => ?_, fun b hb hk => ?_, fun b hb hk => ?_, fun i hi => by omega, fun i j hi => by omega⟩
  · by_cases ej : j = r
    · rw [ej, cs_upd_s]; exact okw
    · rw [cs_upd_n (by omega)]; exact ok j hj
  · rw [ht b hb, (K b hb hk).1, nI_add]
    try dsimp only
    rw [e b]
  · try dsimp only
    rw [e b]
    constructor
    · intro z
      rcases (K b hb hk).2 with y | y
      · omega
      · rw [cs_bt y] at z; omega
    · intro ⟨i, i1, i2, _⟩; omega
theorem cs_D_fld (W : cs_W 3 xf xk) (ok : ∀ r, r < 6 → cs_ok 3 xk (xr (18 + r))) {x f : Nat} (hx : cs_sg 3 x) (hkx : ¬ xk x = 0) (hf : f < 3) {w : Int32} (okw : cs_ok 3 xk w) (K : cs_K3 xr xf xk tl)
    (ht : ∀ b, cs_sg 3 b → tl' b = tl b + nI (cs_b (w = nI (1000 + b)))) : cs_D xr (upd xf (3 * x + f) w) xk tl' q (fun b => cs_b (xf (3 * x + f) = nI (1000 + b))) 0 0 := by
  have e : ∀ b, cs_c xr (upd xf (3 * x + f) w) xk b + cs_b (xf (3 * x + f) = nI (1000 + b)) = cs_c xr xf xk b + cs_b (w = nI (1000 + b)) := fun b => by
    have k := cs_c_fld (xr := xr) (xf := xf) (xf' := upd xf (3 * x + f) w) (xk := xk) hx hf hkx (fun j hj => cs_upd_n hj) b
    rw [cs_upd_s] at k
    exact k
  refine ⟨Nat.le_refl _, cs_W_fld W (fun j hj => cs_upd_n hj) (by rw [cs_upd_s]; exact okw), ok, fun b hb hk => ?_, fun b hb hk => ?_, fun i hi => by omega, fun i j hi => by omega⟩
  · rw [ht b hb, (K b hb hk).2, nI_add]
    try dsimp only
    rw [e b]
  · try dsimp only
    rw [e b]
    constructor
    · intro z
      have := (K b hb hk).1
      omega
    · intro ⟨i, i1, i2, _⟩; omega
theorem cs_D_fin {L : Nat} (h : cs_D xr xf xk tl q (fun _ => 0) L L) : cs_W 3 xf xk ∧ (∀ r, r < 6 → cs_ok 3 xk (xr (18 + r))) ∧ cs_K3 xr xf xk tl := by
  obtain ⟨h0, h1, h2, h3, h4, h5, h6⟩ := h
  refine ⟨h1, h2, fun b hb hk => ⟨?_, h3 b hb hk⟩⟩
  rcases Nat.eq_zero_or_pos (cs_c xr xf xk b) with z | z
  · obtain ⟨i, i1, i2, _⟩ := (h4 b hb hk).mp z
    omega
  · exact z
end
/-! moving: from the end of the moving to the invariant -/
theorem cs_l_ok {c : Nat} {M : Nat → Nat → Prop} {xk' : Nat → Int32} (m3 : ∀ b b', M b b' → b < 1000 ∧ 48 * c ≤ b' ∧ b' < 48 * c + 48 ∧ ¬ xk' b' = 0) {w w' : Int32} (l : cs_l M w w') : cs_ok c xk' w' := by
  rcases l with ⟨l1, l2⟩ | ⟨b, b', l1, l2, l3⟩
  · exact Or.inl (l2 ▸ l1)
  · obtain ⟨_, a1, a2, a3⟩ := m3 b b' l1
    exact Or.inr ⟨b', a1, a2, a3, l3⟩
theorem cs_mv_J {c : Nat} {P : Nat → Nat → Prop} {xr xf xk yr yf xr' xf' xk' : Nat → Int32} (hc : c < 7) (I : cs_I c P xr xf xk yr yf) {M : Nat → Nat → Prop} (m1 : ∀ b b' b'', M b b' → M b b'' → b' = b'') (m2 : ∀ b b1 b', M b b' → M b1 b' → b = b1)
    (m3 : ∀ b b', M b b' → b < 1000 ∧ 48 * c ≤ b' ∧ b' < 48 * c + 48 ∧ ¬ xk' b' = 0) (hr : ∀ r, r < 6 → cs_l M (xr (6 * c + r)) (xr' (6 * c + r))) (hf : ∀ b b', M b b' → ∀ f, f < 3 → cs_l M (xf (3 * b + f)) (xf' (3 * b' + f)))
    (on : ∀ b', cs_sg c b' → ¬ xk' b' = 0 → ∃ b, M b b') : (∃ P', cs_I c P' xr' xf' xk' yr yf) ∧ cs_W c xf' xk' ∧ ((∀ b b', M b b' → cs_V 1000 xr (6 * c) 0 6 xf b) → cs_X c xr' xf' xk' yr yf) := by
  have I' := cs_I_mv hc I m1 m2 m3 hr hf
  refine ⟨⟨_, I'⟩, fun b' b1 b2 b3 f hf' => ?_, fun hv => ⟨_, I', fun b' hb hk => ?_⟩⟩
  · obtain ⟨b, hb⟩ := on b' ⟨b1, b2⟩ b3
    exact cs_l_ok m3 (hf b b' hb f hf')
  · obtain ⟨b, hm⟩ := on b' hb hk
    obtain ⟨a, a1, a2⟩ := cs_iso_xy hc I (by omega) (hv b b' hm)
    exact ⟨a, a2, b, a1, hm⟩
end
section
/-! indices -/
theorem cs_i3 (b f : Nat) : nI b * 3 + nI f = nI (3 * b + f) := by
  rw [show (3 : Int32) = nI 3 from rfl, pk_mul, nI_add, Nat.mul_comm]
theorem cs_i6 (c r : Nat) : nI c * 6 + nI r = nI (6 * c + r) := by
  rw [show (6 : Int32) = nI 6 from rfl, pk_mul, nI_add, Nat.mul_comm]
theorem cs_i48 (c : Nat) : nI c * 48 = nI (48 * c) := by
  rw [show (48 : Int32) = nI 48 from rfl, pk_mul, Nat.mul_comm]
theorem cs_i48s (c : Nat) : (nI c + 1) * 48 = nI (48 * c + 48) := by
  rw [nI_1, cs_i48, Nat.mul_add]
theorem cs_nb0 : vp_nar .boolean 0 = 0 := by decide
theorem cs_nb1 : vp_nar .boolean 1 = 1 := by decide
theorem cs_n10 : ¬ (1 : Int32) = 0 := by decide
theorem cs_nIm1 {z : Nat} (hz : z < 2 ^ 31) : ¬ nI z = -1 := fun e => by
  have h : (nI z).toInt = (-1 : Int32).toInt := by rw [e]
  rw [nI_toInt hz] at h
  have e : (-1 : Int32).toInt = -1 := by decide
  omega
/-- a number less REFERENCE is below every cell -/
theorem cs_num_sub {w : Int32} (h : cs_num w) {o : Nat} (ho : o < 1000) : w - 1000 < nI o := by
  rw [Int32.lt_iff_toInt_lt, nI_toInt (by omega), Int32.toInt_sub]
  have e : (1000 : Int32).toInt = 1000 := by decide
  rw [e]
  unfold cs_num at h
  have : (w.toInt - 1000).bmod (2 ^ 32) = w.toInt - 1000 := Int.bmod_eq_of_le (by omega) (by omega)
  rw [this]; omega
/-! steps of the queue -/
section
variable {c : Nat} {Z S0 : Nat → Prop} {s q xf : Nat → Int32} {L : Nat}
theorem cs_F_S0 {S1 : Nat → Prop} (h : cs_F c Z S0 s q L) (h1 : ∀ b, S0 b → S1 b) (h2 : ∀ b, S1 b → ¬ s b = 0) : cs_F c Z S1 s q L := by
  obtain ⟨a1, a2, a3, a4, a5⟩ := h
  exact ⟨a1, a2, a3, h2, fun b hb hs => (a5 b hb hs).imp (h1 b) id⟩
theorem cs_F_mark (h : cs_F c Z S0 s q L) (x : Nat) : cs_F c Z (fun b => S0 b ∨ b = x) (upd s x 1) q L := by
  obtain ⟨a1, a2, a3, a4, a5⟩ := h
  have up : ∀ b, ¬ s b = 0 → ¬ upd s x 1 b = 0 := fun b hb => by
    by_cases e : b = x
    · rw [e, cs_upd_s]; exact cs_n10
    · rw [cs_upd_n e]; exact hb
  refine ⟨a1, fun i hi => ?_, a3, fun b hb => ?_, fun b hb hs => ?_⟩
  · obtain ⟨b, b1, b2, b3⟩ := a2 i hi
    exact ⟨b, b1, b2, up b b3⟩
  · rcases hb with hb | hb
    · exact up b (a4 b hb)
    · rw [hb, cs_upd_s]; exact cs_n10
  · by_cases e : b = x
    · exact Or.inl (Or.inr e)
    · rw [cs_upd_n e] at hs
      exact (a5 b hb hs).imp Or.inl id
theorem cs_F_nil {s : Nat → Int32} (h : ∀ b, cs_sg c b → s b = 0) : cs_F c Z (fun _ => False) s q 0 :=
  ⟨by omega, fun i hi => by omega, fun i j hi => by omega, fun b hb => hb.elim, fun b hb hs => absurd (h b hb) hs⟩
theorem cs_F_q (hc : c < 7) (hZ : cs_Z c Z xf) (h : cs_F c Z S0 s q L) {i : Nat} (hi : i < L) : ∃ b, Z b ∧ q i = nI b ∧ cs_sg c b ∧ b < 336 := by
  obtain ⟨b, b1, b2, _⟩ := h.2.1 i hi
  have g := (hZ b b1).1
  have g2 := g
  unfold cs_sg at g2
  exact ⟨b, b1, b2, g, by omega⟩
theorem cs_Z_w (hc : c < 7) (hZ : cs_Z c Z xf) {w : Int32} (hw : cs_num w ∨ ∃ b, Z b ∧ w = nI (1000 + b)) : (w < 1000 ∧ cs_num w) ∨ ∃ b, Z b ∧ w = nI (1000 + b) ∧ cs_sg c b ∧ b < 336 := by
  rcases hw with hw | ⟨b, b1, b2⟩
  · exact Or.inl ⟨cs_num_lt hw, hw⟩
  · have g := (hZ b b1).1
    have g2 := g
    unfold cs_sg at g2
    exact Or.inr ⟨b, b1, b2, g, by omega⟩
/-- the sum over the queue is the sum over the set -/
theorem cs_sum_q (hc : c < 7) (hZ : cs_Z c Z xf) (h : cs_F c Z (fun _ => False) s q L) (hs : ∀ b, cs_sg c b → (¬ s b = 0 ↔ Z b)) (g : Nat → Int32) : cs_s (fun _ => True) (fun i => g (q i).toNatClampNeg) L = cs_s (fun i => Z (48 * c + i)) (fun i => g (48 * c + i)) 48 := by
  refine cs_s_bij (Q := fun i k => i < L ∧ k < 48 ∧ q i = nI (48 * c + k)) (fun a a' b h1 h2 => h.2.2.1 a a' h1.1 h2.1 (h1.2.2.trans h2.2.2.symm)) (fun a b b' h1 h2 => ?_) (fun a b h1 => ?_) L _ (fun a ha _ => ?_) (fun k hk hZk => ?_)
  · have := cs_nIinj (by omega) (by omega) (h1.2.2.symm.trans h2.2.2)
    omega
  · try dsimp only
    rw [h1.2.2, nI_clamp (by omega)]
  · obtain ⟨b, b1, b2, b3, b4⟩ := cs_F_q hc hZ h ha
    unfold cs_sg at b3
    have e : 48 * c + (b - 48 * c) = b := by omega
    exact ⟨b - 48 * c, by omega, by rw [e]; exact b1, ha, by omega, by rw [e]; exact b2⟩
  · have hb : cs_sg c (48 * c + k) := ⟨by omega, by omega⟩
    rcases h.2.2.2.2 _ hb ((hs _ hb).mpr hZk) with z | ⟨i, i1, i2⟩
    · exact z.elim
    · exact ⟨i, i1, trivial, i1, hk, i2⟩
end
/-! a word is moved -/
section
variable {c o oe d de L0 : Nat} {Z : Nat → Prop} {F0 K0 F K fw q : Nat → Int32} {sr tq : Nat → Nat} {n f L : Nat}
theorem cs_Ev_out (hZ : ∀ b, Z b → cs_sg c b ∧ ¬ K0 b = 0) {b : Nat} (hb : Z b) (ho : ¬ (o ≤ b ∧ b < oe)) : cs_l (cs_mv c o oe L0 L K0 sr tq) (nI (1000 + b)) (nI (1000 + b)) :=
  Or.inr ⟨b, b, Or.inl ⟨ho, rfl, (hZ b hb).2, (hZ b hb).1⟩, rfl, rfl⟩
theorem cs_Ev_old (R : cs_rg c o oe d de) (h : cs_Ev c o oe d de L0 Z F0 K0 F K fw q sr tq n f L) {b : Nat} (b1 : o ≤ b) (b2 : b < oe) (hf : ¬ fw b = -1) : ∃ t, fw b = nI t ∧ t < 336 ∧ cs_l (cs_mv c o oe L0 L K0 sr tq) (nI (1000 + b)) (nI (1000 + t)) := by
  obtain ⟨h0, h1, h2, h3, h4, h5, h6, h7, h8, h9⟩ := h
  obtain ⟨r0, r1, r2, r3, r4, r5, r6, r7, r8⟩ := R
  rcases h4 b b1 b2 with y | ⟨i, i1, i2, i3, i4⟩
  · exact absurd y.1 hf
  · have a := h1 i i2
    exact ⟨tq i, i4, by omega, Or.inr ⟨b, tq i, Or.inr ⟨i, i1, i2, i3, rfl⟩, rfl, rfl⟩⟩
theorem cs_Ev_fresh {b t : Nat} (h0 : L0 ≤ L) : cs_l (cs_mv c o oe L0 (L + 1) K0 (cs_un sr L b) (cs_un tq L t)) (nI (1000 + b)) (nI (1000 + t)) :=
  Or.inr ⟨b, t, Or.inr ⟨L, h0, by omega, cs_un_s _ _ _, cs_un_s _ _ _⟩, rfl, rfl⟩
theorem cs_mv_mono {b t : Nat} {x x' : Nat} (m : cs_mv c o oe L0 L K0 sr tq x x') : cs_mv c o oe L0 (L + 1) K0 (cs_un sr L b) (cs_un tq L t) x x' := by
  rcases m with m | ⟨i, i1, i2, i3, i4⟩
  · exact Or.inl m
  · exact Or.inr ⟨i, i1, by omega, by rw [cs_un_n (by omega)]; exact i3, by rw [cs_un_n (by omega)]; exact i4⟩
/-- the moving begins: cells of d .. de - 1 that are kept and remembered wait in the queue -/
theorem cs_Ev_begin (R : cs_rg c o oe d de) {tq : Nat → Nat} (hf : ∀ b, o ≤ b → b < oe → fw b = -1) (hq : ∀ i, i < L0 → q i = nI (tq i) ∧ Z (tq i) ∧ d ≤ tq i ∧ tq i < de ∧ ¬ K0 (tq i) = 0) (hi : ∀ i j, i < L0 → j < L0 → tq i = tq j → i = j) :
    cs_Ev c o oe d de L0 Z F0 K0 F0 K0 fw q tq tq 0 0 L0 := by
  refine ⟨⟨Nat.le_refl _, by omega, Or.inr rfl⟩, fun i i1 => ?_, hi, fun i j i1 i2 => by omega, fun b b1 b2 => Or.inl ⟨hf b b1 b2, fun i i1 i2 => by omega⟩, fun i i1 i2 => by omega, fun b _ => rfl, fun i g _ _ hs => by omega, fun i g _ _ _ => rfl, fun b g _ _ => rfl⟩
  obtain ⟨a1, a2, a3, a4, a5⟩ := hq i i1
  exact ⟨a1, a2, a3, a4, fun _ => ⟨rfl, a5⟩, fun y => by omega⟩
end
/-! one grey cell becomes black -/
def cs_bl (xf sh : Nat → Int32) (x f : Nat) (sh' : Nat → Int32) : Prop :=
  sh' x = 2 ∧ (∀ b, b ≠ x → sh' b = sh b ∨ (sh b = 0 ∧ sh' b = 1 ∧ ∃ g, g < f ∧ cs_w 1000 (xf (3 * x + g)) b)) ∧ (∀ g b, g < f → cs_w 1000 (xf (3 * x + g)) b → ¬ sh' b = 0)
section
variable {xr xf xk sh sh' : Nat → Int32} {x f : Nat}
theorem cs_bl_0 : cs_bl xf sh x 0 (upd sh x 2) :=
  ⟨cs_upd_s _ _ _, fun b hb => Or.inl (cs_upd_n hb), fun g b hg => by omega⟩
theorem cs_bl_num (h : cs_bl xf sh x f sh') (hw : cs_num (xf (3 * x + f))) : cs_bl xf sh x (f + 1) sh' := by
  obtain ⟨h1, h2, h3⟩ := h
  refine ⟨h1, fun b hb => (h2 b hb).imp id (fun ⟨a1, a2, g, a3, a4⟩ => ⟨a1, a2, g, by omega, a4⟩), fun g b hg hw' => ?_⟩
  by_cases e : g = f
  · rw [e] at hw'; exact absurd hw' (cs_num_nw (by omega) (by omega) hw)
  · exact h3 g b (by omega) hw'
theorem cs_bl_seen (h : cs_bl xf sh x f sh') {b0 : Nat} (hb0 : b0 < 1000) (hw : xf (3 * x + f) = nI (1000 + b0)) (hs : ¬ sh' b0 = 0) : cs_bl xf sh x (f + 1) sh' := by
  obtain ⟨h1, h2, h3⟩ := h
  refine ⟨h1, fun b hb => (h2 b hb).imp id (fun ⟨a1, a2, g, a3, a4⟩ => ⟨a1, a2, g, by omega, a4⟩), fun g b hg hw' => ?_⟩
  by_cases e : g = f
  · rw [e] at hw'
    have : b = b0 := cs_w_inj (B := 1000) (by omega) hw' ⟨hb0, hw⟩
    rw [this]; exact hs
  · exact h3 g b (by omega) hw'
theorem cs_bl_new (h : cs_bl xf sh x f sh') {b0 : Nat} (hb0 : b0 < 1000) (hw : xf (3 * x + f) = nI (1000 + b0)) (hs : sh' b0 = 0) : cs_bl xf sh x (f + 1) (upd sh' b0 1) := by
  obtain ⟨h1, h2, h3⟩ := h
  have two : ¬ (2 : Int32) = 0 := by decide
  have nx : b0 ≠ x := fun e => by rw [e, h1] at hs; exact two hs
  refine ⟨by rw [cs_upd_n (fun e => nx e.symm)]; exact h1, fun b hb => ?_, fun g b hg hw' => ?_⟩
  · by_cases e : b = b0
    · rw [e, cs_upd_s]
      rcases h2 b0 nx with y | ⟨y1, y2, _⟩
      · exact Or.inr ⟨by rw [← y]; exact hs, rfl, f, by omega, hb0, hw⟩
      · rw [y2] at hs; exact absurd hs cs_n10
    · rw [cs_upd_n e]
      exact (h2 b hb).imp id (fun ⟨a1, a2, g, a3, a4⟩ => ⟨a1, a2, g, by omega, a4⟩)
  · by_cases e : b = b0
    · rw [e, cs_upd_s]; exact cs_n10
    · rw [cs_upd_n e]
      by_cases eg : g = f
      · rw [eg] at hw'
        exact absurd (cs_w_inj (B := 1000) (by omega) hw' ⟨hb0, hw⟩) e
      · exact h3 g b (by omega) hw'
/-- what comes of it -/
theorem cs_bl_end (h : cs_bl xf sh x 3 sh') (W : cs_W 5 xf xk) (S : cs_S5 xk sh) (hx : cs_sg 5 x) (hg : sh x = 1) : cs_S5 xk sh' ∧ (∀ xr, cs_TC xr xf xk sh → cs_TC xr xf xk sh') ∧ cs_n (fun i => ¬ sh' (240 + i) = 2) 48 < cs_n (fun i => ¬ sh (240 + i) = 2) 48 ∧
    (∀ V : Nat → Prop, (∀ b, cs_sg 5 b → ¬ sh b = 0 → V b) → (∀ a b, V a → cs_E 1000 xf a b → V b) → ∀ b, cs_sg 5 b → ¬ sh' b = 0 → V b) ∧ (∀ b, ¬ cs_sg 5 b → sh' b = sh b) := by
  obtain ⟨h1, h2, h3⟩ := h
  have kx : ¬ xk x = 0 := S.1 x hx (by rw [hg]; exact cs_n10)
  have two : ¬ (2 : Int32) = 0 := by decide
  have t12 : ¬ (1 : Int32) = 2 := by decide
  have tgt : ∀ g b, g < 3 → cs_w 1000 (xf (3 * x + g)) b → cs_sg 5 b ∧ ¬ xk b = 0 := fun g b hg' hw => by
    rcases W x hx.1 hx.2 kx g hg' with o | ⟨b', o1, o2, o3, o4⟩
    · exact absurd hw (cs_num_nw (by omega) (by omega) o)
    · have e : b = b' := cs_w_inj (B := 1000) (by omega) hw ⟨by omega, o4⟩
      rw [e]; exact ⟨⟨o1, o2⟩, o3⟩
  have up : ∀ b, ¬ sh b = 0 → ¬ sh' b = 0 := fun b hb => by
    by_cases e : b = x
    · rw [e, h1]; exact two
    · rcases h2 b e with y | ⟨y1, _⟩
      · rw [y]; exact hb
      · exact absurd y1 hb
  refine ⟨⟨fun b hb hs => ?_, fun b hb => ?_⟩, fun xr T => cs_TC_black T (x := x) hg (by rw [h1]; exact two) (fun b ⟨g, hg', hw⟩ => ⟨(tgt g b hg' hw).1, h3 g b hg' hw⟩) up (fun b hb hs => ?_), ?_, fun V v1 v2 b hb hs => ?_, fun b hb => ?_⟩
  · by_cases e : b = x
    · rw [e]; exact kx
    · rcases h2 b e with y | ⟨y1, y2, g, y3, y4⟩
      · exact S.1 b hb (by rw [← y]; exact hs)
      · exact (tgt g b y3 y4).2
  · by_cases e : b = x
    · rw [e]; exact Or.inr (Or.inr h1)
    · rcases h2 b e with y | ⟨y1, y2, _⟩
      · rw [y]; exact S.2 b hb
      · exact Or.inr (Or.inl y2)
  · rcases h2 b hb with y | ⟨y1, y2, _⟩
    · rw [← y]; exact hs
    · rw [y2] at hs; exact absurd hs t12
  · unfold cs_sg at hx
    have ex : 240 + (x - 240) = x := by omega
    refine cs_n_lt (P := fun i => ¬ sh' (240 + i) = 2) (Q := fun i => ¬ sh (240 + i) = 2) (a := x - 240) (by rw [ex]; exact fun z => z h1) (by rw [ex, hg]; exact t12) (fun k hk hp hq => hp ?_) (by omega)
    by_cases e : 240 + k = x
    · rw [e]; exact h1
    · rcases h2 _ e with y | ⟨y1, y2, _⟩
      · rw [y]; exact hq
      · rw [y1] at hq; exact absurd hq.symm two
  · by_cases e : b = x
    · rw [e]; exact v1 x hx (by rw [hg]; exact cs_n10)
    · rcases h2 b e with y | ⟨y1, y2, g, y3, y4⟩
      · exact v1 b hb (by rw [← y]; exact hs)
      · exact v2 x b (v1 x hx (by rw [hg]; exact cs_n10)) ⟨g, y3, y4⟩
  · by_cases e : b = x
    · exact absurd (e ▸ hx) hb
    · rcases h2 b e with y | ⟨y1, y2, g, y3, y4⟩
      · exact y
      · exact absurd (tgt g b y3 y4).1 hb
end
/-! walking with the way back in the fields: begin -/
theorem cs_SW_begin {c : Nat} {F0 s0 ta : Nat → Int32} {Z : Nat → Prop} (hc : c < 7) (hZ : cs_Z c Z F0) {x : Nat} (hx : Z x) (hs : s0 x = 0) : cs_SW c F0 s0 Z F0 (upd s0 x 1) (upd ta x 0) (fun _ => 0) [] x 0 := by
  have g := (hZ x hx).1
  unfold cs_sg at g
  refine ⟨rfl, trivial, List.nodup_cons.mpr ⟨List.not_mem_nil, List.nodup_nil⟩, fun p hp => ?_, Nat.zero_le _, fun b hb => ?_, fun b hb h0 => ?_, fun p g' b q1 q2 q3 q4 => ?_, ?_⟩
  · rcases List.mem_cons.mp hp with e | e
    · rw [e, cs_upd_s, cs_upd_s]; exact ⟨hx, cs_n10, hs, rfl⟩
    · exact absurd e List.not_mem_nil
  · by_cases e : b = x
    · rw [e, cs_upd_s]; exact cs_n10
    · rw [cs_upd_n e]; exact hb
  · by_cases e : b = x
    · rw [e]; exact hx
    · rw [cs_upd_n e] at hb; exact absurd h0 hb
  · by_cases e : p = x
    · exact absurd (q4 (by rw [e]; exact List.mem_cons_self)) (Nat.not_lt_zero _)
    · rw [cs_upd_n e] at q1; exact absurd q2 q1
  · have k := cs_n_lt (P := fun i => upd s0 x 1 (48 * c + i) = 0) (Q := fun _ => True) (a := x - 48 * c) (fun z => by
      rw [show 48 * c + (x - 48 * c) = x by omega, cs_upd_s] at z
      exact cs_n10 z) trivial (N := 48) (fun _ _ _ => trivial) (by omega)
    have k2 := cs_n_le (fun _ => True) 48
    show 5 * _ + (4 - 0 + 0) + 0 ≤ 240
    omega
/-- closed, with the roots, and no more: what can be come to -/
theorem cs_seen_V {c : Nat} {P : Nat → Nat → Prop} {xr xf xk yr yf s : Nat → Int32} (hc : c < 7) (I : cs_I c P xr xf xk yr yf) (h1 : ∀ b, cs_Q 1000 xr (6 * c) 0 6 b → ¬ s b = 0) (h2 : ∀ p g b, cs_sg c p → ¬ s p = 0 → g < 3 → b < 1000 → xf (3 * p + g) = nI (1000 + b) → ¬ s b = 0) (h3 : ∀ b, cs_sg c b → ¬ s b = 0 → cs_V 1000 xr (6 * c) 0 6 xf b) :
    ∀ b, cs_sg c b → (¬ s b = 0 ↔ cs_V 1000 xr (6 * c) 0 6 xf b) := fun b hb => ⟨h3 b hb, fun hv => by
  refine cs_R_i (fun b => ¬ s b = 0) h1 (fun a b' hR ha ⟨g, hg, hw⟩ => ?_) hv
  have k := cs_X_in hc I (p := 0) (q := 6) (by omega) hR
  exact h2 a g b' ⟨k.1, k.2.1⟩ ha hg hw.1 hw.2⟩
end
section
/-! what each way of collecting leaves behind -/
theorem cs_c_new {xr xf xk xf' xk' : Nat → Int32} {b0 : Nat} (W : cs_W 3 xf xk) (ok : ∀ r, r < 6 → cs_ok 3 xk (xr (18 + r))) (hb : cs_sg 3 b0) (hk : xk b0 = 0) (x3 : ∀ f, f < 3 → xf' (3 * b0 + f) = 0) (x4 : ∀ b f, b ≠ b0 → f < 3 → xf' (3 * b + f) = xf (3 * b + f)) (x6 : ∀ b, b ≠ b0 → xk' b = xk b) :
    cs_c xr xf' xk' b0 = 0 ∧ ∀ b, b < 1000 → b ≠ b0 → cs_c xr xf' xk' b = cs_c xr xf xk b := by
  have hb2 := hb
  unfold cs_sg at hb2
  have nok : ∀ w, cs_ok 3 xk w → ¬ w = nI (1000 + b0) := fun w o e => by
    rcases o with o | ⟨b', o1, o2, o3, o4⟩
    · exact cs_num_nw (B := 1000) (b := b0) (by omega) (by omega) o ⟨by omega, e⟩
    · have e2 : b0 = b' := cs_w_inj (B := 1000) (w := w) (by omega) ⟨by omega, e⟩ ⟨by omega, o4⟩
      exact o3 (e2 ▸ hk)
  have n0 : ∀ b, b < 1000 → ¬ (0 : Int32) = nI (1000 + b) := fun b hb e => cs_num_nw (B := 1000) (b := b) (by omega) (by omega) (w := 0) ⟨by decide, by decide⟩ ⟨hb, e⟩
  have fx : ∀ j, j < 144 → 144 + j / 3 ≠ b0 → xf' (432 + j) = xf (432 + j) := fun j hj e => by
    have := x4 (144 + j / 3) (j % 3) e (by omega)
    rw [show 3 * (144 + j / 3) + j % 3 = 432 + j by omega] at this
    exact this
  have fz : ∀ j, j < 144 → 144 + j / 3 = b0 → xf' (432 + j) = 0 := fun j hj e => by
    have := x3 (j % 3) (by omega)
    rw [show 3 * b0 + j % 3 = 432 + j by omega] at this
    exact this
  constructor
  · unfold cs_c
    rw [cs_n_0 (fun r hr => nok _ (ok r hr)), cs_n_0 (fun j hj z => ?_)]
    by_cases e : 144 + j / 3 = b0
    · rw [fz j hj e] at z
      exact n0 b0 (by omega) z.2
    · rw [fx j hj e, x6 _ e] at z
      have := W (144 + j / 3) (by omega) (by omega) z.1 (j % 3) (by omega)
      rw [show 3 * (144 + j / 3) + j % 3 = 432 + j by omega] at this
      exact nok _ this z.2
  · intro b hb' hne
    unfold cs_c
    have e2 := cs_n_eq (P := fun j => ¬ xk' (144 + j / 3) = 0 ∧ xf' (432 + j) = nI (1000 + b)) (Q := fun j => ¬ xk (144 + j / 3) = 0 ∧ xf (432 + j) = nI (1000 + b)) (N := 144) (fun j hj => by
      by_cases e : 144 + j / 3 = b0
      · rw [fz j hj e, e, hk]
        exact ⟨fun z => absurd z.2 (n0 b hb'), fun z => absurd rfl z.1⟩
      · rw [fx j hj e, x6 _ e])
    omega
theorem cs_J3_fin {h m : Int32} {xr xf xk xk' tl' rm sh yr yf q : Nat → Int32} {P : Nat → Nat → Prop} {L : Nat} (I : cs_I 3 P xr xf xk yr yf) (D : cs_D xr xf xk' tl' q (fun _ => 0) L L) : cs_J 3 h m xr xf xk' tl' rm sh yr yf := by
  obtain ⟨W, ok, K⟩ := cs_D_fin D
  exact ⟨⟨_, cs_I_sub (by omega) I ok W⟩, W, fun e => by omega, fun e => by omega, fun _ => K, fun e => by omega, fun e => by omega⟩
theorem cs_zero_num : cs_num 0 := ⟨by decide, by decide⟩
/-- copying has copied all -/
theorem cs_copy_end {h m : Int32} {xr xf xk tl rm sh yr yf xr' F K fw q : Nat → Int32} {sr tq : Nat → Nat} {L o d : Nat} (J : cs_J 1 h m xr xf xk tl rm sh yr yf) (ho : h = nI o) (hod : (o = 48 ∧ d = 72) ∨ (o = 72 ∧ d = 48))
    (E : cs_Ev 1 o (o + 24) d (d + 24) 0 (cs_V 1000 xr 6 0 6 xf) xf xk F K fw q sr tq L 0 L) (hr : ∀ r, r < 6 → cs_l (cs_mv 1 o (o + 24) 0 L xk sr tq) (xr (6 + r)) (xr' (6 + r))) {K' : Nat → Int32} (k1 : ∀ b, o ≤ b → b < o + 24 → K' b = 0) (k2 : ∀ b, ¬ (o ≤ b ∧ b < o + 24) → K' b = K b) {tl' rm' sh' : Nat → Int32} {m' : Int32} :
    cs_J 1 (nI d) m' xr' F K' tl' rm' sh' yr yf ∧ cs_X 1 xr' F K' yr yf := by
  obtain ⟨⟨P, I⟩, W, c1, _⟩ := J
  obtain ⟨H, a1, a2, a3⟩ := c1 rfl
  have eH : H = o := cs_nIinj (by omega) (by omega) (a1.symm.trans ho)
  subst eH
  have R : cs_rg 1 H (H + 24) d (d + 24) := by refine ⟨?_, ?_, ?_, ?_, ?_, ?_, ?_, ?_, ?_⟩ <;> omega
  have off : ∀ b, cs_sg 1 b → ¬ (H ≤ b ∧ b < H + 24) → xk b = 0 := fun b hb hn => Classical.byContradiction fun z => hn (a3 b hb z)
  obtain ⟨e1, e2, e3, e4, e5⟩ := cs_Ev_end R E (fun b hb hn hk => absurd (off b hb hn) hk) (K' := K') k1 k2
  have vM : ∀ b b', cs_mv 1 H (H + 24) 0 L xk sr tq b b' → cs_V 1000 xr (6 * 1) 0 6 xf b := fun b b' mm => by
    rcases mm with ⟨m1, m2, m3, m4⟩ | ⟨i, i1, i2, i3, i4⟩
    · exact absurd (off b m4 m1) m3
    · rw [← i3]; exact (E.2.1 i i2).2.1
  obtain ⟨g1, g2, g3⟩ := cs_mv_J (c := 1) (by omega) I e1 e2 e3 hr e4 (fun b' hb' hk' => by
    rcases (e5 b' hb' hk').2 with ⟨_, y⟩ | ⟨b, _, y⟩
    · exact ⟨b', y⟩
    · exact ⟨b, y⟩)
  refine ⟨⟨g1, g2, fun _ => ⟨d, rfl, by omega, fun b hb hk => ?_⟩, fun e => by omega, fun e => by omega, fun e => by omega, fun e => by omega⟩, g3 vM⟩
  have := (e5 b hb hk).1
  unfold cs_sg at hb
  omega
/-- ageing has emptied the nursery -/
theorem cs_age_end {h m : Int32} {xr xf xk tl rm sh yr yf xr' F K fw q : Nat → Int32} {sr tq : Nat → Nat} {L0 L : Nat} (J : cs_J 4 h m xr xf xk tl rm sh yr yf)
    (E : cs_Ev 4 192 208 208 240 L0 (fun b => cs_sg 4 b ∧ ¬ xk b = 0) xf xk F K fw q sr tq L 0 L) (hL : ∀ b, 208 ≤ b → b < 240 → ¬ xk b = 0 → ¬ rm b = 0 → ∃ i, i < L0 ∧ tq i = b) (hr : ∀ r, r < 6 → cs_l (cs_mv 4 192 208 L0 L xk sr tq) (xr (24 + r)) (xr' (24 + r))) {K' : Nat → Int32} (k1 : ∀ b, 192 ≤ b → b < 208 → K' b = 0) (k2 : ∀ b, ¬ (192 ≤ b ∧ b < 208) → K' b = K b) {h' m' : Int32} {tl' rm' sh' : Nat → Int32} :
    cs_J 4 h' m' xr' F K' tl' rm' sh' yr yf ∧ ((∀ b, cs_sg 4 b → ¬ xk b = 0 → cs_V 1000 xr 24 0 6 xf b) → cs_X 4 xr' F K' yr yf) := by
  obtain ⟨⟨P, I⟩, W, _, _, _, c4, _⟩ := J
  have K4 := c4 rfl
  have R : cs_rg 4 192 208 208 240 := by refine ⟨?_, ?_, ?_, ?_, ?_, ?_, ?_, ?_, ?_⟩ <;> omega
  obtain ⟨e1, e2, e3, e4, e5⟩ := cs_Ev_end R E (fun b hb hn hk hq g hg => by
    unfold cs_sg at hb
    rcases W b (by omega) (by omega) hk g hg with o | ⟨b', o1, o2, o3, o4⟩
    · exact Or.inl o
    · refine Or.inr ⟨b', fun y => ?_, o3, ⟨o1, o2⟩, o4⟩
      by_cases z : rm b = 0
      · exact K4 b g b' (by omega) (by omega) hk z hg o4 (by omega) y
      · obtain ⟨i, i1, i2⟩ := hL b (by omega) (by omega) hk z
        exact hq i i1 i2) (K' := K') k1 k2
  obtain ⟨g1, g2, g3⟩ := cs_mv_J (c := 4) (by omega) I e1 e2 e3 hr e4 (fun b' hb' hk' => by
    rcases (e5 b' hb' hk').2 with ⟨_, y⟩ | ⟨b, _, y⟩
    · exact ⟨b', y⟩
    · exact ⟨b, y⟩)
  refine ⟨⟨g1, g2, fun e => by omega, fun e => by omega, fun e => by omega, fun _ => ?_, fun e => by omega⟩, fun hv => g3 (fun b b' mm => ?_)⟩
  · intro b f b' h1 h2 h3 h4 hf hw hb' hyo
    rcases g2 b (by omega) (by omega) h3 f hf with o | ⟨b2, o1, o2, o3, o4⟩
    · exact cs_num_nw (B := 1000) (b := b') (by omega) (by omega) o ⟨hb', hw⟩
    · have e : b' = b2 := cs_w_inj (B := 1000) (w := F (3 * b + f)) (by omega) ⟨hb', hw⟩ ⟨by omega, o4⟩
      rw [← e] at o3
      exact o3 (k1 b' hyo.1 hyo.2)
  · rcases mm with ⟨m1, m2, m3, m4⟩ | ⟨i, i1, i2, i3, i4⟩
    · exact hv b m4 m3
    · have := (E.2.1 i i2).2.1
      rw [i3] at this
      exact hv b this.1 this.2
/-- sliding has slid all -/
theorem cs_slide_end {h m : Int32} {xr xf xk tl rm sh yr yf xr' F K' s : Nat → Int32} (J : cs_J 2 h m xr xf xk tl rm sh yr yf) (hs : ∀ b, cs_sg 2 b → (¬ s b = 0 ↔ cs_V 1000 xr 12 0 6 xf b)) (E : cs_Sl s xf F 144 0)
    (hr : ∀ r, r < 6 → cs_l (cs_sl s) (xr (12 + r)) (xr' (12 + r))) (k1 : ∀ b, cs_sg 2 b → (¬ K' b = 0 ↔ b < cs_rk s 144)) {h' m' : Int32} {tl' rm' sh' : Nat → Int32} : cs_J 2 h' m' xr' F K' tl' rm' sh' yr yf ∧ cs_X 2 xr' F K' yr yf := by
  obtain ⟨⟨P, I⟩, W, _⟩ := J
  have rkin : ∀ b, cs_sg 2 b → ¬ s b = 0 → 96 ≤ cs_rk s b ∧ cs_rk s b < 144 ∧ cs_rk s b < cs_rk s 144 := fun b hb hz => by
    unfold cs_sg at hb
    have a1 := cs_rk_le s (b := b) (by omega)
    have a2 := cs_rk_ge s b
    have a3 := cs_rk_lt (s := s) (a := b) (b := 144) (by omega) hz (by omega)
    omega
  obtain ⟨g1, g2, g3⟩ := cs_mv_J (c := 2) (by omega) I (M := cs_sl s) (xr' := xr') (xf' := F) (xk' := K') (fun b b' b'' m1 m2 => m1.2.2.trans m2.2.2.symm) (fun b b1 b' m1 m2 => cs_rk_inj (by have := m1.1.1; omega) (by have := m2.1.1; omega) m1.2.1 m2.2.1 (m1.2.2.symm.trans m2.2.2))
    (fun b b' mm => by
      have a := rkin b mm.1 mm.2.1
      have c := mm.1
      unfold cs_sg at c
      rw [mm.2.2]
      exact ⟨by omega, by omega, by omega, (k1 _ ⟨by omega, by omega⟩).mpr a.2.2⟩) hr
    (fun b b' mm f hf => by
      have c := mm.1
      unfold cs_sg at c
      rw [mm.2.2]
      exact E.1 b f mm.1 mm.2.1 hf (Or.inl (by omega)))
    (fun b' hb' hk' => by
      have c := hb'
      unfold cs_sg at c
      obtain ⟨b, b1, b2, b3, b4⟩ := cs_rk_onto (s := s) 144 (by omega) b' (by omega) ((k1 b' hb').mp hk')
      exact ⟨b, ⟨by omega, by omega⟩, b3, b4.symm⟩)
  refine ⟨⟨g1, g2, fun e => by omega, fun _ => fun b b' h1 h2 h3 h4 => ?_, fun e => by omega, fun e => by omega, fun e => by omega⟩, g3 (fun b b' mm => (hs b mm.1).mp mm.2.1)⟩
  have := (k1 b ⟨by omega, by omega⟩).mp h4
  exact (k1 b' ⟨by omega, by omega⟩).mpr (by omega)
/-- what a sweep leaves: any collector whose kept cells need nothing more -/
theorem cs_J_swept {c : Nat} {h m : Int32} {xr xf xk tl rm sh yr yf : Nat → Int32} (hc : c = 0 ∨ c = 4 ∨ c = 6) (J : cs_J c h m xr xf xk tl rm sh yr yf) {xk' : Nat → Int32} (hk : ∀ b, cs_sg c b → (¬ xk' b = 0 ↔ ¬ xk b = 0 ∧ cs_V 1000 xr (6 * c) 0 6 xf b)) : cs_J c h m xr xf xk' tl rm sh yr yf ∧ cs_X c xr xf xk' yr yf := by
  obtain ⟨⟨P, I⟩, W, _, _, _, c4, _⟩ := J
  have hk2 : ∀ b, cs_sg c b → (¬ xk' b = 0 ↔ cs_V 1000 xr (6 * c) 0 6 xf b) := fun b hb => (hk b hb).trans ⟨fun z => z.2, fun z => ⟨(cs_X_in (by omega) I (by omega) z).2.2, z⟩⟩
  obtain ⟨s1, s2⟩ := cs_sweep (by omega) I hk2
  have s3 := s1
  obtain ⟨P', I', _⟩ := s3
  refine ⟨⟨⟨P', I'⟩, s2, fun e => by omega, fun e => by omega, fun e => by omega, fun e => ?_, fun e => by omega⟩, s1⟩
  subst e
  intro b f b' h1 h2 h3 h4 hf hw hb' hyo
  exact c4 rfl b f b' h1 h2 ((hk b ⟨by omega, by omega⟩).mp h3).1 h4 hf hw hb' hyo
/-- marking has ended: what isn't shaded goes -/
theorem cs_mark_end {h m m' : Int32} {xr xf xk tl rm sh yr yf : Nat → Int32} (J : cs_J 5 h m xr xf xk tl rm sh yr yf) (S : cs_S5 xk sh) (T : cs_TC xr xf xk sh) (hg : ∀ b, cs_sg 5 b → ¬ sh b = 1) {xk' : Nat → Int32} (hk : ∀ b, cs_sg 5 b → (¬ xk' b = 0 ↔ ¬ xk b = 0 ∧ ¬ sh b = 0)) (hm : m' = 0) :
    cs_J 5 h m' xr xf xk' tl rm sh yr yf ∧ ((∀ b, cs_sg 5 b → ¬ sh b = 0 → cs_V 1000 xr 30 0 6 xf b) → cs_X 5 xr xf xk' yr yf) := by
  obtain ⟨⟨P, I⟩, W, _⟩ := J
  obtain ⟨t1, t2⟩ := cs_TC_end T S hg
  have vsh : ∀ b, cs_V 1000 xr (6 * 5) 0 6 xf b → cs_sg 5 b → ¬ sh b = 0 := fun b hb => by
    have k : cs_sg 5 b ∧ ¬ sh b = 0 := cs_R_i (fun b => cs_sg 5 b ∧ ¬ sh b = 0) (fun b hq => by
      have g := cs_X_in (p := 0) (q := 6) (by omega) I (by omega) (cs_R_b hq)
      exact ⟨⟨g.1, g.2.1⟩, t1 b hq ⟨g.1, g.2.1⟩⟩) (fun a b hR ha hE => by
      have g := cs_X_in (p := 0) (q := 6) (by omega) I (by omega) (cs_R_s hR hE)
      exact ⟨⟨g.1, g.2.1⟩, t2 a b ha.1 ha.2 hE ⟨g.1, g.2.1⟩⟩) hb
    exact fun _ => k.2
  have ok : ∀ w, cs_ok 5 xk w → (∀ b, cs_w 1000 w b → cs_sg 5 b → ¬ sh b = 0) → cs_ok 5 xk' w := fun w o hw => by
    rcases o with o | ⟨b, o1, o2, o3, o4⟩
    · exact Or.inl o
    · exact Or.inr ⟨b, o1, o2, (hk b ⟨o1, o2⟩).mpr ⟨o3, hw b ⟨by omega, o4⟩ ⟨o1, o2⟩⟩, o4⟩
  have W' : cs_W 5 xf xk' := fun b b1 b2 b3 f hf => by
    have z := (hk b ⟨b1, b2⟩).mp b3
    exact ok _ (W b b1 b2 z.1 f hf) (fun b' hw => t2 b b' ⟨b1, b2⟩ z.2 ⟨f, hf, hw⟩)
  have I' := cs_I_sub (c := 5) (by omega) I (xk' := xk') (fun r hr => ok _ (cs_m_ok I.2.2.1 (I.2.2.2.1 r hr)) (fun b hw => t1 b ⟨r, by omega, hr, hw⟩)) W'
  refine ⟨⟨⟨_, I'⟩, W', fun e => by omega, fun e => by omega, fun e => by omega, fun e => by omega, fun _ hz => absurd hm hz⟩, fun hv => ⟨_, I', fun b hb hkb => ?_⟩⟩
  have z := (hk b hb).mp hkb
  obtain ⟨a, a1, a2⟩ := cs_iso_xy (c := 5) (by omega) I (by omega) (hv b hb z.2)
  exact ⟨a, a2, a1, hkb⟩
/-- counting has dropped its cycles -/
theorem cs_cyc_end {h m : Int32} {xr xf xk tl rm sh yr yf : Nat → Int32} (J : cs_J 3 h m xr xf xk tl rm sh yr yf) {s xk' tl' : Nat → Int32} (hs : ∀ b, cs_sg 3 b → (¬ s b = 0 ↔ cs_V 1000 xr 18 0 6 xf b)) (ht : ∀ b, cs_sg 3 b ∧ ¬ xk b = 0 → tl' b = nI (cs_c xr xf (cs_kv s xk 192) b)) (hk : ∀ b, cs_sg 3 b → (¬ xk' b = 0 ↔ ¬ xk b = 0 ∧ ¬ s b = 0)) :
    cs_J 3 h m xr xf xk' tl' rm sh yr yf ∧ cs_X 3 xr xf xk' yr yf := by
  obtain ⟨⟨P, I⟩, W, _⟩ := J
  have hk2 : ∀ b, cs_sg 3 b → (¬ xk' b = 0 ↔ cs_V 1000 xr (6 * 3) 0 6 xf b) := fun b hb => (hk b hb).trans ⟨fun z => (hs b hb).mp z.2, fun z => ⟨(cs_X_in (c := 3) (by omega) I (by omega) z).2.2, (hs b hb).mpr z⟩⟩
  obtain ⟨s1, s2⟩ := cs_sweep (c := 3) (by omega) I hk2
  have s3 := s1
  obtain ⟨P', I', _⟩ := s3
  have ec : ∀ b, cs_c xr xf (cs_kv s xk 192) b = cs_c xr xf xk' b := cs_c_cg (fun _ _ => rfl) (fun _ _ _ => rfl) (fun b hb => by
    have hb2 := hb
    unfold cs_sg at hb2
    by_cases z : s b = 0
    · rw [cs_kv_t ⟨by omega, z⟩]
      exact ⟨fun _ => Classical.byContradiction fun y => ((hk b hb).mp y).2 z, fun _ => rfl⟩
    · rw [cs_kv_f (fun y => z y.2)]
      exact ⟨fun y => Classical.byContradiction fun y2 => ((hk b hb).mp y2).1 y, fun y => Classical.byContradiction fun y2 => ((hk b hb).mpr ⟨y2, z⟩) y⟩)
  refine ⟨⟨⟨P', I'⟩, s2, fun e => by omega, fun e => by omega, fun _ b hb hkb => ⟨?_, ?_⟩, fun e => by omega, fun e => by omega⟩, s1⟩
  · have v := (hk2 b hb).mp hkb
    have pos : ∀ b, cs_V 1000 xr (6 * 3) 0 6 xf b → 0 < cs_c xr xf xk' b := fun b hb => by
      refine cs_R_i (fun b => 0 < cs_c xr xf xk' b) (fun b ⟨r, r1, r2, r3⟩ => cs_c_pr r2 r3.2) (fun a b hR _ ⟨f, hf, hw⟩ => ?_) hb
      have g := cs_X_in (c := 3) (p := 0) (q := 6) (by omega) I (by omega) hR
      exact cs_c_pf (x := a) (f := f) ⟨g.1, g.2.1⟩ ((hk2 a ⟨g.1, g.2.1⟩).mpr hR) hf hw.2
    exact pos b v
  · rw [ht b ⟨hb, ((hk b hb).mp hkb).1⟩, ec b]
/-- a new cell in the counting collector, before its first reference is counted -/
theorem cs_new3 {h m : Int32} {xr xf xk tl rm sh yr yf xf' xk' tl1 yf' : Nat → Int32} (J : cs_J 3 h m xr xf xk tl rm sh yr yf) {r a0 b0 : Nat} (hr : r < 6) (ha : a0 < 48) (hn : ¬ cs_V 10000 yr 0 0 6 yf a0) (hb : cs_sg 3 b0) (hk : xk b0 = 0)
    (y3 : ∀ f, f < 3 → yf' (3 * a0 + f) = 0) (y4 : ∀ j, j < 3 * a0 ∨ 3 * a0 + 3 ≤ j → yf' j = yf j) (x3 : ∀ f, f < 3 → xf' (3 * b0 + f) = 0) (x4 : ∀ b f, b ≠ b0 → f < 3 → xf' (3 * b + f) = xf (3 * b + f)) (x5 : ¬ xk' b0 = 0) (x6 : ∀ b, b ≠ b0 → xk' b = xk b) (t1 : tl1 b0 = 0) (t2 : ∀ b, b ≠ b0 → tl1 b = tl b) :
    (∃ P, cs_I 3 P (upd xr (18 + r) (nI (1000 + b0))) xf' xk' (upd yr r (nI (10000 + a0))) yf') ∧ cs_W 3 xf' xk' ∧ (∀ j, j < 6 → cs_ok 3 xk' (xr (18 + j))) ∧ cs_ok 3 xk' (nI (1000 + b0)) ∧
    (∀ b, cs_sg 3 b → ¬ xk' b = 0 → tl1 b = nI (cs_c xr xf' xk' b) ∧ (0 < cs_c xr xf' xk' b ∨ nI (1000 + b0) = nI (1000 + b))) := by
  obtain ⟨⟨P, I⟩, W, _, _, k3, _⟩ := J
  have K := k3 rfl
  have ok : ∀ j, j < 6 → cs_ok 3 xk (xr (18 + j)) := fun j hj => cs_m_ok I.2.2.1 (I.2.2.2.1 j hj)
  obtain ⟨c1, c2⟩ := cs_c_new W ok hb hk x3 x4 x6
  refine ⟨cs_I_new (c := 3) (by omega) I (r := r) ha hn hb.1 hb.2 hk hr (fun j hj => cs_upd_n hj) (cs_upd_s _ _ _) y3 y4 (fun j hj e => cs_upd_n (by omega)) (cs_upd_s _ _ _) x3 (fun b f _ _ hb hf => x4 b f hb hf) x5 (fun b _ _ hb => x6 b hb), cs_W_new W hk x3 (fun b f _ _ hb hf => x4 b f hb hf) (fun b _ _ hb => x6 b hb), fun j hj => ?_, Or.inr ⟨b0, hb.1, hb.2, x5, rfl⟩, fun b hb' hkb => ?_⟩
  · rcases ok j hj with o | ⟨b, o1, o2, o3, o4⟩
    · exact Or.inl o
    · exact Or.inr ⟨b, o1, o2, by rw [x6 b (fun e => o3 (e ▸ hk))]; exact o3, o4⟩
  · by_cases e : b = b0
    · rw [e, c1, t1]; exact ⟨rfl, Or.inr rfl⟩
    · have hb2 := hb'
      unfold cs_sg at hb2
      rw [x6 b e] at hkb
      rw [c2 b (by omega) e, t2 b e]
      exact ⟨(K b hb' hkb).2, Or.inl (K b hb' hkb).1⟩
end
section
/-! trial counts -/
noncomputable def cs_fc (xf xk : Nat → Int32) (k b : Nat) : Nat := cs_n (fun j => ¬ xk (144 + j / 3) = 0 ∧ xf (432 + j) = nI (1000 + b)) k
noncomputable def cs_rc (xr : Nat → Int32) (k b : Nat) : Nat := cs_n (fun r => xr (18 + r) = nI (1000 + b)) k
theorem cs_c_eq (xr xf xk : Nat → Int32) (b : Nat) : cs_c xr xf xk b = cs_rc xr 6 b + cs_fc xf xk 144 b := rfl
def cs_tr (base : Nat → Int32) (w : Int32) (xf xk tr : Nat → Int32) (k : Nat) : Prop := ∀ b, cs_sg 3 b → tr b = base b + w * nI (cs_fc xf xk k b)
section
variable {base xr xf xk tr : Nat → Int32} {w : Int32} {x f : Nat}
theorem cs_tr_0 : cs_tr base w xf xk base 0 := fun b _ => by
  show base b = base b + w * nI 0
  rw [nI_0]; grind
theorem cs_fc_s (k b : Nat) : cs_fc xf xk (k + 1) b = cs_fc xf xk k b + cs_b (¬ xk (144 + k / 3) = 0 ∧ xf (432 + k) = nI (1000 + b)) := rfl
theorem cs_tr_ref (h : cs_tr base w xf xk tr (3 * x + f)) (hf : f < 3) (hk : ¬ xk (144 + x) = 0) {b0 : Nat} (hb0 : b0 < 1000) (hw : xf (3 * (144 + x) + f) = nI (1000 + b0)) : cs_tr base w xf xk (upd tr b0 (tr b0 + w)) (3 * x + (f + 1)) := by
  intro b hb
  rw [show 3 * x + (f + 1) = 3 * x + f + 1 by omega, cs_fc_s]
  rw [show 3 * (144 + x) + f = 432 + (3 * x + f) by omega] at hw
  by_cases e : b = b0
  · subst e
    rw [cs_upd_s, cs_bt ⟨by rw [show (3 * x + f) / 3 = x by omega]; exact hk, hw⟩, h b hb, ← nI_1]
    grind
  · rw [cs_upd_n e, cs_bf (fun z => ?_), h b hb]
    · rfl
    · unfold cs_sg at hb
      have := cs_nIinj (by omega) (by omega) (z.2.symm.trans hw)
      omega
theorem cs_tr_num (h : cs_tr base w xf xk tr (3 * x + f)) (hf : f < 3) (hw : cs_num (xf (3 * (144 + x) + f))) : cs_tr base w xf xk tr (3 * x + (f + 1)) := by
  intro b hb
  rw [show 3 * x + (f + 1) = 3 * x + f + 1 by omega, cs_fc_s, cs_bf (fun z => ?_), h b hb]
  · rfl
  · rw [show 3 * (144 + x) + f = 432 + (3 * x + f) by omega] at hw
    unfold cs_sg at hb
    exact cs_num_nw (B := 1000) (b := b) (by omega) (by omega) hw ⟨by omega, z.2⟩
theorem cs_tr_skip (h : cs_tr base w xf xk tr (3 * x)) (hk : xk (144 + x) = 0) : cs_tr base w xf xk tr (3 * (x + 1)) := by
  intro b hb
  have e : ∀ g, g < 3 → cs_b (¬ xk (144 + (3 * x + g) / 3) = 0 ∧ xf (432 + (3 * x + g)) = nI (1000 + b)) = 0 := fun g hg => cs_bf (fun z => by
    rw [show (3 * x + g) / 3 = x by omega] at z
    exact z.1 hk)
  have e0 := e 0 (by omega)
  have e1 := e 1 (by omega)
  have e2 := e 2 (by omega)
  have f0 := cs_fc_s (xf := xf) (xk := xk) (3 * x + 0) b
  have f1 := cs_fc_s (xf := xf) (xk := xk) (3 * x + 1) b
  have f2 := cs_fc_s (xf := xf) (xk := xk) (3 * x + 2) b
  rw [e0] at f0
  rw [e1] at f1
  rw [e2] at f2
  have ee : cs_fc xf xk (3 * (x + 1)) b = cs_fc xf xk (3 * x) b := by
    rw [show 3 * (x + 1) = 3 * x + 2 + 1 by omega, f2, show 3 * x + 2 = 3 * x + 1 + 1 by omega, f1]
    exact f0
  rw [ee]; exact h b hb
/-- a word of a kept cell -/
theorem cs_W_word {c : Nat} (hc : c < 7) (W : cs_W c xf xk) {b f : Nat} (hb : cs_sg c b) (hk : ¬ xk b = 0) (hf : f < 3) : (cs_num (xf (3 * b + f)) ∧ xf (3 * b + f) < 1000) ∨ ∃ b', cs_sg c b' ∧ b' < 336 ∧ ¬ xk b' = 0 ∧ xf (3 * b + f) = nI (1000 + b') := by
  rcases W b hb.1 hb.2 hk f hf with o | ⟨b', o1, o2, o3, o4⟩
  · exact Or.inl ⟨o, cs_num_lt o⟩
  · exact Or.inr ⟨b', ⟨o1, o2⟩, by omega, o3, o4⟩
theorem cs_ok_word {c : Nat} (hc : c < 7) {v : Int32} (h : cs_ok c xk v) : (cs_num v ∧ v < 1000) ∨ ∃ b', cs_sg c b' ∧ b' < 336 ∧ ¬ xk b' = 0 ∧ v = nI (1000 + b') := by
  rcases h with o | ⟨b', o1, o2, o3, o4⟩
  · exact Or.inl ⟨o, cs_num_lt o⟩
  · exact Or.inr ⟨b', ⟨o1, o2⟩, by omega, o3, o4⟩
theorem cs_rc_s (k b : Nat) : cs_rc xr (k + 1) b = cs_rc xr k b + cs_b (xr (18 + k) = nI (1000 + b)) := rfl
theorem cs_rc_ref {r : Nat} (h : ∀ b, cs_sg 3 b → tr b = nI (cs_rc xr r b)) {b0 : Nat} (hb0 : b0 < 1000) (hw : xr (18 + r) = nI (1000 + b0)) : ∀ b, cs_sg 3 b → upd tr b0 (tr b0 + 1) b = nI (cs_rc xr (r + 1) b) := by
  intro b hb
  rw [cs_rc_s]
  by_cases e : b = b0
  · subst e
    rw [cs_upd_s, cs_bt hw, h b hb, nI_1]
  · rw [cs_upd_n e, cs_bf (fun z => ?_), h b hb, Nat.add_zero]
    unfold cs_sg at hb
    have := cs_nIinj (by omega) (by omega) (z.symm.trans hw)
    omega
theorem cs_rc_num {r : Nat} (h : ∀ b, cs_sg 3 b → tr b = nI (cs_rc xr r b)) (hw : cs_num (xr (18 + r))) : ∀ b, cs_sg 3 b → tr b = nI (cs_rc xr (r + 1) b) := by
  intro b hb
  rw [cs_rc_s, cs_bf (fun z => ?_), h b hb, Nat.add_zero]
  unfold cs_sg at hb
  exact cs_num_nw (B := 1000) (b := b) (by omega) (by omega) hw ⟨by omega, z⟩
end
end
section
/-! the invariant over the states; frames -/
def cs_JU (c : Nat) (u : SX) (yr yf : Nat → Int32) : Prop := cs_J c u.2.1 u.2.2.1 u.2.2.2.1 u.2.2.2.2.1 u.2.2.2.2.2.1 u.2.2.2.2.2.2.2.2.2.2.2.2.2.1 u.2.2.2.2.2.2.2.2.2.2.2.2.2.2.1 u.2.2.2.2.2.2.2.2.2.2.2.2.2.2.2 yr yf
def cs_FU (c : Nat) (u u' : SX) : Prop := cs_Fr c u.2.1 u.2.2.1 u.2.2.2.1 u.2.2.2.2.1 u.2.2.2.2.2.1 u.2.2.2.2.2.2.2.2.2.2.2.2.2.1 u.2.2.2.2.2.2.2.2.2.2.2.2.2.2.1 u.2.2.2.2.2.2.2.2.2.2.2.2.2.2.2 u'.2.1 u'.2.2.1 u'.2.2.2.1 u'.2.2.2.2.1 u'.2.2.2.2.2.1 u'.2.2.2.2.2.2.2.2.2.2.2.2.2.1 u'.2.2.2.2.2.2.2.2.2.2.2.2.2.2.1 u'.2.2.2.2.2.2.2.2.2.2.2.2.2.2.2
def cs_XU (c : Nat) (u : SX) (yr yf : Nat → Int32) : Prop := cs_X c u.2.2.2.1 u.2.2.2.2.1 u.2.2.2.2.2.1 yr yf
/-- collectors below i have been brought to (yr', yf'), the others still stand at (yr, yf) -/
def cs_LI (yr yf yr' yf' : Nat → Int32) (i : Nat) (u : SX) : Prop := (∀ d, d < i → cs_JU d u yr' yf') ∧ ∀ d, i ≤ d → d < 7 → cs_JU d u yr yf
theorem cs_LI_s {yr yf yr' yf' : Nat → Int32} {i : Nat} {u u' : SX} (h : cs_LI yr yf yr' yf' i u) (F : cs_FU i u u') (J : cs_JU i u' yr' yf') : cs_LI yr yf yr' yf' (i + 1) u' := by
  refine ⟨fun d hd => ?_, fun d h1 h2 => cs_J_fr (by omega) F (h.2 d (by omega) h2)⟩
  by_cases e : d = i
  · rw [e]; exact J
  · exact cs_J_fr e F (h.1 d (by omega))
theorem cs_FU_tr {c : Nat} {u u' u'' : SX} (A : cs_FU c u u') (B : cs_FU c u' u'') : cs_FU c u u'' := cs_Fr_tr A B
def i_Rel (k : Nat) (u : SX) (v : SY) : Prop := (∀ d, d < 7 → cs_JU d u v.1 v.2) ∧ cs_Y v.1 v.2
theorem i_up {k : Nat} {u : SX} {v : SY} (h : i_Rel k u v) : i_Rel (k + 4) u v := h
theorem cs_J_init (c : Nat) : cs_J c 48 0 (fun _ => 0) (fun _ => 0) (fun _ => 0) (fun _ => 0) (fun _ => 0) (fun _ => 0) (fun _ => 0) (fun _ => 0) := by
  refine ⟨⟨fun _ _ => False, fun _ _ _ z => z.elim, fun _ _ _ z => z.elim, fun _ _ z => z.elim, fun _ _ => Or.inl ⟨cs_zero_num, rfl⟩, fun _ _ z => z.elim⟩, fun b _ _ z => absurd rfl z, fun _ => ⟨48, rfl, Or.inl rfl, fun b _ z => absurd rfl z⟩, fun _ b b' _ _ _ z => absurd rfl z, fun _ b _ z => absurd rfl z, fun _ b f b' _ _ z => absurd rfl z, fun _ z => absurd rfl z⟩
theorem cs_Y_init : cs_Y (fun _ => 0) (fun _ => 0) := by
  refine ⟨fun _ _ => Or.inl cs_zero_num, fun _ _ => Or.inl cs_zero_num, ?_⟩
  rw [cs_n_0 (fun k _ h => ?_)]
  · omega
  · exact cs_R_i (fun _ => False) (fun a ⟨r, _, _, h3⟩ => cs_num_nw (B := 10000) (b := a) (by omega) (by omega) cs_zero_num h3) (fun _ _ _ z _ => z) h
end
section
/-! small methods of the class, and trace -/
theorem cs_nI48 {L : Nat} (h : L < 48) : nI L < 48 := nI_lt (b := 48) h (by omega)
theorem cs_forget {f_reached f_half f_marking : Int32} {a_register a_field a_kept a_seen a_queue a_forward a_trial a_turn a_partner a_partnerBack a_tally a_remembered a_shade : Nat → Int32} {post : SX → Prop} {c : Nat} (hc : c < 7) (K : ∀ s, (∀ b, cs_sg c b → s b = 0) → post (0, f_half, f_marking, a_register, a_field, a_kept, s, a_queue, a_forward, a_trial, a_turn, a_partner, a_partnerBack, a_tally, a_remembered, a_shade)) : wpX_forgetSeen post (f_reached, f_half, f_marking, a_register, a_field, a_kept, a_seen, a_queue, a_forward, a_trial, a_turn, a_partner, a_partnerBack, a_tally, a_remembered, a_shade) (nI c) := by
  simp only [wpX_forgetSeen, cs_i48, not_true, not_false_iff, false_implies, true_implies, true_and, and_true, forall_eq, implies_true]
  refine pk_loop (σ := Nat → Int32) (fun n i s => wX_forgetSeen_5 post (nI c) f_reached f_half f_marking n (nI i) a_register a_field a_kept s a_queue a_forward a_trial a_turn a_partner a_partnerBack a_tally a_remembered a_shade) (fun i s => ∀ b, 48 * c ≤ b → b < i → s b = 0) (48 * c + 48) (48 * c) a_seen (by omega) (fun b h1 h2 => by omega) (fun n s hI => ?_) (fun n i s hi hI ih => ?_)
  · have g : nI (48 * (c + 1)) ≤ nI (48 * c + 48) := nI_le (by omega) (by omega)
    simp only [wX_forgetSeen_5, nI_1, cs_i48, g, not_true, not_false_iff, false_implies, true_implies, true_and, and_true, forall_eq, implies_true]
    exact K s (fun b hb => hI b hb.1 hb.2)
  · have g : ¬ nI (48 * (c + 1)) ≤ nI i := nI_ge (by omega) (by omega)
    have v : vp_in (nI i) 336 := vp_in_nI (by omega) (by omega)
    have k : (nI i).toNatClampNeg = i := nI_clamp (by omega)
    simp only [wX_forgetSeen_5, cs_i48, g, v, k, cs_nb0, nI_1, not_true, not_false_iff, false_implies, true_implies, true_and, and_true, forall_eq, implies_true]
    refine ih _ (fun b h1 h2 => ?_)
    by_cases e : b = i
    · rw [e, cs_upd_s]
    · rw [cs_upd_n e]; exact hI b h1 (by omega)
theorem cs_visit {f_reached f_half f_marking : Int32} {a_register a_field a_kept a_seen a_queue a_forward a_trial a_turn a_partner a_partnerBack a_tally a_remembered a_shade : Nat → Int32} {post : SX → Prop} {c L : Nat} {Z S0 : Nat → Prop} {xf : Nat → Int32} {w : Int32} (hc : c < 7) (hZ : cs_Z c Z xf) (h : cs_F c Z S0 a_seen a_queue L) (hr : f_reached = nI L) (hw : cs_num w ∨ ∃ b, Z b ∧ w = nI (1000 + b))
    (K : ∀ L' s' q', cs_F c Z S0 s' q' L' → L ≤ L' → (∀ b, ¬ a_seen b = 0 → ¬ s' b = 0) → (∀ i, i < L → q' i = a_queue i) → (∀ b, b < 1000 → w = nI (1000 + b) → ¬ s' b = 0) → post (nI L', f_half, f_marking, a_register, a_field, a_kept, s', q', a_forward, a_trial, a_turn, a_partner, a_partnerBack, a_tally, a_remembered, a_shade)) : wpX_visit post (f_reached, f_half, f_marking, a_register, a_field, a_kept, a_seen, a_queue, a_forward, a_trial, a_turn, a_partner, a_partnerBack, a_tally, a_remembered, a_shade) w := by
  subst hr
  rcases cs_Z_w hc hZ hw with ⟨h1, h2⟩ | ⟨b, b1, b2, b3, b4⟩
  · simp only [wpX_visit, h1, not_true, not_false_iff, false_implies, true_implies, true_and, and_true, forall_eq, implies_true]
    exact K L a_seen a_queue h (Nat.le_refl _) (fun _ z => z) (fun _ _ => rfl) (fun b hb e => absurd (⟨hb, e⟩ : cs_w 1000 w b) (cs_num_nw (by omega) (by omega) h2))
  · subst b2
    have g1 := cs_ref_ge (b := b) (by omega)
    have v : vp_in (nI b) 336 := vp_in_nI b4 (by omega)
    have k : (nI b).toNatClampNeg = b := nI_clamp (by omega)
    have inj : ∀ b', b' < 1000 → nI (1000 + b) = nI (1000 + b') → b' = b := fun b' hb' e => by
      have := cs_nIinj (by omega) (by omega) e
      omega
    by_cases z : a_seen b = 0
    · have hL := cs_F_lt hc hZ h b3 z
      have g2 := cs_nI48 hL
      have v2 : vp_in (nI L) 48 := vp_in_nI hL (by omega)
      have k2 : (nI L).toNatClampNeg = L := nI_clamp (by omega)
      simp only [wpX_visit, g1, cs_ref_sub, v, k, z, g2, v2, k2, cs_nb1, nI_1, not_true, not_false_iff, false_implies, true_implies, true_and, and_true, forall_eq, implies_true]
      refine K (L + 1) _ _ (cs_F_add hc hZ h b1 z) (by omega) (fun b' hb' => ?_) (fun i hi => cs_upd_n (by omega)) (fun b' hb' e => ?_)
      · by_cases e : b' = b
        · rw [e, cs_upd_s]; exact cs_n10
        · rw [cs_upd_n e]; exact hb'
      · rw [inj b' hb' e, cs_upd_s]; exact cs_n10
    · simp only [wpX_visit, g1, cs_ref_sub, v, k, z, not_true, not_false_iff, false_implies, true_implies, true_and, and_true, forall_eq, implies_true]
      exact K L a_seen a_queue h (Nat.le_refl _) (fun _ z => z) (fun _ _ => rfl) (fun b' hb' e => by rw [inj b' hb' e]; exact z)
theorem cs_follow {f_reached f_half f_marking : Int32} {a_register a_field a_kept a_seen a_queue a_forward a_trial a_turn a_partner a_partnerBack a_tally a_remembered a_shade : Nat → Int32} {post : SX → Prop} {c L : Nat} {Z S0 : Nat → Prop} (hc : c < 7) (hZ : cs_Z c Z a_field) (h : cs_F c Z S0 a_seen a_queue L) (hr : f_reached = nI L)
    (K : ∀ L' s' q', cs_F c Z S0 s' q' L' → cs_pr a_field s' q' L' 0 → (∀ b, ¬ a_seen b = 0 → ¬ s' b = 0) → post (nI L', f_half, f_marking, a_register, a_field, a_kept, s', q', a_forward, a_trial, a_turn, a_partner, a_partnerBack, a_tally, a_remembered, a_shade)) : wpX_followFields post (f_reached, f_half, f_marking, a_register, a_field, a_kept, a_seen, a_queue, a_forward, a_trial, a_turn, a_partner, a_partnerBack, a_tally, a_remembered, a_shade) := by
  simp only [wpX_followFields]
  refine loop_m (σ := Nat × Nat × (Nat → Int32) × (Nat → Int32)) (fun n t => wX_followFields_2 post n (nI t.1) (nI t.2.1) f_half f_marking a_register a_field a_kept t.2.2.1 t.2.2.2 a_forward a_trial a_turn a_partner a_partnerBack a_tally a_remembered a_shade)
    (fun t => t.1 ≤ t.2.1 ∧ cs_F c Z S0 t.2.2.1 t.2.2.2 t.2.1 ∧ cs_pr a_field t.2.2.1 t.2.2.2 t.1 0 ∧ (∀ b, ¬ a_seen b = 0 → ¬ t.2.2.1 b = 0)) (fun t => 48 - t.1) (fun n t hI ih => ?_) (0, L, a_seen, a_queue) ⟨by omega, h, cs_pr_0, fun _ z => z⟩ |> fun ⟨n, hn⟩ => ⟨n, by rw [hr]; exact hn⟩
  obtain ⟨i, L1, s1, q1⟩ := t
  obtain ⟨i1, i2, i3, i4⟩ := hI
  try dsimp only at i1 i2 i3 i4 ih ⊢
  have hL := i2.1
  by_cases e : i = L1
  · subst e
    have fin := K i s1 q1 i2 i3 i4
    have g2 : nI i ≤ nI i := nI_le (Nat.le_refl _) (by omega)
    by_cases e2 : i = 48
    · have g : (48 : Int32) ≤ nI i := nI_le (a := 48) (by omega) (by omega)
      simp only [wX_followFields_2, g, not_true, not_false_iff, false_implies, true_implies, true_and, and_true, forall_eq, implies_true]
      exact fin
    · have g : ¬ (48 : Int32) ≤ nI i := nI_ge (b := 48) (by omega) (by omega)
      simp only [wX_followFields_2, g, g2, not_true, not_false_iff, false_implies, true_implies, true_and, and_true, forall_eq, implies_true]
      exact fin
  · have g : ¬ (48 : Int32) ≤ nI i := nI_ge (b := 48) (by omega) (by omega)
    have g2 : ¬ nI L1 ≤ nI i := nI_ge (by omega) (by omega)
    simp only [wX_followFields_2, g, g2, not_true, not_false_iff, false_implies, true_implies, true_and, and_true, forall_eq, implies_true]
    refine pk_loop (σ := Nat × (Nat → Int32) × (Nat → Int32)) (fun m f t => wX_followFields_18 post (wX_followFields_2 post n) (nI i) m (nI f) (nI t.1) f_half f_marking a_register a_field a_kept t.2.1 t.2.2 a_forward a_trial a_turn a_partner a_partnerBack a_tally a_remembered a_shade)
      (fun f t => i < t.1 ∧ cs_F c Z S0 t.2.1 t.2.2 t.1 ∧ cs_pr a_field t.2.1 t.2.2 i f ∧ (∀ b, ¬ a_seen b = 0 → ¬ t.2.1 b = 0)) 3 0 (L1, s1, q1) (by omega) ⟨by omega, i2, i3, i4⟩ (fun m t hI => ?_) (fun m f t hf hI ih2 => ?_)
    · obtain ⟨L2, s2, q2⟩ := t
      obtain ⟨j1, j2, j3, j4⟩ := hI
      try dsimp only at j1 j2 j3 j4 ⊢
      have g3 : (3 : Int32) ≤ nI 3 := nI_le (a := 3) (by omega) (by omega)
      simp only [wX_followFields_18, g3, nI_1, not_true, not_false_iff, false_implies, true_implies, true_and, and_true, forall_eq, implies_true]
      exact ih (i + 1, L2, s2, q2) ⟨by (try dsimp only); omega, j2, cs_pr_n j3, j4⟩ (by (try dsimp only); omega)
    · obtain ⟨L2, s2, q2⟩ := t
      obtain ⟨j1, j2, j3, j4⟩ := hI
      try dsimp only at j1 j2 j3 j4 ⊢
      obtain ⟨b, b1, b2, b3, b4⟩ := cs_F_q hc hZ j2 j1
      have hL2 := j2.1
      have g3 : ¬ (3 : Int32) ≤ nI f := nI_ge (b := 3) hf (by omega)
      have v1 : vp_in (nI i) 48 := vp_in_nI (by omega) (by omega)
      have k1 : (nI i).toNatClampNeg = i := nI_clamp (by omega)
      have v2 : vp_in (nI (3 * b + f)) 1008 := vp_in_nI (by omega) (by omega)
      have k2 : (nI (3 * b + f)).toNatClampNeg = 3 * b + f := nI_clamp (by omega)
      simp only [wX_followFields_18, g3, v1, k1, b2, cs_i3, v2, k2, not_true, not_false_iff, false_implies, true_implies, true_and, and_true, forall_eq, implies_true]
      refine cs_visit hc hZ j2 rfl ((hZ b b1).2 f hf) (fun L3 s3 q3 a1 a2 a3 a4 a5 => ?_)
      simp only [nI_1, not_true, not_false_iff, false_implies, true_implies, true_and, and_true, forall_eq, implies_true]
      refine ih2 (L3, s3, q3) ⟨by (try dsimp only); omega, a1, ?_, fun b z => a3 b (j4 b z)⟩
      try dsimp only
      refine cs_pr_f (a := b) (cs_pr_mono j3 a3 (fun k hk => a4 k (by omega))) (by omega) (by rw [a4 i j1]; exact b2) a5
theorem cs_trace {f_reached f_half f_marking : Int32} {a_register a_field a_kept a_seen a_queue a_forward a_trial a_turn a_partner a_partnerBack a_tally a_remembered a_shade : Nat → Int32} {post : Int32 → SX → Prop} {c p q : Nat} {P : Nat → Nat → Prop} {yr yf : Nat → Int32} (hc : c < 7) (hpq : p ≤ q) (hq : q ≤ 6) (I : cs_I c P a_register a_field a_kept yr yf)
    (K : ∀ L s qq, cs_F c (cs_V 1000 a_register (6 * c) p q a_field) (fun _ => False) s qq L → (∀ b, cs_sg c b → (¬ s b = 0 ↔ cs_V 1000 a_register (6 * c) p q a_field b)) → L = cs_n (cs_V 10000 yr 0 p q yf) 48 → post (nI L) (nI L, f_half, f_marking, a_register, a_field, a_kept, s, qq, a_forward, a_trial, a_turn, a_partner, a_partnerBack, a_tally, a_remembered, a_shade)) : wpX_trace post (f_reached, f_half, f_marking, a_register, a_field, a_kept, a_seen, a_queue, a_forward, a_trial, a_turn, a_partner, a_partnerBack, a_tally, a_remembered, a_shade) (nI c) (nI p) (nI q) := by
  have hZ := cs_Z_V (p := p) hc I hq
  simp only [wpX_trace]
  refine cs_forget hc (fun s0 hs0 => ?_)
  simp only []
  refine pk_loop (σ := Nat × (Nat → Int32) × (Nat → Int32)) (fun m r t => wX_trace_8 post (nI c) (nI q) m (nI r) (nI t.1) f_half f_marking a_register a_field a_kept t.2.1 t.2.2 a_forward a_trial a_turn a_partner a_partnerBack a_tally a_remembered a_shade)
    (fun r t => p ≤ r ∧ cs_F c (cs_V 1000 a_register (6 * c) p q a_field) (fun _ => False) t.2.1 t.2.2 t.1 ∧ (∀ b, cs_Q 1000 a_register (6 * c) p r b → ¬ t.2.1 b = 0)) q p (0, s0, a_queue) hpq ⟨Nat.le_refl _, cs_F_nil hs0, fun b ⟨r, r1, r2, _⟩ => by omega⟩ (fun m t hI => ?_) (fun m r t hr hI ih => ?_)
  · obtain ⟨L, s, qq⟩ := t
    obtain ⟨_, j1, j2⟩ := hI
    try dsimp only at j1 j2 ⊢
    have g : nI q ≤ nI q := nI_le (Nat.le_refl _) (by omega)
    simp only [wX_trace_8, g, not_true, not_false_iff, false_implies, true_implies, true_and, and_true, forall_eq, implies_true]
    refine cs_follow hc hZ j1 rfl (fun L' s' q' a1 a2 a3 => ?_)
    obtain ⟨e1, e2⟩ := cs_F_end hc hZ a1 a2 (fun b hb => a3 b (j2 b hb))
    exact K L' s' q' a1 e1 (by rw [cs_iso_n hc I hq, e2])
  · obtain ⟨L, s, qq⟩ := t
    obtain ⟨j0, j1, j2⟩ := hI
    try dsimp only at j1 j2 ih ⊢
    have g : ¬ nI q ≤ nI r := nI_ge hr (by omega)
    have v : vp_in (nI (6 * c + r)) 42 := vp_in_nI (by omega) (by omega)
    have k : (nI (6 * c + r)).toNatClampNeg = 6 * c + r := nI_clamp (by omega)
    simp only [wX_trace_8, g, cs_i6, v, k, not_true, not_false_iff, false_implies, true_implies, true_and, and_true, forall_eq, implies_true]
    refine cs_visit hc hZ j1 rfl ?_ (fun L3 s3 q3 a1 a2 a3 a4 a5 => ?_)
    · rcases I.2.2.2.1 r (by omega) with ⟨m1, m2⟩ | ⟨a, b, m1, m2, m3⟩
      · exact Or.inl (m2 ▸ m1)
      · have g := I.2.2.1 a b m1
        exact Or.inr ⟨b, cs_R_b ⟨r, j0, hr, by omega, m3⟩, m3⟩
    · simp only [nI_1, not_true, not_false_iff, false_implies, true_implies, true_and, and_true, forall_eq, implies_true]
      refine ih (L3, s3, q3) ⟨by omega, a1, fun b ⟨r', r1, r2, r3⟩ => ?_⟩
      by_cases e : r' = r
      · rw [e] at r3; exact a5 b r3.1 r3.2
      · exact a3 b (j2 b ⟨r', r1, by omega, r3⟩)
end
section
/-! small methods -/
theorem cs_ge1000 {b : Nat} (h : b < 1000) : (1000 : Int32) ≤ nI (1000 + b) := nI_le (a := 1000) (by omega) (by omega)
theorem cs_nge1000 {w : Int32} (h : w < 1000) : ¬ (1000 : Int32) ≤ w := by
  rw [Int32.lt_iff_toInt_lt] at h
  rw [Int32.le_iff_toInt_le]
  omega
theorem cs_ceq {c k : Nat} (hc : c < 1000) (hk : k < 1000) (h : c ≠ k) : ¬ nI c = nI k := fun e => h (cs_nIinj (by omega) (by omega) e)
theorem cs_isReg {post : Int32 → Prop} {p : Int32} (K1 : (∀ r, r < 6 → ¬ p = nI r) → post 0) (K2 : ∀ r, r < 6 → p = nI r → post 1) : wpX_isRegister post p := by
  rcases pk_ix p (n := 6) (by omega) with h | h | ⟨r, h1, h2⟩
  · simp only [wpX_isRegister, h, not_true, not_false_iff, false_implies, true_implies, true_and, and_true, forall_eq, implies_true]
    exact K1 (fun r hr e => by rw [e] at h; exact nI_pos (by omega) h)
  · have h' : (6 : Int32) ≤ p := h
    have g : ¬ p < 0 := fun z => by
      rw [Int32.lt_iff_toInt_lt] at z
      rw [Int32.le_iff_toInt_le] at h'
      have e1 : (0 : Int32).toInt = 0 := by decide
      have e2 : (6 : Int32).toInt = 6 := by decide
      omega
    simp only [wpX_isRegister, h', g, not_true, not_false_iff, false_implies, true_implies, true_and, and_true, forall_eq, implies_true]
    exact K1 (fun r hr e => by rw [e] at h; exact nI_ge hr (by omega) h)
  · have g : ¬ p < 0 := by rw [h2]; exact nI_pos (by omega)
    have g2 : ¬ (6 : Int32) ≤ p := by rw [h2]; exact nI_ge (b := 6) h1 (by omega)
    simp only [wpX_isRegister, g, g2, not_true, not_false_iff, false_implies, true_implies, true_and, and_true, forall_eq, implies_true]
    exact K2 r h1 h2
theorem cs_isFld {post : Int32 → Prop} {p : Int32} (K1 : (∀ r, r < 3 → ¬ p = nI r) → post 0) (K2 : ∀ r, r < 3 → p = nI r → post 1) : wpX_isField post p := by
  rcases pk_ix p (n := 3) (by omega) with h | h | ⟨r, h1, h2⟩
  · simp only [wpX_isField, h, not_true, not_false_iff, false_implies, true_implies, true_and, and_true, forall_eq, implies_true]
    exact K1 (fun r hr e => by rw [e] at h; exact nI_pos (by omega) h)
  · have h' : (3 : Int32) ≤ p := h
    have g : ¬ p < 0 := fun z => by
      rw [Int32.lt_iff_toInt_lt] at z
      rw [Int32.le_iff_toInt_le] at h'
      have e1 : (0 : Int32).toInt = 0 := by decide
      have e2 : (3 : Int32).toInt = 3 := by decide
      omega
    simp only [wpX_isField, h', g, not_true, not_false_iff, false_implies, true_implies, true_and, and_true, forall_eq, implies_true]
    exact K1 (fun r hr e => by rw [e] at h; exact nI_ge hr (by omega) h)
  · have g : ¬ p < 0 := by rw [h2]; exact nI_pos (by omega)
    have g2 : ¬ (3 : Int32) ≤ p := by rw [h2]; exact nI_ge (b := 3) h1 (by omega)
    simp only [wpX_isField, g, g2, not_true, not_false_iff, false_implies, true_implies, true_and, and_true, forall_eq, implies_true]
    exact K2 r h1 h2
theorem cs_isCol {post : Int32 → Prop} {p : Int32} (K1 : (∀ r, r < 7 → ¬ p = nI r) → post 0) (K2 : ∀ r, r < 7 → p = nI r → post 1) : wpX_isCollector post p := by
  rcases pk_ix p (n := 7) (by omega) with h | h | ⟨r, h1, h2⟩
  · simp only [wpX_isCollector, h, not_true, not_false_iff, false_implies, true_implies, true_and, and_true, forall_eq, implies_true]
    exact K1 (fun r hr e => by rw [e] at h; exact nI_pos (by omega) h)
  · have h' : (7 : Int32) ≤ p := h
    have g : ¬ p < 0 := fun z => by
      rw [Int32.lt_iff_toInt_lt] at z
      rw [Int32.le_iff_toInt_le] at h'
      have e1 : (0 : Int32).toInt = 0 := by decide
      have e2 : (7 : Int32).toInt = 7 := by decide
      omega
    simp only [wpX_isCollector, h', g, not_true, not_false_iff, false_implies, true_implies, true_and, and_true, forall_eq, implies_true]
    exact K1 (fun r hr e => by rw [e] at h; exact nI_ge hr (by omega) h)
  · have g : ¬ p < 0 := by rw [h2]; exact nI_pos (by omega)
    have g2 : ¬ (7 : Int32) ≤ p := by rw [h2]; exact nI_ge (b := 7) h1 (by omega)
    simp only [wpX_isCollector, g, g2, not_true, not_false_iff, false_implies, true_implies, true_and, and_true, forall_eq, implies_true]
    exact K2 r h1 h2
theorem cs_isNum {post : Int32 → Prop} {p : Int32} (K1 : ¬ cs_num p → post 0) (K2 : cs_num p → post 1) : wpX_isNumber post p := by
  have e1 : (-999 : Int32).toInt = -999 := by decide
  have e2 : (999 : Int32).toInt = 999 := by decide
  by_cases h : p < -999
  · simp only [wpX_isNumber, h, not_true, not_false_iff, false_implies, true_implies, true_and, and_true, forall_eq, implies_true]
    refine K1 (fun z => ?_)
    rw [Int32.lt_iff_toInt_lt] at h
    unfold cs_num at z; omega
  · by_cases h2 : 999 < p
    · simp only [wpX_isNumber, h, h2, not_true, not_false_iff, false_implies, true_implies, true_and, and_true, forall_eq, implies_true]
      refine K1 (fun z => ?_)
      rw [Int32.lt_iff_toInt_lt] at h2
      unfold cs_num at z; omega
    · simp only [wpX_isNumber, h, h2, not_true, not_false_iff, false_implies, true_implies, true_and, and_true, forall_eq, implies_true]
      refine K2 ?_
      rw [Int32.lt_iff_toInt_lt] at h h2
      unfold cs_num; omega
theorem cs_cellOf_num {f_reached f_half f_marking : Int32} {a_register a_field a_kept a_seen a_queue a_forward a_trial a_turn a_partner a_partnerBack a_tally a_remembered a_shade : Nat → Int32} {post : Int32 → Prop} {c r : Nat} (hc : c < 7) (hr : r < 6) (h : cs_num (a_register (6 * c + r))) (K : post (-1)) : wpX_cellOf post (f_reached, f_half, f_marking, a_register, a_field, a_kept, a_seen, a_queue, a_forward, a_trial, a_turn, a_partner, a_partnerBack, a_tally, a_remembered, a_shade) (nI c) (nI r) := by
  have v : vp_in (nI (6 * c + r)) 42 := vp_in_nI (by omega) (by omega)
  have k : (nI (6 * c + r)).toNatClampNeg = 6 * c + r := nI_clamp (by omega)
  have g := cs_nge1000 (cs_num_lt h)
  simp only [wpX_cellOf, cs_i6, v, k, g, not_true, not_false_iff, false_implies, true_implies, true_and, and_true, forall_eq, implies_true]
  exact K
theorem cs_cellOf_ref {f_reached f_half f_marking : Int32} {a_register a_field a_kept a_seen a_queue a_forward a_trial a_turn a_partner a_partnerBack a_tally a_remembered a_shade : Nat → Int32} {post : Int32 → Prop} {c r b : Nat} (hc : c < 7) (hr : r < 6) (hb : b < 1000) (h : a_register (6 * c + r) = nI (1000 + b)) (K : post (nI b)) : wpX_cellOf post (f_reached, f_half, f_marking, a_register, a_field, a_kept, a_seen, a_queue, a_forward, a_trial, a_turn, a_partner, a_partnerBack, a_tally, a_remembered, a_shade) (nI c) (nI r) := by
  have v : vp_in (nI (6 * c + r)) 42 := vp_in_nI (by omega) (by omega)
  have k : (nI (6 * c + r)).toNatClampNeg = 6 * c + r := nI_clamp (by omega)
  have g := cs_ge1000 hb
  simp only [wpX_cellOf, cs_i6, v, k, h, g, cs_ref_sub, not_true, not_false_iff, false_implies, true_implies, true_and, and_true, forall_eq, implies_true]
  exact K
theorem cs_enq {f_reached f_half f_marking : Int32} {a_register a_field a_kept a_seen a_queue a_forward a_trial a_turn a_partner a_partnerBack a_tally a_remembered a_shade : Nat → Int32} {post : SX → Prop} {L : Nat} {x : Int32} (hr : f_reached = nI L) (hL : L < 48) (K : post (nI (L + 1), f_half, f_marking, a_register, a_field, a_kept, a_seen, upd a_queue L x, a_forward, a_trial, a_turn, a_partner, a_partnerBack, a_tally, a_remembered, a_shade)) : wpX_enqueue post (f_reached, f_half, f_marking, a_register, a_field, a_kept, a_seen, a_queue, a_forward, a_trial, a_turn, a_partner, a_partnerBack, a_tally, a_remembered, a_shade) x := by
  subst hr
  have g : ¬ (48 : Int32) ≤ nI L := nI_ge (b := 48) hL (by omega)
  have v : vp_in (nI L) 48 := vp_in_nI hL (by omega)
  have k : (nI L).toNatClampNeg = L := nI_clamp (by omega)
  simp only [wpX_enqueue, g, v, k, nI_1, not_true, not_false_iff, false_implies, true_implies, true_and, and_true, forall_eq, implies_true]
  exact K
theorem cs_addRef {f_reached f_half f_marking : Int32} {a_register a_field a_kept a_seen a_queue a_forward a_trial a_turn a_partner a_partnerBack a_tally a_remembered a_shade : Nat → Int32} {post : SX → Prop} {xk : Nat → Int32} {w : Int32} (ok : cs_ok 3 xk w) (K : ∀ tl', (∀ b, cs_sg 3 b → tl' b = a_tally b + nI (cs_b (w = nI (1000 + b)))) → (∀ b, ¬ cs_sg 3 b → tl' b = a_tally b) → post (f_reached, f_half, f_marking, a_register, a_field, a_kept, a_seen, a_queue, a_forward, a_trial, a_turn, a_partner, a_partnerBack, tl', a_remembered, a_shade)) : wpX_addReference post (f_reached, f_half, f_marking, a_register, a_field, a_kept, a_seen, a_queue, a_forward, a_trial, a_turn, a_partner, a_partnerBack, a_tally, a_remembered, a_shade) w := by
  rcases cs_ok_word (by omega) ok with ⟨h1, h2⟩ | ⟨b0, b1, b2, b3, b4⟩
  · simp only [wpX_addReference, h2, not_true, not_false_iff, false_implies, true_implies, true_and, and_true, forall_eq, implies_true]
    refine K a_tally (fun b hb => ?_) (fun _ _ => rfl)
    unfold cs_sg at hb
    rw [cs_bf (fun z => cs_num_nw (B := 1000) (b := b) (by omega) (by omega) h1 ⟨by omega, z⟩), nI_0]
    grind
  · subst b4
    have g := cs_ref_ge (b := b0) (by omega)
    have v : vp_in (nI b0) 336 := vp_in_nI b2 (by omega)
    have k : (nI b0).toNatClampNeg = b0 := nI_clamp (by omega)
    simp only [wpX_addReference, g, cs_ref_sub, v, k, not_true, not_false_iff, false_implies, true_implies, true_and, and_true, forall_eq, implies_true]
    refine K _ (fun b hb => ?_) (fun b hb => cs_upd_n (fun e => hb (e ▸ b1)))
    unfold cs_sg at hb
    by_cases e : b = b0
    · subst e; rw [cs_upd_s, cs_bt rfl]; rfl
    · rw [cs_upd_n e, cs_bf (fun z => ?_), nI_0]
      · grind
      · have := cs_nIinj (by omega) (by omega) z
        omega
theorem cs_lower {f_reached f_half f_marking : Int32} {a_register a_field a_kept a_seen a_queue a_forward a_trial a_turn a_partner a_partnerBack a_tally a_remembered a_shade : Nat → Int32} {post : SX → Prop} {ex ex' : Nat → Nat} {n L : Nat} {w : Int32} (h : cs_D a_register a_field a_kept a_tally a_queue ex n L) (hr : f_reached = nI L) (hL : L ≤ 48) (ok : cs_ok 3 a_kept w) (he : ∀ b, cs_sg 3 b → ex b = ex' b + cs_b (w = nI (1000 + b))) (hx : ∀ b, ex' b ≤ 3)
    (K : ∀ tl' q' L', cs_D a_register a_field a_kept tl' q' ex' n L' → L ≤ L' → L' ≤ 48 → (∀ i, i < L → q' i = a_queue i) → (∀ b, ¬ cs_sg 3 b → tl' b = a_tally b) → post (nI L', f_half, f_marking, a_register, a_field, a_kept, a_seen, q', a_forward, a_trial, a_turn, a_partner, a_partnerBack, tl', a_remembered, a_shade)) : wpX_lowerTally post (f_reached, f_half, f_marking, a_register, a_field, a_kept, a_seen, a_queue, a_forward, a_trial, a_turn, a_partner, a_partnerBack, a_tally, a_remembered, a_shade) w := by
  subst hr
  rcases cs_ok_word (by omega) ok with ⟨h1, h2⟩ | ⟨b0, b1, b2, b3, b4⟩
  · have g := cs_nge1000 h2
    simp only [wpX_lowerTally, g, not_true, not_false_iff, false_implies, true_implies, true_and, and_true, forall_eq, implies_true]
    refine K a_tally a_queue L (cs_D_ex h (fun b hb => ?_)) (Nat.le_refl _) hL (fun _ _ => rfl) (fun _ _ => rfl)
    rw [he b hb]
    unfold cs_sg at hb
    rw [cs_bf (fun z => cs_num_nw (B := 1000) (b := b) (by omega) (by omega) h1 ⟨by omega, z⟩)]
    rfl
  · subst b4
    have g := cs_ge1000 (b := b0) (by omega)
    have v : vp_in (nI b0) 336 := vp_in_nI b2 (by omega)
    have k : (nI b0).toNatClampNeg = b0 := nI_clamp (by omega)
    obtain ⟨l1, l2, l3⟩ := cs_D_low (ex' := ex') (b := b0) (v := cs_c a_register a_field a_kept b0 + ex' b0) h b1 b3 (by rw [he b0 b1, cs_bt rfl]) (fun z hz hne => by
      rw [he z hz, cs_bf (fun y => ?_)]
      · rfl
      · unfold cs_sg at hz
        have := cs_nIinj (by omega) (by omega) y
        omega) rfl
    have hvv : cs_c a_register a_field a_kept b0 + ex' b0 < 1000 := by
      have z1 := cs_c_le a_register a_field a_kept b0
      have z2 := hx b0
      omega
    generalize cs_c a_register a_field a_kept b0 + ex' b0 = vv at l1 l2 l3 hvv
    by_cases e : vv = 0
    · subst e
      obtain ⟨m1, m2⟩ := l2 rfl
      have e0 : upd a_tally b0 (nI 0) b0 = 0 := cs_upd_s _ _ _
      simp only [wpX_lowerTally, g, cs_ref_sub, v, k, l1, nI_pred, e0, not_true, not_false_iff, false_implies, true_implies, true_and, and_true, forall_eq, implies_true]
      refine cs_enq rfl m1 ?_
      exact K _ _ _ m2 (by omega) (by omega) (fun i hi => cs_upd_n (by omega)) (fun b hb => cs_upd_n (fun e => hb (e ▸ b1)))
    · have m2 := l3 e
      have e0 : ¬ upd a_tally b0 (nI vv) b0 = 0 := by
        rw [cs_upd_s]
        exact nI_ne0 (by omega) (by omega)
      simp only [wpX_lowerTally, g, cs_ref_sub, v, k, l1, nI_pred, e0, not_true, not_false_iff, false_implies, true_implies, true_and, and_true, forall_eq, implies_true]
      exact K _ _ _ m2 (Nat.le_refl _) hL (fun _ _ => rfl) (fun b hb => cs_upd_n (fun e => hb (e ▸ b1)))
end
section
/-! lowering counts; setting registers and fields -/
theorem cs_dropRef {f_reached f_half f_marking : Int32} {a_register a_field a_kept a_seen a_queue a_forward a_trial a_turn a_partner a_partnerBack a_tally a_remembered a_shade : Nat → Int32} {post : SX → Prop} {w : Int32} (h : ∀ q, cs_D a_register a_field a_kept a_tally q (fun b => cs_b (w = nI (1000 + b))) 0 0) (ok : cs_ok 3 a_kept w)
    (K : ∀ xk' tl' q' L, cs_D a_register a_field xk' tl' q' (fun _ => 0) L L → (∀ b, ¬ cs_sg 3 b → xk' b = a_kept b ∧ tl' b = a_tally b) → post (nI L, f_half, f_marking, a_register, a_field, xk', a_seen, q', a_forward, a_trial, a_turn, a_partner, a_partnerBack, tl', a_remembered, a_shade)) : wpX_dropReference post (f_reached, f_half, f_marking, a_register, a_field, a_kept, a_seen, a_queue, a_forward, a_trial, a_turn, a_partner, a_partnerBack, a_tally, a_remembered, a_shade) w := by
  simp only [wpX_dropReference]
  refine cs_lower (ex' := fun _ => 0) (n := 0) (L := 0) (h a_queue) rfl (by omega) ok (fun b _ => by (try dsimp only); omega) (fun _ => by omega) (fun tl1 q1 L1 d1 _ d3 _ d4 => ?_)
  simp only []
  refine loop_m (σ := Nat × Nat × (Nat → Int32) × (Nat → Int32) × (Nat → Int32)) (fun n t => wX_dropReference_12 post n (nI t.1) (nI t.2.1) f_half f_marking a_register a_field t.2.2.1 a_seen t.2.2.2.2 a_forward a_trial a_turn a_partner a_partnerBack t.2.2.2.1 a_remembered a_shade)
    (fun t => t.2.1 ≤ 48 ∧ cs_D a_register a_field t.2.2.1 t.2.2.2.1 t.2.2.2.2 (fun _ => 0) t.1 t.2.1 ∧ (∀ b, ¬ cs_sg 3 b → t.2.2.1 b = a_kept b ∧ t.2.2.2.1 b = a_tally b)) (fun t => 48 - t.1) (fun n t hI ih => ?_) (0, L1, a_kept, tl1, q1) ⟨d3, d1, fun b hb => ⟨rfl, d4 b hb⟩⟩
  obtain ⟨i, L, xk, tl, q⟩ := t
  obtain ⟨i1, i2, i3⟩ := hI
  try dsimp only at i1 i2 i3 ih ⊢
  have hn := i2.1
  by_cases e : i = L
  · subst e
    have fin := K xk tl q i i2 i3
    have g2 : nI i ≤ nI i := nI_le (Nat.le_refl _) (by omega)
    by_cases e2 : i = 48
    · have g : (48 : Int32) ≤ nI i := nI_le (a := 48) (by omega) (by omega)
      simp only [wX_dropReference_12, g, not_true, not_false_iff, false_implies, true_implies, true_and, and_true, forall_eq, implies_true]
      exact fin
    · have g : ¬ (48 : Int32) ≤ nI i := nI_ge (b := 48) (by omega) (by omega)
      simp only [wX_dropReference_12, g, g2, not_true, not_false_iff, false_implies, true_implies, true_and, and_true, forall_eq, implies_true]
      exact fin
  · have g : ¬ (48 : Int32) ≤ nI i := nI_ge (b := 48) (by omega) (by omega)
    have g2 : ¬ nI L ≤ nI i := nI_ge (by omega) (by omega)
    obtain ⟨x, x1, x2, x3, x4, x5⟩ := cs_D_take i2 (by omega)
    have x1' := x1
    unfold cs_sg at x1'
    have v1 : vp_in (nI i) 48 := vp_in_nI (by omega) (by omega)
    have k1 : (nI i).toNatClampNeg = i := nI_clamp (by omega)
    have v2 : vp_in (nI x) 336 := vp_in_nI (by omega) (by omega)
    have k2 : (nI x).toNatClampNeg = x := nI_clamp (by omega)
    simp only [wX_dropReference_12, g, g2, v1, k1, x2, v2, k2, cs_nb0, not_true, not_false_iff, false_implies, true_implies, true_and, and_true, forall_eq, implies_true]
    refine pk_loop (σ := Nat × (Nat → Int32) × (Nat → Int32)) (fun m f t => wX_dropReference_43 post (wX_dropReference_12 post n) (nI i) (nI x) m (nI f) (nI t.1) f_half f_marking a_register a_field (upd xk x 0) a_seen t.2.2 a_forward a_trial a_turn a_partner a_partnerBack t.2.1 a_remembered a_shade)
      (fun f t => t.1 ≤ 48 ∧ cs_D a_register a_field (upd xk x 0) t.2.1 t.2.2 (cs_x a_field x f) (i + 1) t.1 ∧ (∀ b, ¬ cs_sg 3 b → t.2.1 b = a_tally b)) 3 0 (L, tl, q) (by omega) ⟨i1, x4, fun b hb => (i3 b hb).2⟩ (fun m t hI => ?_) (fun m f t hf hI ih2 => ?_)
    · obtain ⟨L2, t2, q2⟩ := t
      obtain ⟨j1, j2, j3⟩ := hI
      try dsimp only at j1 j2 j3 ⊢
      have g3 : (3 : Int32) ≤ nI 3 := nI_le (a := 3) (by omega) (by omega)
      simp only [wX_dropReference_43, g3, nI_1, not_true, not_false_iff, false_implies, true_implies, true_and, and_true, forall_eq, implies_true]
      have j0 := j2.1
      refine ih (i + 1, L2, upd xk x 0, t2, q2) ⟨j1, cs_D_ex j2 (fun b _ => (cs_x_3 a_field x b).symm), fun b hb => ⟨?_, j3 b hb⟩⟩ (by (try dsimp only); omega)
      show upd xk x 0 b = a_kept b
      rw [cs_upd_n (fun e : b = x => hb (by rw [e]; exact x1))]; exact (i3 b hb).1
    · obtain ⟨L2, t2, q2⟩ := t
      obtain ⟨j1, j2, j3⟩ := hI
      try dsimp only at j1 j2 j3 ⊢
      have g3 : ¬ (3 : Int32) ≤ nI f := nI_ge (b := 3) hf (by omega)
      have v3 : vp_in (nI (3 * x + f)) 1008 := vp_in_nI (by omega) (by omega)
      have k3 : (nI (3 * x + f)).toNatClampNeg = 3 * x + f := nI_clamp (by omega)
      simp only [wX_dropReference_43, g3, cs_i3, v3, k3, not_true, not_false_iff, false_implies, true_implies, true_and, and_true, forall_eq, implies_true]
      refine cs_lower (ex' := cs_x a_field x (f + 1)) j2 rfl j1 (x5 f hf) (fun b _ => cs_x_s a_field hf b) (fun b => cs_x_le a_field x (f + 1) b) (fun t3 q3 L3 e1 e2 e3 e4 e5 => ?_)
      simp only [nI_1, not_true, not_false_iff, false_implies, true_implies, true_and, and_true, forall_eq, implies_true]
      exact ih2 (L3, t3, q3) ⟨e3, e1, fun b hb => (e5 b hb).trans (j3 b hb)⟩
theorem cs_setReg_ne {f_reached f_half f_marking : Int32} {a_register a_field a_kept a_seen a_queue a_forward a_trial a_turn a_partner a_partnerBack a_tally a_remembered a_shade : Nat → Int32} {post : SX → Prop} {c r : Nat} {w : Int32} (hc : c < 7) (h3 : c ≠ 3) (hr : r < 6) (K : post (f_reached, f_half, f_marking, upd a_register (6 * c + r) w, a_field, a_kept, a_seen, a_queue, a_forward, a_trial, a_turn, a_partner, a_partnerBack, a_tally, a_remembered, a_shade)) : wpX_setRegister post (f_reached, f_half, f_marking, a_register, a_field, a_kept, a_seen, a_queue, a_forward, a_trial, a_turn, a_partner, a_partnerBack, a_tally, a_remembered, a_shade) (nI c) (nI r) w := by
  have g : ¬ nI c = 3 := cs_ceq (k := 3) (by omega) (by omega) h3
  have v : vp_in (nI (6 * c + r)) 42 := vp_in_nI (by omega) (by omega)
  have k : (nI (6 * c + r)).toNatClampNeg = 6 * c + r := nI_clamp (by omega)
  simp only [wpX_setRegister, wX_setRegister_27, g, cs_i6, v, k, not_true, not_false_iff, false_implies, true_implies, true_and, and_true, forall_eq, implies_true]
  exact K
theorem cs_setReg_3 {f_reached f_half f_marking : Int32} {a_register a_field a_kept a_seen a_queue a_forward a_trial a_turn a_partner a_partnerBack a_tally a_remembered a_shade : Nat → Int32} {post : SX → Prop} {r : Nat} {w : Int32} (hr : r < 6) (W : cs_W 3 a_field a_kept) (ok : ∀ r, r < 6 → cs_ok 3 a_kept (a_register (18 + r))) (okw : cs_ok 3 a_kept w) (H : ∀ b, cs_sg 3 b → ¬ a_kept b = 0 → a_tally b = nI (cs_c a_register a_field a_kept b) ∧ (0 < cs_c a_register a_field a_kept b ∨ w = nI (1000 + b)))
    (K : ∀ xk' tl' q' L, cs_D (upd a_register (18 + r) w) a_field xk' tl' q' (fun _ => 0) L L → (∀ b, ¬ cs_sg 3 b → xk' b = a_kept b ∧ tl' b = a_tally b) → post (nI L, f_half, f_marking, upd a_register (18 + r) w, a_field, xk', a_seen, q', a_forward, a_trial, a_turn, a_partner, a_partnerBack, tl', a_remembered, a_shade)) : wpX_setRegister post (f_reached, f_half, f_marking, a_register, a_field, a_kept, a_seen, a_queue, a_forward, a_trial, a_turn, a_partner, a_partnerBack, a_tally, a_remembered, a_shade) 3 (nI r) w := by
  have e : (3 : Int32) * 6 + nI r = nI (18 + r) := cs_i6 3 r
  have v : vp_in (nI (18 + r)) 42 := vp_in_nI (by omega) (by omega)
  have k : (nI (18 + r)).toNatClampNeg = 18 + r := nI_clamp (by omega)
  simp only [wpX_setRegister, e, v, k, not_true, not_false_iff, false_implies, true_implies, true_and, and_true, forall_eq, implies_true]
  refine cs_addRef okw (fun tl1 t1 t2 => ?_)
  simp only [wX_setRegister_27, v, k, not_true, not_false_iff, false_implies, true_implies, true_and, and_true, forall_eq, implies_true]
  refine cs_dropRef (fun q => cs_D_reg W ok hr okw H t1) (ok r hr) (fun xk' tl' q' L d1 d2 => ?_)
  exact K xk' tl' q' L d1 (fun b hb => ⟨(d2 b hb).1, (d2 b hb).2.trans (t2 b hb)⟩)
/-- a register is set, in any collector -/
theorem cs_setReg_J {u : SX} {post : SX → Prop} {c r : Nat} {y w : Int32} {yr yf : Nat → Int32} (hc : c < 7) (hr : r < 6) (J : cs_JU c u yr yf) (hm : ∀ P, cs_I c P u.2.2.2.1 u.2.2.2.2.1 u.2.2.2.2.2.1 yr yf → cs_m P y w)
    (hq : ∀ b, cs_w 1000 w b → cs_Q 1000 u.2.2.2.1 (6 * c) 0 6 b ∨ ∃ a, cs_Q 1000 u.2.2.2.1 (6 * c) 0 6 a ∧ cs_E 1000 u.2.2.2.2.1 a b) (K : ∀ u', cs_FU c u u' → cs_JU c u' (upd yr r y) yf → post u') : wpX_setRegister post u (nI c) (nI r) w := by
  obtain ⟨f_reached, f_half, f_marking, a_register, a_field, a_kept, a_seen, a_queue, a_forward, a_trial, a_turn, a_partner, a_partnerBack, a_tally, a_remembered, a_shade⟩ := u
  try dsimp only at hm hq
  have J' : cs_J c f_half f_marking a_register a_field a_kept a_tally a_remembered a_shade yr yf := J
  by_cases e : c = 3
  · subst e
    obtain ⟨⟨P, I⟩, W, _, _, k3, _⟩ := J'
    have m := hm P I
    have okw := cs_m_ok I.2.2.1 m
    refine cs_setReg_3 hr W (fun r hr => cs_m_ok I.2.2.1 (I.2.2.2.1 r hr)) okw (fun b hb hk => ⟨(k3 rfl b hb hk).2, Or.inl (k3 rfl b hb hk).1⟩) (fun xk' tl' q' L d1 d2 => ?_)
    refine K _ ⟨fun _ => rfl, fun _ => rfl, fun j hj => cs_upd_n (by omega), fun _ _ => rfl, fun b hb => ⟨(d2 b hb).1, (d2 b hb).2, rfl, rfl⟩⟩ ?_
    have I' : cs_I 3 P (upd a_register (18 + r) w) a_field a_kept (upd yr r y) yf := cs_I_reg I (r := r) (fun j hj => cs_upd_n hj) (fun j hj e => cs_upd_n (by omega)) (by
      show cs_m P (upd yr r y r) (upd a_register (18 + r) w (18 + r))
      rw [cs_upd_s, cs_upd_s]; exact m)
    exact cs_J3_fin I' d1
  · refine cs_setReg_ne hc e hr (K _ ⟨fun _ => rfl, fun _ => rfl, fun j hj => cs_upd_n (by omega), fun _ _ => rfl, fun b hb => ⟨rfl, rfl, rfl, rfl⟩⟩ ?_)
    exact cs_J_reg hc e J' hr hm hq
end
section
/-! the reference's walks -/
theorem cs_yl {y : Int32} (h : cs_num y) : y < 10000 := by
  rw [Int32.lt_iff_toInt_lt]
  have e : (10000 : Int32).toInt = 10000 := by decide
  unfold cs_num at h; omega
theorem cs_yg {a : Nat} (h : a < 1000) : ¬ nI (10000 + a) < 10000 := nI_nlt (b := 10000) (by omega) (by omega)
theorem cs_yRefers {post : Int32 → Prop} {v : SY} {y : Int32} (h : cs_yw y) (K1 : cs_num y → post 0) (K2 : ∀ a, a < 48 → y = nI (10000 + a) → post 1) : wpY_refers post v y := by
  obtain ⟨yr, yf⟩ := v
  rcases h with h | ⟨a, h1, h2⟩
  · have g := cs_yl h
    simp only [wpY_refers, g, not_true, not_false_iff, false_implies, true_implies, true_and, and_true, forall_eq, implies_true]
    exact K1 h
  · have g := cs_yg (a := a) (by omega)
    rw [← h2] at g
    simp only [wpY_refers, g, not_true, not_false_iff, false_implies, true_implies, true_and, and_true, forall_eq, implies_true]
    exact K2 a h1 h2
theorem cs_yReg {post : Int32 → Prop} {v : SY} {p : Int32} (K1 : (∀ r, r < 6 → ¬ p = nI r) → post 0) (K2 : ∀ r, r < 6 → p = nI r → post 1) : wpY_isRegister post v p := by
  obtain ⟨yr, yf⟩ := v
  rcases pk_ix p (n := 6) (by omega) with h | h | ⟨r, h1, h2⟩
  · simp only [wpY_isRegister, h, not_true, not_false_iff, false_implies, true_implies, true_and, and_true, forall_eq, implies_true]
    exact K1 (fun r hr e => by rw [e] at h; exact nI_pos (by omega) h)
  · have h' : (6 : Int32) ≤ p := h
    rw [Int32.le_iff_toInt_le] at h'
    have e1 : (0 : Int32).toInt = 0 := by decide
    have e2 : (6 : Int32).toInt = 6 := by decide
    have e3 : (5 : Int32).toInt = 5 := by decide
    have g : ¬ p < 0 := by rw [Int32.lt_iff_toInt_lt]; omega
    have g2 : 5 < p := by rw [Int32.lt_iff_toInt_lt]; omega
    simp only [wpY_isRegister, g2, g, not_true, not_false_iff, false_implies, true_implies, true_and, and_true, forall_eq, implies_true]
    exact K1 (fun r hr e => by rw [e] at h; exact nI_ge hr (by omega) h)
  · have g : ¬ p < 0 := by rw [h2]; exact nI_pos (by omega)
    have g2 : ¬ (5 : Int32) < p := by rw [h2]; exact nI_nlt (a := 5) (by omega) (by omega)
    simp only [wpY_isRegister, g, g2, not_true, not_false_iff, false_implies, true_implies, true_and, and_true, forall_eq, implies_true]
    exact K2 r h1 h2
theorem cs_yFld {post : Int32 → Prop} {v : SY} {p : Int32} (K1 : (∀ r, r < 3 → ¬ p = nI r) → post 0) (K2 : ∀ r, r < 3 → p = nI r → post 1) : wpY_isField post v p := by
  obtain ⟨yr, yf⟩ := v
  rcases pk_ix p (n := 3) (by omega) with h | h | ⟨r, h1, h2⟩
  · simp only [wpY_isField, h, not_true, not_false_iff, false_implies, true_implies, true_and, and_true, forall_eq, implies_true]
    exact K1 (fun r hr e => by rw [e] at h; exact nI_pos (by omega) h)
  · have h' : (3 : Int32) ≤ p := h
    rw [Int32.le_iff_toInt_le] at h'
    have e1 : (0 : Int32).toInt = 0 := by decide
    have e2 : (3 : Int32).toInt = 3 := by decide
    have e3 : (2 : Int32).toInt = 2 := by decide
    have g : ¬ p < 0 := by rw [Int32.lt_iff_toInt_lt]; omega
    have g2 : 2 < p := by rw [Int32.lt_iff_toInt_lt]; omega
    simp only [wpY_isField, g2, g, not_true, not_false_iff, false_implies, true_implies, true_and, and_true, forall_eq, implies_true]
    exact K1 (fun r hr e => by rw [e] at h; exact nI_ge hr (by omega) h)
  · have g : ¬ p < 0 := by rw [h2]; exact nI_pos (by omega)
    have g2 : ¬ (2 : Int32) < p := by rw [h2]; exact nI_nlt (a := 2) (by omega) (by omega)
    simp only [wpY_isField, g, g2, not_true, not_false_iff, false_implies, true_implies, true_and, and_true, forall_eq, implies_true]
    exact K2 r h1 h2
theorem cs_yCol {post : Int32 → Prop} {v : SY} {p : Int32} (K1 : (∀ r, r < 7 → ¬ p = nI r) → post 0) (K2 : ∀ r, r < 7 → p = nI r → post 1) : wpY_isCollector post v p := by
  obtain ⟨yr, yf⟩ := v
  rcases pk_ix p (n := 7) (by omega) with h | h | ⟨r, h1, h2⟩
  · simp only [wpY_isCollector, h, not_true, not_false_iff, false_implies, true_implies, true_and, and_true, forall_eq, implies_true]
    exact K1 (fun r hr e => by rw [e] at h; exact nI_pos (by omega) h)
  · have h' : (7 : Int32) ≤ p := h
    rw [Int32.le_iff_toInt_le] at h'
    have e1 : (0 : Int32).toInt = 0 := by decide
    have e2 : (7 : Int32).toInt = 7 := by decide
    have e3 : (6 : Int32).toInt = 6 := by decide
    have g : ¬ p < 0 := by rw [Int32.lt_iff_toInt_lt]; omega
    have g2 : 6 < p := by rw [Int32.lt_iff_toInt_lt]; omega
    simp only [wpY_isCollector, g2, g, not_true, not_false_iff, false_implies, true_implies, true_and, and_true, forall_eq, implies_true]
    exact K1 (fun r hr e => by rw [e] at h; exact nI_ge hr (by omega) h)
  · have g : ¬ p < 0 := by rw [h2]; exact nI_pos (by omega)
    have g2 : ¬ (6 : Int32) < p := by rw [h2]; exact nI_nlt (a := 6) (by omega) (by omega)
    simp only [wpY_isCollector, g, g2, not_true, not_false_iff, false_implies, true_implies, true_and, and_true, forall_eq, implies_true]
    exact K2 r h1 h2
theorem cs_div3 (c : Nat) (h : c < 144) : nI c / 3 = nI (c / 3) := pk_div (d := 3) (by omega) (by omega) (by omega)
theorem cs_n30 : ¬ (3 : Int32) = 0 := by decide
/-! from -/
section
variable {post : Int64 → Prop} {yr yf : Nat → Int32} {R0 : Nat → Prop}
theorem cs_pass {n N : Nat} (hf : ∀ j, j < 144 → cs_yw (yf j)) (h : cs_fI R0 yf N) (K : ∀ t, cs_ps R0 yf N t 144 → wY_from_28 post yr yf n (lN t) (lN N)) : ∃ m, wY_from_43 post (wY_from_28 post yr yf n) (lN N) yr yf m (lN N) 0 := by
  refine pk_loop (σ := Nat) (fun m c t => wY_from_43 post (wY_from_28 post yr yf n) (lN N) yr yf m (lN t) (nI c)) (fun c t => cs_ps R0 yf N t c) 144 0 N (by omega) (cs_ps_0 h) (fun m t hI => ?_) (fun m c t hc hI ih2 => ?_)
  · have g3 : (144 : Int32) ≤ nI 144 := nI_le (a := 144) (by omega) (by omega)
    simp only [wY_from_43, g3, not_true, not_false_iff, false_implies, true_implies, true_and, and_true, forall_eq, implies_true]
    exact K t hI
  · have g3 : ¬ (144 : Int32) ≤ nI c := nI_ge (b := 144) hc (by omega)
    have v : vp_in (nI c) 144 := vp_in_nI hc (by omega)
    have k : (nI c).toNatClampNeg = c := nI_clamp (by omega)
    have hb := cs_bit (N := t) (k := c / 3) hI.1.1 (by omega)
    by_cases z : cs_B t (c / 3)
    · have z' := hb.mpr z
      simp only [wY_from_43, g3, cs_div3 c hc, z', v, k, cs_n30, not_true, not_false_iff, false_implies, true_implies, true_and, and_true, forall_eq, implies_true]
      refine cs_yRefers (hf c hc) (fun hn => ?_) (fun a ha e => ?_)
      · simp only [wY_from_83, wY_from_84, nI_1, not_true, not_false_iff, false_implies, true_implies, true_and, and_true, forall_eq, implies_true]
        exact ih2 t (cs_ps_off hI (fun _ => hn))
      · simp only [wY_from_84, v, k, e, cs_yw_sub, cs_set hI.1.1 ha, nI_1, cs_n10, not_true, not_false_iff, false_implies, true_implies, true_and, and_true, forall_eq, implies_true]
        exact ih2 _ (cs_ps_on hI hc z ha e)
    · have z' : ¬ ((lN t >>> ((nI (c / 3)).toInt64 &&& 63)) &&& 1) = 1 := fun y => z (hb.mp y)
      simp only [wY_from_43, g3, cs_div3 c hc, z', cs_n30, not_true, not_false_iff, false_implies, true_implies, true_and, and_true, forall_eq, implies_true]
      simp only [wY_from_83, wY_from_84, nI_1, not_true, not_false_iff, false_implies, true_implies, true_and, and_true, forall_eq, implies_true]
      exact ih2 t (cs_ps_off hI (fun y => absurd y z))
theorem cs_passes (hf : ∀ j, j < 144 → cs_yw (yf j)) (K : ∀ M, M < 2 ^ 48 → (∀ a, cs_B M a ↔ cs_R R0 (cs_E 10000 yf) a) → post (lN M)) : ∀ (d n M N : Nat), d < n → cs_ps R0 yf M N 144 → M < 2 ^ 48 → 2 * cs_n (fun a => ¬ cs_B N a) 48 + cs_b (N ≠ M) ≤ d → wY_from_28 post yr yf n (lN N) (lN M) := by
  intro d
  induction d with
  | zero =>
    intro n M N hn hp hM hd
    have e : N = M := Classical.byContradiction fun z => by rw [cs_bt z] at hd; omega
    subst e
    obtain ⟨n, rfl⟩ : ∃ k, n = k + 1 := ⟨n - 1, by omega⟩
    simp only [wY_from_28, not_true, not_false_iff, false_implies, true_implies, true_and, and_true, forall_eq, implies_true]
    exact K N hM (cs_ps_end hp)
  | succ d ih =>
    intro n M N hn hp hM hd
    obtain ⟨n, rfl⟩ : ∃ k, n = k + 1 := ⟨n - 1, by omega⟩
    by_cases e : N = M
    · subst e
      simp only [wY_from_28, not_true, not_false_iff, false_implies, true_implies, true_and, and_true, forall_eq, implies_true]
      exact K N hM (cs_ps_end hp)
    · have hNl := hp.1.1
      have g : ¬ lN N = lN M := fun z => e ((pk_lEQ (by omega) (by omega)).mp z)
      simp only [wY_from_28, g, not_true, not_false_iff, false_implies, true_implies, true_and, and_true, forall_eq, implies_true]
      refine cs_pass hf hp.1 (fun t hI => ?_)
      refine ih n N t (by omega) hI hNl ?_
      rw [cs_bt e] at hd
      by_cases e2 : t = N
      · subst e2
        rw [cs_bf (fun z => z rfl)]
        omega
      · have := cs_B_ne hNl hI.1.1 hI.2.1 e2
        have := cs_ble (t ≠ N)
        omega
theorem cs_from {N : Nat} {y : Int32} (hf : ∀ j, j < 144 → cs_yw (yf j)) (hN : N < 2 ^ 48) (hy : cs_yw y) (h0 : ∀ a, R0 a ↔ cs_B N a ∨ cs_w 10000 y a)
    (K : ∀ M, M < 2 ^ 48 → (∀ a, cs_B M a ↔ cs_R R0 (cs_E 10000 yf) a) → post (lN M)) : wpY_from post (yr, yf) y (lN N) := by
  have key : ∀ M0, cs_fI R0 yf M0 → ∃ n, wY_from_28 post yr yf n (lN M0) (-1) := by
    intro M0 hM0
    refine ⟨201, ?_⟩
    have g : ¬ lN M0 = -1 := fun e => by
      have h : (lN M0).toInt = (-1 : Int64).toInt := by rw [e]
      have := hM0.1
      rw [pk_lT (by omega)] at h
      have e : (-1 : Int64).toInt = -1 := by decide
      omega
    simp only [wY_from_28, g, not_true, not_false_iff, false_implies, true_implies, true_and, and_true, forall_eq, implies_true]
    refine cs_pass hf hM0 (fun t ht => cs_passes hf K 100 200 M0 t (by omega) ht hM0.1 ?_)
    have a := cs_n_le (fun a => ¬ cs_B t a) 48
    have b := cs_ble (t ≠ M0)
    omega
  simp only [wpY_from]
  refine cs_yRefers hy (fun hn => ?_) (fun a ha e => ?_)
  · simp only [not_true, not_false_iff, false_implies, true_implies, true_and, and_true, forall_eq, implies_true]
    refine key N ⟨hN, fun a ha => ?_, fun a ha => cs_R_b ((h0 a).mpr (Or.inl ha))⟩
    rcases (h0 a).mp ha with z | z
    · exact z
    · exact absurd z (cs_num_nw (by omega) (by omega) hn)
  · simp only [e, cs_yw_sub, cs_set hN ha, cs_n10, not_true, not_false_iff, false_implies, true_implies, true_and, and_true, forall_eq, implies_true]
    refine key _ ⟨cs_or_lt hN ha, fun a' ha' => ?_, fun a' ha' => cs_R_b ((h0 a').mpr ?_)⟩
    · rcases (h0 a').mp ha' with z | z
      · exact cs_B_or.mpr (Or.inl z)
      · exact cs_B_or.mpr (Or.inr (cs_w_inj (B := 10000) (by omega) z ⟨by omega, e⟩))
    · rcases cs_B_or.mp ha' with z | z
      · exact Or.inl z
      · rw [z]; exact Or.inr ⟨by omega, e⟩
end
theorem cs_all {post : Int64 → Prop} {yr yf : Nat → Int32} (hY : cs_Y yr yf) (K : ∀ M, M < 2 ^ 48 → (∀ a, cs_B M a ↔ cs_V 10000 yr 0 0 6 yf a) → post (lN M)) : wpY_all post (yr, yf) := by
  simp only [wpY_all]
  refine pk_loop (σ := Nat) (fun m r t => wY_all_4 post yr yf m (lN t) (nI r)) (fun r t => t < 2 ^ 48 ∧ ∀ a, cs_B t a ↔ cs_V 10000 yr 0 0 r yf a) 6 0 0 (by omega) ⟨by omega, fun a => ⟨fun z => absurd z (cs_B_0 a), fun z => absurd z cs_V_0⟩⟩ (fun m t hI => ?_) (fun m r t hr hI ih => ?_)
  · have g3 : (6 : Int32) ≤ nI 6 := nI_le (a := 6) (by omega) (by omega)
    simp only [wY_all_4, g3, not_true, not_false_iff, false_implies, true_implies, true_and, and_true, forall_eq, implies_true]
    exact K t hI.1 hI.2
  · have g3 : ¬ (6 : Int32) ≤ nI r := nI_ge (b := 6) hr (by omega)
    have v : vp_in (nI r) 6 := vp_in_nI hr (by omega)
    have k : (nI r).toNatClampNeg = r := nI_clamp (by omega)
    simp only [wY_all_4, g3, v, k, nI_1, not_true, not_false_iff, false_implies, true_implies, true_and, and_true, forall_eq, implies_true]
    refine cs_from (R0 := fun a => cs_V 10000 yr 0 0 r yf a ∨ cs_w 10000 (yr r) a) hY.2.1 hI.1 (hY.1 r hr) (fun a => or_congr (hI.2 a).symm Iff.rfl) (fun M h1 h2 => ?_)
    exact ih M ⟨h1, fun a => (h2 a).trans cs_V_s⟩
theorem cs_ones {post : Int32 → Prop} {v : SY} {N : Nat} (hN : N < 2 ^ 48) (K : post (nI (cs_n (cs_B N) 48))) : wpY_ones post v (lN N) := by
  obtain ⟨yr, yf⟩ := v
  simp only [wpY_ones]
  refine pk_loop (σ := Nat) (fun m i t => wY_ones_5 post (lN N) yr yf m (nI t) (nI i)) (fun i t => t = cs_n (cs_B N) i) 48 0 0 (by omega) rfl (fun m t hI => ?_) (fun m i t hi hI ih => ?_)
  · have g3 : (48 : Int32) ≤ nI 48 := nI_le (a := 48) (by omega) (by omega)
    simp only [wY_ones_5, g3, not_true, not_false_iff, false_implies, true_implies, true_and, and_true, forall_eq, implies_true]
    rw [hI]; exact K
  · have g3 : ¬ (48 : Int32) ≤ nI i := nI_ge (b := 48) hi (by omega)
    have hb := cs_bit (N := N) (k := i) hN hi
    by_cases z : cs_B N i
    · have z' := hb.mpr z
      simp only [wY_ones_5, g3, z', nI_1, not_true, not_false_iff, false_implies, true_implies, true_and, and_true, forall_eq, implies_true]
      exact ih (t + 1) (by rw [cs_n_suc, cs_bt z, hI])
    · have z' : ¬ ((lN N >>> ((nI i).toInt64 &&& 63)) &&& 1) = 1 := fun y => z (hb.mp y)
      simp only [wY_ones_5, g3, z', nI_1, not_true, not_false_iff, false_implies, true_implies, true_and, and_true, forall_eq, implies_true]
      exact ih t (by rw [cs_n_suc, cs_bf z, hI, Nat.add_zero])
/-- how many the reference can come to -/
theorem cs_ycount {post : Int32 → Prop} {yr yf : Nat → Int32} {v : SY} (hY : cs_Y yr yf) (K : post (nI (cs_n (cs_V 10000 yr 0 0 6 yf) 48))) : wpY_all (fun r => wpY_ones (fun r' => post r') v r) (yr, yf) := by
  refine cs_all hY (fun M h1 h2 => cs_ones h1 ?_)
  rw [cs_n_eq (fun a _ => h2 a)]; exact K
end
section
/-! cells: sweeping, free ones, taking one -/
def cs_up (lo i : Nat) (A : Nat → Prop) (k0 k : Nat → Int32) : Prop := (∀ b, lo ≤ b → b < i → (¬ k b = 0 ↔ A b)) ∧ (∀ b, ¬ (lo ≤ b ∧ b < i) → k b = k0 b)
theorem cs_up_0 {lo : Nat} {A : Nat → Prop} {k0 : Nat → Int32} : cs_up lo lo A k0 k0 := ⟨fun b h1 h2 => by omega, fun _ _ => rfl⟩
theorem cs_up_s {lo i : Nat} {A : Nat → Prop} {k0 k : Nat → Int32} (h : cs_up lo i A k0 k) (hi : lo ≤ i) {v : Int32} (hv : ¬ v = 0 ↔ A i) : cs_up lo (i + 1) A k0 (upd k i v) := by
  refine ⟨fun b h1 h2 => ?_, fun b hb => ?_⟩
  · by_cases e : b = i
    · rw [e, cs_upd_s]; exact hv
    · rw [cs_upd_n e]; exact h.1 b h1 (by omega)
  · rw [cs_upd_n (by omega)]; exact h.2 b (by omega)
theorem cs_up_at {lo i : Nat} {A : Nat → Prop} {k0 k : Nat → Int32} (h : cs_up lo i A k0 k) : k i = k0 i := h.2 i (by omega)
def cs_st (lo i : Nat) (g k0 k : Nat → Int32) : Prop := (∀ b, lo ≤ b → b < i → k b = g b) ∧ (∀ b, ¬ (lo ≤ b ∧ b < i) → k b = k0 b)
theorem cs_st_0 {lo : Nat} {g k0 : Nat → Int32} : cs_st lo lo g k0 k0 := ⟨fun b h1 h2 => by omega, fun _ _ => rfl⟩
theorem cs_st_s {lo i : Nat} {g k0 k : Nat → Int32} (h : cs_st lo i g k0 k) (hi : lo ≤ i) {v : Int32} (hv : v = g i) : cs_st lo (i + 1) g k0 (upd k i v) := by
  refine ⟨fun b h1 h2 => ?_, fun b hb => ?_⟩
  · by_cases e : b = i
    · rw [e, cs_upd_s]; exact hv
    · rw [cs_upd_n e]; exact h.1 b h1 (by omega)
  · rw [cs_upd_n (by omega)]; exact h.2 b (by omega)
theorem cs_n00 {P : Prop} (h : ¬ P) : (¬ (0 : Int32) = 0 ↔ P) := ⟨fun z => absurd rfl z, fun z => absurd z h⟩
theorem cs_n11 {P : Prop} (h : P) : (¬ (1 : Int32) = 0 ↔ P) := ⟨fun _ => h, fun _ => cs_n10⟩
theorem cs_sweepU {f_reached f_half f_marking : Int32} {a_register a_field a_kept a_seen a_queue a_forward a_trial a_turn a_partner a_partnerBack a_tally a_remembered a_shade : Nat → Int32} {post : SX → Prop} {c : Nat} (hc : c < 7) (K : ∀ xk', (∀ b, cs_sg c b → (¬ xk' b = 0 ↔ ¬ a_kept b = 0 ∧ ¬ a_seen b = 0)) → (∀ b, ¬ cs_sg c b → xk' b = a_kept b) → post (f_reached, f_half, f_marking, a_register, a_field, xk', a_seen, a_queue, a_forward, a_trial, a_turn, a_partner, a_partnerBack, a_tally, a_remembered, a_shade)) : wpX_sweepUnseen post (f_reached, f_half, f_marking, a_register, a_field, a_kept, a_seen, a_queue, a_forward, a_trial, a_turn, a_partner, a_partnerBack, a_tally, a_remembered, a_shade) (nI c) := by
  simp only [wpX_sweepUnseen, cs_i48, not_true, not_false_iff, false_implies, true_implies, true_and, and_true, forall_eq, implies_true]
  refine pk_loop (σ := Nat → Int32) (fun n i s => wX_sweepUnseen_5 post (nI c) f_reached f_half f_marking n (nI i) a_register a_field s a_seen a_queue a_forward a_trial a_turn a_partner a_partnerBack a_tally a_remembered a_shade) (fun i s => 48 * c ≤ i ∧ cs_up (48 * c) i (fun b => ¬ a_kept b = 0 ∧ ¬ a_seen b = 0) a_kept s) (48 * c + 48) (48 * c) a_kept (by omega) ⟨Nat.le_refl _, cs_up_0⟩ (fun n s hI => ?_) (fun n i s hi hI ih => ?_)
  · have g : nI (48 * (c + 1)) ≤ nI (48 * c + 48) := nI_le (by omega) (by omega)
    simp only [wX_sweepUnseen_5, nI_1, cs_i48, g, not_true, not_false_iff, false_implies, true_implies, true_and, and_true, forall_eq, implies_true]
    exact K s (fun b hb => hI.2.1 b hb.1 hb.2) (fun b hb => hI.2.2 b hb)
  · have g : ¬ nI (48 * (c + 1)) ≤ nI i := nI_ge (by omega) (by omega)
    have v : vp_in (nI i) 336 := vp_in_nI (by omega) (by omega)
    have k : (nI i).toNatClampNeg = i := nI_clamp (by omega)
    have ea := cs_up_at hI.2
    by_cases z : a_kept i = 0
    · simp only [wX_sweepUnseen_5, cs_i48, g, v, k, ea, z, cs_nb0, nI_1, not_true, not_false_iff, false_implies, true_implies, true_and, and_true, forall_eq, implies_true]
      exact ih _ ⟨by omega, cs_up_s hI.2 hI.1 (cs_n00 (fun y => y.1 z))⟩
    · by_cases z2 : a_seen i = 0
      · simp only [wX_sweepUnseen_5, cs_i48, g, v, k, ea, z, z2, cs_nb0, nI_1, not_true, not_false_iff, false_implies, true_implies, true_and, and_true, forall_eq, implies_true]
        exact ih _ ⟨by omega, cs_up_s hI.2 hI.1 (cs_n00 (fun y => y.2 z2))⟩
      · simp only [wX_sweepUnseen_5, cs_i48, g, v, k, ea, z, z2, cs_nb1, nI_1, not_true, not_false_iff, false_implies, true_implies, true_and, and_true, forall_eq, implies_true]
        exact ih _ ⟨by omega, cs_up_s hI.2 hI.1 (cs_n11 ⟨z, z2⟩)⟩
theorem cs_freeCells {f_reached f_half f_marking : Int32} {a_register a_field a_kept a_seen a_queue a_forward a_trial a_turn a_partner a_partnerBack a_tally a_remembered a_shade : Nat → Int32} {post : Int32 → Prop} {p q : Nat} (hpq : p ≤ q) (hq : q ≤ 336) (K : post (nI (cs_n (fun i => a_kept (p + i) = 0) (q - p)))) : wpX_freeCells post (f_reached, f_half, f_marking, a_register, a_field, a_kept, a_seen, a_queue, a_forward, a_trial, a_turn, a_partner, a_partnerBack, a_tally, a_remembered, a_shade) (nI p) (nI q) := by
  simp only [wpX_freeCells]
  refine pk_loop (σ := Nat) (fun n i t => wX_freeCells_5 post (nI q) f_reached f_half f_marking a_register a_field a_kept a_seen a_queue a_forward a_trial a_turn a_partner a_partnerBack a_tally a_remembered a_shade n (nI t) (nI i)) (fun i t => p ≤ i ∧ t = cs_n (fun i => a_kept (p + i) = 0) (i - p)) q p 0 hpq ⟨Nat.le_refl _, by rw [Nat.sub_self]; rfl⟩ (fun n t hI => ?_) (fun n i t hi hI ih => ?_)
  · have g : nI q ≤ nI q := nI_le (Nat.le_refl _) (by omega)
    simp only [wX_freeCells_5, g, not_true, not_false_iff, false_implies, true_implies, true_and, and_true, forall_eq, implies_true]
    rw [hI.2]; exact K
  · have g : ¬ nI q ≤ nI i := nI_ge hi (by omega)
    have v : vp_in (nI i) 336 := vp_in_nI (by omega) (by omega)
    have k : (nI i).toNatClampNeg = i := nI_clamp (by omega)
    have h1 := hI.1
    have e : i + 1 - p = (i - p) + 1 := by omega
    have e2 : p + (i - p) = i := by omega
    by_cases z : a_kept i = 0
    · simp only [wX_freeCells_5, g, v, k, z, nI_1, not_true, not_false_iff, false_implies, true_implies, true_and, and_true, forall_eq, implies_true]
      exact ih (t + 1) ⟨by omega, by rw [e, cs_n_suc, cs_bt (by rw [e2]; exact z), hI.2]⟩
    · simp only [wX_freeCells_5, g, v, k, z, nI_1, not_true, not_false_iff, false_implies, true_implies, true_and, and_true, forall_eq, implies_true]
      exact ih t ⟨by omega, by rw [e, cs_n_suc, cs_bf (by rw [e2]; exact z), hI.2, Nat.add_zero]⟩
theorem cs_firstFree {f_reached f_half f_marking : Int32} {a_register a_field a_kept a_seen a_queue a_forward a_trial a_turn a_partner a_partnerBack a_tally a_remembered a_shade : Nat → Int32} {post : Int32 → Prop} {p q : Nat} (hpq : p ≤ q) (hq : q ≤ 336) (K1 : (∀ b, p ≤ b → b < q → ¬ a_kept b = 0) → post (-1)) (K2 : ∀ b, p ≤ b → b < q → a_kept b = 0 → (∀ b', p ≤ b' → b' < b → ¬ a_kept b' = 0) → post (nI b)) : wpX_firstFree post (f_reached, f_half, f_marking, a_register, a_field, a_kept, a_seen, a_queue, a_forward, a_trial, a_turn, a_partner, a_partnerBack, a_tally, a_remembered, a_shade) (nI p) (nI q) := by
  simp only [wpX_firstFree]
  refine pk_loop (σ := Unit) (fun n i _ => wX_firstFree_2 post (nI q) f_reached f_half f_marking a_register a_field a_kept a_seen a_queue a_forward a_trial a_turn a_partner a_partnerBack a_tally a_remembered a_shade n (nI i)) (fun i _ => p ≤ i ∧ ∀ b', p ≤ b' → b' < i → ¬ a_kept b' = 0) q p () hpq ⟨Nat.le_refl _, fun b h1 h2 => by omega⟩ (fun n t hI => ?_) (fun n i t hi hI ih => ?_)
  · have g : nI q ≤ nI q := nI_le (Nat.le_refl _) (by omega)
    simp only [wX_firstFree_2, g, not_true, not_false_iff, false_implies, true_implies, true_and, and_true, forall_eq, implies_true]
    exact K1 hI.2
  · have g : ¬ nI q ≤ nI i := nI_ge hi (by omega)
    have v : vp_in (nI i) 336 := vp_in_nI (by omega) (by omega)
    have k : (nI i).toNatClampNeg = i := nI_clamp (by omega)
    by_cases z : a_kept i = 0
    · simp only [wX_firstFree_2, g, v, k, z, not_true, not_false_iff, false_implies, true_implies, true_and, and_true, forall_eq, implies_true]
      exact K2 i hI.1 hi z hI.2
    · simp only [wX_firstFree_2, g, v, k, z, nI_1, not_true, not_false_iff, false_implies, true_implies, true_and, and_true, forall_eq, implies_true]
      refine ih () ⟨by have := hI.1; omega, fun b' h1 h2 => ?_⟩
      by_cases e : b' = i
      · rw [e]; exact z
      · exact hI.2 b' h1 (by omega)
/-- where collector c looks for a free cell -/
def cs_re (c : Nat) (h : Int32) (lo hi : Nat) : Prop := (c = 1 → h = nI lo ∧ (lo = 48 ∨ lo = 72) ∧ hi = lo + 24) ∧ (c = 4 → lo = 192 ∧ hi = 208) ∧ (c ≠ 1 → c ≠ 4 → lo = 48 * c ∧ hi = 48 * c + 48)
theorem cs_re_in {c : Nat} {h : Int32} {lo hi : Nat} (hc : c < 7) (R : cs_re c h lo hi) : 48 * c ≤ lo ∧ lo ≤ hi ∧ hi ≤ 48 * c + 48 ∧ hi ≤ 336 := by
  obtain ⟨r1, r2, r3⟩ := R
  by_cases e1 : c = 1
  · have := r1 e1; omega
  · by_cases e4 : c = 4
    · have := r2 e4; omega
    · have := r3 e1 e4; omega
theorem cs_freeCell {f_reached f_half f_marking : Int32} {a_register a_field a_kept a_seen a_queue a_forward a_trial a_turn a_partner a_partnerBack a_tally a_remembered a_shade : Nat → Int32} {post : Int32 → Prop} {c lo hi : Nat} (hc : c < 7) (R : cs_re c f_half lo hi) (K1 : (∀ b, lo ≤ b → b < hi → ¬ a_kept b = 0) → post (-1)) (K2 : ∀ b, lo ≤ b → b < hi → a_kept b = 0 → (∀ b', lo ≤ b' → b' < b → ¬ a_kept b' = 0) → post (nI b)) : wpX_freeCell post (f_reached, f_half, f_marking, a_register, a_field, a_kept, a_seen, a_queue, a_forward, a_trial, a_turn, a_partner, a_partnerBack, a_tally, a_remembered, a_shade) (nI c) := by
  have rin := cs_re_in hc R
  obtain ⟨r1, r2, r3⟩ := R
  have fin : wpX_firstFree (fun r => post r) (f_reached, f_half, f_marking, a_register, a_field, a_kept, a_seen, a_queue, a_forward, a_trial, a_turn, a_partner, a_partnerBack, a_tally, a_remembered, a_shade) (nI lo) (nI hi) := cs_firstFree rin.2.1 rin.2.2.2 K1 K2
  by_cases e1 : c = 1
  · obtain ⟨a1, a2, a3⟩ := r1 e1
    subst e1
    have g1 : nI 1 = 1 := rfl
    have g4 : ¬ (1 : Int32) = 4 := by decide
    have e24 : f_half + 24 = nI hi := by rw [a1, a3]; exact nI_add lo 24
    simp only [wpX_freeCell, wX_freeCell_28, wX_freeCell_38, g1, g4, e24, not_true, not_false_iff, false_implies, true_implies, true_and, and_true, forall_eq, implies_true]
    rw [a1] at fin ⊢
    exact fin
  · have g1 : ¬ nI c = 1 := cs_ceq (k := 1) (by omega) (by omega) e1
    by_cases e4 : c = 4
    · obtain ⟨a1, a2⟩ := r2 e4
      subst e4 a1 a2
      have g4 : nI 4 = 4 := rfl
      have g14 : ¬ (4 : Int32) = 1 := by decide
      have e1 : (4 : Int32) * 48 = nI 192 := by decide
      have e2 : nI 192 + 16 = nI 208 := by decide
      simp only [wpX_freeCell, wX_freeCell_28, wX_freeCell_38, g4, g14, e1, e2, not_true, not_false_iff, false_implies, true_implies, true_and, and_true, forall_eq, implies_true]
      exact fin
    · obtain ⟨a1, a2⟩ := r3 e1 e4
      subst a1 a2
      have g4 : ¬ nI c = 4 := cs_ceq (k := 4) (by omega) (by omega) e4
      have e1 : nI (48 * c) + 48 = nI (48 * c + 48) := nI_add _ 48
      simp only [wpX_freeCell, wX_freeCell_28, wX_freeCell_38, g1, g4, cs_i48, e1, not_true, not_false_iff, false_implies, true_implies, true_and, and_true, forall_eq, implies_true]
      exact fin
theorem cs_takeCell {f_reached f_half f_marking : Int32} {a_register a_field a_kept a_seen a_queue a_forward a_trial a_turn a_partner a_partnerBack a_tally a_remembered a_shade : Nat → Int32} {post : SX → Prop} {b0 : Nat} (hb : b0 < 336) (K : ∀ xf' sv, (∀ f, f < 3 → xf' (3 * b0 + f) = 0) → (∀ j, ¬ (3 * b0 ≤ j ∧ j < 3 * b0 + 3) → xf' j = a_field j) → (f_marking = 0 → sv = 0) → (¬ f_marking = 0 → sv = 2) → post (f_reached, f_half, f_marking, a_register, xf', upd a_kept b0 1, a_seen, a_queue, a_forward, a_trial, a_turn, a_partner, a_partnerBack, upd a_tally b0 0, upd a_remembered b0 0, upd a_shade b0 sv)) : wpX_takeCell post (f_reached, f_half, f_marking, a_register, a_field, a_kept, a_seen, a_queue, a_forward, a_trial, a_turn, a_partner, a_partnerBack, a_tally, a_remembered, a_shade) (nI b0) := by
  have v : vp_in (nI b0) 336 := vp_in_nI hb (by omega)
  have k : (nI b0).toNatClampNeg = b0 := nI_clamp (by omega)
  simp only [wpX_takeCell, v, k, cs_nb1, not_true, not_false_iff, false_implies, true_implies, true_and, and_true, forall_eq, implies_true]
  refine pk_loop (σ := Nat → Int32) (fun n f s => wX_takeCell_9 post (nI b0) f_reached f_half f_marking n (nI f) a_register s (upd a_kept b0 1) a_seen a_queue a_forward a_trial a_turn a_partner a_partnerBack a_tally a_remembered a_shade) (fun f s => cs_st (3 * b0) (3 * b0 + f) (fun _ => 0) a_field s) 3 0 a_field (by omega) cs_st_0 (fun n s hI => ?_) (fun n f s hf hI ih => ?_)
  · have g3 : (3 : Int32) ≤ nI 3 := nI_le (a := 3) (by omega) (by omega)
    have a1 : ∀ f, f < 3 → s (3 * b0 + f) = 0 := fun f hf => hI.1 _ (by omega) (by omega)
    by_cases z : f_marking = 0
    · simp only [wX_takeCell_9, g3, v, k, z, cs_nb0, not_true, not_false_iff, false_implies, true_implies, true_and, and_true, forall_eq, implies_true]
      have := K s 0 a1 hI.2 (fun _ => rfl) (fun y => absurd z y)
      rw [z] at this; exact this
    · simp only [wX_takeCell_9, g3, v, k, z, cs_nb0, not_true, not_false_iff, false_implies, true_implies, true_and, and_true, forall_eq, implies_true]
      exact K s 2 a1 hI.2 (fun y => absurd y z) (fun _ => rfl)
  · have g3 : ¬ (3 : Int32) ≤ nI f := nI_ge (b := 3) hf (by omega)
    have v3 : vp_in (nI (3 * b0 + f)) 1008 := vp_in_nI (by omega) (by omega)
    have k3 : (nI (3 * b0 + f)).toNatClampNeg = 3 * b0 + f := nI_clamp (by omega)
    simp only [wX_takeCell_9, g3, cs_i3, v3, k3, nI_1, not_true, not_false_iff, false_implies, true_implies, true_and, and_true, forall_eq, implies_true]
    exact ih _ (cs_st_s hI (by omega) rfl)
end
section
/-! marking a little at a time -/
theorem cs_shade {f_reached f_half f_marking : Int32} {a_register a_field a_kept a_seen a_queue a_forward a_trial a_turn a_partner a_partnerBack a_tally a_remembered a_shade : Nat → Int32} {post : SX → Prop} {w : Int32} (hw : cs_num w ∨ ∃ b, b < 336 ∧ w = nI (1000 + b)) (K1 : cs_num w → post (f_reached, f_half, f_marking, a_register, a_field, a_kept, a_seen, a_queue, a_forward, a_trial, a_turn, a_partner, a_partnerBack, a_tally, a_remembered, a_shade)) (K2 : ∀ b, b < 336 → w = nI (1000 + b) → ¬ a_shade b = 0 → post (f_reached, f_half, f_marking, a_register, a_field, a_kept, a_seen, a_queue, a_forward, a_trial, a_turn, a_partner, a_partnerBack, a_tally, a_remembered, a_shade)) (K3 : ∀ b, b < 336 → w = nI (1000 + b) → a_shade b = 0 → post (f_reached, f_half, f_marking, a_register, a_field, a_kept, a_seen, a_queue, a_forward, a_trial, a_turn, a_partner, a_partnerBack, a_tally, a_remembered, upd a_shade b 1)) : wpX_shadeGrey post (f_reached, f_half, f_marking, a_register, a_field, a_kept, a_seen, a_queue, a_forward, a_trial, a_turn, a_partner, a_partnerBack, a_tally, a_remembered, a_shade) w := by
  rcases hw with h | ⟨b, b1, b2⟩
  · have g := cs_num_lt h
    simp only [wpX_shadeGrey, g, not_true, not_false_iff, false_implies, true_implies, true_and, and_true, forall_eq, implies_true]
    exact K1 h
  · have g := cs_ref_ge (b := b) (by omega)
    have v : vp_in (nI b) 336 := vp_in_nI b1 (by omega)
    have k : (nI b).toNatClampNeg = b := nI_clamp (by omega)
    by_cases z : a_shade b = 0
    · have := K3 b b1 b2 z
      subst b2
      simp only [wpX_shadeGrey, g, cs_ref_sub, v, k, z, not_true, not_false_iff, false_implies, true_implies, true_and, and_true, forall_eq, implies_true]
      exact this
    · have := K2 b b1 b2 z
      subst b2
      simp only [wpX_shadeGrey, g, cs_ref_sub, v, k, z, not_true, not_false_iff, false_implies, true_implies, true_and, and_true, forall_eq, implies_true]
      exact this
theorem cs_ok_lt {c : Nat} {xk : Nat → Int32} (hc : c < 7) {w : Int32} (h : cs_ok c xk w) : cs_num w ∨ ∃ b, b < 336 ∧ w = nI (1000 + b) := by
  rcases h with h | ⟨b, o1, o2, o3, o4⟩
  · exact Or.inl h
  · exact Or.inr ⟨b, by omega, o4⟩
theorem cs_begin {f_reached f_half f_marking : Int32} {a_register a_field a_kept a_seen a_queue a_forward a_trial a_turn a_partner a_partnerBack a_tally a_remembered a_shade : Nat → Int32} {post : SX → Prop} (ok : ∀ r, r < 6 → cs_ok 5 a_kept (a_register (30 + r)))
    (K : ∀ sh', (∀ b, cs_sg 5 b → sh' b = 0 ∨ sh' b = 1) → (∀ b, cs_sg 5 b → ¬ sh' b = 0 → cs_Q 1000 a_register 30 0 6 b) → (∀ b, cs_Q 1000 a_register 30 0 6 b → ¬ sh' b = 0) → (∀ b, ¬ cs_sg 5 b → sh' b = a_shade b) → post (f_reached, f_half, 1, a_register, a_field, a_kept, a_seen, a_queue, a_forward, a_trial, a_turn, a_partner, a_partnerBack, a_tally, a_remembered, sh')) : wpX_beginMarking post (f_reached, f_half, f_marking, a_register, a_field, a_kept, a_seen, a_queue, a_forward, a_trial, a_turn, a_partner, a_partnerBack, a_tally, a_remembered, a_shade) := by
  simp only [wpX_beginMarking]
  refine pk_loop (σ := Nat → Int32) (fun n i s => wX_beginMarking_4 post f_reached f_half f_marking n (nI i) a_register a_field a_kept a_seen a_queue a_forward a_trial a_turn a_partner a_partnerBack a_tally a_remembered s) (fun i s => 240 ≤ i ∧ cs_st 240 i (fun _ => 0) a_shade s) 288 240 a_shade (by omega) ⟨Nat.le_refl _, cs_st_0⟩ (fun n s hI => ?_) (fun n i s hi hI ih => ?_)
  · have g : (288 : Int32) ≤ nI 288 := nI_le (a := 288) (by omega) (by omega)
    simp only [wX_beginMarking_4, g, not_true, not_false_iff, false_implies, true_implies, true_and, and_true, forall_eq, implies_true]
    obtain ⟨_, s1, s2⟩ := hI
    refine pk_loop (σ := Nat → Int32) (fun n r t => wX_beginMarking_26 post n (nI r) f_reached f_half f_marking a_register a_field a_kept a_seen a_queue a_forward a_trial a_turn a_partner a_partnerBack a_tally a_remembered t) (fun r t => (∀ b, cs_sg 5 b → t b = 0 ∨ t b = 1) ∧ (∀ b, cs_sg 5 b → ¬ t b = 0 → cs_Q 1000 a_register 30 0 r b) ∧ (∀ b, cs_Q 1000 a_register 30 0 r b → ¬ t b = 0) ∧ (∀ b, ¬ cs_sg 5 b → t b = a_shade b)) 6 0 s (by omega)
      ⟨fun b hb => Or.inl (s1 b hb.1 hb.2), fun b hb z => absurd (s1 b hb.1 hb.2) z, fun b ⟨r, _, r2, _⟩ => by omega, fun b hb => s2 b hb⟩ (fun n t hI => ?_) (fun n r t hr hI ih => ?_)
    · have g3 : (6 : Int32) ≤ nI 6 := nI_le (a := 6) (by omega) (by omega)
      simp only [wX_beginMarking_26, g3, not_true, not_false_iff, false_implies, true_implies, true_and, and_true, forall_eq, implies_true]
      exact K t hI.1 hI.2.1 hI.2.2.1 hI.2.2.2
    · obtain ⟨t1, t2, t3, t4⟩ := hI
      have g3 : ¬ (6 : Int32) ≤ nI r := nI_ge (b := 6) hr (by omega)
      have e : (30 : Int32) + nI r = nI (30 + r) := nI_add 30 r
      have v : vp_in (nI (30 + r)) 42 := vp_in_nI (by omega) (by omega)
      have k : (nI (30 + r)).toNatClampNeg = 30 + r := nI_clamp (by omega)
      simp only [wX_beginMarking_26, g3, e, v, k, not_true, not_false_iff, false_implies, true_implies, true_and, and_true, forall_eq, implies_true]
      have qs : ∀ b, cs_Q 1000 a_register 30 0 r b → cs_Q 1000 a_register 30 0 (r + 1) b := fun b ⟨j, j1, j2, j3⟩ => ⟨j, j1, by omega, j3⟩
      refine cs_shade (cs_ok_lt (by omega) (ok r hr)) (fun hn => ?_) (fun b b1 b2 b3 => ?_) (fun b b1 b2 b3 => ?_)
      · simp only [nI_1, not_true, not_false_iff, false_implies, true_implies, true_and, and_true, forall_eq, implies_true]
        refine ih _ ⟨t1, fun b hb hz => qs b (t2 b hb hz), fun b ⟨j, j1, j2, j3⟩ => ?_, t4⟩
        by_cases ej : j = r
        · rw [ej] at j3; exact absurd j3 (cs_num_nw (by omega) (by omega) hn)
        · exact t3 b ⟨j, j1, by omega, j3⟩
      · simp only [nI_1, not_true, not_false_iff, false_implies, true_implies, true_and, and_true, forall_eq, implies_true]
        refine ih _ ⟨t1, fun b hb hz => qs b (t2 b hb hz), fun b' ⟨j, j1, j2, j3⟩ => ?_, t4⟩
        by_cases ej : j = r
        · rw [ej] at j3
          have : b' = b := cs_w_inj (B := 1000) (by omega) j3 ⟨by omega, b2⟩
          rw [this]; exact b3
        · exact t3 b' ⟨j, j1, by omega, j3⟩
      · simp only [nI_1, not_true, not_false_iff, false_implies, true_implies, true_and, and_true, forall_eq, implies_true]
        have sg : cs_sg 5 b := by
          rcases ok r hr with o | ⟨b', o1, o2, o3, o4⟩
          · exact absurd (⟨by omega, b2⟩ : cs_w 1000 _ b) (cs_num_nw (by omega) (by omega) o)
          · have e2 : b = b' := cs_w_inj (B := 1000) (w := a_register (30 + r)) (by omega) ⟨by omega, b2⟩ ⟨by omega, o4⟩
            rw [e2]; exact ⟨o1, o2⟩
        refine ih _ ⟨fun b' hb' => ?_, fun b' hb' hz => ?_, fun b' ⟨j, j1, j2, j3⟩ => ?_, fun b' hb' => ?_⟩
        · by_cases eb : b' = b
          · rw [eb, cs_upd_s]; exact Or.inr rfl
          · rw [cs_upd_n eb]; exact t1 b' hb'
        · by_cases eb : b' = b
          · rw [eb]; exact ⟨r, by omega, by omega, by omega, b2⟩
          · rw [cs_upd_n eb] at hz; exact qs b' (t2 b' hb' hz)
        · by_cases eb : b' = b
          · rw [eb, cs_upd_s]; exact cs_n10
          · rw [cs_upd_n eb]
            by_cases ej : j = r
            · rw [ej] at j3
              exact absurd (cs_w_inj (B := 1000) (by omega) j3 ⟨by omega, b2⟩) eb
            · exact t3 b' ⟨j, j1, by omega, j3⟩
        · rw [cs_upd_n (fun eb : b' = b => hb' (by rw [eb]; exact sg))]; exact t4 b' hb'
  · have g : ¬ (288 : Int32) ≤ nI i := nI_ge (b := 288) hi (by omega)
    have v : vp_in (nI i) 336 := vp_in_nI (by omega) (by omega)
    have k : (nI i).toNatClampNeg = i := nI_clamp (by omega)
    simp only [wX_beginMarking_4, g, v, k, nI_1, not_true, not_false_iff, false_implies, true_implies, true_and, and_true, forall_eq, implies_true]
    exact ih _ ⟨by have := hI.1; omega, cs_st_s hI.2 hI.1 rfl⟩
theorem cs_blacken {f_reached f_half f_marking : Int32} {a_register a_field a_kept a_seen a_queue a_forward a_trial a_turn a_partner a_partnerBack a_tally a_remembered a_shade : Nat → Int32} {post : Int32 → SX → Prop} (W : cs_W 5 a_field a_kept) (S : cs_S5 a_kept a_shade) (K1 : (∀ b, cs_sg 5 b → ¬ a_shade b = 1) → post 0 (f_reached, f_half, f_marking, a_register, a_field, a_kept, a_seen, a_queue, a_forward, a_trial, a_turn, a_partner, a_partnerBack, a_tally, a_remembered, a_shade)) (K2 : ∀ x sh', cs_sg 5 x → a_shade x = 1 → cs_bl a_field a_shade x 3 sh' → post 1 (f_reached, f_half, f_marking, a_register, a_field, a_kept, a_seen, a_queue, a_forward, a_trial, a_turn, a_partner, a_partnerBack, a_tally, a_remembered, sh')) : wpX_blackenOne post (f_reached, f_half, f_marking, a_register, a_field, a_kept, a_seen, a_queue, a_forward, a_trial, a_turn, a_partner, a_partnerBack, a_tally, a_remembered, a_shade) := by
  simp only [wpX_blackenOne]
  refine pk_loop (σ := Unit) (fun n i _ => wX_blackenOne_4 post f_reached f_half f_marking a_register a_field a_kept a_seen a_queue a_forward a_trial a_turn a_partner a_partnerBack a_tally a_remembered a_shade n (nI i)) (fun i _ => 240 ≤ i ∧ ∀ b, 240 ≤ b → b < i → ¬ a_shade b = 1) 288 240 () (by omega) ⟨Nat.le_refl _, fun b h1 h2 => by omega⟩ (fun n s hI => ?_) (fun n i s hi hI ih => ?_)
  · have g : (288 : Int32) ≤ nI 288 := nI_le (a := 288) (by omega) (by omega)
    simp only [wX_blackenOne_4, g, not_true, not_false_iff, false_implies, true_implies, true_and, and_true, forall_eq, implies_true]
    exact K1 (fun b hb => hI.2 b hb.1 hb.2)
  · have g : ¬ (288 : Int32) ≤ nI i := nI_ge (b := 288) hi (by omega)
    have v : vp_in (nI i) 336 := vp_in_nI (by omega) (by omega)
    have k : (nI i).toNatClampNeg = i := nI_clamp (by omega)
    have hi0 := hI.1
    by_cases z : a_shade i = 1
    · simp only [wX_blackenOne_4, g, v, k, z, not_true, not_false_iff, false_implies, true_implies, true_and, and_true, forall_eq, implies_true]
      have hx : cs_sg 5 i := ⟨by omega, by omega⟩
      have kx : ¬ a_kept i = 0 := S.1 i hx (by rw [z]; exact cs_n10)
      refine pk_loop (σ := Nat → Int32) (fun n f t => wX_blackenOne_30 post (nI i) n (nI f) f_reached f_half f_marking a_register a_field a_kept a_seen a_queue a_forward a_trial a_turn a_partner a_partnerBack a_tally a_remembered t) (fun f t => cs_bl a_field a_shade i f t) 3 0 (upd a_shade i 2) (by omega) cs_bl_0 (fun n t hI => ?_) (fun n f t hf hI ih => ?_)
      · have g3 : (3 : Int32) ≤ nI 3 := nI_le (a := 3) (by omega) (by omega)
        simp only [wX_blackenOne_30, g3, not_true, not_false_iff, false_implies, true_implies, true_and, and_true, forall_eq, implies_true]
        exact K2 i t hx z hI
      · have g3 : ¬ (3 : Int32) ≤ nI f := nI_ge (b := 3) hf (by omega)
        have v3 : vp_in (nI (3 * i + f)) 1008 := vp_in_nI (by omega) (by omega)
        have k3 : (nI (3 * i + f)).toNatClampNeg = 3 * i + f := nI_clamp (by omega)
        simp only [wX_blackenOne_30, g3, cs_i3, v3, k3, not_true, not_false_iff, false_implies, true_implies, true_and, and_true, forall_eq, implies_true]
        refine cs_shade (cs_ok_lt (c := 5) (by omega) (W i hx.1 hx.2 kx f hf)) (fun hn => ?_) (fun b b1 b2 b3 => ?_) (fun b b1 b2 b3 => ?_)
        · simp only [nI_1, not_true, not_false_iff, false_implies, true_implies, true_and, and_true, forall_eq, implies_true]
          exact ih _ (cs_bl_num hI hn)
        · simp only [nI_1, not_true, not_false_iff, false_implies, true_implies, true_and, and_true, forall_eq, implies_true]
          exact ih _ (cs_bl_seen hI (by omega) b2 b3)
        · simp only [nI_1, not_true, not_false_iff, false_implies, true_implies, true_and, and_true, forall_eq, implies_true]
          exact ih _ (cs_bl_new hI (by omega) b2 b3)
    · simp only [wX_blackenOne_4, g, v, k, z, nI_1, not_true, not_false_iff, false_implies, true_implies, true_and, and_true, forall_eq, implies_true]
      refine ih () ⟨by omega, fun b h1 h2 => ?_⟩
      by_cases e : b = i
      · rw [e]; exact z
      · exact hI.2 b h1 (by omega)
theorem cs_endMark {f_reached f_half f_marking : Int32} {a_register a_field a_kept a_seen a_queue a_forward a_trial a_turn a_partner a_partnerBack a_tally a_remembered a_shade : Nat → Int32} {post : SX → Prop} (K : ∀ xk', (∀ b, cs_sg 5 b → (¬ xk' b = 0 ↔ ¬ a_kept b = 0 ∧ ¬ a_shade b = 0)) → (∀ b, ¬ cs_sg 5 b → xk' b = a_kept b) → post (f_reached, f_half, 0, a_register, a_field, xk', a_seen, a_queue, a_forward, a_trial, a_turn, a_partner, a_partnerBack, a_tally, a_remembered, a_shade)) : wpX_endMarking post (f_reached, f_half, f_marking, a_register, a_field, a_kept, a_seen, a_queue, a_forward, a_trial, a_turn, a_partner, a_partnerBack, a_tally, a_remembered, a_shade) := by
  simp only [wpX_endMarking]
  refine pk_loop (σ := Nat → Int32) (fun n i s => wX_endMarking_4 post f_reached f_half f_marking n (nI i) a_register a_field s a_seen a_queue a_forward a_trial a_turn a_partner a_partnerBack a_tally a_remembered a_shade) (fun i s => 240 ≤ i ∧ cs_up 240 i (fun b => ¬ a_kept b = 0 ∧ ¬ a_shade b = 0) a_kept s) 288 240 a_kept (by omega) ⟨Nat.le_refl _, cs_up_0⟩ (fun n s hI => ?_) (fun n i s hi hI ih => ?_)
  · have g : (288 : Int32) ≤ nI 288 := nI_le (a := 288) (by omega) (by omega)
    simp only [wX_endMarking_4, g, not_true, not_false_iff, false_implies, true_implies, true_and, and_true, forall_eq, implies_true]
    exact K s (fun b hb => hI.2.1 b hb.1 hb.2) (fun b hb => hI.2.2 b hb)
  · have g : ¬ (288 : Int32) ≤ nI i := nI_ge (b := 288) hi (by omega)
    have v : vp_in (nI i) 336 := vp_in_nI (by omega) (by omega)
    have k : (nI i).toNatClampNeg = i := nI_clamp (by omega)
    have hi0 := hI.1
    have ea := cs_up_at hI.2
    by_cases z : a_kept i = 0
    · simp only [wX_endMarking_4, g, v, k, ea, z, cs_nb0, nI_1, not_true, not_false_iff, false_implies, true_implies, true_and, and_true, forall_eq, implies_true]
      exact ih _ ⟨by omega, cs_up_s hI.2 hI.1 (cs_n00 (fun y => y.1 z))⟩
    · by_cases z2 : a_shade i = 0
      · simp only [wX_endMarking_4, g, v, k, ea, z, z2, cs_nb0, nI_1, not_true, not_false_iff, false_implies, true_implies, true_and, and_true, forall_eq, implies_true]
        exact ih _ ⟨by omega, cs_up_s hI.2 hI.1 (cs_n00 (fun y => y.2 z2))⟩
      · simp only [wX_endMarking_4, g, v, k, ea, z, z2, cs_nb1, nI_1, not_true, not_false_iff, false_implies, true_implies, true_and, and_true, forall_eq, implies_true]
        exact ih _ ⟨by omega, cs_up_s hI.2 hI.1 (cs_n11 ⟨z, z2⟩)⟩
end
section
/-! marking: at make, and to its end -/
theorem cs_paceLoop {post : SX → Prop} {yr yf : Nat → Int32} {u0 : SX} (K : ∀ u', cs_FU 5 u0 u' → cs_JU 5 u' yr yf → post u') (u : SX) (F : cs_FU 5 u0 u) (J : cs_JU 5 u yr yf) : ∃ n, wX_paceMarking_31 post n 0 u.1 u.2.1 u.2.2.1 u.2.2.2.1 u.2.2.2.2.1 u.2.2.2.2.2.1 u.2.2.2.2.2.2.1 u.2.2.2.2.2.2.2.1 u.2.2.2.2.2.2.2.2.1 u.2.2.2.2.2.2.2.2.2.1 u.2.2.2.2.2.2.2.2.2.2.1 u.2.2.2.2.2.2.2.2.2.2.2.1 u.2.2.2.2.2.2.2.2.2.2.2.2.1 u.2.2.2.2.2.2.2.2.2.2.2.2.2.1 u.2.2.2.2.2.2.2.2.2.2.2.2.2.2.1 u.2.2.2.2.2.2.2.2.2.2.2.2.2.2.2 := by
  refine pk_loop (σ := SX) (fun n i u => wX_paceMarking_31 post n (nI i) u.1 u.2.1 u.2.2.1 u.2.2.2.1 u.2.2.2.2.1 u.2.2.2.2.2.1 u.2.2.2.2.2.2.1 u.2.2.2.2.2.2.2.1 u.2.2.2.2.2.2.2.2.1 u.2.2.2.2.2.2.2.2.2.1 u.2.2.2.2.2.2.2.2.2.2.1 u.2.2.2.2.2.2.2.2.2.2.2.1 u.2.2.2.2.2.2.2.2.2.2.2.2.1 u.2.2.2.2.2.2.2.2.2.2.2.2.2.1 u.2.2.2.2.2.2.2.2.2.2.2.2.2.2.1 u.2.2.2.2.2.2.2.2.2.2.2.2.2.2.2) (fun _ u => cs_FU 5 u0 u ∧ cs_JU 5 u yr yf) 2 0 u (by omega) ⟨F, J⟩ (fun n u hI => ?_) (fun n i u hi hI ih => ?_)
  · obtain ⟨f_reached, f_half, f_marking, a_register, a_field, a_kept, a_seen, a_queue, a_forward, a_trial, a_turn, a_partner, a_partnerBack, a_tally, a_remembered, a_shade⟩ := u
    have g : (2 : Int32) ≤ nI 2 := nI_le (a := 2) (by omega) (by omega)
    simp only [wX_paceMarking_31, g, not_true, not_false_iff, false_implies, true_implies, true_and, and_true, forall_eq, implies_true]
    exact K _ hI.1 hI.2
  · obtain ⟨f_reached, f_half, f_marking, a_register, a_field, a_kept, a_seen, a_queue, a_forward, a_trial, a_turn, a_partner, a_partnerBack, a_tally, a_remembered, a_shade⟩ := u
    have g : ¬ (2 : Int32) ≤ nI i := nI_ge (b := 2) hi (by omega)
    by_cases z : f_marking = 0
    · subst z
      simp only [wX_paceMarking_31, g, not_true, not_false_iff, false_implies, true_implies, true_and, and_true, forall_eq, implies_true]
      exact K _ hI.1 hI.2
    · have J' : cs_J 5 f_half f_marking a_register a_field a_kept a_tally a_remembered a_shade yr yf := hI.2
      have J0 := J'
      obtain ⟨I, W, _, _, _, _, k5⟩ := J'
      obtain ⟨S, T⟩ := k5 rfl z
      simp only [wX_paceMarking_31, g, z, not_true, not_false_iff, false_implies, true_implies, true_and, and_true, forall_eq, implies_true]
      refine cs_blacken W S (fun hg => ?_) (fun x sh' x1 x2 x3 => ?_)
      · simp only [not_true, not_false_iff, false_implies, true_implies, true_and, and_true, forall_eq, implies_true]
        refine cs_endMark (fun xk' k1 k2 => ?_)
        simp only [nI_1, not_true, not_false_iff, false_implies, true_implies, true_and, and_true, forall_eq, implies_true]
        refine ih (f_reached, f_half, 0, a_register, a_field, xk', a_seen, a_queue, a_forward, a_trial, a_turn, a_partner, a_partnerBack, a_tally, a_remembered, a_shade) ⟨cs_FU_tr hI.1 ⟨fun _ => rfl, fun e => absurd rfl e, fun _ _ => rfl, fun _ _ => rfl, fun b hb => ⟨k2 b hb, rfl, rfl, rfl⟩⟩, (cs_mark_end J0 S T hg k1 rfl).1⟩
      · simp only [nI_1, cs_n10, not_true, not_false_iff, false_implies, true_implies, true_and, and_true, forall_eq, implies_true]
        obtain ⟨e1, e2, e3, e4, e5⟩ := cs_bl_end x3 W S x1 x2
        refine ih (f_reached, f_half, f_marking, a_register, a_field, a_kept, a_seen, a_queue, a_forward, a_trial, a_turn, a_partner, a_partnerBack, a_tally, a_remembered, sh') ⟨cs_FU_tr hI.1 ⟨fun _ => rfl, fun _ => rfl, fun _ _ => rfl, fun _ _ => rfl, fun b hb => ⟨rfl, rfl, rfl, e5 b hb⟩⟩, ?_⟩
        exact ⟨I, W, fun e => by omega, fun e => by omega, fun e => by omega, fun e => by omega, fun _ _ => ⟨e1, e2 _ T⟩⟩
theorem cs_begin_J {f_half f_marking : Int32} {a_register a_field a_kept a_tally a_remembered a_shade : Nat → Int32} {yr yf : Nat → Int32} (J : cs_J 5 f_half f_marking a_register a_field a_kept a_tally a_remembered a_shade yr yf) {sh' : Nat → Int32} (h1 : ∀ b, cs_sg 5 b → sh' b = 0 ∨ sh' b = 1) (h2 : ∀ b, cs_sg 5 b → ¬ sh' b = 0 → cs_Q 1000 a_register 30 0 6 b) (h3 : ∀ b, cs_Q 1000 a_register 30 0 6 b → ¬ sh' b = 0) :
    cs_S5 a_kept sh' ∧ cs_TC a_register a_field a_kept sh' ∧ (∀ b, cs_sg 5 b → ¬ sh' b = 0 → cs_V 1000 a_register 30 0 6 a_field b) := by
  obtain ⟨⟨P, I⟩, W, _⟩ := J
  have sg : ∀ b, cs_Q 1000 a_register 30 0 6 b → cs_sg 5 b ∧ ¬ a_kept b = 0 := fun b hq => by
    have g := cs_X_in (c := 5) (p := 0) (q := 6) (by omega) I (by omega) (cs_R_b hq)
    exact ⟨⟨g.1, g.2.1⟩, g.2.2⟩
  have t12 : ¬ (1 : Int32) = 2 := by decide
  have t02 : ¬ (0 : Int32) = 2 := by decide
  refine ⟨⟨fun b hb hs => (sg b (h2 b hb hs)).2, fun b hb => (h1 b hb).imp id Or.inl⟩, cs_TC_begin (fun b hq => ⟨(sg b hq).1, h3 b hq⟩) (fun b hb e => ?_), fun b hb hs => cs_R_b (h2 b hb hs)⟩
  rcases h1 b hb with y | y
  · rw [y] at e; exact t02 e
  · rw [y] at e; exact t12 e
theorem cs_pace {u : SX} {post : SX → Prop} {yr yf : Nat → Int32} (J : cs_JU 5 u yr yf) (K : ∀ u', cs_FU 5 u u' → cs_JU 5 u' yr yf → post u') : wpX_paceMarking post u := by
  obtain ⟨f_reached, f_half, f_marking, a_register, a_field, a_kept, a_seen, a_queue, a_forward, a_trial, a_turn, a_partner, a_partnerBack, a_tally, a_remembered, a_shade⟩ := u
  have J' : cs_J 5 f_half f_marking a_register a_field a_kept a_tally a_remembered a_shade yr yf := J
  by_cases z : f_marking = 0
  · have e : (240 : Int32) + 48 = nI 288 := by decide
    simp only [wpX_paceMarking, z, e, not_true, not_false_iff, false_implies, true_implies, true_and, and_true, forall_eq, implies_true]
    subst z
    refine cs_freeCells (p := 240) (q := 288) (by omega) (by omega) ?_
    by_cases g : (16 : Int32) ≤ nI (cs_n (fun i => a_kept (240 + i) = 0) (288 - 240))
    · simp only [g, not_true, not_false_iff, false_implies, true_implies, true_and, and_true, forall_eq, implies_true]
      exact cs_paceLoop K (f_reached, f_half, 0, a_register, a_field, a_kept, a_seen, a_queue, a_forward, a_trial, a_turn, a_partner, a_partnerBack, a_tally, a_remembered, a_shade) cs_Fr_rfl J
    · simp only [g, not_true, not_false_iff, false_implies, true_implies, true_and, and_true, forall_eq, implies_true]
      refine cs_begin (fun r hr => cs_J_ok J' hr) (fun sh' h1 h2 h3 h4 => ?_)
      obtain ⟨S, T, _⟩ := cs_begin_J J' h1 h2 h3
      refine cs_paceLoop K (f_reached, f_half, 1, a_register, a_field, a_kept, a_seen, a_queue, a_forward, a_trial, a_turn, a_partner, a_partnerBack, a_tally, a_remembered, sh') ⟨fun _ => rfl, fun e => absurd rfl e, fun _ _ => rfl, fun _ _ => rfl, fun b hb => ⟨rfl, rfl, rfl, h4 b hb⟩⟩ ?_
      exact ⟨J'.1, J'.2.1, fun e => by omega, fun e => by omega, fun e => by omega, fun e => by omega, fun _ _ => ⟨S, T⟩⟩
  · simp only [wpX_paceMarking, z, not_true, not_false_iff, false_implies, true_implies, true_and, and_true, forall_eq, implies_true]
    exact cs_paceLoop K (f_reached, f_half, f_marking, a_register, a_field, a_kept, a_seen, a_queue, a_forward, a_trial, a_turn, a_partner, a_partnerBack, a_tally, a_remembered, a_shade) cs_Fr_rfl J
theorem cs_finish {f_reached f_half f_marking : Int32} {a_register a_field a_kept a_seen a_queue a_forward a_trial a_turn a_partner a_partnerBack a_tally a_remembered a_shade : Nat → Int32} {post : SX → Prop} {yr yf : Nat → Int32} (J : cs_J 5 f_half f_marking a_register a_field a_kept a_tally a_remembered a_shade yr yf) (S : cs_S5 a_kept a_shade) (T : cs_TC a_register a_field a_kept a_shade) (V : ∀ b, cs_sg 5 b → ¬ a_shade b = 0 → cs_V 1000 a_register 30 0 6 a_field b)
    (K : ∀ sh' xk', (∀ b, ¬ cs_sg 5 b → sh' b = a_shade b) → (∀ b, ¬ cs_sg 5 b → xk' b = a_kept b) → cs_J 5 f_half 0 a_register a_field xk' a_tally a_remembered sh' yr yf → cs_X 5 a_register a_field xk' yr yf → post (f_reached, f_half, 0, a_register, a_field, xk', a_seen, a_queue, a_forward, a_trial, a_turn, a_partner, a_partnerBack, a_tally, a_remembered, sh')) : wpX_finishMarking post (f_reached, f_half, f_marking, a_register, a_field, a_kept, a_seen, a_queue, a_forward, a_trial, a_turn, a_partner, a_partnerBack, a_tally, a_remembered, a_shade) := by
  have W := J.2.1
  have fin : ∀ sh, cs_S5 a_kept sh → cs_TC a_register a_field a_kept sh → (∀ b, cs_sg 5 b → ¬ sh b = 0 → cs_V 1000 a_register 30 0 6 a_field b) → (∀ b, ¬ cs_sg 5 b → sh b = a_shade b) → (∀ b, cs_sg 5 b → ¬ sh b = 1) → wX_finishMarking_25 post f_reached f_half f_marking a_register a_field a_kept a_seen a_queue a_forward a_trial a_turn a_partner a_partnerBack a_tally a_remembered sh := fun sh S' T' V' F' G' => by
    simp only [wX_finishMarking_25]
    refine cs_endMark (fun xk' k1 k2 => ?_)
    have J' : cs_J 5 f_half f_marking a_register a_field a_kept a_tally a_remembered sh yr yf := ⟨J.1, W, fun e => by omega, fun e => by omega, fun e => by omega, fun e => by omega, fun _ _ => ⟨S', T'⟩⟩
    have r := cs_mark_end J' S' T' G' (m' := 0) k1 rfl
    exact K sh xk' F' k2 r.1 (r.2 V')
  simp only [wpX_finishMarking]
  refine pk_loop (σ := Int32 × (Nat → Int32)) (fun n i t => wX_finishMarking_4 post n t.1 (nI i) f_reached f_half f_marking a_register a_field a_kept a_seen a_queue a_forward a_trial a_turn a_partner a_partnerBack a_tally a_remembered t.2)
    (fun i t => cs_S5 a_kept t.2 ∧ cs_TC a_register a_field a_kept t.2 ∧ (∀ b, cs_sg 5 b → ¬ t.2 b = 0 → cs_V 1000 a_register 30 0 6 a_field b) ∧ (∀ b, ¬ cs_sg 5 b → t.2 b = a_shade b) ∧ ((t.1 = 0 ∧ ∀ b, cs_sg 5 b → ¬ t.2 b = 1) ∨ (t.1 = 1 ∧ cs_n (fun k => ¬ t.2 (240 + k) = 2) 48 + i ≤ 48))) 48 0 (1, a_shade) (by omega) ⟨S, T, V, fun _ _ => rfl, Or.inr ⟨rfl, by
      have h48 := cs_n_le (fun k => ¬ a_shade (240 + k) = 2) 48
      dsimp only
      omega⟩⟩ (fun n t hI => ?_) (fun n i t hi hI ih => ?_)
  · obtain ⟨mo, sh⟩ := t
    obtain ⟨a1, a2, a3, a4, a5⟩ := hI
    dsimp only at a1 a2 a3 a4 a5 ⊢
    have g : (48 : Int32) ≤ nI 48 := nI_le (a := 48) (by omega) (by omega)
    simp only [wX_finishMarking_4, g, not_true, not_false_iff, false_implies, true_implies, true_and, and_true, forall_eq, implies_true]
    refine fin sh a1 a2 a3 a4 (fun b hb e => ?_)
    rcases a5 with ⟨_, z⟩ | ⟨_, z⟩
    · exact z b hb e
    · unfold cs_sg at hb
      have k := cs_n_rem (P := fun k => ¬ sh (240 + k) = 2) (a := b - 240) (N := 48) (by
        show ¬ sh (240 + (b - 240)) = 2
        rw [show 240 + (b - 240) = b by omega, e]; decide) (by omega)
      omega
  · obtain ⟨mo, sh⟩ := t
    obtain ⟨a1, a2, a3, a4, a5⟩ := hI
    dsimp only at a1 a2 a3 a4 a5 ih ⊢
    have g : ¬ (48 : Int32) ≤ nI i := nI_ge (b := 48) hi (by omega)
    rcases a5 with ⟨y, z⟩ | ⟨y, z⟩
    · subst y
      simp only [wX_finishMarking_4, g, not_true, not_false_iff, false_implies, true_implies, true_and, and_true, forall_eq, implies_true]
      exact fin sh a1 a2 a3 a4 z
    · subst y
      simp only [wX_finishMarking_4, g, cs_n10, not_true, not_false_iff, false_implies, true_implies, true_and, and_true, forall_eq, implies_true]
      refine cs_blacken W a1 (fun hg => ?_) (fun x sh' x1 x2 x3 => ?_)
      · simp only [nI_1, not_true, not_false_iff, false_implies, true_implies, true_and, and_true, forall_eq, implies_true]
        exact ih (0, sh) ⟨a1, a2, a3, a4, Or.inl ⟨rfl, hg⟩⟩
      · simp only [nI_1, not_true, not_false_iff, false_implies, true_implies, true_and, and_true, forall_eq, implies_true]
        obtain ⟨e1, e2, e3, e4, e5⟩ := cs_bl_end x3 W a1 x1 x2
        exact ih (1, sh') ⟨e1, e2 _ a2, e4 _ a3 (fun a b ha he => cs_R_s ha he), fun b hb => (e5 b hb).trans (a4 b hb), Or.inr ⟨rfl, by dsimp only; omega⟩⟩
end
section
/-! sliding -/
theorem cs_slid {f_reached f_half f_marking : Int32} {a_register a_field a_kept a_seen a_queue a_forward a_trial a_turn a_partner a_partnerBack a_tally a_remembered a_shade : Nat → Int32} {post : Int32 → Prop} {w : Int32} {s : Nat → Int32} (fw : ∀ b, cs_sg 2 b → ¬ s b = 0 → a_forward b = nI (cs_rk s b)) (hw : cs_num w ∨ ∃ b, cs_sg 2 b ∧ ¬ s b = 0 ∧ w = nI (1000 + b)) (K : ∀ w', cs_l (cs_sl s) w w' → post w') : wpX_slid post (f_reached, f_half, f_marking, a_register, a_field, a_kept, a_seen, a_queue, a_forward, a_trial, a_turn, a_partner, a_partnerBack, a_tally, a_remembered, a_shade) w := by
  rcases hw with h | ⟨b, b1, b2, b3⟩
  · have g := cs_nge1000 (cs_num_lt h)
    simp only [wpX_slid, g, not_true, not_false_iff, false_implies, true_implies, true_and, and_true, forall_eq, implies_true]
    exact K w (Or.inl ⟨h, rfl⟩)
  · have b1' := b1
    unfold cs_sg at b1'
    have g := cs_ge1000 (b := b) (by omega)
    have v : vp_in (nI b) 336 := vp_in_nI (by omega) (by omega)
    have k : (nI b).toNatClampNeg = b := nI_clamp (by omega)
    have K' := K (nI (1000 + cs_rk s b)) (Or.inr ⟨b, cs_rk s b, ⟨b1, b2, rfl⟩, b3, rfl⟩)
    subst b3
    simp only [wpX_slid, g, cs_ref_sub, v, k, fw b b1 b2, cs_ref_add, not_true, not_false_iff, false_implies, true_implies, true_and, and_true, forall_eq, implies_true]
    exact K'
theorem cs_slide {f_reached f_half f_marking : Int32} {a_register a_field a_kept a_seen a_queue a_forward a_trial a_turn a_partner a_partnerBack a_tally a_remembered a_shade : Nat → Int32} {post : SX → Prop} {yr yf : Nat → Int32} (J : cs_J 2 f_half f_marking a_register a_field a_kept a_tally a_remembered a_shade yr yf) (hs : ∀ b, cs_sg 2 b → (¬ a_seen b = 0 ↔ cs_V 1000 a_register 12 0 6 a_field b))
    (K : ∀ xr' xf' xk' fw', (∀ j, ¬ (12 ≤ j ∧ j < 18) → xr' j = a_register j) → (∀ j, ¬ (288 ≤ j ∧ j < 432) → xf' j = a_field j) → (∀ b, ¬ cs_sg 2 b → xk' b = a_kept b) → cs_J 2 f_half f_marking xr' xf' xk' a_tally a_remembered a_shade yr yf → cs_X 2 xr' xf' xk' yr yf → post (f_reached, f_half, f_marking, xr', xf', xk', a_seen, a_queue, fw', a_trial, a_turn, a_partner, a_partnerBack, a_tally, a_remembered, a_shade)) : wpX_slideTogether post (f_reached, f_half, f_marking, a_register, a_field, a_kept, a_seen, a_queue, a_forward, a_trial, a_turn, a_partner, a_partnerBack, a_tally, a_remembered, a_shade) := by
  have e96 : cs_rk a_seen 96 = 96 := Nat.le_antisymm (cs_rk_le a_seen (by omega)) (cs_rk_ge a_seen 96)
  have e144 : (96 : Int32) + 48 = nI 144 := by decide
  have lt144 : cs_rk a_seen 144 ≤ 144 := cs_rk_le a_seen (by omega)
  have ge96 : ∀ b, 96 ≤ cs_rk a_seen b := cs_rk_ge a_seen
  obtain ⟨P, I⟩ := J.1
  have hZ := cs_Z_V (c := 2) (p := 0) (q := 6) (by omega) I (by omega)
  simp only [wpX_slideTogether, e144, not_true, not_false_iff, false_implies, true_implies, true_and, and_true, forall_eq, implies_true]
  have L1 := pk_loop (σ := Nat → Int32) (fun n i t => wX_slideTogether_13 post 96 (nI 144) f_reached f_half f_marking n (nI (cs_rk a_seen i)) (nI i) a_register a_field a_kept a_seen a_queue t a_trial a_turn a_partner a_partnerBack a_tally a_remembered a_shade) (fun i t => 96 ≤ i ∧ ∀ b, 96 ≤ b → b < i → ¬ a_seen b = 0 → t b = nI (cs_rk a_seen b)) 144 96 a_forward (by omega) ⟨Nat.le_refl _, fun b h1 h2 => by omega⟩ (fun n t hI => ?_) (fun n i t hi hI ih => ?_)
  · rw [e96] at L1
    exact L1
  · have g : nI 144 ≤ nI 144 := nI_le (Nat.le_refl _) (by omega)
    simp only [wX_slideTogether_13, g, not_true, not_false_iff, false_implies, true_implies, true_and, and_true, forall_eq, implies_true]
    have fwd : ∀ b, cs_sg 2 b → ¬ a_seen b = 0 → t b = nI (cs_rk a_seen b) := fun b hb hz => hI.2 b hb.1 hb.2 hz
    refine pk_loop (σ := Nat → Int32) (fun n r x => wX_slideTogether_49 post 96 (nI 144) (nI (cs_rk a_seen 144)) f_reached f_half f_marking n (nI r) x a_field a_kept a_seen a_queue t a_trial a_turn a_partner a_partnerBack a_tally a_remembered a_shade) (fun r x => (∀ r', r' < r → cs_l (cs_sl a_seen) (a_register (12 + r')) (x (12 + r'))) ∧ (∀ j, ¬ (12 ≤ j ∧ j < 12 + r) → x j = a_register j)) 6 0 a_register (by omega) ⟨fun r' h => by omega, fun _ _ => rfl⟩ (fun n xr' hI2 => ?_) (fun n r x hr hI2 ih => ?_)
    · have g3 : (6 : Int32) ≤ nI 6 := nI_le (a := 6) (by omega) (by omega)
      simp only [wX_slideTogether_49, g3, not_true, not_false_iff, false_implies, true_implies, true_and, and_true, forall_eq, implies_true]
      obtain ⟨xr1, xr2⟩ := hI2
      refine pk_loop (σ := Nat → Int32) (fun n i x => wX_slideTogether_90 post 96 (nI 144) (nI (cs_rk a_seen 144)) f_reached f_half f_marking n (nI i) xr' x a_kept a_seen a_queue t a_trial a_turn a_partner a_partnerBack a_tally a_remembered a_shade) (fun i x => 96 ≤ i ∧ cs_Sl a_seen a_field x i 0 ∧ (∀ j, ¬ (288 ≤ j ∧ j < 432) → x j = a_field j)) 144 96 a_field (by omega) ⟨Nat.le_refl _, cs_Sl_0, fun _ _ => rfl⟩ (fun n xf' hI3 => ?_) (fun n i x hi hI3 ih => ?_)
      · simp only [wX_slideTogether_90, g, not_true, not_false_iff, false_implies, true_implies, true_and, and_true, forall_eq, implies_true]
        obtain ⟨_, xf1, xf2⟩ := hI3
        refine pk_loop (σ := Nat → Int32) (fun n i x => wX_slideTogether_163 post (nI 144) (nI (cs_rk a_seen 144)) f_reached f_half f_marking n (nI i) xr' xf' x a_seen a_queue t a_trial a_turn a_partner a_partnerBack a_tally a_remembered a_shade) (fun i x => 96 ≤ i ∧ cs_up 96 i (fun b => b < cs_rk a_seen 144) a_kept x) 144 96 a_kept (by omega) ⟨Nat.le_refl _, cs_up_0⟩ (fun n xk' hI4 => ?_) (fun n i x hi hI4 ih => ?_)
        · simp only [wX_slideTogether_163, g, not_true, not_false_iff, false_implies, true_implies, true_and, and_true, forall_eq, implies_true]
          obtain ⟨_, k1, k2⟩ := hI4
          obtain ⟨r1, r2⟩ := cs_slide_end (h' := f_half) (m' := f_marking) (tl' := a_tally) (rm' := a_remembered) (sh' := a_shade) J hs xf1 (fun r hr => xr1 r hr) (fun b hb => k1 b hb.1 hb.2)
          exact K xr' xf' xk' t (fun j hj => xr2 j (by omega)) xf2 (fun b hb => k2 b hb) r1 r2
        · have g4 : ¬ nI 144 ≤ nI i := nI_ge hi (by omega)
          have v : vp_in (nI i) 336 := vp_in_nI (by omega) (by omega)
          have k : (nI i).toNatClampNeg = i := nI_clamp (by omega)
          have hi0 := hI4.1
          by_cases z : cs_rk a_seen 144 ≤ i
          · have g5 : nI (cs_rk a_seen 144) ≤ nI i := nI_le z (by omega)
            simp only [wX_slideTogether_163, g4, g5, v, k, cs_nb0, nI_1, not_true, not_false_iff, false_implies, true_implies, true_and, and_true, forall_eq, implies_true]
            exact ih _ ⟨by omega, cs_up_s hI4.2 hI4.1 (cs_n00 (by omega))⟩
          · have g5 : ¬ nI (cs_rk a_seen 144) ≤ nI i := nI_ge (by omega) (by omega)
            simp only [wX_slideTogether_163, g4, g5, v, k, cs_nb1, nI_1, not_true, not_false_iff, false_implies, true_implies, true_and, and_true, forall_eq, implies_true]
            exact ih _ ⟨by omega, cs_up_s hI4.2 hI4.1 (cs_n11 (by omega))⟩
      · obtain ⟨hi0, y1, y2⟩ := hI3
        have g4 : ¬ nI 144 ≤ nI i := nI_ge hi (by omega)
        have v : vp_in (nI i) 336 := vp_in_nI (by omega) (by omega)
        have k : (nI i).toNatClampNeg = i := nI_clamp (by omega)
        simp only [wX_slideTogether_90, g4, not_true, not_false_iff, false_implies, true_implies, true_and, and_true, forall_eq, implies_true]
        by_cases z : a_seen i = 0
        · refine ⟨1, ?_⟩
          have g5 : ¬ (3 : Int32) ≤ 0 := by decide
          simp only [wX_slideTogether_99, g5, v, k, z, nI_1, not_true, not_false_iff, false_implies, true_implies, true_and, and_true, forall_eq, implies_true]
          exact ih _ ⟨by omega, cs_Sl_k0 y1 z, y2⟩
        · have sgi : cs_sg 2 i := ⟨by omega, by omega⟩
          have vi := (hs i sgi).mp z
          have ri := fwd i sgi z
          have rlt := cs_rk_lt (s := a_seen) (a := i) (b := 144) (by omega) z (by omega)
          have rge := ge96 i
          refine pk_loop (σ := Nat → Int32) (fun m f x => wX_slideTogether_99 post (wX_slideTogether_90 post 96 (nI 144) (nI (cs_rk a_seen 144)) f_reached f_half f_marking n) 96 (nI 144) (nI (cs_rk a_seen 144)) (nI i) f_reached f_half f_marking m (nI f) xr' x a_kept a_seen a_queue t a_trial a_turn a_partner a_partnerBack a_tally a_remembered a_shade) (fun f x => cs_Sl a_seen a_field x i f ∧ (∀ j, ¬ (288 ≤ j ∧ j < 432) → x j = a_field j)) 3 0 x (by omega) ⟨y1, y2⟩ (fun m x hI5 => ?_) (fun m f x hf hI5 ih2 => ?_)
          · have g6 : (3 : Int32) ≤ nI 3 := nI_le (a := 3) (by omega) (by omega)
            simp only [wX_slideTogether_99, g6, nI_1, not_true, not_false_iff, false_implies, true_implies, true_and, and_true, forall_eq, implies_true]
            exact ih _ ⟨by omega, cs_Sl_k hI5.1, hI5.2⟩
          · have g6 : ¬ (3 : Int32) ≤ nI f := nI_ge (b := 3) hf (by omega)
            have v2 : vp_in (nI (3 * i + f)) 1008 := vp_in_nI (by omega) (by omega)
            have k2 : (nI (3 * i + f)).toNatClampNeg = 3 * i + f := nI_clamp (by omega)
            have v3 : vp_in (nI (3 * cs_rk a_seen i + f)) 1008 := vp_in_nI (by omega) (by omega)
            have k3 : (nI (3 * cs_rk a_seen i + f)).toNatClampNeg = 3 * cs_rk a_seen i + f := nI_clamp (by omega)
            have ew := cs_Sl_w hI5.1
            simp only [wX_slideTogether_99, g6, v, k, z, cs_i3, v2, k2, not_true, not_false_iff, false_implies, true_implies, true_and, and_true, forall_eq, implies_true]
            refine cs_slid (s := a_seen) fwd ?_ (fun w' l => ?_)
            · rw [ew]
              rcases (hZ i vi).2 f hf with o | ⟨b', o1, o2⟩
              · exact Or.inl o
              · have g := (hZ b' o1).1
                exact Or.inr ⟨b', g, (hs b' g).mpr o1, o2⟩
            · simp only [ri, cs_i3, v3, k3, nI_1, not_true, not_false_iff, false_implies, true_implies, true_and, and_true, forall_eq, implies_true]
              rw [ew] at l
              refine ih2 _ ⟨cs_Sl_f hI5.1 sgi z hf l, fun j hj => ?_⟩
              rw [cs_upd_n (by omega)]; exact hI5.2 j hj
    · obtain ⟨x1, x2⟩ := hI2
      have g3 : ¬ (6 : Int32) ≤ nI r := nI_ge (b := 6) hr (by omega)
      have e : (12 : Int32) + nI r = nI (12 + r) := nI_add 12 r
      have v : vp_in (nI (12 + r)) 42 := vp_in_nI (by omega) (by omega)
      have k : (nI (12 + r)).toNatClampNeg = 12 + r := nI_clamp (by omega)
      have ex : x (12 + r) = a_register (12 + r) := x2 _ (by omega)
      simp only [wX_slideTogether_49, g3, e, v, k, not_true, not_false_iff, false_implies, true_implies, true_and, and_true, forall_eq, implies_true]
      refine cs_slid (s := a_seen) fwd ?_ (fun w' l => ?_)
      · rw [ex]
        rcases I.2.2.2.1 r hr with ⟨m1, m2⟩ | ⟨a, b, m1, m2, m3⟩
        · exact Or.inl (m2 ▸ m1)
        · have q := I.2.2.1 a b m1
          have sg : cs_sg 2 b := ⟨q.2.1, q.2.2.1⟩
          exact Or.inr ⟨b, sg, (hs b sg).mpr (cs_R_b ⟨r, by omega, hr, by omega, m3⟩), m3⟩
      · simp only [nI_1, not_true, not_false_iff, false_implies, true_implies, true_and, and_true, forall_eq, implies_true]
        rw [ex] at l
        refine ih _ ⟨fun r' hr' => ?_, fun j hj => ?_⟩
        · by_cases er : r' = r
          · rw [er, cs_upd_s]; exact l
          · rw [cs_upd_n (by omega)]; exact x1 r' (by omega)
        · rw [cs_upd_n (by omega)]; exact x2 j (by omega)
  · obtain ⟨hi0, h2⟩ := hI
    have g : ¬ nI 144 ≤ nI i := nI_ge hi (by omega)
    have v : vp_in (nI i) 336 := vp_in_nI (by omega) (by omega)
    have k : (nI i).toNatClampNeg = i := nI_clamp (by omega)
    by_cases z : a_seen i = 0
    · simp only [wX_slideTogether_13, g, v, k, z, nI_1, not_true, not_false_iff, false_implies, true_implies, true_and, and_true, forall_eq, implies_true]
      have := ih t ⟨by omega, fun b h1 h3 hz => h2 b h1 (by
        have : b ≠ i := fun e => hz (e ▸ z)
        omega) hz⟩
      rw [cs_rk_suc0 (by omega) z] at this
      exact this
    · simp only [wX_slideTogether_13, g, v, k, z, nI_1, not_true, not_false_iff, false_implies, true_implies, true_and, and_true, forall_eq, implies_true]
      have := ih (upd t i (nI (cs_rk a_seen i))) ⟨by omega, fun b h1 h3 hz => by
        by_cases e : b = i
        · rw [e, cs_upd_s]
        · rw [cs_upd_n e]; exact h2 b h1 (by omega) hz⟩
      rw [cs_rk_suc (by omega) z] at this
      exact this
end
section
/-! moving -/
theorem cs_moved {f_reached f_half f_marking : Int32} {a_register a_field a_kept a_seen a_queue a_forward a_trial a_turn a_partner a_partnerBack a_tally a_remembered a_shade : Nat → Int32} {post : Int32 → SX → Prop} {c o oe d de L0 n f L : Nat} {Z : Nat → Prop} {F0 K0 : Nat → Int32} {sr tq : Nat → Nat} {w : Int32} (R : cs_rg c o oe d de) (hZ : ∀ b, Z b → cs_sg c b ∧ ¬ K0 b = 0) (cap : cs_n (fun i => ¬ K0 (o + i) = 0) (oe - o) ≤ cs_n (fun i => K0 (d + i) = 0) (de - d))
    (h : cs_Ev c o oe d de L0 Z F0 K0 a_field a_kept a_forward a_queue sr tq n f L) (hr : f_reached = nI L) (hw : cs_num w ∨ ∃ b, Z b ∧ w = nI (1000 + b))
    (K : ∀ w' F' K' fw' q' sr' tq' L', cs_Ev c o oe d de L0 Z F0 K0 F' K' fw' q' sr' tq' n f L' → L ≤ L' → (∀ i, i < L → sr' i = sr i ∧ tq' i = tq i) → (∀ b b', cs_mv c o oe L0 L K0 sr tq b b' → cs_mv c o oe L0 L' K0 sr' tq' b b') → cs_l (cs_mv c o oe L0 L' K0 sr' tq') w w' → post w' (nI L', f_half, f_marking, a_register, F', K', a_seen, q', fw', a_trial, a_turn, a_partner, a_partnerBack, a_tally, a_remembered, a_shade)) : wpX_moved post (f_reached, f_half, f_marking, a_register, a_field, a_kept, a_seen, a_queue, a_forward, a_trial, a_turn, a_partner, a_partnerBack, a_tally, a_remembered, a_shade) w (nI o) (nI oe) (nI d) (nI de) := by
  have R' := R
  obtain ⟨r0, r1, r2, r3, r4, r5, r6, r7, r8⟩ := R'
  subst hr
  have stay : cs_l (cs_mv c o oe L0 L K0 sr tq) w w → post w (nI L, f_half, f_marking, a_register, a_field, a_kept, a_seen, a_queue, a_forward, a_trial, a_turn, a_partner, a_partnerBack, a_tally, a_remembered, a_shade) := fun l => K w a_field a_kept a_forward a_queue sr tq L h (Nat.le_refl _) (fun _ _ => ⟨rfl, rfl⟩) (fun _ _ m => m) l
  rcases hw with hn | ⟨b, b1, b2⟩
  · have g := cs_num_sub hn (o := o) (by omega)
    simp only [wpX_moved, g, not_true, not_false_iff, false_implies, true_implies, true_and, and_true, forall_eq, implies_true]
    exact stay (Or.inl ⟨hn, rfl⟩)
  · have sb := (hZ b b1).1
    unfold cs_sg at sb
    by_cases z1 : b < o
    · have g : nI b < nI o := nI_lt z1 (by omega)
      have st := stay (by rw [b2]; exact cs_Ev_out hZ b1 (by omega))
      subst b2
      simp only [wpX_moved, cs_ref_sub, g, not_true, not_false_iff, false_implies, true_implies, true_and, and_true, forall_eq, implies_true]
      exact st
    · have g : ¬ nI b < nI o := nI_nlt (by omega) (by omega)
      by_cases z2 : b < oe
      · have g2 : nI b < nI oe := nI_lt z2 (by omega)
        have v : vp_in (nI b) 336 := vp_in_nI (by omega) (by omega)
        have k : (nI b).toNatClampNeg = b := nI_clamp (by omega)
        by_cases z3 : a_forward b = -1
        · have hh : wpX_moved post (nI L, f_half, f_marking, a_register, a_field, a_kept, a_seen, a_queue, a_forward, a_trial, a_turn, a_partner, a_partnerBack, a_tally, a_remembered, a_shade) (nI (1000 + b)) (nI o) (nI oe) (nI d) (nI de) := by
            simp only [wpX_moved, cs_ref_sub, g, g2, v, k, z3, not_true, not_false_iff, false_implies, true_implies, true_and, and_true, forall_eq, implies_true]
            refine cs_firstFree (by omega) (by omega) (fun full => ?_) (fun t t1 t2 t3 t4 => ?_)
            · obtain ⟨t, t1, t2, t3⟩ := cs_Ev_room R h (fun b hb => (hZ b hb).2) cap b1 (by omega) z2 z3
              exact absurd t3 (full t t1 t2)
            · have g3 : ¬ nI t = -1 := cs_nIm1 (by omega)
              have v2 : vp_in (nI t) 336 := vp_in_nI (by omega) (by omega)
              have k2 : (nI t).toNatClampNeg = t := nI_clamp (by omega)
              simp only [g3, v2, k2, cs_nb1, not_true, not_false_iff, false_implies, true_implies, true_and, and_true, forall_eq, implies_true]
              have bt : b ≠ t := by omega
              refine pk_loop (σ := Nat → Int32) (fun m g x => wX_moved_61 post (nI b) (nI t) (nI L) f_half f_marking m (nI g) a_register x (upd a_kept t 1) a_seen a_queue a_forward a_trial a_turn a_partner a_partnerBack a_tally a_remembered a_shade) (fun g x => cs_st (3 * t) (3 * t + g) (fun j => a_field (3 * b + (j - 3 * t))) a_field x) 3 0 a_field (by omega) cs_st_0 (fun m x hI => ?_) (fun m g x hg hI ih => ?_)
              · have g4 : (3 : Int32) ≤ nI 3 := nI_le (a := 3) (by omega) (by omega)
                have E' := cs_Ev_new R h b1 (by omega) z2 z3 t1 t2 t3 (F' := x) (fun g hg => by
                  have := hI.1 (3 * t + g) (by omega) (by omega)
                  rw [this]
                  dsimp only
                  rw [show 3 * t + g - 3 * t = g by omega]) (fun y g hg hy => hI.2 _ (by omega))
                have hL := cs_Ev_len R E'
                simp only [wX_moved_61, g4, v, k, not_true, not_false_iff, false_implies, true_implies, true_and, and_true, forall_eq, implies_true]
                refine cs_enq rfl (by omega) ?_
                simp only [v, k, cs_upd_s, cs_ref_add, not_true, not_false_iff, false_implies, true_implies, true_and, and_true, forall_eq, implies_true]
                rw [b2] at K
                exact K _ _ _ _ _ _ _ _ E' (by omega) (fun i hi => ⟨cs_un_n (by omega), cs_un_n (by omega)⟩) (fun _ _ m => cs_mv_mono m) (cs_Ev_fresh h.1.1)
              · have g4 : ¬ (3 : Int32) ≤ nI g := nI_ge (b := 3) hg (by omega)
                have v3 : vp_in (nI (3 * b + g)) 1008 := vp_in_nI (by omega) (by omega)
                have k3 : (nI (3 * b + g)).toNatClampNeg = 3 * b + g := nI_clamp (by omega)
                have v4 : vp_in (nI (3 * t + g)) 1008 := vp_in_nI (by omega) (by omega)
                have k4 : (nI (3 * t + g)).toNatClampNeg = 3 * t + g := nI_clamp (by omega)
                have ex : x (3 * b + g) = a_field (3 * b + g) := hI.2 _ (by omega)
                simp only [wX_moved_61, g4, cs_i3, v3, k3, v4, k4, nI_1, not_true, not_false_iff, false_implies, true_implies, true_and, and_true, forall_eq, implies_true]
                exact ih _ (cs_st_s hI (by omega) (by rw [ex, show 3 * t + g - 3 * t = g by omega]))
          rw [b2]; exact hh
        · obtain ⟨t, e1, e2, e3⟩ := cs_Ev_old R h (by omega) z2 z3
          have st := K (nI (1000 + t)) a_field a_kept a_forward a_queue sr tq L h (Nat.le_refl _) (fun _ _ => ⟨rfl, rfl⟩) (fun _ _ m => m) (by rw [b2]; exact e3)
          subst b2
          have g3 : ¬ nI t = -1 := cs_nIm1 (by omega)
          simp only [wpX_moved, cs_ref_sub, g, g2, v, k, e1, g3, cs_ref_add, not_true, not_false_iff, false_implies, true_implies, true_and, and_true, forall_eq, implies_true]
          exact st
      · have g2 : ¬ nI b < nI oe := nI_nlt (by omega) (by omega)
        have st := stay (by rw [b2]; exact cs_Ev_out hZ b1 (by omega))
        subst b2
        simp only [wpX_moved, cs_ref_sub, g, g2, not_true, not_false_iff, false_implies, true_implies, true_and, and_true, forall_eq, implies_true]
        exact st
theorem cs_enqRem {f_reached f_half f_marking : Int32} {a_register a_field a_kept a_seen a_queue a_forward a_trial a_turn a_partner a_partnerBack a_tally a_remembered a_shade : Nat → Int32} {post : SX → Prop} {d de : Nat} (h1 : d ≤ de) (h2 : de ≤ 336) (h3 : de ≤ d + 48)
    (K : ∀ (L0 : Nat) (tq : Nat → Nat) (q' rm' : Nat → Int32), (∀ i, i < L0 → q' i = nI (tq i) ∧ d ≤ tq i ∧ tq i < de ∧ ¬ a_kept (tq i) = 0) → (∀ i j, i < L0 → j < L0 → tq i = tq j → i = j) → (∀ b, d ≤ b → b < de → ¬ a_kept b = 0 → ¬ a_remembered b = 0 → ∃ i, i < L0 ∧ tq i = b) → (∀ b, ¬ (d ≤ b ∧ b < de) → rm' b = a_remembered b) → post (nI L0, f_half, f_marking, a_register, a_field, a_kept, a_seen, q', a_forward, a_trial, a_turn, a_partner, a_partnerBack, a_tally, rm', a_shade)) : wpX_enqueueRemembered post (f_reached, f_half, f_marking, a_register, a_field, a_kept, a_seen, a_queue, a_forward, a_trial, a_turn, a_partner, a_partnerBack, a_tally, a_remembered, a_shade) (nI d) (nI de) := by
  simp only [wpX_enqueueRemembered]
  refine pk_loop (σ := Nat × (Nat → Nat) × (Nat → Int32) × (Nat → Int32)) (fun n i t => wX_enqueueRemembered_7 post (nI de) n (nI i) (nI t.1) f_half f_marking a_register a_field a_kept a_seen t.2.2.1 a_forward a_trial a_turn a_partner a_partnerBack a_tally t.2.2.2 a_shade)
    (fun i t => d ≤ i ∧ d + t.1 ≤ i ∧ (∀ k, k < t.1 → t.2.2.1 k = nI (t.2.1 k) ∧ d ≤ t.2.1 k ∧ t.2.1 k < i ∧ ¬ a_kept (t.2.1 k) = 0) ∧ (∀ k j, k < t.1 → j < t.1 → t.2.1 k = t.2.1 j → k = j) ∧ (∀ b, d ≤ b → b < i → ¬ a_kept b = 0 → ¬ a_remembered b = 0 → ∃ k, k < t.1 ∧ t.2.1 k = b) ∧ cs_st d i (fun _ => 0) a_remembered t.2.2.2) de d (0, fun _ => 0, a_queue, a_remembered) h1
    ⟨Nat.le_refl _, Nat.le_refl _, fun k hk => absurd hk (Nat.not_lt_zero _), fun k j hk => absurd hk (Nat.not_lt_zero _), fun b b1 b2 => by omega, cs_st_0⟩ (fun n t hI => ?_) (fun n i t hi hI ih => ?_)
  · obtain ⟨L, tq, q, rm⟩ := t
    obtain ⟨a0, a1, a2, a3, a4, a5⟩ := hI
    dsimp only at a0 a1 a2 a3 a4 a5 ⊢
    have g : nI de ≤ nI de := nI_le (Nat.le_refl _) (by omega)
    simp only [wX_enqueueRemembered_7, g, not_true, not_false_iff, false_implies, true_implies, true_and, and_true, forall_eq, implies_true]
    exact K L tq q rm a2 a3 a4 a5.2
  · obtain ⟨L, tq, q, rm⟩ := t
    obtain ⟨a0, a1, a2, a3, a4, a5⟩ := hI
    dsimp only at a0 a1 a2 a3 a4 a5 ih ⊢
    have g : ¬ nI de ≤ nI i := nI_ge hi (by omega)
    have v : vp_in (nI i) 336 := vp_in_nI (by omega) (by omega)
    have k : (nI i).toNatClampNeg = i := nI_clamp (by omega)
    have ea : rm i = a_remembered i := a5.2 i (by omega)
    have skip : (a_kept i = 0 ∨ a_remembered i = 0) → wX_enqueueRemembered_7 post (nI de) n (nI (i + 1)) (nI L) f_half f_marking a_register a_field a_kept a_seen q a_forward a_trial a_turn a_partner a_partnerBack a_tally (upd rm i 0) a_shade := fun hz => by
      refine ih (L, tq, q, upd rm i 0) ⟨by omega, by dsimp only; omega, fun k hk => ?_, a3, fun b b1 b2 b3 b4 => a4 b b1 ?_ b3 b4, cs_st_s a5 a0 rfl⟩
      · have := a2 k hk
        exact ⟨this.1, this.2.1, by have := this.2.2.1; dsimp only; omega, this.2.2.2⟩
      · have : b ≠ i := fun e => by
          rw [e] at b3 b4
          exact hz.elim b3 b4
        omega
    by_cases z : a_kept i = 0
    · simp only [wX_enqueueRemembered_7, g, v, k, z, cs_nb0, nI_1, not_true, not_false_iff, false_implies, true_implies, true_and, and_true, forall_eq, implies_true]
      exact skip (Or.inl z)
    · by_cases z2 : a_remembered i = 0
      · simp only [wX_enqueueRemembered_7, g, v, k, z, ea, z2, cs_nb0, nI_1, not_true, not_false_iff, false_implies, true_implies, true_and, and_true, forall_eq, implies_true]
        exact skip (Or.inr z2)
      · simp only [wX_enqueueRemembered_7, g, v, k, z, ea, z2, not_true, not_false_iff, false_implies, true_implies, true_and, and_true, forall_eq, implies_true]
        refine cs_enq rfl (by omega) ?_
        simp only [v, k, cs_nb0, nI_1, not_true, not_false_iff, false_implies, true_implies, true_and, and_true, forall_eq, implies_true]
        refine ih (L + 1, cs_un tq L i, upd q L (nI i), upd rm i 0) ⟨by omega, by dsimp only; omega, fun k hk => ?_, fun k j hk hj e => ?_, fun b b1 b2 b3 b4 => ?_, cs_st_s a5 a0 rfl⟩
        · dsimp only at hk ⊢
          by_cases e : k = L
          · rw [e, cs_upd_s, cs_un_s]
            exact ⟨rfl, a0, by omega, z⟩
          · have := a2 k (by omega)
            rw [cs_upd_n e, cs_un_n e]
            exact ⟨this.1, this.2.1, by have := this.2.2.1; omega, this.2.2.2⟩
        · dsimp only at hk hj e
          by_cases ek : k = L <;> by_cases ej : j = L
          · rw [ek, ej]
          · rw [ek, cs_un_s, cs_un_n ej] at e
            have := (a2 j (by omega)).2.2.1
            omega
          · rw [ej, cs_un_s, cs_un_n ek] at e
            have := (a2 k (by omega)).2.2.1
            omega
          · rw [cs_un_n ek, cs_un_n ej] at e
            exact a3 k j (by omega) (by omega) e
        · dsimp only
          by_cases e : b = i
          · exact ⟨L, by omega, by rw [cs_un_s]; exact e.symm⟩
          · obtain ⟨k, k1, k2⟩ := a4 b b1 (by omega) b3 b4
            exact ⟨k, by omega, by rw [cs_un_n (by omega)]; exact k2⟩
end
section
/-! moving, from its beginning to its end -/
theorem cs_evac {f_reached f_half f_marking : Int32} {a_register a_field a_kept a_seen a_queue a_forward a_trial a_turn a_partner a_partnerBack a_tally a_remembered a_shade : Nat → Int32} {post : SX → Prop} {c o oe d de : Nat} {Z : Nat → Prop} (R : cs_rg c o oe d de) (hZ : ∀ b, Z b → cs_sg c b ∧ ¬ a_kept b = 0) (hZc : cs_Z c Z a_field) (cap : cs_n (fun i => ¬ a_kept (o + i) = 0) (oe - o) ≤ cs_n (fun i => a_kept (d + i) = 0) (de - d))
    (hreg : ∀ r, r < 6 → cs_num (a_register (6 * c + r)) ∨ ∃ b, Z b ∧ a_register (6 * c + r) = nI (1000 + b)) (hrem : ∀ b, d ≤ b → b < de → ¬ a_kept b = 0 → Z b)
    (K : ∀ (L0 L : Nat) (xr' F K1 fw q : Nat → Int32) (sr tq : Nat → Nat) (K' rm' : Nat → Int32), cs_Ev c o oe d de L0 Z a_field a_kept F K1 fw q sr tq L 0 L → (∀ b, d ≤ b → b < de → ¬ a_kept b = 0 → ¬ a_remembered b = 0 → ∃ i, i < L0 ∧ tq i = b) → (∀ r, r < 6 → cs_l (cs_mv c o oe L0 L a_kept sr tq) (a_register (6 * c + r)) (xr' (6 * c + r))) → (∀ j, ¬ (6 * c ≤ j ∧ j < 6 * c + 6) → xr' j = a_register j) →
      (∀ b, o ≤ b → b < oe → K' b = 0) → (∀ b, ¬ (o ≤ b ∧ b < oe) → K' b = K1 b) → (∀ b, ¬ cs_sg c b → rm' b = a_remembered b) → post (nI L, f_half, f_marking, xr', F, K', a_seen, q, fw, a_trial, a_turn, a_partner, a_partnerBack, a_tally, rm', a_shade)) : wpX_evacuate post (f_reached, f_half, f_marking, a_register, a_field, a_kept, a_seen, a_queue, a_forward, a_trial, a_turn, a_partner, a_partnerBack, a_tally, a_remembered, a_shade) (nI c) (nI o) (nI oe) (nI d) (nI de) := by
  have R' := R
  obtain ⟨r0, r1, r2, r3, r4, r5, r6, r7, r8⟩ := R'
  simp only [wpX_evacuate]
  refine pk_loop (σ := Nat → Int32) (fun n i x => wX_evacuate_3 post (nI c) (nI o) (nI oe) (nI d) (nI de) f_reached f_half f_marking n (nI i) a_register a_field a_kept a_seen a_queue x a_trial a_turn a_partner a_partnerBack a_tally a_remembered a_shade) (fun i x => o ≤ i ∧ cs_st o i (fun _ => -1) a_forward x) oe o a_forward (by omega) ⟨Nat.le_refl _, cs_st_0⟩ (fun n fw0 hI => ?_) (fun n i x hi hI ih => ?_)
  · have g : nI oe ≤ nI oe := nI_le (Nat.le_refl _) (by omega)
    simp only [wX_evacuate_3, g, not_true, not_false_iff, false_implies, true_implies, true_and, and_true, forall_eq, implies_true]
    refine cs_enqRem (by omega) (by omega) (by omega) (fun L0 tq0 q0 rm' q1 q2 q3 q4 => ?_)
    simp only []
    have E0 : cs_Ev c o oe d de L0 Z a_field a_kept a_field a_kept fw0 q0 tq0 tq0 0 0 L0 := cs_Ev_begin R (fun b b1 b2 => hI.2.1 b b1 b2) (fun i hi => by
      obtain ⟨s1, s2, s3, s4⟩ := q1 i hi
      exact ⟨s1, hrem _ s2 s3 s4, s2, s3, s4⟩) q2
    refine pk_loop (σ := Nat × (Nat → Int32) × (Nat → Int32) × (Nat → Int32) × (Nat → Int32) × (Nat → Int32)) (fun n r t => wX_evacuate_34 post (nI c) (nI o) (nI oe) (nI d) (nI de) n (nI r) (nI t.1) f_half f_marking t.2.1 t.2.2.1 t.2.2.2.1 a_seen t.2.2.2.2.2 t.2.2.2.2.1 a_trial a_turn a_partner a_partnerBack a_tally rm' a_shade)
      (fun r t => ∃ sr tq, cs_Ev c o oe d de L0 Z a_field a_kept t.2.2.1 t.2.2.2.1 t.2.2.2.2.1 t.2.2.2.2.2 sr tq 0 0 t.1 ∧ (∀ i, i < L0 → tq i = tq0 i) ∧ (∀ r', r' < r → cs_l (cs_mv c o oe L0 t.1 a_kept sr tq) (a_register (6 * c + r')) (t.2.1 (6 * c + r'))) ∧ (∀ j, ¬ (6 * c ≤ j ∧ j < 6 * c + r) → t.2.1 j = a_register j)) 6 0 (L0, a_register, a_field, a_kept, fw0, q0) (by omega)
      ⟨tq0, tq0, E0, fun _ _ => rfl, fun r' h => by omega, fun _ _ => rfl⟩ (fun n t hI2 => ?_) (fun n r t hr hI2 ih => ?_)
    · obtain ⟨L, xr', F, K1, fw, q⟩ := t
      obtain ⟨sr, tq, e1, e2, e3, e4⟩ := hI2
      dsimp only at e1 e2 e3 e4 ⊢
      have g3 : (6 : Int32) ≤ nI 6 := nI_le (a := 6) (by omega) (by omega)
      simp only [wX_evacuate_34, g3, not_true, not_false_iff, false_implies, true_implies, true_and, and_true, forall_eq, implies_true]
      have fin : ∀ L F K1 fw q sr tq, cs_Ev c o oe d de L0 Z a_field a_kept F K1 fw q sr tq L 0 L → (∀ i, i < L0 → tq i = tq0 i) → (∀ r, r < 6 → cs_l (cs_mv c o oe L0 L a_kept sr tq) (a_register (6 * c + r)) (xr' (6 * c + r))) →
          ∃ m, wX_evacuate_161 post (nI oe) (nI L) f_half f_marking m (nI o) xr' F K1 a_seen q fw a_trial a_turn a_partner a_partnerBack a_tally rm' a_shade := fun L F K1 fw q sr tq f1 f2 f3 => by
        refine pk_loop (σ := Nat → Int32) (fun n i x => wX_evacuate_161 post (nI oe) (nI L) f_half f_marking n (nI i) xr' F x a_seen q fw a_trial a_turn a_partner a_partnerBack a_tally rm' a_shade) (fun i x => o ≤ i ∧ cs_st o i (fun _ => 0) K1 x) oe o K1 (by omega) ⟨Nat.le_refl _, cs_st_0⟩ (fun n K' hI3 => ?_) (fun n i x hi hI3 ih => ?_)
        · simp only [wX_evacuate_161, g, not_true, not_false_iff, false_implies, true_implies, true_and, and_true, forall_eq, implies_true]
          refine K L0 L xr' F K1 fw q sr tq K' rm' f1 (fun b b1 b2 b3 b4 => ?_) f3 (fun j hj => e4 j hj) (fun b b1 b2 => hI3.2.1 b b1 b2) hI3.2.2 (fun b hb => q4 b (fun z => hb ⟨by omega, by omega⟩))
          obtain ⟨i, i1, i2⟩ := q3 b b1 b2 b3 b4
          exact ⟨i, i1, by rw [f2 i i1]; exact i2⟩
        · have g4 : ¬ nI oe ≤ nI i := nI_ge hi (by omega)
          have v : vp_in (nI i) 336 := vp_in_nI (by omega) (by omega)
          have k : (nI i).toNatClampNeg = i := nI_clamp (by omega)
          simp only [wX_evacuate_161, g4, v, k, cs_nb0, nI_1, not_true, not_false_iff, false_implies, true_implies, true_and, and_true, forall_eq, implies_true]
          exact ih _ ⟨by have := hI3.1; omega, cs_st_s hI3.2 hI3.1 rfl⟩
      refine loop_m (σ := Nat × Nat × (Nat → Int32) × (Nat → Int32) × (Nat → Int32) × (Nat → Int32)) (fun n t => wX_evacuate_83 post (nI o) (nI oe) (nI d) (nI de) n (nI t.1) (nI t.2.1) f_half f_marking xr' t.2.2.1 t.2.2.2.1 a_seen t.2.2.2.2.2 t.2.2.2.2.1 a_trial a_turn a_partner a_partnerBack a_tally rm' a_shade)
        (fun t => ∃ sr tq, cs_Ev c o oe d de L0 Z a_field a_kept t.2.2.1 t.2.2.2.1 t.2.2.2.2.1 t.2.2.2.2.2 sr tq t.1 0 t.2.1 ∧ (∀ i, i < L0 → tq i = tq0 i) ∧ (∀ r, r < 6 → cs_l (cs_mv c o oe L0 t.2.1 a_kept sr tq) (a_register (6 * c + r)) (xr' (6 * c + r)))) (fun t => 48 - t.1) (fun n t hI3 ih => ?_) (0, L, F, K1, fw, q) ⟨sr, tq, e1, e2, e3⟩
      obtain ⟨i, L, F, K1, fw, q⟩ := t
      obtain ⟨sr, tq, f1, f2, f3⟩ := hI3
      dsimp only at f1 f2 f3 ih ⊢
      have hL := cs_Ev_len R f1
      have hiL := f1.1.2.1
      by_cases e : i = L
      · subst e
        have fn := fin i F K1 fw q sr tq f1 f2 f3
        have g2 : nI i ≤ nI i := nI_le (Nat.le_refl _) (by omega)
        by_cases e2 : i = 48
        · have g5 : (48 : Int32) ≤ nI i := nI_le (a := 48) (by omega) (by omega)
          simp only [wX_evacuate_83, g5, not_true, not_false_iff, false_implies, true_implies, true_and, and_true, forall_eq, implies_true]
          exact fn
        · have g5 : ¬ (48 : Int32) ≤ nI i := nI_ge (b := 48) (by omega) (by omega)
          simp only [wX_evacuate_83, g5, g2, not_true, not_false_iff, false_implies, true_implies, true_and, and_true, forall_eq, implies_true]
          exact fn
      · have g5 : ¬ (48 : Int32) ≤ nI i := nI_ge (b := 48) (by omega) (by omega)
        have g2 : ¬ nI L ≤ nI i := nI_ge (by omega) (by omega)
        simp only [wX_evacuate_83, g5, g2, not_true, not_false_iff, false_implies, true_implies, true_and, and_true, forall_eq, implies_true]
        refine pk_loop (σ := Nat × (Nat → Int32) × (Nat → Int32) × (Nat → Int32) × (Nat → Int32)) (fun m f t => wX_evacuate_102 post (wX_evacuate_83 post (nI o) (nI oe) (nI d) (nI de) n) (nI o) (nI oe) (nI d) (nI de) (nI i) m (nI f) (nI t.1) f_half f_marking xr' t.2.1 t.2.2.1 a_seen t.2.2.2.2 t.2.2.2.1 a_trial a_turn a_partner a_partnerBack a_tally rm' a_shade)
          (fun f t => ∃ sr tq, i < t.1 ∧ cs_Ev c o oe d de L0 Z a_field a_kept t.2.1 t.2.2.1 t.2.2.2.1 t.2.2.2.2 sr tq i f t.1 ∧ (∀ i, i < L0 → tq i = tq0 i) ∧ (∀ r, r < 6 → cs_l (cs_mv c o oe L0 t.1 a_kept sr tq) (a_register (6 * c + r)) (xr' (6 * c + r)))) 3 0 (L, F, K1, fw, q) (by omega) ⟨sr, tq, by dsimp only; omega, f1, f2, f3⟩ (fun m t hI4 => ?_) (fun m f t hf hI4 ih2 => ?_)
        · obtain ⟨L, F, K1, fw, q⟩ := t
          obtain ⟨sr, tq, h0, h1, h2, h3⟩ := hI4
          dsimp only at h0 h1 h2 h3 ⊢
          have g6 : (3 : Int32) ≤ nI 3 := nI_le (a := 3) (by omega) (by omega)
          simp only [wX_evacuate_102, g6, nI_1, not_true, not_false_iff, false_implies, true_implies, true_and, and_true, forall_eq, implies_true]
          exact ih (i + 1, L, F, K1, fw, q) ⟨sr, tq, cs_Ev_next h1 h0, h2, h3⟩ (by dsimp only; omega)
        · obtain ⟨L, F, K1, fw, q⟩ := t
          obtain ⟨sr, tq, h0, h1, h2, h3⟩ := hI4
          dsimp only at h0 h1 h2 h3 ih2 ⊢
          have hL2 := cs_Ev_len R h1
          have ai := h1.2.1 i h0
          have g6 : ¬ (3 : Int32) ≤ nI f := nI_ge (b := 3) hf (by omega)
          have v1 : vp_in (nI i) 48 := vp_in_nI (by omega) (by omega)
          have k1 : (nI i).toNatClampNeg = i := nI_clamp (by omega)
          have v2 : vp_in (nI (3 * tq i + f)) 1008 := vp_in_nI (by omega) (by omega)
          have k2 : (nI (3 * tq i + f)).toNatClampNeg = 3 * tq i + f := nI_clamp (by omega)
          have ew := cs_Ev_w h1 h0 hf
          simp only [wX_evacuate_102, g6, v1, k1, ai.1, cs_i3, v2, k2, not_true, not_false_iff, false_implies, true_implies, true_and, and_true, forall_eq, implies_true]
          refine cs_moved R hZ cap h1 rfl (by rw [ew]; exact (hZc _ ai.2.1).2 f hf) (fun w' F' K2 fw' q' sr' tq' L' j1 j2 j3 j4 j5 => ?_)
          simp only [v2, k2, nI_1, not_true, not_false_iff, false_implies, true_implies, true_and, and_true, forall_eq, implies_true]
          rw [ew] at j5
          have j3i := j3 i h0
          have sc := cs_Ev_scan R j1 (by omega) hf (w' := w') (by rw [j3i.1]; exact j5)
          rw [j3i.2] at sc
          exact ih2 (L', _, K2, fw', q') ⟨sr', tq', by dsimp only; omega, sc, fun k hk => by rw [(j3 k (by have := h1.1.1; omega)).2]; exact h2 k hk, fun r hr => cs_l_mono j4 (h3 r hr)⟩
    · obtain ⟨L, xr', F, K1, fw, q⟩ := t
      obtain ⟨sr, tq, e1, e2, e3, e4⟩ := hI2
      dsimp only at e1 e2 e3 e4 ih ⊢
      have g3 : ¬ (6 : Int32) ≤ nI r := nI_ge (b := 6) hr (by omega)
      have v : vp_in (nI (6 * c + r)) 42 := vp_in_nI (by omega) (by omega)
      have k : (nI (6 * c + r)).toNatClampNeg = 6 * c + r := nI_clamp (by omega)
      have ex : xr' (6 * c + r) = a_register (6 * c + r) := e4 _ (by omega)
      simp only [wX_evacuate_34, g3, cs_i6, v, k, not_true, not_false_iff, false_implies, true_implies, true_and, and_true, forall_eq, implies_true]
      refine cs_moved R hZ cap e1 rfl (by rw [ex]; exact hreg r hr) (fun w' F' K2 fw' q' sr' tq' L' j1 j2 j3 j4 j5 => ?_)
      simp only [v, k, nI_1, not_true, not_false_iff, false_implies, true_implies, true_and, and_true, forall_eq, implies_true]
      rw [ex] at j5
      refine ih (L', upd xr' (6 * c + r) w', F', K2, fw', q') ⟨sr', tq', j1, fun k hk => by rw [(j3 k (by have := e1.1.1; omega)).2]; exact e2 k hk, fun r' hr' => ?_, fun j hj => ?_⟩
      · show cs_l (cs_mv c o oe L0 L' a_kept sr' tq') (a_register (6 * c + r')) (upd xr' (6 * c + r) w' (6 * c + r'))
        by_cases er : r' = r
        · rw [er, cs_upd_s]; exact j5
        · rw [cs_upd_n (by omega)]; exact cs_l_mono j4 (e3 r' (by omega))
      · show upd xr' (6 * c + r) w' j = a_register j
        rw [cs_upd_n (by omega)]; exact e4 j (by omega)
  · have g4 : ¬ nI oe ≤ nI i := nI_ge hi (by omega)
    have v : vp_in (nI i) 336 := vp_in_nI (by omega) (by omega)
    have k : (nI i).toNatClampNeg = i := nI_clamp (by omega)
    simp only [wX_evacuate_3, g4, v, k, nI_1, not_true, not_false_iff, false_implies, true_implies, true_and, and_true, forall_eq, implies_true]
    exact ih _ ⟨by have := hI.1; omega, cs_st_s hI.2 hI.1 rfl⟩
end
section
/-! counting: trial counts and cycles -/
theorem cs_addF {f_reached f_half f_marking : Int32} {a_register a_field a_kept a_seen a_queue a_forward a_trial a_turn a_partner a_partnerBack a_tally a_remembered a_shade : Nat → Int32} {post : SX → Prop} {w : Int32} (W : cs_W 3 a_field a_kept) (K : ∀ tr', cs_tr a_trial w a_field a_kept tr' 144 → post (f_reached, f_half, f_marking, a_register, a_field, a_kept, a_seen, a_queue, a_forward, tr', a_turn, a_partner, a_partnerBack, a_tally, a_remembered, a_shade)) : wpX_addFieldReferences post (f_reached, f_half, f_marking, a_register, a_field, a_kept, a_seen, a_queue, a_forward, a_trial, a_turn, a_partner, a_partnerBack, a_tally, a_remembered, a_shade) w := by
  simp only [wpX_addFieldReferences]
  refine pk_loop (σ := Nat → Int32) (fun n x t => wX_addFieldReferences_4 post w f_reached f_half f_marking n (nI (144 + x)) a_register a_field a_kept a_seen a_queue a_forward t a_turn a_partner a_partnerBack a_tally a_remembered a_shade) (fun x t => cs_tr a_trial w a_field a_kept t (3 * x)) 48 0 a_trial (by omega) cs_tr_0 (fun n t hI => ?_) (fun n x t hx hI ih => ?_)
  · have g : (192 : Int32) ≤ nI (144 + 48) := nI_le (a := 192) (by omega) (by omega)
    simp only [wX_addFieldReferences_4, g, not_true, not_false_iff, false_implies, true_implies, true_and, and_true, forall_eq, implies_true]
    exact K t hI
  · have g : ¬ (192 : Int32) ≤ nI (144 + x) := nI_ge (b := 192) (by omega) (by omega)
    have v : vp_in (nI (144 + x)) 336 := vp_in_nI (by omega) (by omega)
    have k : (nI (144 + x)).toNatClampNeg = 144 + x := nI_clamp (by omega)
    simp only [wX_addFieldReferences_4, g, not_true, not_false_iff, false_implies, true_implies, true_and, and_true, forall_eq, implies_true]
    by_cases z : a_kept (144 + x) = 0
    · refine ⟨1, ?_⟩
      have g5 : ¬ (3 : Int32) ≤ 0 := by decide
      simp only [wX_addFieldReferences_13, g5, v, k, z, nI_1, not_true, not_false_iff, false_implies, true_implies, true_and, and_true, forall_eq, implies_true]
      exact ih t (cs_tr_skip hI z)
    · refine pk_loop (σ := Nat → Int32) (fun m f t => wX_addFieldReferences_13 post (wX_addFieldReferences_4 post w f_reached f_half f_marking n) w (nI (144 + x)) f_reached f_half f_marking m (nI f) a_register a_field a_kept a_seen a_queue a_forward t a_turn a_partner a_partnerBack a_tally a_remembered a_shade) (fun f t => cs_tr a_trial w a_field a_kept t (3 * x + f)) 3 0 t (by omega) hI (fun m t hI2 => ?_) (fun m f t hf hI2 ih2 => ?_)
      · have g6 : (3 : Int32) ≤ nI 3 := nI_le (a := 3) (by omega) (by omega)
        simp only [wX_addFieldReferences_13, g6, nI_1, not_true, not_false_iff, false_implies, true_implies, true_and, and_true, forall_eq, implies_true]
        exact ih t hI2
      · have g6 : ¬ (3 : Int32) ≤ nI f := nI_ge (b := 3) hf (by omega)
        have v2 : vp_in (nI (3 * (144 + x) + f)) 1008 := vp_in_nI (by omega) (by omega)
        have k2 : (nI (3 * (144 + x) + f)).toNatClampNeg = 3 * (144 + x) + f := nI_clamp (by omega)
        rcases cs_W_word (c := 3) (by omega) W (b := 144 + x) ⟨by omega, by omega⟩ z hf with ⟨o1, o2⟩ | ⟨b', o1, o2, o3, o4⟩
        · simp only [wX_addFieldReferences_13, g6, v, k, z, cs_i3, v2, k2, o2, nI_1, not_true, not_false_iff, false_implies, true_implies, true_and, and_true, forall_eq, implies_true]
          exact ih2 t (cs_tr_num hI2 hf o1)
        · have g7 := cs_ref_ge (b := b') (by omega)
          have v3 : vp_in (nI b') 336 := vp_in_nI (by omega) (by omega)
          have k3 : (nI b').toNatClampNeg = b' := nI_clamp (by omega)
          simp only [wX_addFieldReferences_13, g6, v, k, z, cs_i3, v2, k2, o4, g7, cs_ref_sub, v3, k3, nI_1, not_true, not_false_iff, false_implies, true_implies, true_and, and_true, forall_eq, implies_true]
          exact ih2 _ (cs_tr_ref hI2 hf z (by omega) o4)
theorem cs_rc_pos {xr : Nat → Int32} {b : Nat} (h : 0 < cs_rc xr 6 b) : ∃ r, r < 6 ∧ xr (18 + r) = nI (1000 + b) := cs_n_pos h
theorem cs_rc_of {xr : Nat → Int32} {r b : Nat} (hr : r < 6) (h : xr (18 + r) = nI (1000 + b)) : 0 < cs_rc xr 6 b := by
  have := cs_n_rem (P := fun r => xr (18 + r) = nI (1000 + b)) (a := r) (N := 6) h hr
  unfold cs_rc; omega
theorem cs_cycles {f_reached f_half f_marking : Int32} {a_register a_field a_kept a_seen a_queue a_forward a_trial a_turn a_partner a_partnerBack a_tally a_remembered a_shade : Nat → Int32} {post : SX → Prop} {yr yf : Nat → Int32} (J : cs_J 3 f_half f_marking a_register a_field a_kept a_tally a_remembered a_shade yr yf)
    (K : ∀ (L : Nat) (s q tr tl' xk' : Nat → Int32), (∀ b, ¬ cs_sg 3 b → xk' b = a_kept b ∧ tl' b = a_tally b) → cs_J 3 f_half f_marking a_register a_field xk' tl' a_remembered a_shade yr yf → cs_X 3 a_register a_field xk' yr yf → post (nI L, f_half, f_marking, a_register, a_field, xk', s, q, a_forward, tr, a_turn, a_partner, a_partnerBack, tl', a_remembered, a_shade)) : wpX_dropCycles post (f_reached, f_half, f_marking, a_register, a_field, a_kept, a_seen, a_queue, a_forward, a_trial, a_turn, a_partner, a_partnerBack, a_tally, a_remembered, a_shade) := by
  have J0 := J
  obtain ⟨⟨P, I⟩, W, _, _, k3, _⟩ := J0
  have K3 := k3 rfl
  have hZ := cs_Z_V (c := 3) (p := 0) (q := 6) (by omega) I (by omega)
  have e192 : (144 : Int32) + 48 = nI 192 := by decide
  simp only [wpX_dropCycles, e192, not_true, not_false_iff, false_implies, true_implies, true_and, and_true, forall_eq, implies_true]
  refine pk_loop (σ := Nat → Int32) (fun n i t => wX_dropCycles_11 post 144 (nI 192) f_reached f_half f_marking n (nI i) a_register a_field a_kept a_seen a_queue a_forward t a_turn a_partner a_partnerBack a_tally a_remembered a_shade) (fun i t => 144 ≤ i ∧ cs_st 144 i a_tally a_trial t) 192 144 a_trial (by omega) ⟨Nat.le_refl _, cs_st_0⟩ (fun n t0 hI => ?_) (fun n i t hi hI ih => ?_)
  · have g : nI 192 ≤ nI 192 := nI_le (Nat.le_refl _) (by omega)
    simp only [wX_dropCycles_11, g, not_true, not_false_iff, false_implies, true_implies, true_and, and_true, forall_eq, implies_true]
    refine cs_addF W (fun tr htr => ?_)
    simp only []
    have trv : ∀ b, cs_sg 3 b → ¬ a_kept b = 0 → tr b = nI (cs_rc a_register 6 b) := fun b hb hk => by
      rw [htr b hb, hI.2.1 b hb.1 hb.2, (K3 b hb hk).2, cs_c_eq, ← nI_add]
      grind
    refine cs_forget (c := 3) (by omega) (fun s0 hs0 => ?_)
    simp only []
    refine pk_loop (σ := Nat × (Nat → Int32) × (Nat → Int32)) (fun n i t => wX_dropCycles_46 post 144 (nI 192) n (nI i) (nI t.1) f_half f_marking a_register a_field a_kept t.2.1 t.2.2 a_forward tr a_turn a_partner a_partnerBack a_tally a_remembered a_shade) (fun i t => 144 ≤ i ∧ cs_F 3 (cs_V 1000 a_register 18 0 6 a_field) (fun _ => False) t.2.1 t.2.2 t.1 ∧ (∀ b, 144 ≤ b → b < i → ¬ a_kept b = 0 → 0 < cs_rc a_register 6 b → ¬ t.2.1 b = 0)) 192 144 (0, s0, a_queue) (by omega)
      ⟨Nat.le_refl _, cs_F_nil hs0, fun b h1 h2 => by omega⟩ (fun n t hI2 => ?_) (fun n i t hi hI2 ih => ?_)
    · obtain ⟨L1, s1, q1⟩ := t
      obtain ⟨_, j1, j2⟩ := hI2
      dsimp only at j1 j2 ⊢
      simp only [wX_dropCycles_46, g, not_true, not_false_iff, false_implies, true_implies, true_and, and_true, forall_eq, implies_true]
      refine cs_follow (c := 3) (by omega) hZ j1 rfl (fun L s q a1 a2 a3 => ?_)
      simp only []
      obtain ⟨sv, _⟩ := cs_F_end (c := 3) (by omega) hZ a1 a2 (fun b hb => by
        have hv := cs_X_in (c := 3) (p := 0) (q := 6) (by omega) I (by omega) (cs_R_b hb)
        obtain ⟨r, _, r2, r3⟩ := hb
        exact a3 b (j2 b (by omega) (by omega) hv.2.2 (cs_rc_of r2 r3.2)))
      have Zlt : ∀ b, (cs_sg 3 b ∧ ¬ a_kept b = 0) → b < 1000 := fun b hb => by
        have := hb.1
        unfold cs_sg at this; omega
      refine pk_loop (σ := Nat → Int32) (fun n x t => wX_dropCycles_90 post (nI 192) (nI L) f_half f_marking n (nI (144 + x)) a_register a_field a_kept s q a_forward tr a_turn a_partner a_partnerBack t a_remembered a_shade)
        (fun x t => (∀ b, (cs_sg 3 b ∧ ¬ a_kept b = 0) → t b = nI (cs_c a_register a_field (cs_kv s a_kept (144 + x)) b)) ∧ (∀ b, ¬ cs_sg 3 b → t b = a_tally b)) 48 0 a_tally (by omega) ⟨fun b hb => ?_, fun _ _ => rfl⟩ (fun n t hI3 => ?_) (fun n x t hx hI3 ih => ?_)
      · rw [(K3 b hb.1 hb.2).2]
        refine congrArg nI (cs_c_cg (fun _ _ => rfl) (fun _ _ _ => rfl) (fun b' hb' => ?_) b).symm
        unfold cs_sg at hb'
        rw [cs_kv_f (fun y => by omega)]
      · have g2 : nI 192 ≤ nI (144 + 48) := nI_le (by omega) (by omega)
        simp only [wX_dropCycles_90, g2, not_true, not_false_iff, false_implies, true_implies, true_and, and_true, forall_eq, implies_true]
        refine cs_sweepU (c := 3) (by omega) (fun xk' k1 k2 => ?_)
        simp only []
        obtain ⟨r1, r2⟩ := cs_cyc_end (tl' := t) J sv hI3.1 k1
        exact K L s q tr t xk' (fun b hb => ⟨k2 b hb, hI3.2 b hb⟩) r1 r2
      · obtain ⟨y1, y2⟩ := hI3
        have g2 : ¬ nI 192 ≤ nI (144 + x) := nI_ge (by omega) (by omega)
        have v : vp_in (nI (144 + x)) 336 := vp_in_nI (by omega) (by omega)
        have k : (nI (144 + x)).toNatClampNeg = 144 + x := nI_clamp (by omega)
        have g5 : ¬ (3 : Int32) ≤ 0 := by decide
        simp only [wX_dropCycles_90, g2, not_true, not_false_iff, false_implies, true_implies, true_and, and_true, forall_eq, implies_true]
        by_cases z : a_kept (144 + x) = 0
        · refine ⟨1, ?_⟩
          simp only [wX_dropCycles_98, g5, v, k, z, nI_1, not_true, not_false_iff, false_implies, true_implies, true_and, and_true, forall_eq, implies_true]
          exact ih t ⟨fun b hb => by rw [← Nat.add_assoc, cs_kv_keep (Or.inr z)]; exact y1 b hb, y2⟩
        · by_cases z2 : s (144 + x) = 0
          · have sgx : cs_sg 3 (144 + x) := ⟨by omega, by omega⟩
            have kvx : ¬ cs_kv s a_kept (144 + x) (144 + x) = 0 := by
              rw [cs_kv_f (fun y => by omega)]; exact z
            refine pk_loop (σ := Nat → Int32) (fun m f t => wX_dropCycles_98 post (wX_dropCycles_90 post (nI 192) (nI L) f_half f_marking n) (nI 192) (nI (144 + x)) (nI L) f_half f_marking m (nI f) a_register a_field a_kept s q a_forward tr a_turn a_partner a_partnerBack t a_remembered a_shade)
              (fun f t => (∀ b, (cs_sg 3 b ∧ ¬ a_kept b = 0) → t b = nI (cs_c a_register a_field (cs_kv s a_kept (144 + x + 1)) b + cs_x a_field (144 + x) f b)) ∧ (∀ b, ¬ cs_sg 3 b → t b = a_tally b)) 3 0 t (by omega) ⟨fun b hb => ?_, y2⟩ (fun m t hI4 => ?_) (fun m f t hf hI4 ih2 => ?_)
            · rw [y1 b hb, cs_c_drop sgx kvx b, cs_kv_drop z2]
            · have g6 : (3 : Int32) ≤ nI 3 := nI_le (a := 3) (by omega) (by omega)
              simp only [wX_dropCycles_98, g6, nI_1, not_true, not_false_iff, false_implies, true_implies, true_and, and_true, forall_eq, implies_true]
              refine ih t ⟨fun b hb => ?_, hI4.2⟩
              rw [hI4.1 b hb, cs_x_3, Nat.add_zero, Nat.add_assoc]
            · have g6 : ¬ (3 : Int32) ≤ nI f := nI_ge (b := 3) hf (by omega)
              have v2 : vp_in (nI (3 * (144 + x) + f)) 1008 := vp_in_nI (by omega) (by omega)
              have k2 : (nI (3 * (144 + x) + f)).toNatClampNeg = 3 * (144 + x) + f := nI_clamp (by omega)
              rcases cs_W_word (c := 3) (by omega) W sgx z hf with ⟨o1, o2⟩ | ⟨b', o1, o2, o3, o4⟩
              · simp only [wX_dropCycles_98, g6, v, k, z, z2, cs_i3, v2, k2, o2, nI_1, not_true, not_false_iff, false_implies, true_implies, true_and, and_true, forall_eq, implies_true]
                exact ih2 t ⟨cs_low0 (Z := fun b => cs_sg 3 b ∧ ¬ a_kept b = 0) Zlt hf hI4.1 o1, hI4.2⟩
              · have g7 := cs_ref_ge (b := b') (by omega)
                have v3 : vp_in (nI b') 336 := vp_in_nI (by omega) (by omega)
                have k3 : (nI b').toNatClampNeg = b' := nI_clamp (by omega)
                simp only [wX_dropCycles_98, g6, v, k, z, z2, cs_i3, v2, k2, o4, g7, cs_ref_sub, v3, k3, nI_1, not_true, not_false_iff, false_implies, true_implies, true_and, and_true, forall_eq, implies_true]
                refine ih2 _ ⟨cs_low (Z := fun b => cs_sg 3 b ∧ ¬ a_kept b = 0) Zlt hf hI4.1 (by omega) o4, fun b hb => ?_⟩
                rw [cs_upd_n (fun e : b = b' => hb (by rw [e]; exact o1))]; exact hI4.2 b hb
          · refine ⟨1, ?_⟩
            simp only [wX_dropCycles_98, g5, v, k, z, z2, nI_1, not_true, not_false_iff, false_implies, true_implies, true_and, and_true, forall_eq, implies_true]
            exact ih t ⟨fun b hb => by rw [← Nat.add_assoc, cs_kv_keep (Or.inl z2)]; exact y1 b hb, y2⟩
    · obtain ⟨L1, s1, q1⟩ := t
      obtain ⟨j0, j1, j2⟩ := hI2
      dsimp only at j1 j2 ih ⊢
      have g2 : ¬ nI 192 ≤ nI i := nI_ge hi (by omega)
      have v : vp_in (nI i) 336 := vp_in_nI (by omega) (by omega)
      have k : (nI i).toNatClampNeg = i := nI_clamp (by omega)
      have sgi : cs_sg 3 i := ⟨by omega, by omega⟩
      by_cases z : a_kept i = 0
      · simp only [wX_dropCycles_46, g2, v, k, z, nI_1, not_true, not_false_iff, false_implies, true_implies, true_and, and_true, forall_eq, implies_true]
        refine ih (L1, s1, q1) ⟨by omega, j1, fun b b1 b2 b3 b4 => j2 b b1 ?_ b3 b4⟩
        have : b ≠ i := fun e => b3 (e ▸ z)
        omega
      · have tri := trv i sgi z
        by_cases z2 : cs_rc a_register 6 i = 0
        · have g3 : tr i ≤ 0 := by rw [tri, z2]; decide
          simp only [wX_dropCycles_46, g2, v, k, z, g3, nI_1, not_true, not_false_iff, false_implies, true_implies, true_and, and_true, forall_eq, implies_true]
          refine ih (L1, s1, q1) ⟨by omega, j1, fun b b1 b2 b3 b4 => j2 b b1 ?_ b3 b4⟩
          have : b ≠ i := fun e => by rw [e] at b4; omega
          omega
        · have hrc : cs_rc a_register 6 i ≤ 6 := cs_n_le _ 6
          have g3 : ¬ tr i ≤ 0 := by rw [tri]; exact nI_nle (by omega) (by omega)
          simp only [wX_dropCycles_46, g2, v, k, z, g3, cs_ref_add, not_true, not_false_iff, false_implies, true_implies, true_and, and_true, forall_eq, implies_true]
          obtain ⟨r, r1, r2⟩ := cs_rc_pos (Nat.pos_of_ne_zero z2)
          refine cs_visit (c := 3) (by omega) hZ j1 rfl (Or.inr ⟨i, cs_R_b ⟨r, by omega, r1, by omega, r2⟩, rfl⟩) (fun L3 s3 q3 a1 a2 a3 a4 a5 => ?_)
          simp only [nI_1, not_true, not_false_iff, false_implies, true_implies, true_and, and_true, forall_eq, implies_true]
          refine ih (L3, s3, q3) ⟨by omega, a1, fun b b1 b2 b3 b4 => ?_⟩
          by_cases e : b = i
          · rw [e]; exact a5 i (by omega) rfl
          · exact a3 b (j2 b b1 (by omega) b3 b4)
  · have g : ¬ nI 192 ≤ nI i := nI_ge hi (by omega)
    have v : vp_in (nI i) 336 := vp_in_nI (by omega) (by omega)
    have k : (nI i).toNatClampNeg = i := nI_clamp (by omega)
    simp only [wX_dropCycles_11, g, v, k, nI_1, not_true, not_false_iff, false_implies, true_implies, true_and, and_true, forall_eq, implies_true]
    exact ih _ ⟨by have := hI.1; omega, cs_st_s hI.2 hI.1 rfl⟩
end
section
/-! marking by turning references round -/
def cs_bv : List Nat → Int32
  | [] => -1
  | p :: _ => nI p
theorem cs_walkLoop {f_reached f_half f_marking : Int32} {a_register a_field a_kept a_seen a_queue a_forward a_trial a_turn a_partner a_partnerBack a_tally a_remembered a_shade : Nat → Int32} {post : SX → Prop} {Z : Nat → Prop} {F0 s0 : Nat → Int32} {x0 : Nat} (hZ : cs_Z 6 Z F0)
    (K : ∀ s ta, (∀ b, ¬ s0 b = 0 → ¬ s b = 0) → (∀ b, ¬ s b = 0 → s0 b = 0 → Z b) → (∀ p g b, ¬ s p = 0 → s0 p = 0 → g < 3 → b < 1000 → F0 (3 * p + g) = nI (1000 + b) → ¬ s b = 0) → ¬ s x0 = 0 → post (f_reached, f_half, f_marking, a_register, F0, a_kept, s, a_queue, a_forward, a_trial, ta, a_partner, a_partnerBack, a_tally, a_remembered, a_shade)) :
    ∀ (n : Nat) (st : List Nat) (x m : Nat) (F s ta : Nat → Int32) (t : Nat → Nat), 240 - m < n → ¬ s x0 = 0 → cs_SW 6 F0 s0 Z F s ta t st x m → wX_walkAndReturn_21 post n (cs_bv st) (nI x) (nI m) f_reached f_half f_marking a_register F a_kept s a_queue a_forward a_trial ta a_partner a_partnerBack a_tally a_remembered a_shade := by
  intro n
  induction n with
  | zero => intro st x m F s ta t hn; omega
  | succ n ih =>
    intro st x m F s ta t hn hx0 h
    have H := h
    obtain ⟨h1, h2, h3, h4, h5, h6, h7, h8, h9⟩ := h
    obtain ⟨zx, sx, s0x, tx⟩ := h4 x List.mem_cons_self
    have gx := (hZ x zx).1
    unfold cs_sg at gx
    have hm : m ≤ 239 := by
      simp only [cs_sm] at h9
      omega
    have g1 : ¬ (240 : Int32) ≤ nI m := nI_ge (b := 240) (by omega) (by omega)
    have g2 : ¬ nI x = -1 := cs_nIm1 (by omega)
    have v : vp_in (nI x) 336 := vp_in_nI (by omega) (by omega)
    have k : (nI x).toNatClampNeg = x := nI_clamp (by omega)
    by_cases e3 : t x = 3
    · have t3 : ta x = 3 := by rw [tx, e3]; rfl
      cases st with
      | nil =>
        obtain ⟨f1, f2⟩ := cs_SW_end H e3
        obtain ⟨n, rfl⟩ : ∃ k, n = k + 1 := ⟨n - 1, by omega⟩
        have fin := K s ta h6 h7 f2 hx0
        subst f1
        simp only [wX_walkAndReturn_21, cs_bv, g1, g2, v, k, t3, nI_1, not_true, not_false_iff, false_implies, true_implies, true_and, and_true, forall_eq, implies_true]
        by_cases g4 : (240 : Int32) ≤ nI (m + 1)
        · simp only [g4, not_true, not_false_iff, false_implies, true_implies, true_and, and_true, forall_eq, implies_true]; exact fin
        · simp only [g4, not_true, not_false_iff, false_implies, true_implies, true_and, and_true, forall_eq, implies_true]; exact fin
      | cons p st =>
        obtain ⟨p1, p2, p3, p4⟩ := cs_SW_pop (by omega) hZ H e3
        have zp := (h4 p (List.mem_cons_of_mem _ List.mem_cons_self)).1
        have gp := (hZ p zp).1
        unfold cs_sg at gp
        have g4 : ¬ nI p = -1 := cs_nIm1 (by omega)
        have v1 : vp_in (nI p) 336 := vp_in_nI (by omega) (by omega)
        have k1 : (nI p).toNatClampNeg = p := nI_clamp (by omega)
        have v2 : vp_in (nI (3 * p + t p)) 1008 := vp_in_nI (by omega) (by omega)
        have k2 : (nI (3 * p + t p)).toNatClampNeg = 3 * p + t p := nI_clamp (by omega)
        cases st with
        | nil =>
          have g5 : ¬ (1000 : Int32) ≤ 0 := by decide
          have p1' : F (3 * p + t p) = 0 := p1
          have r := ih [] p (m + 1) _ _ _ _ (by omega) hx0 p4
          simp only [wX_walkAndReturn_21, wpX_returnThrough, cs_bv, g1, g2, g4, v, k, t3, v1, k1, p3, cs_i3, v2, k2, p1', g5, cs_ref_add, nI_1, not_true, not_false_iff, false_implies, true_implies, true_and, and_true, forall_eq, implies_true]
          exact r
        | cons q st =>
          have zq := (h4 q (List.mem_cons_of_mem _ (List.mem_cons_of_mem _ List.mem_cons_self))).1
          have gq := (hZ q zq).1
          unfold cs_sg at gq
          have g5 := cs_ge1000 (b := q) (by omega)
          have p1' : F (3 * p + t p) = nI (1000 + q) := p1
          have r := ih (q :: st) p (m + 1) _ _ _ _ (by omega) hx0 p4
          simp only [wX_walkAndReturn_21, wpX_returnThrough, cs_bv, g1, g2, g4, v, k, t3, v1, k1, p3, cs_i3, v2, k2, p1', g5, cs_ref_sub, cs_ref_add, nI_1, not_true, not_false_iff, false_implies, true_implies, true_and, and_true, forall_eq, implies_true]
          exact r
    · have ht : t x < 3 := by omega
      have t3 : ¬ ta x = 3 := by rw [tx]; exact cs_ceq (k := 3) (by omega) (by omega) e3
      have v2 : vp_in (nI (3 * x + t x)) 1008 := vp_in_nI (by omega) (by omega)
      have k2 : (nI (3 * x + t x)).toNatClampNeg = 3 * x + t x := nI_clamp (by omega)
      have ew := cs_SW_w H ht
      have tt : ¬ nI (t x) = 3 := by rw [← tx]; exact t3
      have adv : (∀ b, b < 1000 → F0 (3 * x + t x) = nI (1000 + b) → ¬ s b = 0) → wX_walkAndReturn_113 post (wX_walkAndReturn_21 post n) (cs_bv st) (nI x) (nI m) f_reached f_half f_marking a_register F a_kept s a_queue a_forward a_trial ta a_partner a_partnerBack a_tally a_remembered a_shade := fun hw => by
        have r := ih st x (m + 1) _ _ _ _ (by omega) hx0 (cs_SW_adv H ht hw)
        simp only [wX_walkAndReturn_113, v, k, tx, nI_1, not_true, not_false_iff, false_implies, true_implies, true_and, and_true, forall_eq, implies_true]
        exact r
      rcases (hZ x zx).2 (t x) ht with o | ⟨b, o1, o2⟩
      · have g5 := cs_num_lt o
        have ad := adv (fun b hb e => absurd (⟨hb, e⟩ : cs_w 1000 _ b) (cs_num_nw (by omega) (by omega) o))
        simp only [wX_walkAndReturn_21, g1, g2, v, k, tx, tt, cs_i3, v2, k2, ew, g5, not_true, not_false_iff, false_implies, true_implies, true_and, and_true, forall_eq, implies_true]
        exact ad
      · have gb := (hZ b o1).1
        unfold cs_sg at gb
        have g5 := cs_ref_ge (b := b) (by omega)
        have v3 : vp_in (nI b) 336 := vp_in_nI (by omega) (by omega)
        have k3 : (nI b).toNatClampNeg = b := nI_clamp (by omega)
        by_cases z : s b = 0
        · have r := ih (x :: st) b (m + 1) _ _ _ _ (by omega) (by
            by_cases e : x0 = b
            · rw [e, cs_upd_s]; exact cs_n10
            · rw [cs_upd_n e]; exact hx0) (cs_SW_push (by omega) hZ H ht (by omega) o2 z)
          cases st with
          | nil =>
            simp only [wX_walkAndReturn_21, wX_walkAndReturn_159, cs_bv, g1, g2, v, k, tx, tt, cs_i3, v2, k2, ew, o2, g5, cs_ref_sub, v3, k3, z, cs_nb1, nI_1, not_true, not_false_iff, false_implies, true_implies, true_and, and_true, forall_eq, implies_true]
            exact r
          | cons p st =>
            have zp := (h4 p (List.mem_cons_of_mem _ List.mem_cons_self)).1
            have gp := (hZ p zp).1
            unfold cs_sg at gp
            have g4 : ¬ nI p = -1 := cs_nIm1 (by omega)
            simp only [wX_walkAndReturn_21, wX_walkAndReturn_159, cs_bv, g1, g2, g4, v, k, tx, tt, cs_i3, v2, k2, ew, o2, g5, cs_ref_sub, cs_ref_add, v3, k3, z, cs_nb1, nI_1, not_true, not_false_iff, false_implies, true_implies, true_and, and_true, forall_eq, implies_true]
            exact r
        · have ad := adv (fun b' hb' e => by
            have : b' = b := cs_w_inj (B := 1000) (w := F0 (3 * x + t x)) (by omega) ⟨hb', e⟩ ⟨by omega, o2⟩
            rw [this]; exact z)
          simp only [wX_walkAndReturn_21, g1, g2, v, k, tx, tt, cs_i3, v2, k2, ew, o2, g5, cs_ref_sub, v3, k3, z, not_true, not_false_iff, false_implies, true_implies, true_and, and_true, forall_eq, implies_true]
          exact ad
theorem cs_walk {f_reached f_half f_marking : Int32} {a_register a_field a_kept a_seen a_queue a_forward a_trial a_turn a_partner a_partnerBack a_tally a_remembered a_shade : Nat → Int32} {post : SX → Prop} {Z : Nat → Prop} {x0 : Nat} (hZ : cs_Z 6 Z a_field) (hx : Z x0) (hs : a_seen x0 = 0)
    (K : ∀ s ta, (∀ b, ¬ a_seen b = 0 → ¬ s b = 0) → (∀ b, ¬ s b = 0 → a_seen b = 0 → Z b) → (∀ p g b, ¬ s p = 0 → a_seen p = 0 → g < 3 → b < 1000 → a_field (3 * p + g) = nI (1000 + b) → ¬ s b = 0) → ¬ s x0 = 0 → post (f_reached, f_half, f_marking, a_register, a_field, a_kept, s, a_queue, a_forward, a_trial, ta, a_partner, a_partnerBack, a_tally, a_remembered, a_shade)) : wpX_walkAndReturn post (f_reached, f_half, f_marking, a_register, a_field, a_kept, a_seen, a_queue, a_forward, a_trial, a_turn, a_partner, a_partnerBack, a_tally, a_remembered, a_shade) (nI x0) := by
  have g := (hZ x0 hx).1
  unfold cs_sg at g
  have v : vp_in (nI x0) 336 := vp_in_nI (by omega) (by omega)
  have k : (nI x0).toNatClampNeg = x0 := nI_clamp (by omega)
  simp only [wpX_walkAndReturn, v, k, cs_nb1, not_true, not_false_iff, false_implies, true_implies, true_and, and_true, forall_eq, implies_true]
  exact ⟨241, cs_walkLoop (a_field := a_field) (a_seen := a_seen) (a_turn := a_turn) hZ K 241 [] x0 0 _ _ _ _ (by omega) (by rw [cs_upd_s]; exact cs_n10) (cs_SW_begin (by omega) hZ hx hs)⟩
theorem cs_reverse {f_reached f_half f_marking : Int32} {a_register a_field a_kept a_seen a_queue a_forward a_trial a_turn a_partner a_partnerBack a_tally a_remembered a_shade : Nat → Int32} {post : SX → Prop} {P : Nat → Nat → Prop} {yr yf : Nat → Int32} (I : cs_I 6 P a_register a_field a_kept yr yf) (K : ∀ s ta, (∀ b, cs_sg 6 b → (¬ s b = 0 ↔ cs_V 1000 a_register 36 0 6 a_field b)) → post (0, f_half, f_marking, a_register, a_field, a_kept, s, a_queue, a_forward, a_trial, ta, a_partner, a_partnerBack, a_tally, a_remembered, a_shade)) : wpX_markByReversing post (f_reached, f_half, f_marking, a_register, a_field, a_kept, a_seen, a_queue, a_forward, a_trial, a_turn, a_partner, a_partnerBack, a_tally, a_remembered, a_shade) := by
  have hZ := cs_Z_V (c := 6) (p := 0) (q := 6) (by omega) I (by omega)
  simp only [wpX_markByReversing]
  refine cs_forget (c := 6) (by omega) (fun s0 hs0 => ?_)
  simp only []
  refine pk_loop (σ := (Nat → Int32) × (Nat → Int32)) (fun n r t => wX_markByReversing_8 post n (nI r) 0 f_half f_marking a_register a_field a_kept t.1 a_queue a_forward a_trial t.2 a_partner a_partnerBack a_tally a_remembered a_shade)
    (fun r t => (∀ b, cs_Q 1000 a_register 36 0 r b → ¬ t.1 b = 0) ∧ (∀ p g b, cs_sg 6 p → ¬ t.1 p = 0 → g < 3 → b < 1000 → a_field (3 * p + g) = nI (1000 + b) → ¬ t.1 b = 0) ∧ (∀ b, cs_sg 6 b → ¬ t.1 b = 0 → cs_V 1000 a_register 36 0 6 a_field b)) 6 0 (s0, a_turn) (by omega)
    ⟨fun b ⟨r, _, r2, _⟩ => by omega, fun p g b hp hz => absurd (hs0 p hp) hz, fun b hb hz => absurd (hs0 b hb) hz⟩ (fun n t hI => ?_) (fun n r t hr hI ih => ?_)
  · obtain ⟨s, ta⟩ := t
    obtain ⟨i1, i2, i3⟩ := hI
    dsimp only at i1 i2 i3 ⊢
    have g : (6 : Int32) ≤ nI 6 := nI_le (a := 6) (by omega) (by omega)
    simp only [wX_markByReversing_8, g, not_true, not_false_iff, false_implies, true_implies, true_and, and_true, forall_eq, implies_true]
    exact K s ta (cs_seen_V (c := 6) (by omega) I i1 i2 i3)
  · obtain ⟨s, ta⟩ := t
    obtain ⟨i1, i2, i3⟩ := hI
    dsimp only at i1 i2 i3 ih ⊢
    have g : ¬ (6 : Int32) ≤ nI r := nI_ge (b := 6) hr (by omega)
    simp only [wX_markByReversing_8, g, not_true, not_false_iff, false_implies, true_implies, true_and, and_true, forall_eq, implies_true]
    rcases I.2.2.2.1 r hr with ⟨m1, m2⟩ | ⟨a, b, m1, m2, m3⟩
    · have hn : cs_num (a_register (6 * 6 + r)) := m2 ▸ m1
      refine cs_cellOf_num (c := 6) (by omega) hr hn ?_
      simp only [nI_1, not_true, not_false_iff, false_implies, true_implies, true_and, and_true, forall_eq, implies_true]
      refine ih (s, ta) ⟨fun b ⟨j, j1, j2, j3⟩ => ?_, i2, i3⟩
      by_cases e : j = r
      · rw [e] at j3; exact absurd j3 (cs_num_nw (by omega) (by omega) hn)
      · exact i1 b ⟨j, j1, by omega, j3⟩
    · have p := I.2.2.1 a b m1
      have sg : cs_sg 6 b := ⟨p.2.1, p.2.2.1⟩
      have vb : cs_V 1000 a_register 36 0 6 a_field b := cs_R_b ⟨r, by omega, hr, by omega, m3⟩
      refine cs_cellOf_ref (c := 6) (by omega) hr (by omega) m3 ?_
      have g4 : ¬ nI b = -1 := cs_nIm1 (by omega)
      have v : vp_in (nI b) 336 := vp_in_nI (by omega) (by omega)
      have k : (nI b).toNatClampNeg = b := nI_clamp (by omega)
      have roots : ∀ s' : Nat → Int32, (∀ b, ¬ s b = 0 → ¬ s' b = 0) → ¬ s' b = 0 → ∀ b', cs_Q 1000 a_register 36 0 (r + 1) b' → ¬ s' b' = 0 := fun s' u1 u2 b' ⟨j, j1, j2, j3⟩ => by
        by_cases e : j = r
        · rw [e] at j3
          have : b' = b := cs_w_inj (B := 1000) (by omega) j3 ⟨by omega, m3⟩
          rw [this]; exact u2
        · exact u1 b' (i1 b' ⟨j, j1, by omega, j3⟩)
      by_cases z : s b = 0
      · simp only [g4, v, k, z, not_true, not_false_iff, false_implies, true_implies, true_and, and_true, forall_eq, implies_true]
        refine cs_walk hZ vb z (fun s' ta' w1 w2 w3 w4 => ?_)
        simp only [nI_1, not_true, not_false_iff, false_implies, true_implies, true_and, and_true, forall_eq, implies_true]
        refine ih (s', ta') ⟨roots s' w1 w4, fun p g b' hp hz hg hb' hw => ?_, fun b' hb' hz => ?_⟩
        · dsimp only at hz ⊢
          by_cases y : s p = 0
          · exact w3 p g b' hz y hg hb' hw
          · exact w1 b' (i2 p g b' hp y hg hb' hw)
        · dsimp only at hz
          by_cases y : s b' = 0
          · exact w2 b' hz y
          · exact i3 b' hb' y
      · simp only [g4, v, k, z, nI_1, not_true, not_false_iff, false_implies, true_implies, true_and, and_true, forall_eq, implies_true]
        exact ih (s, ta) ⟨roots s (fun _ y => y) z, i2, i3⟩
end
section
/-! a collection, whichever -/
theorem cs_n_split (P : Nat → Prop) (a : Nat) : ∀ b, cs_n P (a + b) = cs_n P a + cs_n (fun i => P (a + i)) b
  | 0 => rfl
  | b + 1 => by
    have := cs_n_split P a b
    rw [← Nat.add_assoc, cs_n_suc, cs_n_suc, this, Nat.add_assoc]
theorem cs_Ev_fr {c o oe d de L0 n f L : Nat} {Z : Nat → Prop} {F0 K0 F K fw q : Nat → Int32} {sr tq : Nat → Nat} (R : cs_rg c o oe d de) (h : cs_Ev c o oe d de L0 Z F0 K0 F K fw q sr tq n f L) : (∀ j, ¬ (144 * c ≤ j ∧ j < 144 * c + 144) → F j = F0 j) ∧ (∀ b, ¬ cs_sg c b → K b = K0 b) := by
  obtain ⟨h0, h1, h2, h3, h4, h5, h6, h7, h8, h9⟩ := h
  obtain ⟨r0, r1, r2, r3, r4, r5, r6, r7, r8⟩ := R
  refine ⟨fun j hj => ?_, fun b hb => h6 b (fun i _ i2 e => ?_)⟩
  · have := h9 (j / 3) (j % 3) (by omega) (fun i hi e => by have := h1 i hi; omega)
    rw [show 3 * (j / 3) + j % 3 = j by omega] at this
    exact this
  · have := h1 i i2
    exact hb ⟨by omega, by omega⟩
theorem cs_run1 {f_reached f_half f_marking : Int32} {a_register a_field a_kept a_seen a_queue a_forward a_trial a_turn a_partner a_partnerBack a_tally a_remembered a_shade : Nat → Int32} {post : SX → Prop} {yr yf : Nat → Int32} {o d : Nat} (J : cs_J 1 f_half f_marking a_register a_field a_kept a_tally a_remembered a_shade yr yf) (ho : f_half = nI o) (hod : (o = 48 ∧ d = 72) ∨ (o = 72 ∧ d = 48)) (K : ∀ u', cs_FU 1 (f_reached, f_half, f_marking, a_register, a_field, a_kept, a_seen, a_queue, a_forward, a_trial, a_turn, a_partner, a_partnerBack, a_tally, a_remembered, a_shade) u' → cs_JU 1 u' yr yf → cs_XU 1 u' yr yf → post u') :
    wpX_evacuate (fun u => match u with | (f_reached, f_half, f_marking, a_register, a_field, a_kept, a_seen, a_queue, a_forward, a_trial, a_turn, a_partner, a_partnerBack, a_tally, a_remembered, a_shade) => post (f_reached, nI d, f_marking, a_register, a_field, a_kept, a_seen, a_queue, a_forward, a_trial, a_turn, a_partner, a_partnerBack, a_tally, a_remembered, a_shade)) (f_reached, f_half, f_marking, a_register, a_field, a_kept, a_seen, a_queue, a_forward, a_trial, a_turn, a_partner, a_partnerBack, a_tally, a_remembered, a_shade) (nI 1) (nI o) (nI (o + 24)) (nI d) (nI (d + 24)) := by
  have J0 := J
  obtain ⟨⟨P, I⟩, W, c1, _⟩ := J0
  obtain ⟨H, a1, a2, a3⟩ := c1 rfl
  have eH : H = o := cs_nIinj (by omega) (by omega) (a1.symm.trans ho)
  subst eH
  have R : cs_rg 1 H (H + 24) d (d + 24) := by refine ⟨?_, ?_, ?_, ?_, ?_, ?_, ?_, ?_, ?_⟩ <;> omega
  have off : ∀ b, cs_sg 1 b → ¬ (H ≤ b ∧ b < H + 24) → a_kept b = 0 := fun b hb hn => Classical.byContradiction fun z => hn (a3 b hb z)
  have other : ∀ b, d ≤ b → b < d + 24 → a_kept b = 0 := fun b b1 b2 => off b ⟨by omega, by omega⟩ (by omega)
  refine cs_evac (Z := cs_V 1000 a_register 6 0 6 a_field) R (fun b hb => ?_) (cs_Z_V (c := 1) (by omega) I (by omega)) ?_ (fun r hr => ?_) (fun b b1 b2 b3 => absurd (other b b1 b2) b3) (fun L0 L xr' F K1 fw q sr tq K' rm' E hL hr hx k1 k2 k3 => ?_)
  · have g := cs_X_in (c := 1) (p := 0) (q := 6) (by omega) I (by omega) hb
    exact ⟨⟨g.1, g.2.1⟩, g.2.2⟩
  · rw [show H + 24 - H = 24 by omega, show d + 24 - d = 24 by omega, cs_n_all (P := fun i => a_kept (d + i) = 0) (fun k hk => other _ (by omega) (by omega))]
    exact cs_n_le _ 24
  · rcases I.2.2.2.1 r hr with ⟨m1, m2⟩ | ⟨a, b, m1, m2, m3⟩
    · exact Or.inl (m2 ▸ m1)
    · have p := I.2.2.1 a b m1
      exact Or.inr ⟨b, cs_R_b ⟨r, by omega, hr, by omega, m3⟩, m3⟩
  · have L00 : L0 = 0 := by
      rcases Nat.eq_zero_or_pos L0 with z | z
      · exact z
      · have e := E.2.1 0 (by have := E.1.1; omega)
        exact absurd (other _ e.2.2.1 e.2.2.2.1) (e.2.2.2.2.1 z).2
    subst L00
    obtain ⟨e1, e2⟩ := cs_copy_end (m' := f_marking) (tl' := a_tally) (rm' := rm') (sh' := a_shade) J ho hod E hr k1 k2
    obtain ⟨f1, f2⟩ := cs_Ev_fr R E
    refine K (nI L, nI d, f_marking, xr', F, K', a_seen, q, fw, a_trial, a_turn, a_partner, a_partnerBack, a_tally, rm', a_shade) ⟨fun e => absurd rfl e, fun _ => rfl, hx, f1, fun b hb => ⟨?_, rfl, k3 b hb, rfl⟩⟩ e1 e2
    show K' b = a_kept b
    rw [k2 b (fun z => hb ⟨by omega, by omega⟩)]; exact f2 b hb
/-- the nursery is emptied -/
theorem cs_age {f_reached f_half f_marking : Int32} {a_register a_field a_kept a_seen a_queue a_forward a_trial a_turn a_partner a_partnerBack a_tally a_remembered a_shade : Nat → Int32} {post : SX → Prop} {yr yf : Nat → Int32} (J : cs_J 4 f_half f_marking a_register a_field a_kept a_tally a_remembered a_shade yr yf) (cap : cs_n (fun i => ¬ a_kept (192 + i) = 0) 16 ≤ cs_n (fun i => a_kept (208 + i) = 0) 32)
    (K : ∀ u', cs_FU 4 (f_reached, f_half, f_marking, a_register, a_field, a_kept, a_seen, a_queue, a_forward, a_trial, a_turn, a_partner, a_partnerBack, a_tally, a_remembered, a_shade) u' → cs_JU 4 u' yr yf → ((∀ b, cs_sg 4 b → ¬ a_kept b = 0 → cs_V 1000 a_register 24 0 6 a_field b) → cs_XU 4 u' yr yf) → (∀ b, 192 ≤ b → b < 208 → u'.2.2.2.2.2.1 b = 0) → post u') : wpX_evacuate post (f_reached, f_half, f_marking, a_register, a_field, a_kept, a_seen, a_queue, a_forward, a_trial, a_turn, a_partner, a_partnerBack, a_tally, a_remembered, a_shade) (nI 4) (nI 192) (nI 208) (nI 208) (nI 240) := by
  have R : cs_rg 4 192 208 208 240 := by refine ⟨?_, ?_, ?_, ?_, ?_, ?_, ?_, ?_, ?_⟩ <;> omega
  refine cs_evac (Z := fun b => cs_sg 4 b ∧ ¬ a_kept b = 0) R (fun b hb => hb) (cs_Z_W J.2.1) cap (fun r hr => ?_) (fun b b1 b2 b3 => ⟨⟨by omega, by omega⟩, b3⟩) (fun L0 L xr' F K1 fw q sr tq K' rm' E hL hr hx k1 k2 k3 => ?_)
  · rcases cs_J_ok J hr with o | ⟨b, o1, o2, o3, o4⟩
    · exact Or.inl o
    · exact Or.inr ⟨b, ⟨⟨o1, o2⟩, o3⟩, o4⟩
  · obtain ⟨e1, e2⟩ := cs_age_end (h' := f_half) (m' := f_marking) (tl' := a_tally) (rm' := rm') (sh' := a_shade) J E hL hr k1 k2
    obtain ⟨f1, f2⟩ := cs_Ev_fr R E
    refine K (nI L, f_half, f_marking, xr', F, K', a_seen, q, fw, a_trial, a_turn, a_partner, a_partnerBack, a_tally, rm', a_shade) ⟨fun _ => rfl, fun _ => rfl, hx, f1, fun b hb => ⟨?_, rfl, k3 b hb, rfl⟩⟩ e1 e2 k1
    show K' b = a_kept b
    rw [k2 b (fun z => hb ⟨by omega, by omega⟩)]; exact f2 b hb
theorem cs_run {u : SX} {post : SX → Prop} {c : Nat} {yr yf : Nat → Int32} (hc : c < 7) (hY : cs_n (cs_V 10000 yr 0 0 6 yf) 48 ≤ 24) (J : cs_JU c u yr yf) (K : ∀ u', cs_FU c u u' → cs_JU c u' yr yf → cs_XU c u' yr yf → (c = 4 → ∀ b, 192 ≤ b → b < 208 → u'.2.2.2.2.2.1 b = 0) → post u') : wpX_runCollection post u (nI c) := by
  obtain ⟨f_reached, f_half, f_marking, a_register, a_field, a_kept, a_seen, a_queue, a_forward, a_trial, a_turn, a_partner, a_partnerBack, a_tally, a_remembered, a_shade⟩ := u
  have hcc : c = 0 ∨ c = 1 ∨ c = 2 ∨ c = 3 ∨ c = 4 ∨ c = 5 ∨ c = 6 := by omega
  rcases hcc with rfl | rfl | rfl | rfl | rfl | rfl | rfl
  · have J' : cs_J 0 f_half f_marking a_register a_field a_kept a_tally a_remembered a_shade yr yf := J
    obtain ⟨P, I⟩ := J'.1
    have g : nI 0 < 1 := by decide
    simp only [wpX_runCollection, g, not_true, not_false_iff, false_implies, true_implies, true_and, and_true, forall_eq, implies_true]
    refine cs_trace (c := 0) (p := 0) (q := 6) (by omega) (by omega) (by omega) I (fun L s q a1 a2 a3 => ?_)
    simp only []
    refine cs_sweepU (c := 0) (by omega) (fun xk' k1 k2 => ?_)
    obtain ⟨r1, r2⟩ := cs_J_swept (Or.inl rfl) J' (xk' := xk') (fun b hb => (k1 b hb).trans (and_congr Iff.rfl (a2 b hb)))
    exact K (nI L, f_half, f_marking, a_register, a_field, xk', s, q, a_forward, a_trial, a_turn, a_partner, a_partnerBack, a_tally, a_remembered, a_shade) ⟨fun _ => rfl, fun _ => rfl, fun _ _ => rfl, fun _ _ => rfl, fun b hb => ⟨k2 b hb, rfl, rfl, rfl⟩⟩ r1 r2 (fun e => by omega)
  · have J' : cs_J 1 f_half f_marking a_register a_field a_kept a_tally a_remembered a_shade yr yf := J
    obtain ⟨H, a1, a2, _⟩ := J'.2.2.1 rfl
    have g0 : ¬ nI 1 < 1 := by decide
    have g6 : ¬ 6 < nI 1 := by decide
    have g1 : nI 1 = 1 := rfl
    rcases a2 with rfl | rfl
    · have h := cs_run1 (o := 48) (d := 72) J' a1 (Or.inl ⟨rfl, rfl⟩) (fun u' x1 x2 x3 => K u' x1 x2 x3 (fun e => by omega))
      subst a1
      have e1 : nI 48 = 48 := rfl
      have e2 : (48 : Int32) + 24 = nI 72 := by decide
      have e3 : (72 : Int32) + 24 = nI 96 := by decide
      simp only [wpX_runCollection, wpX_otherHalf, g0, g6, not_true, not_false_iff, false_implies, true_implies, true_and, and_true, forall_eq, implies_true]
      simp only [g1, e1, e2, e3, not_true, not_false_iff, false_implies, true_implies, true_and, and_true, forall_eq, implies_true]
      exact h
    · have h := cs_run1 (o := 72) (d := 48) J' a1 (Or.inr ⟨rfl, rfl⟩) (fun u' x1 x2 x3 => K u' x1 x2 x3 (fun e => by omega))
      subst a1
      have e1 : nI 72 = 72 := rfl
      have e0 : ¬ (72 : Int32) = 48 := by decide
      have e2 : (72 : Int32) + 24 = nI 96 := by decide
      have e3 : (48 : Int32) + 24 = nI 72 := by decide
      simp only [wpX_runCollection, wpX_otherHalf, g0, g6, not_true, not_false_iff, false_implies, true_implies, true_and, and_true, forall_eq, implies_true]
      simp only [g1, e1, e0, e2, e3, not_true, not_false_iff, false_implies, true_implies, true_and, and_true, forall_eq, implies_true]
      exact h
  · have J' : cs_J 2 f_half f_marking a_register a_field a_kept a_tally a_remembered a_shade yr yf := J
    obtain ⟨P, I⟩ := J'.1
    have g0 : ¬ nI 2 < 1 := by decide
    have g6 : ¬ 6 < nI 2 := by decide
    have g1 : ¬ nI 2 = 1 := by decide
    have g2 : nI 2 = 2 := rfl
    simp only [wpX_runCollection, g0, g6, g1, not_true, not_false_iff, false_implies, true_implies, true_and, and_true, forall_eq, implies_true]
    simp only [g2, not_true, not_false_iff, false_implies, true_implies, true_and, and_true, forall_eq, implies_true]
    refine cs_trace (c := 2) (p := 0) (q := 6) (by omega) (by omega) (by omega) I (fun L s q a1 a2 a3 => ?_)
    simp only []
    refine cs_slide J' a2 (fun xr' xf' xk' fw' f1 f2 f3 r1 r2 => ?_)
    exact K (nI L, f_half, f_marking, xr', xf', xk', s, q, fw', a_trial, a_turn, a_partner, a_partnerBack, a_tally, a_remembered, a_shade) ⟨fun _ => rfl, fun _ => rfl, f1, f2, fun b hb => ⟨f3 b hb, rfl, rfl, rfl⟩⟩ r1 r2 (fun e => by omega)
  · have J' : cs_J 3 f_half f_marking a_register a_field a_kept a_tally a_remembered a_shade yr yf := J
    have g0 : ¬ nI 3 < 1 := by decide
    have g6 : ¬ 6 < nI 3 := by decide
    have g1 : ¬ nI 3 = 1 := by decide
    have g2 : ¬ nI 3 = 2 := by decide
    have g3 : nI 3 = 3 := rfl
    simp only [wpX_runCollection, g0, g6, g1, g2, not_true, not_false_iff, false_implies, true_implies, true_and, and_true, forall_eq, implies_true]
    simp only [g3, not_true, not_false_iff, false_implies, true_implies, true_and, and_true, forall_eq, implies_true]
    refine cs_cycles J' (fun L s q tr tl' xk' f1 r1 r2 => ?_)
    exact K (nI L, f_half, f_marking, a_register, a_field, xk', s, q, a_forward, tr, a_turn, a_partner, a_partnerBack, tl', a_remembered, a_shade) ⟨fun _ => rfl, fun _ => rfl, fun _ _ => rfl, fun _ _ => rfl, fun b hb => ⟨(f1 b hb).1, (f1 b hb).2, rfl, rfl⟩⟩ r1 r2 (fun e => by omega)
  · have J' : cs_J 4 f_half f_marking a_register a_field a_kept a_tally a_remembered a_shade yr yf := J
    obtain ⟨P, I⟩ := J'.1
    have g0 : ¬ nI 4 < 1 := by decide
    have g6 : ¬ 6 < nI 4 := by decide
    have g1 : ¬ nI 4 = 1 := by decide
    have g2 : ¬ nI 4 = 2 := by decide
    have g3 : ¬ nI 4 = 3 := by decide
    have g4 : nI 4 = 4 := rfl
    simp only [wpX_runCollection, g0, g6, g1, g2, g3, not_true, not_false_iff, false_implies, true_implies, true_and, and_true, forall_eq, implies_true]
    simp only [g4, not_true, not_false_iff, false_implies, true_implies, true_and, and_true, forall_eq, implies_true]
    refine cs_trace (c := 4) (p := 0) (q := 6) (by omega) (by omega) (by omega) I (fun L s q a1 a2 a3 => ?_)
    simp only []
    refine cs_sweepU (c := 4) (by omega) (fun xk' k1 k2 => ?_)
    simp only []
    obtain ⟨r1, r2⟩ := cs_J_swept (Or.inr (Or.inl rfl)) J' (xk' := xk') (fun b hb => (k1 b hb).trans (and_congr Iff.rfl (a2 b hb)))
    have cnt := cs_X_n (by omega) r2
    have sp := cs_n_split (fun i => ¬ xk' (48 * 4 + i) = 0) 16 32
    have cm := cs_n_compl (P := fun i => xk' (208 + i) = 0) (N := 32)
    have e1 : cs_n (fun i => ¬ xk' (48 * 4 + (16 + i)) = 0) 32 = cs_n (fun i => ¬ xk' (208 + i) = 0) 32 := cs_n_eq (fun i _ => by rw [show 48 * 4 + (16 + i) = 208 + i by omega])
    have cap : cs_n (fun i => ¬ xk' (192 + i) = 0) 16 ≤ cs_n (fun i => xk' (208 + i) = 0) 32 := by
      have e2 : cs_n (fun i => ¬ xk' (48 * 4 + i) = 0) (16 + 32) = cs_n (fun i => ¬ xk' (48 * 4 + i) = 0) 48 := rfl
      have e3 : cs_n (fun i => ¬ xk' (48 * 4 + i) = 0) 16 = cs_n (fun i => ¬ xk' (192 + i) = 0) 16 := rfl
      omega
    refine cs_age (yr := yr) (yf := yf) r1 cap (fun u' F' J'' X' N' => ?_)
    exact K u' (cs_FU_tr (u' := (nI L, f_half, f_marking, a_register, a_field, xk', s, q, a_forward, a_trial, a_turn, a_partner, a_partnerBack, a_tally, a_remembered, a_shade)) ⟨fun _ => rfl, fun _ => rfl, fun _ _ => rfl, fun _ _ => rfl, fun b hb => ⟨k2 b hb, rfl, rfl, rfl⟩⟩ F') J'' (X' (fun b hb hk => (a2 b hb).mp ((k1 b hb).mp hk).2)) (fun _ => N')
  · have J' : cs_J 5 f_half f_marking a_register a_field a_kept a_tally a_remembered a_shade yr yf := J
    have g0 : ¬ nI 5 < 1 := by decide
    have g6 : ¬ 6 < nI 5 := by decide
    have g1 : ¬ nI 5 = 1 := by decide
    have g2 : ¬ nI 5 = 2 := by decide
    have g3 : ¬ nI 5 = 3 := by decide
    have g4 : ¬ nI 5 = 4 := by decide
    have g5 : nI 5 = 5 := rfl
    simp only [wpX_runCollection, g0, g6, g1, g2, g3, g4, not_true, not_false_iff, false_implies, true_implies, true_and, and_true, forall_eq, implies_true]
    simp only [g5, not_true, not_false_iff, false_implies, true_implies, true_and, and_true, forall_eq, implies_true]
    refine cs_begin (fun r hr => cs_J_ok J' hr) (fun sh' h1 h2 h3 h4 => ?_)
    simp only []
    obtain ⟨S, T, V⟩ := cs_begin_J J' h1 h2 h3
    have J1 : cs_J 5 f_half 1 a_register a_field a_kept a_tally a_remembered sh' yr yf := ⟨J'.1, J'.2.1, fun e => by omega, fun e => by omega, fun e => by omega, fun e => by omega, fun _ _ => ⟨S, T⟩⟩
    refine cs_finish J1 S T V (fun sh2 xk' f1 f2 r1 r2 => ?_)
    exact K (f_reached, f_half, 0, a_register, a_field, xk', a_seen, a_queue, a_forward, a_trial, a_turn, a_partner, a_partnerBack, a_tally, a_remembered, sh2) ⟨fun _ => rfl, fun e => absurd rfl e, fun _ _ => rfl, fun _ _ => rfl, fun b hb => ⟨f2 b hb, rfl, rfl, (f1 b hb).trans (h4 b hb)⟩⟩ r1 r2 (fun e => by omega)
  · have J' : cs_J 6 f_half f_marking a_register a_field a_kept a_tally a_remembered a_shade yr yf := J
    obtain ⟨P, I⟩ := J'.1
    have g0 : ¬ nI 6 < 1 := by decide
    have g6 : ¬ 6 < nI 6 := by decide
    have g1 : ¬ nI 6 = 1 := by decide
    have g2 : ¬ nI 6 = 2 := by decide
    have g3 : ¬ nI 6 = 3 := by decide
    have g4 : ¬ nI 6 = 4 := by decide
    have g5 : ¬ nI 6 = 5 := by decide
    have g7 : nI 6 = 6 := rfl
    simp only [wpX_runCollection, g0, g6, g1, g2, g3, g4, g5, not_true, not_false_iff, false_implies, true_implies, true_and, and_true, forall_eq, implies_true]
    simp only [g7, not_true, not_false_iff, false_implies, true_implies, true_and, and_true, forall_eq, implies_true]
    refine cs_reverse I (fun s ta a2 => ?_)
    simp only []
    refine cs_sweepU (c := 6) (by omega) (fun xk' k1 k2 => ?_)
    obtain ⟨r1, r2⟩ := cs_J_swept (Or.inr (Or.inr rfl)) J' (xk' := xk') (fun b hb => (k1 b hb).trans (and_congr Iff.rfl (a2 b hb)))
    exact K (0, f_half, f_marking, a_register, a_field, xk', s, a_queue, a_forward, a_trial, ta, a_partner, a_partnerBack, a_tally, a_remembered, a_shade) ⟨fun _ => rfl, fun _ => rfl, fun _ _ => rfl, fun _ _ => rfl, fun b hb => ⟨k2 b hb, rfl, rfl, rfl⟩⟩ r1 r2 (fun e => by omega)
end
section
/-! what asks: the reference's side, and the owed rows -/
theorem cs_y3 (a f : Nat) : (3 : Int32) * nI a + nI f = nI (3 * a + f) := by
  rw [show (3 : Int32) = nI 3 from rfl, pk_mul, nI_add]
theorem cs_yHolds {post : Int32 → Prop} {yr yf : Nat → Int32} (hY : cs_Y yr yf) {p : Int32} (K1 : (∀ r, r < 6 → ¬ p = nI r) → post 0) (K2 : ∀ r, r < 6 → p = nI r → cs_num (yr r) → post 0) (K3 : ∀ r a, r < 6 → a < 48 → p = nI r → yr r = nI (10000 + a) → post 1) : wpY_holds post (yr, yf) p := by
  simp only [wpY_holds]
  refine cs_yReg (fun hn => ?_) (fun r hr e => ?_)
  · simp only [not_true, not_false_iff, false_implies, true_implies, true_and, and_true, forall_eq, implies_true]; exact K1 hn
  · subst e
    have v : vp_in (nI r) 6 := vp_in_nI hr (by omega)
    have k : (nI r).toNatClampNeg = r := nI_clamp (by omega)
    simp only [cs_n10, v, k, not_true, not_false_iff, false_implies, true_implies, true_and, and_true, forall_eq, implies_true]
    refine cs_yRefers (hY.1 r hr) (fun hn => ?_) (fun a ha e => ?_)
    · simp only [not_true, not_false_iff, false_implies, true_implies, true_and, and_true, forall_eq, implies_true]; exact K2 r hr rfl hn
    · simp only [cs_n10, not_true, not_false_iff, false_implies, true_implies, true_and, and_true, forall_eq, implies_true]; exact K3 r a hr ha rfl e
theorem cs_yPlace {post : Int32 → Prop} {yr yf : Nat → Int32} {r f a : Nat} (hr : r < 6) (hy : yr r = nI (10000 + a)) (K : post (nI (3 * a + f))) : wpY_place post (yr, yf) (nI r) (nI f) := by
  have v : vp_in (nI r) 6 := vp_in_nI hr (by omega)
  have k : (nI r).toNatClampNeg = r := nI_clamp (by omega)
  simp only [wpY_place, v, k, hy, cs_yw_sub, cs_y3, not_true, not_false_iff, false_implies, true_implies, true_and, and_true, forall_eq, implies_true]
  exact K
theorem cs_yShown {post : Int32 → Prop} {v : SY} {y : Int32} (h : cs_yw y) (K1 : cs_num y → post y) (K2 : ∀ a, a < 48 → y = nI (10000 + a) → post (-3000)) : wpY_shown post v y := by
  obtain ⟨yr, yf⟩ := v
  simp only [wpY_shown]
  refine cs_yRefers h (fun hn => ?_) (fun a ha e => ?_)
  · simp only [not_true, not_false_iff, false_implies, true_implies, true_and, and_true, forall_eq, implies_true]; exact K1 hn
  · simp only [cs_n10, not_true, not_false_iff, false_implies, true_implies, true_and, and_true, forall_eq, implies_true]; exact K2 a ha e
theorem cs_rel_upd {u u' : SX} {yr yf : Nat → Int32} {c : Nat} (h : ∀ d, d < 7 → cs_JU d u yr yf) (F : cs_FU c u u') (J : cs_JU c u' yr yf) : ∀ d, d < 7 → cs_JU d u' yr yf := fun d hd => by
  by_cases e : d = c
  · rw [e]; exact J
  · exact cs_J_fr e F (h d hd)
theorem i_vc0 : wpX_init (fun u => wpY_init (fun v => i_Rel 0 u v)) := by
  simp only [wpX_init, wpY_init]
  exact ⟨fun d _ => cs_J_init d, cs_Y_init⟩
theorem i_vc_value {k : Nat} {u : SX} {v : SY} (I : i_Rel k u v) (hk : k + 4 ≤ 2048) (v1 : Int32) (v2 : Int32) : wpX_value (fun r => wpY_value (fun r' => r' = r ∧ i_Rel (k + 4) u v) v v1 v2) u v1 v2 := by
  obtain ⟨f_reached, f_half, f_marking, a_register, a_field, a_kept, a_seen, a_queue, a_forward, a_trial, a_turn, a_partner, a_partnerBack, a_tally, a_remembered, a_shade⟩ := u
  obtain ⟨yr, yf⟩ := v
  obtain ⟨hJ, hY⟩ := I
  dsimp only at hY
  have I' : i_Rel (k + 4) (f_reached, f_half, f_marking, a_register, a_field, a_kept, a_seen, a_queue, a_forward, a_trial, a_turn, a_partner, a_partnerBack, a_tally, a_remembered, a_shade) (yr, yf) := ⟨hJ, hY⟩
  simp only [wpX_value, wpY_value]
  refine cs_isCol (fun hn => ?_) (fun c hc ec => ?_)
  · simp only [not_true, not_false_iff, false_implies, true_implies, true_and, and_true, forall_eq, implies_true]
    refine cs_yCol (fun _ => ?_) (fun r hr e => absurd e (hn r hr))
    simp only [not_true, not_false_iff, false_implies, true_implies, true_and, and_true, forall_eq, implies_true]
    first | exact I' | exact ⟨rfl, I'⟩
  · subst ec
    simp only [cs_n10, not_true, not_false_iff, false_implies, true_implies, true_and, and_true, forall_eq, implies_true]
    refine cs_isReg (fun hn => ?_) (fun r hr er => ?_)
    · simp only [not_true, not_false_iff, false_implies, true_implies, true_and, and_true, forall_eq, implies_true]
      refine cs_yCol (fun hc2 => absurd rfl (hc2 c hc)) (fun _ _ _ => ?_)
      simp only [cs_n10, not_true, not_false_iff, false_implies, true_implies, true_and, and_true, forall_eq, implies_true]
      refine cs_yReg (fun _ => ?_) (fun r hr e => absurd e (hn r hr))
      simp only [not_true, not_false_iff, false_implies, true_implies, true_and, and_true, forall_eq, implies_true]
      first | exact I' | exact ⟨rfl, I'⟩
    · subst er
      have J : cs_J c f_half f_marking a_register a_field a_kept a_tally a_remembered a_shade yr yf := hJ c hc
      have vv : vp_in (nI (6 * c + r)) 42 := vp_in_nI (by omega) (by omega)
      have kk : (nI (6 * c + r)).toNatClampNeg = 6 * c + r := nI_clamp (by omega)
      have v2 : vp_in (nI r) 6 := vp_in_nI hr (by omega)
      have k2 : (nI r).toNatClampNeg = r := nI_clamp (by omega)
      simp only [cs_n10, cs_i6, vv, kk, not_true, not_false_iff, false_implies, true_implies, true_and, and_true, forall_eq, implies_true]
      rcases hY.1 r hr with hn | ⟨a, ha, e⟩
      · have ex : a_register (6 * c + r) = yr r := cs_J_num hc J hr hn
        have g := cs_nge1000 (cs_num_lt hn)
        simp only [ex, g, not_true, not_false_iff, false_implies, true_implies, true_and, and_true, forall_eq, implies_true]
        refine cs_yCol (fun hc2 => absurd rfl (hc2 c hc)) (fun _ _ _ => ?_)
        simp only [cs_n10, not_true, not_false_iff, false_implies, true_implies, true_and, and_true, forall_eq, implies_true]
        refine cs_yReg (fun h2 => absurd rfl (h2 r hr)) (fun _ _ _ => ?_)
        simp only [cs_n10, v2, k2, not_true, not_false_iff, false_implies, true_implies, true_and, and_true, forall_eq, implies_true]
        refine cs_yShown (Or.inl hn) (fun _ => ?_) (fun a ha e => absurd (⟨by omega, e⟩ : cs_w 10000 (yr r) a) (cs_num_nw (by omega) (by omega) hn))
        exact ⟨rfl, I'⟩
      · obtain ⟨b, b1, b2, b3⟩ := cs_J_at hc J hr ha e
        unfold cs_sg at b2
        have g := cs_ge1000 (b := b) (by omega)
        simp only [b1, g, not_true, not_false_iff, false_implies, true_implies, true_and, and_true, forall_eq, implies_true]
        refine cs_yCol (fun hc2 => absurd rfl (hc2 c hc)) (fun _ _ _ => ?_)
        simp only [cs_n10, not_true, not_false_iff, false_implies, true_implies, true_and, and_true, forall_eq, implies_true]
        refine cs_yReg (fun h2 => absurd rfl (h2 r hr)) (fun _ _ _ => ?_)
        simp only [cs_n10, v2, k2, not_true, not_false_iff, false_implies, true_implies, true_and, and_true, forall_eq, implies_true]
        refine cs_yShown (Or.inr ⟨a, ha, e⟩) (fun hn => absurd (⟨by omega, e⟩ : cs_w 10000 (yr r) a) (cs_num_nw (by omega) (by omega) hn)) (fun _ _ _ => ?_)
        exact ⟨rfl, I'⟩
theorem i_vc_look {k : Nat} {u : SX} {v : SY} (I : i_Rel k u v) (hk : k + 4 ≤ 2048) (v1 : Int32) (v2 : Int32) (v3 : Int32) : wpX_look (fun r => wpY_look (fun r' => r' = r ∧ i_Rel (k + 4) u v) v v1 v2 v3) u v1 v2 v3 := by
  obtain ⟨f_reached, f_half, f_marking, a_register, a_field, a_kept, a_seen, a_queue, a_forward, a_trial, a_turn, a_partner, a_partnerBack, a_tally, a_remembered, a_shade⟩ := u
  obtain ⟨yr, yf⟩ := v
  obtain ⟨hJ, hY⟩ := I
  dsimp only at hY
  have I' : i_Rel (k + 4) (f_reached, f_half, f_marking, a_register, a_field, a_kept, a_seen, a_queue, a_forward, a_trial, a_turn, a_partner, a_partnerBack, a_tally, a_remembered, a_shade) (yr, yf) := ⟨hJ, hY⟩
  simp only [wpX_look, wpY_look]
  refine cs_isCol (fun hn => ?_) (fun c hc ec => ?_)
  · simp only [not_true, not_false_iff, false_implies, true_implies, true_and, and_true, forall_eq, implies_true]
    refine cs_yCol (fun _ => ?_) (fun r hr e => absurd e (hn r hr))
    simp only [not_true, not_false_iff, false_implies, true_implies, true_and, and_true, forall_eq, implies_true]
    first | exact I' | exact ⟨rfl, I'⟩
  · subst ec
    simp only [cs_n10, not_true, not_false_iff, false_implies, true_implies, true_and, and_true, forall_eq, implies_true]
    have yc : ∀ {Q : Int32 → Prop}, Q 1 → wpY_isCollector Q (yr, yf) (nI c) := fun hq => cs_yCol (fun hc2 => absurd rfl (hc2 c hc)) (fun _ _ _ => hq)
    refine cs_isReg (fun hn => ?_) (fun r hr er => ?_)
    · simp only [not_true, not_false_iff, false_implies, true_implies, true_and, and_true, forall_eq, implies_true]
      refine yc ?_
      simp only [cs_n10, not_true, not_false_iff, false_implies, true_implies, true_and, and_true, forall_eq, implies_true]
      refine cs_yHolds hY (fun _ => ?_) (fun r hr e _ => absurd e (hn r hr)) (fun r a hr _ e _ => absurd e (hn r hr))
      simp only [not_true, not_false_iff, false_implies, true_implies, true_and, and_true, forall_eq, implies_true]
      first | exact I' | exact ⟨rfl, I'⟩
    · subst er
      simp only [cs_n10, not_true, not_false_iff, false_implies, true_implies, true_and, and_true, forall_eq, implies_true]
      have J : cs_J c f_half f_marking a_register a_field a_kept a_tally a_remembered a_shade yr yf := hJ c hc
      have yh0 : cs_num (yr r) → ∀ {Q : Int32 → Prop}, Q 0 → wpY_holds Q (yr, yf) (nI r) := fun hn Q hq => cs_yHolds hY (fun _ => hq) (fun _ _ _ _ => hq) (fun r' a hr' ha e e2 => by
        have : r' = r := cs_nIinj (by omega) (by omega) e.symm
        subst this
        exact absurd (⟨by omega, e2⟩ : cs_w 10000 (yr r') a) (cs_num_nw (by omega) (by omega) hn))
      have yh1 : ∀ a, a < 48 → yr r = nI (10000 + a) → ∀ {Q : Int32 → Prop}, Q 1 → wpY_holds Q (yr, yf) (nI r) := fun a ha ea Q hq => cs_yHolds hY (fun h => absurd rfl (h r hr)) (fun r' hr' e hn => by
        have : r' = r := cs_nIinj (by omega) (by omega) e.symm
        subst this
        exact absurd (⟨by omega, ea⟩ : cs_w 10000 (yr r') a) (cs_num_nw (by omega) (by omega) hn)) (fun _ _ _ _ _ _ => hq)
      refine cs_isFld (fun hn => ?_) (fun f hf ef => ?_)
      · simp only [not_true, not_false_iff, false_implies, true_implies, true_and, and_true, forall_eq, implies_true]
        refine yc ?_
        simp only [cs_n10, not_true, not_false_iff, false_implies, true_implies, true_and, and_true, forall_eq, implies_true]
        rcases hY.1 r hr with h0 | ⟨a, ha, e⟩
        · refine yh0 h0 ?_
          simp only [not_true, not_false_iff, false_implies, true_implies, true_and, and_true, forall_eq, implies_true]
          first | exact I' | exact ⟨rfl, I'⟩
        · refine yh1 a ha e ?_
          simp only [cs_n10, not_true, not_false_iff, false_implies, true_implies, true_and, and_true, forall_eq, implies_true]
          refine cs_yFld (fun _ => ?_) (fun r hr e => absurd e (hn r hr))
          simp only [not_true, not_false_iff, false_implies, true_implies, true_and, and_true, forall_eq, implies_true]
          first | exact I' | exact ⟨rfl, I'⟩
      · subst ef
        simp only [cs_n10, not_true, not_false_iff, false_implies, true_implies, true_and, and_true, forall_eq, implies_true]
        rcases hY.1 r hr with h0 | ⟨a, ha, e⟩
        · refine cs_cellOf_num hc hr (by rw [cs_J_num hc J hr h0]; exact h0) ?_
          simp only [not_true, not_false_iff, false_implies, true_implies, true_and, and_true, forall_eq, implies_true]
          refine yc ?_
          simp only [cs_n10, not_true, not_false_iff, false_implies, true_implies, true_and, and_true, forall_eq, implies_true]
          refine yh0 h0 ?_
          simp only [not_true, not_false_iff, false_implies, true_implies, true_and, and_true, forall_eq, implies_true]
          first | exact I' | exact ⟨rfl, I'⟩
        · obtain ⟨⟨P, IP⟩, _⟩ := J
          obtain ⟨b, p1, p2, p3, p4⟩ := cs_I_at hc IP hr ha e
          unfold cs_sg at p3
          refine cs_cellOf_ref hc hr (by omega) p2 ?_
          have g4 : ¬ nI b = -1 := cs_nIm1 (by omega)
          have vv : vp_in (nI (3 * b + f)) 1008 := vp_in_nI (by omega) (by omega)
          have kk : (nI (3 * b + f)).toNatClampNeg = 3 * b + f := nI_clamp (by omega)
          have v2 : vp_in (nI (3 * a + f)) 144 := vp_in_nI (by omega) (by omega)
          have k2 : (nI (3 * a + f)).toNatClampNeg = 3 * a + f := nI_clamp (by omega)
          simp only [g4, cs_i3, vv, kk, not_true, not_false_iff, false_implies, true_implies, true_and, and_true, forall_eq, implies_true]
          rcases IP.2.2.2.2 a b p1 f hf with ⟨m1, m2⟩ | ⟨a', b', m1, m2, m3⟩
          · have g := cs_nge1000 (cs_num_lt m1)
            simp only [m2, g, not_true, not_false_iff, false_implies, true_implies, true_and, and_true, forall_eq, implies_true]
            refine yc ?_
            simp only [cs_n10, not_true, not_false_iff, false_implies, true_implies, true_and, and_true, forall_eq, implies_true]
            refine yh1 a ha e ?_
            simp only [cs_n10, not_true, not_false_iff, false_implies, true_implies, true_and, and_true, forall_eq, implies_true]
            refine cs_yFld (fun h => absurd rfl (h f hf)) (fun _ _ _ => ?_)
            simp only [cs_n10, not_true, not_false_iff, false_implies, true_implies, true_and, and_true, forall_eq, implies_true]
            refine cs_yPlace hr e ?_
            simp only [v2, k2, not_true, not_false_iff, false_implies, true_implies, true_and, and_true, forall_eq, implies_true]
            refine cs_yShown (Or.inl m1) (fun _ => ⟨rfl, I'⟩) (fun a ha e => absurd (⟨by omega, e⟩ : cs_w 10000 _ a) (cs_num_nw (by omega) (by omega) m1))
          · have q := IP.2.2.1 a' b' m1
            have g := cs_ge1000 (b := b') (by omega)
            simp only [m3, g, not_true, not_false_iff, false_implies, true_implies, true_and, and_true, forall_eq, implies_true]
            refine yc ?_
            simp only [cs_n10, not_true, not_false_iff, false_implies, true_implies, true_and, and_true, forall_eq, implies_true]
            refine yh1 a ha e ?_
            simp only [cs_n10, not_true, not_false_iff, false_implies, true_implies, true_and, and_true, forall_eq, implies_true]
            refine cs_yFld (fun h => absurd rfl (h f hf)) (fun _ _ _ => ?_)
            simp only [cs_n10, not_true, not_false_iff, false_implies, true_implies, true_and, and_true, forall_eq, implies_true]
            refine cs_yPlace hr e ?_
            simp only [v2, k2, not_true, not_false_iff, false_implies, true_implies, true_and, and_true, forall_eq, implies_true]
            refine cs_yShown (Or.inr ⟨a', q.1, m2⟩) (fun hn => absurd (⟨by omega, m2⟩ : cs_w 10000 _ a') (cs_num_nw (by omega) (by omega) hn)) (fun _ _ _ => ⟨rfl, I'⟩)
end
section
/-! same, count, reach, sum, collect -/
theorem i_vc_same {k : Nat} {u : SX} {v : SY} (I : i_Rel k u v) (hk : k + 4 ≤ 2048) (v1 : Int32) (v2 : Int32) (v3 : Int32) : wpX_same (fun r => wpY_same (fun r' => r' = r ∧ i_Rel (k + 4) u v) v v1 v2 v3) u v1 v2 v3 := by
  obtain ⟨f_reached, f_half, f_marking, a_register, a_field, a_kept, a_seen, a_queue, a_forward, a_trial, a_turn, a_partner, a_partnerBack, a_tally, a_remembered, a_shade⟩ := u
  obtain ⟨yr, yf⟩ := v
  obtain ⟨hJ, hY⟩ := I
  dsimp only at hY
  have I' : i_Rel (k + 4) (f_reached, f_half, f_marking, a_register, a_field, a_kept, a_seen, a_queue, a_forward, a_trial, a_turn, a_partner, a_partnerBack, a_tally, a_remembered, a_shade) (yr, yf) := ⟨hJ, hY⟩
  have yh0 : ∀ r, r < 6 → cs_num (yr r) → ∀ {Q : Int32 → Prop}, Q 0 → wpY_holds Q (yr, yf) (nI r) := fun r hr hn Q hq => cs_yHolds hY (fun _ => hq) (fun _ _ _ _ => hq) (fun r' a hr' ha e e2 => by
    have : r' = r := cs_nIinj (by omega) (by omega) e.symm
    subst this
    exact absurd (⟨by omega, e2⟩ : cs_w 10000 (yr r') a) (cs_num_nw (by omega) (by omega) hn))
  have yh1 : ∀ r, r < 6 → ∀ a, a < 48 → yr r = nI (10000 + a) → ∀ {Q : Int32 → Prop}, Q 1 → wpY_holds Q (yr, yf) (nI r) := fun r hr a ha ea Q hq => cs_yHolds hY (fun h => absurd rfl (h r hr)) (fun r' hr' e hn => by
    have : r' = r := cs_nIinj (by omega) (by omega) e.symm
    subst this
    exact absurd (⟨by omega, ea⟩ : cs_w 10000 (yr r') a) (cs_num_nw (by omega) (by omega) hn)) (fun _ _ _ _ _ _ => hq)
  have yhn : ∀ p, (∀ r, r < 6 → ¬ p = nI r) → ∀ {Q : Int32 → Prop}, Q 0 → wpY_holds Q (yr, yf) p := fun p hn Q hq => cs_yHolds hY (fun _ => hq) (fun r hr e _ => absurd e (hn r hr)) (fun r a hr _ e _ => absurd e (hn r hr))
  simp only [wpX_same, wpY_same]
  refine cs_isCol (fun hn => ?_) (fun c hc ec => ?_)
  · simp only [not_true, not_false_iff, false_implies, true_implies, true_and, and_true, forall_eq, implies_true]
    refine cs_yCol (fun _ => ?_) (fun r hr e => absurd e (hn r hr))
    simp only [not_true, not_false_iff, false_implies, true_implies, true_and, and_true, forall_eq, implies_true]
    first | exact I' | exact ⟨rfl, I'⟩
  · subst ec
    simp only [cs_n10, not_true, not_false_iff, false_implies, true_implies, true_and, and_true, forall_eq, implies_true]
    have yc : ∀ {Q : Int32 → Prop}, Q 1 → wpY_isCollector Q (yr, yf) (nI c) := fun hq => cs_yCol (fun hc2 => absurd rfl (hc2 c hc)) (fun _ _ _ => hq)
    refine cs_isReg (fun hn => ?_) (fun r hr er => ?_)
    · simp only [not_true, not_false_iff, false_implies, true_implies, true_and, and_true, forall_eq, implies_true]
      refine yc ?_
      simp only [cs_n10, not_true, not_false_iff, false_implies, true_implies, true_and, and_true, forall_eq, implies_true]
      refine yhn _ hn ?_
      simp only [not_true, not_false_iff, false_implies, true_implies, true_and, and_true, forall_eq, implies_true]
      first | exact I' | exact ⟨rfl, I'⟩
    · subst er
      simp only [cs_n10, not_true, not_false_iff, false_implies, true_implies, true_and, and_true, forall_eq, implies_true]
      have J : cs_J c f_half f_marking a_register a_field a_kept a_tally a_remembered a_shade yr yf := hJ c hc
      refine cs_isReg (fun hn => ?_) (fun s hs es => ?_)
      · simp only [not_true, not_false_iff, false_implies, true_implies, true_and, and_true, forall_eq, implies_true]
        refine yc ?_
        simp only [cs_n10, not_true, not_false_iff, false_implies, true_implies, true_and, and_true, forall_eq, implies_true]
        rcases hY.1 r hr with h0 | ⟨a, ha, e⟩
        · refine yh0 r hr h0 ?_
          simp only [not_true, not_false_iff, false_implies, true_implies, true_and, and_true, forall_eq, implies_true]
          first | exact I' | exact ⟨rfl, I'⟩
        · refine yh1 r hr a ha e ?_
          simp only [cs_n10, not_true, not_false_iff, false_implies, true_implies, true_and, and_true, forall_eq, implies_true]
          refine yhn _ hn ?_
          simp only [not_true, not_false_iff, false_implies, true_implies, true_and, and_true, forall_eq, implies_true]
          first | exact I' | exact ⟨rfl, I'⟩
      · subst es
        simp only [cs_n10, not_true, not_false_iff, false_implies, true_implies, true_and, and_true, forall_eq, implies_true]
        rcases hY.1 r hr with h0 | ⟨a, ha, e⟩
        · refine cs_cellOf_num hc hr (by rw [cs_J_num hc J hr h0]; exact h0) ?_
          simp only [not_true, not_false_iff, false_implies, true_implies, true_and, and_true, forall_eq, implies_true]
          refine yc ?_
          simp only [cs_n10, not_true, not_false_iff, false_implies, true_implies, true_and, and_true, forall_eq, implies_true]
          refine yh0 r hr h0 ?_
          simp only [not_true, not_false_iff, false_implies, true_implies, true_and, and_true, forall_eq, implies_true]
          first | exact I' | exact ⟨rfl, I'⟩
        · have J0 := J
          obtain ⟨⟨P, IP⟩, _⟩ := J
          obtain ⟨b, p1, p2, p3, p4⟩ := cs_I_at hc IP hr ha e
          unfold cs_sg at p3
          refine cs_cellOf_ref hc hr (by omega) p2 ?_
          have g4 : ¬ nI b = -1 := cs_nIm1 (by omega)
          simp only [g4, not_true, not_false_iff, false_implies, true_implies, true_and, and_true, forall_eq, implies_true]
          rcases hY.1 s hs with h0 | ⟨a', ha', e'⟩
          · refine cs_cellOf_num hc hs (by rw [cs_J_num hc J0 hs h0]; exact h0) ?_
            simp only [g4, not_true, not_false_iff, false_implies, true_implies, true_and, and_true, forall_eq, implies_true]
            refine yc ?_
            simp only [cs_n10, not_true, not_false_iff, false_implies, true_implies, true_and, and_true, forall_eq, implies_true]
            refine yh1 r hr a ha e ?_
            simp only [cs_n10, not_true, not_false_iff, false_implies, true_implies, true_and, and_true, forall_eq, implies_true]
            refine yh0 s hs h0 ?_
            simp only [not_true, not_false_iff, false_implies, true_implies, true_and, and_true, forall_eq, implies_true]
            first | exact I' | exact ⟨rfl, I'⟩
          · obtain ⟨b', q1, q2, q3, q4⟩ := cs_I_at hc IP hs ha' e'
            unfold cs_sg at q3
            refine cs_cellOf_ref hc hs (by omega) q2 ?_
            have v1 : vp_in (nI r) 6 := vp_in_nI hr (by omega)
            have k1 : (nI r).toNatClampNeg = r := nI_clamp (by omega)
            have v2 : vp_in (nI s) 6 := vp_in_nI hs (by omega)
            have k2 : (nI s).toNatClampNeg = s := nI_clamp (by omega)
            by_cases z : b = b'
            · have za : a = a' := IP.2.1 a a' b p1 (z ▸ q1)
              have g : nI b = nI b' := by rw [z]
              have ey : yr r = yr s := by rw [e, e', za]
              simp only [g, not_true, not_false_iff, false_implies, true_implies, true_and, and_true, forall_eq, implies_true]
              refine yc ?_
              simp only [cs_n10, not_true, not_false_iff, false_implies, true_implies, true_and, and_true, forall_eq, implies_true]
              refine yh1 r hr a ha e ?_
              simp only [cs_n10, not_true, not_false_iff, false_implies, true_implies, true_and, and_true, forall_eq, implies_true]
              refine yh1 s hs a' ha' e' ?_
              simp only [cs_n10, v1, k1, v2, k2, ey, not_true, not_false_iff, false_implies, true_implies, true_and, and_true, forall_eq, implies_true]
              first | exact I' | exact ⟨rfl, I'⟩
            · have g : ¬ nI b = nI b' := fun y => z (cs_nIinj (by omega) (by omega) y)
              have ey : ¬ yr r = yr s := fun h => by
                rw [e, e'] at h
                have za := cs_nIinj (by omega) (by omega) h
                have za' : a = a' := by omega
                subst za'
                exact z (IP.1 a b b' p1 q1)
              simp only [g, not_true, not_false_iff, false_implies, true_implies, true_and, and_true, forall_eq, implies_true]
              refine yc ?_
              simp only [cs_n10, not_true, not_false_iff, false_implies, true_implies, true_and, and_true, forall_eq, implies_true]
              refine yh1 r hr a ha e ?_
              simp only [cs_n10, not_true, not_false_iff, false_implies, true_implies, true_and, and_true, forall_eq, implies_true]
              refine yh1 s hs a' ha' e' ?_
              simp only [cs_n10, v1, k1, v2, k2, ey, not_true, not_false_iff, false_implies, true_implies, true_and, and_true, forall_eq, implies_true]
              first | exact I' | exact ⟨rfl, I'⟩
theorem i_vc_count {k : Nat} {u : SX} {v : SY} (I : i_Rel k u v) (hk : k + 4 ≤ 2048) (v1 : Int32) : wpX_count (fun r u' => wpY_count (fun r' => r' = r ∧ i_Rel (k + 4) u' v) v v1) u v1 := by
  obtain ⟨f_reached, f_half, f_marking, a_register, a_field, a_kept, a_seen, a_queue, a_forward, a_trial, a_turn, a_partner, a_partnerBack, a_tally, a_remembered, a_shade⟩ := u
  obtain ⟨yr, yf⟩ := v
  obtain ⟨hJ, hY⟩ := I
  dsimp only at hY
  simp only [wpX_count, wpY_count]
  refine cs_isCol (fun hn => ?_) (fun c hc ec => ?_)
  · simp only [not_true, not_false_iff, false_implies, true_implies, true_and, and_true, forall_eq, implies_true]
    refine cs_yCol (fun _ => ?_) (fun r hr e => absurd e (hn r hr))
    simp only [not_true, not_false_iff, false_implies, true_implies, true_and, and_true, forall_eq, implies_true]
    first | exact ⟨hJ, hY⟩ | exact ⟨rfl, hJ, hY⟩
  · subst ec
    simp only [cs_n10, not_true, not_false_iff, false_implies, true_implies, true_and, and_true, forall_eq, implies_true]
    have J : cs_J c f_half f_marking a_register a_field a_kept a_tally a_remembered a_shade yr yf := hJ c hc
    obtain ⟨P, IP⟩ := J.1
    refine cs_trace (p := 0) (q := 6) hc (by omega) (by omega) IP (fun L s q a1 a2 a3 => ?_)
    simp only []
    refine cs_yCol (fun hc2 => absurd rfl (hc2 c hc)) (fun _ _ _ => ?_)
    simp only [cs_n10, not_true, not_false_iff, false_implies, true_implies, true_and, and_true, forall_eq, implies_true]
    refine cs_ycount (post := fun r => r = nI L ∧ i_Rel (k + 4) (nI L, f_half, f_marking, a_register, a_field, a_kept, s, q, a_forward, a_trial, a_turn, a_partner, a_partnerBack, a_tally, a_remembered, a_shade) (yr, yf)) hY ⟨by rw [a3], hJ, hY⟩
theorem i_vc_reach {k : Nat} {u : SX} {v : SY} (I : i_Rel k u v) (hk : k + 4 ≤ 2048) (v1 : Int32) (v2 : Int32) : wpX_reach (fun r u' => wpY_reach (fun r' => r' = r ∧ i_Rel (k + 4) u' v) v v1 v2) u v1 v2 := by
  obtain ⟨f_reached, f_half, f_marking, a_register, a_field, a_kept, a_seen, a_queue, a_forward, a_trial, a_turn, a_partner, a_partnerBack, a_tally, a_remembered, a_shade⟩ := u
  obtain ⟨yr, yf⟩ := v
  obtain ⟨hJ, hY⟩ := I
  dsimp only at hY
  simp only [wpX_reach, wpY_reach]
  refine cs_isCol (fun hn => ?_) (fun c hc ec => ?_)
  · simp only [not_true, not_false_iff, false_implies, true_implies, true_and, and_true, forall_eq, implies_true]
    refine cs_yCol (fun _ => ?_) (fun r hr e => absurd e (hn r hr))
    simp only [not_true, not_false_iff, false_implies, true_implies, true_and, and_true, forall_eq, implies_true]
    first | exact ⟨hJ, hY⟩ | exact ⟨rfl, hJ, hY⟩
  · subst ec
    simp only [cs_n10, not_true, not_false_iff, false_implies, true_implies, true_and, and_true, forall_eq, implies_true]
    have yc : ∀ {Q : Int32 → Prop}, Q 1 → wpY_isCollector Q (yr, yf) (nI c) := fun hq => cs_yCol (fun hc2 => absurd rfl (hc2 c hc)) (fun _ _ _ => hq)
    have J : cs_J c f_half f_marking a_register a_field a_kept a_tally a_remembered a_shade yr yf := hJ c hc
    obtain ⟨P, IP⟩ := J.1
    refine cs_isReg (fun hn => ?_) (fun r hr er => ?_)
    · simp only [not_true, not_false_iff, false_implies, true_implies, true_and, and_true, forall_eq, implies_true]
      refine yc ?_
      simp only [cs_n10, not_true, not_false_iff, false_implies, true_implies, true_and, and_true, forall_eq, implies_true]
      refine cs_yReg (fun _ => ?_) (fun r hr e => absurd e (hn r hr))
      simp only [not_true, not_false_iff, false_implies, true_implies, true_and, and_true, forall_eq, implies_true]
      first | exact ⟨hJ, hY⟩ | exact ⟨rfl, hJ, hY⟩
    · subst er
      have v1 : vp_in (nI r) 6 := vp_in_nI hr (by omega)
      have k1 : (nI r).toNatClampNeg = r := nI_clamp (by omega)
      simp only [cs_n10, nI_1, not_true, not_false_iff, false_implies, true_implies, true_and, and_true, forall_eq, implies_true]
      refine cs_trace (p := r) (q := r + 1) hc (by omega) (by omega) IP (fun L s q a1 a2 a3 => ?_)
      simp only []
      refine yc ?_
      simp only [cs_n10, not_true, not_false_iff, false_implies, true_implies, true_and, and_true, forall_eq, implies_true]
      refine cs_yReg (fun h2 => absurd rfl (h2 r hr)) (fun _ _ _ => ?_)
      simp only [cs_n10, v1, k1, not_true, not_false_iff, false_implies, true_implies, true_and, and_true, forall_eq, implies_true]
      refine cs_from (N := 0) (R0 := cs_Q 10000 yr 0 r (r + 1)) hY.2.1 (by omega) (hY.1 r hr) (fun a => ⟨fun ⟨j, j1, j2, j3⟩ => ?_, fun h => ?_⟩) (fun M m1 m2 => ?_)
      · have : j = r := by omega
        rw [Nat.zero_add, this] at j3
        exact Or.inr j3
      · rcases h with h | h
        · exact absurd h (cs_B_0 a)
        · exact ⟨r, by omega, by omega, by rw [Nat.zero_add]; exact h⟩
      · refine cs_ones m1 ⟨?_, hJ, hY⟩
        rw [a3]
        exact congrArg nI (cs_n_eq (fun a _ => m2 a))
/-- the reference's sum -/
theorem cs_ysum {post : Int32 → Prop} {yr yf : Nat → Int32} (hY : cs_Y yr yf) {p : Int32} (K1 : (∀ c, c < 7 → ¬ p = nI c) → post (-1000)) (K2 : ∀ c, c < 7 → p = nI c → post (cs_s (cs_V 10000 yr 0 0 6 yf) (cs_g yf) 48)) : wpY_sum post (yr, yf) p := by
  simp only [wpY_sum]
  refine cs_all hY (fun M m1 m2 => ?_)
  refine pk_loop (σ := Int32) (fun n j t => wY_sum_11 post p (lN M) yr yf n t (nI j)) (fun j t => t = cs_s (fun j => cs_V 10000 yr 0 0 6 yf (j / 3)) (fun j => cs_nv (yf j)) j) 144 0 0 (by omega) rfl (fun n t hI => ?_) (fun n j t hj hI ih => ?_)
  · have g : (144 : Int32) ≤ nI 144 := nI_le (a := 144) (by omega) (by omega)
    simp only [wY_sum_11, g, not_true, not_false_iff, false_implies, true_implies, true_and, and_true, forall_eq, implies_true]
    have e := cs_s_3 (cs_V 10000 yr 0 0 6 yf) (fun j => cs_nv (yf j)) 48
    have e2 : (fun a => (fun j => cs_nv (yf j)) (3 * a + 0) + (fun j => cs_nv (yf j)) (3 * a + 1) + (fun j => cs_nv (yf j)) (3 * a + 2)) = cs_g yf := rfl
    rw [e2] at e
    have e3 : t = cs_s (cs_V 10000 yr 0 0 6 yf) (cs_g yf) 48 := hI.trans e
    refine cs_yCol (fun hn => ?_) (fun c hc ec => ?_)
    · simp only [not_true, not_false_iff, false_implies, true_implies, true_and, and_true, forall_eq, implies_true]; exact K1 hn
    · simp only [cs_n10, not_true, not_false_iff, false_implies, true_implies, true_and, and_true, forall_eq, implies_true]; rw [e3]; exact K2 c hc ec
  · have g : ¬ (144 : Int32) ≤ nI j := nI_ge (b := 144) hj (by omega)
    have v : vp_in (nI j) 144 := vp_in_nI hj (by omega)
    have kk : (nI j).toNatClampNeg = j := nI_clamp (by omega)
    have hb := cs_bit (N := M) (k := j / 3) m1 (by omega)
    have stp : ∀ w, t + w = cs_s (fun j => cs_V 10000 yr 0 0 6 yf (j / 3)) (fun j => cs_nv (yf j)) (j + 1) ↔ t + w = t + cs_t (cs_V 10000 yr 0 0 6 yf (j / 3)) (cs_nv (yf j)) := fun w => by
      rw [hI]; exact Iff.rfl
    by_cases z : cs_B M (j / 3)
    · have z' := hb.mpr z
      have zv := (m2 _).mp z
      simp only [wY_sum_11, g, cs_div3 j hj, z', v, kk, cs_n30, not_true, not_false_iff, false_implies, true_implies, true_and, and_true, forall_eq, implies_true]
      refine cs_yRefers (hY.2.1 j hj) (fun hn => ?_) (fun a ha e => ?_)
      · simp only [nI_1, not_true, not_false_iff, false_implies, true_implies, true_and, and_true, forall_eq, implies_true]
        exact ih _ ((stp _).mpr (by rw [cs_tt zv, cs_nv_num hn]))
      · simp only [cs_n10, nI_1, not_true, not_false_iff, false_implies, true_implies, true_and, and_true, forall_eq, implies_true]
        have := (stp 0).mpr (by rw [cs_tt zv, e, cs_nv_ref (by omega) (by omega) (by omega)])
        rw [Int32.add_zero] at this
        exact ih t this
    · have z' : ¬ ((lN M >>> ((nI (j / 3)).toInt64 &&& 63)) &&& 1) = 1 := fun y => z (hb.mp y)
      simp only [wY_sum_11, g, cs_div3 j hj, z', cs_n30, nI_1, not_true, not_false_iff, false_implies, true_implies, true_and, and_true, forall_eq, implies_true]
      have := (stp 0).mpr (by rw [cs_tf (fun y => z ((m2 _).mpr y))])
      rw [Int32.add_zero] at this
      exact ih t this
def cs_pg (fl : Nat → Int32) (b : Nat) : Nat → Int32
  | 0 => 0
  | f + 1 => cs_pg fl b f + cs_nv (fl (3 * b + f))
theorem cs_pg_3 (fl : Nat → Int32) (b : Nat) : cs_pg fl b 3 = cs_g fl b := by
  show ((0 + cs_nv (fl (3 * b + 0))) + cs_nv (fl (3 * b + 1))) + cs_nv (fl (3 * b + 2)) = cs_nv (fl (3 * b + 0)) + cs_nv (fl (3 * b + 1)) + cs_nv (fl (3 * b + 2))
  rw [Int32.zero_add]
theorem i_vc_sum {k : Nat} {u : SX} {v : SY} (I : i_Rel k u v) (hk : k + 4 ≤ 2048) (v1 : Int32) : wpX_sum (fun r u' => wpY_sum (fun r' => r' = r ∧ i_Rel (k + 4) u' v) v v1) u v1 := by
  obtain ⟨f_reached, f_half, f_marking, a_register, a_field, a_kept, a_seen, a_queue, a_forward, a_trial, a_turn, a_partner, a_partnerBack, a_tally, a_remembered, a_shade⟩ := u
  obtain ⟨yr, yf⟩ := v
  obtain ⟨hJ, hY⟩ := I
  dsimp only at hY
  simp only [wpX_sum]
  refine cs_isCol (fun hn => ?_) (fun c hc ec => ?_)
  · simp only [not_true, not_false_iff, false_implies, true_implies, true_and, and_true, forall_eq, implies_true]
    exact cs_ysum hY (fun _ => ⟨rfl, hJ, hY⟩) (fun c hc e => absurd e (hn c hc))
  · subst ec
    simp only [cs_n10, not_true, not_false_iff, false_implies, true_implies, true_and, and_true, forall_eq, implies_true]
    have J : cs_J c f_half f_marking a_register a_field a_kept a_tally a_remembered a_shade yr yf := hJ c hc
    obtain ⟨P, IP⟩ := J.1
    have hZ := cs_Z_V (p := 0) (q := 6) hc IP (by omega)
    refine cs_trace (p := 0) (q := 6) hc (by omega) (by omega) IP (fun L s q a1 a2 a3 => ?_)
    simp only []
    have hL := a1.1
    refine pk_loop (σ := Int32) (fun n i t => wX_sum_25 (fun r u' => wpY_sum (fun r' => r' = r ∧ i_Rel (k + 4) u' (yr, yf)) (yr, yf) (nI c)) (nI L) (nI L) f_half f_marking a_register a_field a_kept s q a_forward a_trial a_turn a_partner a_partnerBack a_tally a_remembered a_shade n t (nI i)) (fun i t => t = cs_s (fun _ => True) (fun i => cs_g a_field (q i).toNatClampNeg) i) L 0 0 (by omega) rfl (fun n t hI => ?_) (fun n i t hi hI ih => ?_)
    · have fin : wpY_sum (fun r' => r' = t ∧ i_Rel (k + 4) (nI L, f_half, f_marking, a_register, a_field, a_kept, s, q, a_forward, a_trial, a_turn, a_partner, a_partnerBack, a_tally, a_remembered, a_shade) (yr, yf)) (yr, yf) (nI c) := by
        refine cs_ysum hY (fun h => absurd rfl (h c hc)) (fun _ _ _ => ⟨?_, hJ, hY⟩)
        rw [hI, cs_sum_q hc hZ a1 a2 (cs_g a_field), cs_iso_s hc IP (by omega)]
      have g2 : nI L ≤ nI L := nI_le (Nat.le_refl _) (by omega)
      by_cases g : (48 : Int32) ≤ nI L
      · simp only [wX_sum_25, g, not_true, not_false_iff, false_implies, true_implies, true_and, and_true, forall_eq, implies_true]; exact fin
      · simp only [wX_sum_25, g, g2, not_true, not_false_iff, false_implies, true_implies, true_and, and_true, forall_eq, implies_true]; exact fin
    · have g : ¬ (48 : Int32) ≤ nI i := nI_ge (b := 48) (by omega) (by omega)
      have g2 : ¬ nI L ≤ nI i := nI_ge hi (by omega)
      obtain ⟨b, b1, b2, b3, b4⟩ := cs_F_q hc hZ a1 hi
      have v1 : vp_in (nI i) 48 := vp_in_nI (by omega) (by omega)
      have k1 : (nI i).toNatClampNeg = i := nI_clamp (by omega)
      have qb : (q i).toNatClampNeg = b := by rw [b2]; exact nI_clamp (by omega)
      simp only [wX_sum_25, g, g2, not_true, not_false_iff, false_implies, true_implies, true_and, and_true, forall_eq, implies_true]
      refine pk_loop (σ := Int32) (fun m f t2 => wX_sum_41 (fun r u' => wpY_sum (fun r' => r' = r ∧ i_Rel (k + 4) u' (yr, yf)) (yr, yf) (nI c)) (wX_sum_25 (fun r u' => wpY_sum (fun r' => r' = r ∧ i_Rel (k + 4) u' (yr, yf)) (yr, yf) (nI c)) (nI L) (nI L) f_half f_marking a_register a_field a_kept s q a_forward a_trial a_turn a_partner a_partnerBack a_tally a_remembered a_shade n) (nI L) (nI i) (nI L) f_half f_marking a_register a_field a_kept s q a_forward a_trial a_turn a_partner a_partnerBack a_tally a_remembered a_shade m t2 (nI f)) (fun f t2 => t2 = t + cs_pg a_field b f) 3 0 t (by omega) (Int32.add_zero t).symm (fun m t2 hI2 => ?_) (fun m f t2 hf hI2 ih2 => ?_)
      · have g3 : (3 : Int32) ≤ nI 3 := nI_le (a := 3) (by omega) (by omega)
        simp only [wX_sum_41, g3, nI_1, not_true, not_false_iff, false_implies, true_implies, true_and, and_true, forall_eq, implies_true]
        refine ih t2 ?_
        rw [hI2, hI, cs_pg_3]
        show _ = cs_s (fun _ => True) (fun i => cs_g a_field (q i).toNatClampNeg) i + cs_t True (cs_g a_field (q i).toNatClampNeg)
        rw [cs_tt trivial, qb]
      · have g3 : ¬ (3 : Int32) ≤ nI f := nI_ge (b := 3) hf (by omega)
        have v2 : vp_in (nI (3 * b + f)) 1008 := vp_in_nI (by omega) (by omega)
        have k2 : (nI (3 * b + f)).toNatClampNeg = 3 * b + f := nI_clamp (by omega)
        have pgs : cs_pg a_field b (f + 1) = cs_pg a_field b f + cs_nv (a_field (3 * b + f)) := rfl
        rcases (hZ b b1).2 f hf with o | ⟨b', o1, o2⟩
        · have g4 := cs_nge1000 (cs_num_lt o)
          simp only [wX_sum_41, g3, v1, k1, b2, cs_i3, v2, k2, g4, nI_1, not_true, not_false_iff, false_implies, true_implies, true_and, and_true, forall_eq, implies_true]
          refine ih2 _ ?_
          rw [hI2, pgs, cs_nv_num o, Int32.add_assoc]
        · have q' := (hZ b' o1).1
          unfold cs_sg at q'
          have g4 := cs_ge1000 (b := b') (by omega)
          simp only [wX_sum_41, g3, v1, k1, b2, cs_i3, v2, k2, o2, g4, nI_1, not_true, not_false_iff, false_implies, true_implies, true_and, and_true, forall_eq, implies_true]
          refine ih2 _ ?_
          rw [hI2, pgs, o2, cs_nv_ref (by omega) (by omega) (by omega), Int32.add_assoc]
theorem i_vc_collect {k : Nat} {u : SX} {v : SY} (I : i_Rel k u v) (hk : k + 4 ≤ 2048) (v1 : Int32) : wpX_collect (fun r u' => wpY_collect (fun r' => r' = r ∧ i_Rel (k + 4) u' v) v v1) u v1 := by
  obtain ⟨f_reached, f_half, f_marking, a_register, a_field, a_kept, a_seen, a_queue, a_forward, a_trial, a_turn, a_partner, a_partnerBack, a_tally, a_remembered, a_shade⟩ := u
  obtain ⟨yr, yf⟩ := v
  obtain ⟨hJ, hY⟩ := I
  dsimp only at hY hJ
  simp only [wpX_collect, wpY_collect, wpY_count]
  refine cs_isCol (fun hn => ?_) (fun c hc ec => ?_)
  · simp only [not_true, not_false_iff, false_implies, true_implies, true_and, and_true, forall_eq, implies_true]
    refine cs_yCol (fun _ => ?_) (fun r hr e => absurd e (hn r hr))
    simp only [not_true, not_false_iff, false_implies, true_implies, true_and, and_true, forall_eq, implies_true]
    first | exact ⟨hJ, hY⟩ | exact ⟨rfl, hJ, hY⟩
  · subst ec
    simp only [cs_n10, not_true, not_false_iff, false_implies, true_implies, true_and, and_true, forall_eq, implies_true]
    refine cs_run hc hY.2.2 (hJ c hc) (fun u' F' J' X' _ => ?_)
    have hJ' := cs_rel_upd hJ F' J'
    obtain ⟨f_reached', f_half', f_marking', a_register', a_field', a_kept', a_seen', a_queue', a_forward', a_trial', a_turn', a_partner', a_partnerBack', a_tally', a_remembered', a_shade'⟩ := u'
    have e1 : nI (48 * c) + 48 = nI (48 * c + 48) := nI_add _ 48
    simp only [cs_i48, e1, not_true, not_false_iff, false_implies, true_implies, true_and, and_true, forall_eq, implies_true]
    refine cs_freeCells (by omega) (by omega) ?_
    refine cs_yCol (fun hc2 => absurd rfl (hc2 c hc)) (fun _ _ _ => ?_)
    simp only [cs_n10, not_true, not_false_iff, false_implies, true_implies, true_and, and_true, forall_eq, implies_true]
    have X2 : cs_X c a_register' a_field' a_kept' yr yf := X'
    have cnt := cs_X_n hc X2
    have cm := cs_n_compl (P := fun i => a_kept' (48 * c + i) = 0) (N := 48)
    refine cs_ycount (post := fun r => r = 48 - nI (cs_n (fun i => a_kept' (48 * c + i) = 0) (48 * c + 48 - 48 * c)) ∧ i_Rel (k + 4) (f_reached', f_half', f_marking', a_register', a_field', a_kept', a_seen', a_queue', a_forward', a_trial', a_turn', a_partner', a_partnerBack', a_tally', a_remembered', a_shade') (yr, yf)) hY ⟨?_, hJ', hY⟩
    rw [show 48 * c + 48 - 48 * c = 48 by omega, show (48 : Int32) = nI 48 from rfl, pk_sub (by omega)]
    exact congrArg nI (by omega)
end
section
/-! number, copy, get, put -/
theorem cs_young {post : Int32 → Prop} {w : Int32} (hw : cs_num w ∨ ∃ b, b < 336 ∧ w = nI (1000 + b)) (K1 : (∀ b, b < 336 → w = nI (1000 + b) → ¬ (192 ≤ b ∧ b < 208)) → post 0) (K2 : ∀ b, b < 336 → w = nI (1000 + b) → 192 ≤ b → b < 208 → post 1) : wpX_isYoung post w := by
  rcases hw with h | ⟨b, b1, b2⟩
  · have g : w - 1000 < 192 := cs_num_sub h (o := 192) (by omega)
    simp only [wpX_isYoung, g, not_true, not_false_iff, false_implies, true_implies, true_and, and_true, forall_eq, implies_true]
    exact K1 (fun b hb e => absurd (⟨by omega, e⟩ : cs_w 1000 w b) (cs_num_nw (by omega) (by omega) h))
  · have uq : ∀ b', b' < 336 → w = nI (1000 + b') → b' = b := fun b' h e => by
      have := cs_nIinj (by omega) (by omega) (e.symm.trans b2)
      omega
    by_cases z1 : b < 192
    · have g : nI b < 192 := nI_lt (b := 192) z1 (by omega)
      have K' := K1 (fun b' h e => by rw [uq b' h e]; omega)
      subst b2
      simp only [wpX_isYoung, cs_ref_sub, g, not_true, not_false_iff, false_implies, true_implies, true_and, and_true, forall_eq, implies_true]
      exact K'
    · have g : ¬ nI b < 192 := nI_nlt (b := 192) (by omega) (by omega)
      by_cases z2 : 208 ≤ b
      · have g2 : (208 : Int32) ≤ nI b := nI_le (a := 208) z2 (by omega)
        have K' := K1 (fun b' h e => by rw [uq b' h e]; omega)
        subst b2
        simp only [wpX_isYoung, cs_ref_sub, g, g2, not_true, not_false_iff, false_implies, true_implies, true_and, and_true, forall_eq, implies_true]
        exact K'
      · have g2 : ¬ (208 : Int32) ≤ nI b := nI_ge (b := 208) (by omega) (by omega)
        have K' := K2 b b1 b2 (by omega) (by omega)
        subst b2
        simp only [wpX_isYoung, cs_ref_sub, g, g2, not_true, not_false_iff, false_implies, true_implies, true_and, and_true, forall_eq, implies_true]
        exact K'
theorem cs_setFld_J {u : SX} {post : SX → Prop} {c r s f a b : Nat} {yr yf : Nat → Int32} (hc : c < 7) (hr : r < 6) (hs : s < 6) (hf : f < 3) (ha : a < 48) (hb : b < 336) (J : cs_JU c u yr yf) (hy : yr r = nI (10000 + a)) (hx : u.2.2.2.1 (6 * c + r) = nI (1000 + b))
    (K : ∀ u', cs_FU c u u' → cs_JU c u' yr (upd yf (3 * a + f) (yr s)) → post u') : wpX_setField post u (nI c) (nI b) (nI f) (u.2.2.2.1 (6 * c + s)) := by
  obtain ⟨f_reached, f_half, f_marking, a_register, a_field, a_kept, a_seen, a_queue, a_forward, a_trial, a_turn, a_partner, a_partnerBack, a_tally, a_remembered, a_shade⟩ := u
  dsimp only at hx ⊢
  have J' : cs_J c f_half f_marking a_register a_field a_kept a_tally a_remembered a_shade yr yf := J
  have J0 := J'
  obtain ⟨⟨P, I⟩, W, _, _, k3, k4, k5⟩ := J'
  obtain ⟨b', p1, p2, p3, p4⟩ := cs_I_at hc I hr ha hy
  have eb : b = b' := by
    have h1 := p3
    unfold cs_sg at h1
    have := cs_nIinj (by omega) (by omega) (hx.symm.trans p2)
    omega
  subst eb
  have okw := cs_m_ok I.2.2.1 (I.2.2.2.1 s hs)
  have oko := W b p3.1 p3.2 p4 f hf
  have v : vp_in (nI (3 * b + f)) 1008 := vp_in_nI (by omega) (by omega)
  have k : (nI (3 * b + f)).toNatClampNeg = 3 * b + f := nI_clamp (by omega)
  have inF : 144 * c ≤ 3 * b + f ∧ 3 * b + f < 144 * c + 144 := by
    unfold cs_sg at p3; omega
  by_cases e3 : c = 3
  · subst e3
    have g3 : nI 3 = 3 := rfl
    have n4 : ¬ (3 : Int32) = 4 := by decide
    have n5 : ¬ (3 : Int32) = 5 := by decide
    simp only [wpX_setField, g3, cs_i3, v, k, not_true, not_false_iff, false_implies, true_implies, true_and, and_true, forall_eq, implies_true]
    refine cs_addRef okw (fun tl1 t1 t2 => ?_)
    simp only [wX_setField_27, v, k, not_true, not_false_iff, false_implies, true_implies, true_and, and_true, forall_eq, implies_true]
    refine cs_dropRef (fun q => cs_D_fld W (fun r hr => cs_m_ok I.2.2.1 (I.2.2.2.1 r hr)) p3 p4 hf okw (k3 rfl) t1) oko (fun xk' tl' q' L d1 d2 => ?_)
    simp only [wX_setField_47, wX_setField_78, n4, n5, not_true, not_false_iff, false_implies, true_implies, true_and, and_true, forall_eq, implies_true]
    refine K _ ⟨fun _ => rfl, fun _ => rfl, fun _ _ => rfl, fun j hj => cs_upd_n (by omega), fun b hb => ⟨(d2 b hb).1, (d2 b hb).2.trans (t2 b hb), rfl, rfl⟩⟩ ?_
    have I' := cs_I_fld I p1 hf (xf' := upd a_field (3 * b + f) (a_register (6 * 3 + s))) (yf' := upd yf (3 * a + f) (yr s)) (fun j hj => cs_upd_n hj) (fun j hj => cs_upd_n hj) (by rw [cs_upd_s, cs_upd_s]; exact I.2.2.2.1 s hs)
    exact cs_J3_fin I' d1
  · have g3 : ¬ nI c = 3 := cs_ceq (k := 3) (by omega) (by omega) e3
    simp only [wpX_setField, wX_setField_27, g3, cs_i3, v, k, not_true, not_false_iff, false_implies, true_implies, true_and, and_true, forall_eq, implies_true]
    by_cases e4 : c = 4
    · subst e4
      have g4 : nI 4 = 4 := rfl
      have n5 : ¬ (4 : Int32) = 5 := by decide
      have fin : ∀ rm', (∀ x, x ≠ b → rm' x = a_remembered x) → (rm' b = 0 → a_remembered b = 0) → (208 ≤ b → b < 240 → ∀ b', b' < 1000 → a_register (6 * 4 + s) = nI (1000 + b') → 192 ≤ b' → b' < 208 → ¬ rm' b = 0) → post (f_reached, f_half, f_marking, a_register, upd a_field (3 * b + f) (a_register (6 * 4 + s)), a_kept, a_seen, a_queue, a_forward, a_trial, a_turn, a_partner, a_partnerBack, a_tally, rm', a_shade) := fun rm' q1 q2 q3 => by
        refine K (f_reached, f_half, f_marking, a_register, upd a_field (3 * b + f) (a_register (6 * 4 + s)), a_kept, a_seen, a_queue, a_forward, a_trial, a_turn, a_partner, a_partnerBack, a_tally, rm', a_shade) ⟨fun _ => rfl, fun _ => rfl, fun _ _ => rfl, fun j hj => cs_upd_n (by omega), fun x hx => ⟨rfl, rfl, q1 x (fun e => hx (by rw [e]; exact p3)), rfl⟩⟩ ?_
        exact cs_J_fld (by omega) e3 J0 hr hs hf ha hy (by omega) hx q1 q2 (fun _ => q3) (fun e => by omega) (fun e => by omega) (fun _ _ => rfl) (fun _ h => h) (fun x h1 h2 => absurd h2 h1)
      have keep : (208 ≤ b → b < 240 → ∀ b', b' < 1000 → a_register (6 * 4 + s) = nI (1000 + b') → 192 ≤ b' → b' < 208 → ¬ a_remembered b = 0) → post (f_reached, f_half, f_marking, a_register, upd a_field (3 * b + f) (a_register (6 * 4 + s)), a_kept, a_seen, a_queue, a_forward, a_trial, a_turn, a_partner, a_partnerBack, a_tally, a_remembered, a_shade) := fin a_remembered (fun _ _ => rfl) id
      simp only [wX_setField_47, g4, cs_ref_add, not_true, not_false_iff, false_implies, true_implies, true_and, and_true, forall_eq, implies_true]
      refine cs_young (Or.inr ⟨b, hb, rfl⟩) (fun y1 => ?_) (fun x x1 x2 x3 x4 => ?_)
      · simp only [not_true, not_false_iff, false_implies, true_implies, true_and, and_true, forall_eq, implies_true]
        refine cs_young (cs_ok_lt (c := 4) (by omega) okw) (fun y2 => ?_) (fun x x1 x2 x3 x4 => ?_)
        · simp only [wX_setField_78, n5, not_true, not_false_iff, false_implies, true_implies, true_and, and_true, forall_eq, implies_true]
          refine keep (fun _ _ b' h1 h2 h3 h4 => absurd ⟨h3, h4⟩ (y2 b' (by omega) h2))
        · have vb : vp_in (nI b) 336 := vp_in_nI hb (by omega)
          have kb : (nI b).toNatClampNeg = b := nI_clamp (by omega)
          simp only [wX_setField_78, n5, cs_n10, vb, kb, cs_nb1, not_true, not_false_iff, false_implies, true_implies, true_and, and_true, forall_eq, implies_true]
          exact fin (upd a_remembered b 1) (fun x hx => cs_upd_n hx) (fun h => absurd h (by rw [cs_upd_s]; exact cs_n10)) (fun _ _ _ _ _ _ _ => by rw [cs_upd_s]; exact cs_n10)
      · have : x = b := by
          have := cs_nIinj (by omega) (by omega) x2
          omega
        simp only [wX_setField_78, n5, cs_n10, not_true, not_false_iff, false_implies, true_implies, true_and, and_true, forall_eq, implies_true]
        refine keep (fun h1 _ => by omega)
    · have g4 : ¬ nI c = 4 := cs_ceq (k := 4) (by omega) (by omega) e4
      have fin : ∀ sh', (∀ x, ¬ cs_sg c x → sh' x = a_shade x) → (c = 5 → ¬ f_marking = 0 → ∀ x, cs_sg 5 x → sh' x = 0 ∨ sh' x = 1 ∨ sh' x = 2) → (c = 5 → ¬ f_marking = 0 → ∀ x, cs_w 1000 (a_field (3 * b + f)) x → ¬ sh' x = 0) → (∀ x, ¬ a_shade x = 0 → sh' x = a_shade x) → (∀ x, sh' x = 2 → a_shade x = 2) → (∀ x, ¬ sh' x = 0 → a_shade x = 0 → cs_w 1000 (a_field (3 * b + f)) x) → post (f_reached, f_half, f_marking, a_register, upd a_field (3 * b + f) (a_register (6 * c + s)), a_kept, a_seen, a_queue, a_forward, a_trial, a_turn, a_partner, a_partnerBack, a_tally, a_remembered, sh') := fun sh' q0 q1 q2 q3 q4 q5 => by
        refine K (f_reached, f_half, f_marking, a_register, upd a_field (3 * b + f) (a_register (6 * c + s)), a_kept, a_seen, a_queue, a_forward, a_trial, a_turn, a_partner, a_partnerBack, a_tally, a_remembered, sh') ⟨fun _ => rfl, fun _ => rfl, fun _ _ => rfl, fun j hj => cs_upd_n (by omega), fun x hx => ⟨rfl, rfl, rfl, q0 x hx⟩⟩ ?_
        exact cs_J_fld hc e3 J0 hr hs hf ha hy (by omega) hx (fun _ _ => rfl) id (fun e => absurd e e4) q1 q2 q3 q4 q5
      by_cases e5 : c = 5 ∧ ¬ f_marking = 0
      · obtain ⟨e5, hm⟩ := e5
        subst e5
        have g5 : nI 5 = 5 := rfl
        have n4 : ¬ (5 : Int32) = 4 := by decide
        have S := (k5 rfl hm).1
        simp only [wX_setField_47, wX_setField_78, g5, n4, hm, not_true, not_false_iff, false_implies, true_implies, true_and, and_true, forall_eq, implies_true]
        refine cs_shade (cs_ok_lt (c := 5) (by omega) oko) (fun hn => ?_) (fun x x1 x2 x3 => ?_) (fun x x1 x2 x3 => ?_)
        · refine fin a_shade (fun _ _ => rfl) (fun _ _ => S.2) (fun _ _ x hx => absurd hx (cs_num_nw (by omega) (by omega) hn)) (fun _ _ => rfl) (fun _ h => h) (fun _ h1 h2 => absurd h2 h1)
        · refine fin a_shade (fun _ _ => rfl) (fun _ _ => S.2) (fun _ _ y hy => ?_) (fun _ _ => rfl) (fun _ h => h) (fun _ h1 h2 => absurd h2 h1)
          have : y = x := cs_w_inj (B := 1000) (by omega) hy ⟨by omega, x2⟩
          rw [this]; exact x3
        · have sgx : cs_sg 5 x := by
            rcases oko with o | ⟨b', o1, o2, o3, o4⟩
            · exact absurd (⟨by omega, x2⟩ : cs_w 1000 _ x) (cs_num_nw (by omega) (by omega) o)
            · have e2 : x = b' := cs_w_inj (B := 1000) (w := a_field (3 * b + f)) (by omega) ⟨by omega, x2⟩ ⟨by omega, o4⟩
              rw [e2]; exact ⟨o1, o2⟩
          refine fin (upd a_shade x 1) (fun y hy => cs_upd_n (fun e => hy (by rw [e]; exact sgx))) (fun _ _ y hy => ?_) (fun _ _ y hy => ?_) (fun y hy => ?_) (fun y hy => ?_) (fun y h1 h2 => ?_)
          · by_cases e : y = x
            · rw [e, cs_upd_s]; exact Or.inr (Or.inl rfl)
            · rw [cs_upd_n e]; exact S.2 y hy
          · have : y = x := cs_w_inj (B := 1000) (by omega) hy ⟨by omega, x2⟩
            rw [this, cs_upd_s]; exact cs_n10
          · exact cs_upd_n (fun e => hy (e ▸ x3))
          · by_cases e : y = x
            · rw [e, cs_upd_s] at hy
              exact absurd hy (by decide)
            · rw [cs_upd_n e] at hy; exact hy
          · by_cases e : y = x
            · rw [e]; exact ⟨by omega, x2⟩
            · rw [cs_upd_n e] at h1; exact absurd h2 h1
      · have fin' := fin a_shade (fun _ _ => rfl) (fun h1 h2 => absurd ⟨h1, h2⟩ e5) (fun h1 h2 => absurd ⟨h1, h2⟩ e5) (fun _ _ => rfl) (fun _ h => h) (fun _ h1 h2 => absurd h2 h1)
        by_cases e6 : c = 5
        · have hm : f_marking = 0 := Classical.byContradiction fun z => e5 ⟨e6, z⟩
          subst e6 hm
          have g5 : nI 5 = 5 := rfl
          have n4 : ¬ (5 : Int32) = 4 := by decide
          simp only [wX_setField_47, wX_setField_78, g5, n4, not_true, not_false_iff, false_implies, true_implies, true_and, and_true, forall_eq, implies_true]
          exact fin'
        · have g5 : ¬ nI c = 5 := cs_ceq (k := 5) (by omega) (by omega) e6
          simp only [wX_setField_47, wX_setField_78, g4, g5, not_true, not_false_iff, false_implies, true_implies, true_and, and_true, forall_eq, implies_true]
          exact fin'
theorem cs_refers {f_reached f_half f_marking : Int32} {a_register a_field a_kept a_seen a_queue a_forward a_trial a_turn a_partner a_partnerBack a_tally a_remembered a_shade : Nat → Int32} {post : Int32 → Prop} {yr yf : Nat → Int32} {s : Nat} (hs : s < 6) (hJ : ∀ d, d < 7 → cs_J d f_half f_marking a_register a_field a_kept a_tally a_remembered a_shade yr yf) (hy : cs_yw (yr s)) (K1 : cs_num (yr s) → post 0) (K2 : ∀ a, a < 48 → yr s = nI (10000 + a) → post 1) : wpX_refersEverywhere post (f_reached, f_half, f_marking, a_register, a_field, a_kept, a_seen, a_queue, a_forward, a_trial, a_turn, a_partner, a_partnerBack, a_tally, a_remembered, a_shade) (nI s) := by
  simp only [wpX_refersEverywhere]
  rcases hy with h | ⟨a, ha, e⟩
  · refine ⟨1, ?_⟩
    have g : ¬ (7 : Int32) ≤ 0 := by decide
    simp only [wX_refersEverywhere_2, g, not_true, not_false_iff, false_implies, true_implies, true_and, and_true, forall_eq, implies_true]
    refine cs_cellOf_num (c := 0) (by omega) hs (by rw [cs_J_num (c := 0) (by omega) (hJ 0 (by omega)) hs h]; exact h) ?_
    simp only [not_true, not_false_iff, false_implies, true_implies, true_and, and_true, forall_eq, implies_true]
    exact K1 h
  · refine pk_loop (σ := Unit) (fun n c _ => wX_refersEverywhere_2 post (nI s) f_reached f_half f_marking a_register a_field a_kept a_seen a_queue a_forward a_trial a_turn a_partner a_partnerBack a_tally a_remembered a_shade n (nI c)) (fun _ _ => True) 7 0 () (by omega) trivial (fun n t _ => ?_) (fun n c t hc _ ih => ?_)
    · have g : (7 : Int32) ≤ nI 7 := nI_le (a := 7) (by omega) (by omega)
      simp only [wX_refersEverywhere_2, g, not_true, not_false_iff, false_implies, true_implies, true_and, and_true, forall_eq, implies_true]
      exact K2 a ha e
    · have g : ¬ (7 : Int32) ≤ nI c := nI_ge (b := 7) hc (by omega)
      obtain ⟨b, b1, b2, b3⟩ := cs_J_at hc (hJ c hc) hs ha e
      unfold cs_sg at b2
      have g4 : ¬ nI b = -1 := cs_nIm1 (by omega)
      simp only [wX_refersEverywhere_2, g, not_true, not_false_iff, false_implies, true_implies, true_and, and_true, forall_eq, implies_true]
      refine cs_cellOf_ref hc hs (by omega) b1 ?_
      simp only [g4, nI_1, not_true, not_false_iff, false_implies, true_implies, true_and, and_true, forall_eq, implies_true]
      exact ih () trivial
end
section
/-! number, copy, get, put: the owed rows -/
theorem cs_yw_num {v : Int32} (h : cs_num v) : ¬ v < -999 ∧ v ≤ 999 := by
  have e1 : (-999 : Int32).toInt = -999 := by decide
  have e2 : (999 : Int32).toInt = 999 := by decide
  rw [Int32.lt_iff_toInt_lt, Int32.le_iff_toInt_le]
  unfold cs_num at h; omega
theorem i_vc_number {k : Nat} {u : SX} {v : SY} (I : i_Rel k u v) (hk : k + 4 ≤ 2048) (v1 : Int32) (v2 : Int32) : wpX_number (fun r u' => wpY_number (fun r' v' => r' = r ∧ i_Rel (k + 4) u' v') v v1 v2) u v1 v2 := by
  obtain ⟨f_reached, f_half, f_marking, a_register, a_field, a_kept, a_seen, a_queue, a_forward, a_trial, a_turn, a_partner, a_partnerBack, a_tally, a_remembered, a_shade⟩ := u
  obtain ⟨yr, yf⟩ := v
  obtain ⟨hJ, hY⟩ := I
  dsimp only at hY hJ
  simp only [wpX_number]
  refine cs_isReg (fun hn => ?_) (fun r hr er => ?_)
  · simp only [wpY_number, not_true, not_false_iff, false_implies, true_implies, true_and, and_true, forall_eq, implies_true]
    refine cs_yReg (fun _ => ?_) (fun r hr e => absurd e (hn r hr))
    simp only [not_true, not_false_iff, false_implies, true_implies, true_and, and_true, forall_eq, implies_true]
    first | exact ⟨hJ, hY⟩ | exact ⟨rfl, hJ, hY⟩
  · subst er
    have vr : vp_in (nI r) 6 := vp_in_nI hr (by omega)
    have kr : (nI r).toNatClampNeg = r := nI_clamp (by omega)
    have yc : ∀ {Q : Int32 → Prop}, Q 1 → wpY_isRegister Q (yr, yf) (nI r) := fun hq => cs_yReg (fun h => absurd rfl (h r hr)) (fun _ _ _ => hq)
    simp only [cs_n10, not_true, not_false_iff, false_implies, true_implies, true_and, and_true, forall_eq, implies_true]
    refine cs_isNum (fun hn => ?_) (fun hn => ?_)
    · simp only [wpY_number, not_true, not_false_iff, false_implies, true_implies, true_and, and_true, forall_eq, implies_true]
      refine yc ?_
      by_cases g : v2 < -999
      · simp only [cs_n10, g, not_true, not_false_iff, false_implies, true_implies, true_and, and_true, forall_eq, implies_true]
        first | exact ⟨hJ, hY⟩ | exact ⟨rfl, hJ, hY⟩
      · have g2 : ¬ v2 ≤ 999 := fun z => hn (by
          have e1 : (-999 : Int32).toInt = -999 := by decide
          have e2 : (999 : Int32).toInt = 999 := by decide
          rw [Int32.lt_iff_toInt_lt] at g
          rw [Int32.le_iff_toInt_le] at z
          unfold cs_num; omega)
        simp only [cs_n10, g, g2, not_true, not_false_iff, false_implies, true_implies, true_and, and_true, forall_eq, implies_true]
        first | exact ⟨hJ, hY⟩ | exact ⟨rfl, hJ, hY⟩
    · obtain ⟨g1, g2⟩ := cs_yw_num hn
      simp only [cs_n10, not_true, not_false_iff, false_implies, true_implies, true_and, and_true, forall_eq, implies_true]
      have hY' : cs_Y (upd yr r v2) yf := cs_Y_ch hY (fun j hj => by
        by_cases e : j = r
        · rw [e, cs_upd_s]; exact Or.inl hn
        · rw [cs_upd_n e]; exact hY.1 j hj) hY.2.1 (fun a ha => cs_V_reg (r := r) (fun j hj => cs_upd_n hj) (fun a hw => absurd hw (by rw [cs_upd_s]; exact cs_num_nw (by omega) (by omega) hn)) ha)
      refine pk_loop (σ := SX) (fun n i u => wX_number_18 (fun r_1 u' => wpY_number (fun r' v' => r' = r_1 ∧ i_Rel (k + 4) u' v') (yr, yf) (nI r) v2) (nI r) v2 n (nI i) u.1 u.2.1 u.2.2.1 u.2.2.2.1 u.2.2.2.2.1 u.2.2.2.2.2.1 u.2.2.2.2.2.2.1 u.2.2.2.2.2.2.2.1 u.2.2.2.2.2.2.2.2.1 u.2.2.2.2.2.2.2.2.2.1 u.2.2.2.2.2.2.2.2.2.2.1 u.2.2.2.2.2.2.2.2.2.2.2.1 u.2.2.2.2.2.2.2.2.2.2.2.2.1 u.2.2.2.2.2.2.2.2.2.2.2.2.2.1 u.2.2.2.2.2.2.2.2.2.2.2.2.2.2.1 u.2.2.2.2.2.2.2.2.2.2.2.2.2.2.2) (fun i u => cs_LI yr yf (upd yr r v2) yf i u) 7 0 (f_reached, f_half, f_marking, a_register, a_field, a_kept, a_seen, a_queue, a_forward, a_trial, a_turn, a_partner, a_partnerBack, a_tally, a_remembered, a_shade) (by omega) ⟨fun d h => absurd h (Nat.not_lt_zero _), fun d _ h => hJ d h⟩ (fun n u hI => ?_) (fun n i u hi hI ih => ?_)
      · obtain ⟨f_reached, f_half, f_marking, a_register, a_field, a_kept, a_seen, a_queue, a_forward, a_trial, a_turn, a_partner, a_partnerBack, a_tally, a_remembered, a_shade⟩ := u
        have g : (7 : Int32) ≤ nI 7 := nI_le (a := 7) (by omega) (by omega)
        simp only [wX_number_18, g, wpY_number, not_true, not_false_iff, false_implies, true_implies, true_and, and_true, forall_eq, implies_true]
        refine yc ?_
        simp only [cs_n10, g1, g2, vr, kr, not_true, not_false_iff, false_implies, true_implies, true_and, and_true, forall_eq, implies_true]
        first | exact ⟨hI.1, hY'⟩ | exact ⟨rfl, hI.1, hY'⟩
      · obtain ⟨f_reached, f_half, f_marking, a_register, a_field, a_kept, a_seen, a_queue, a_forward, a_trial, a_turn, a_partner, a_partnerBack, a_tally, a_remembered, a_shade⟩ := u
        have g : ¬ (7 : Int32) ≤ nI i := nI_ge (b := 7) hi (by omega)
        simp only [wX_number_18, g, not_true, not_false_iff, false_implies, true_implies, true_and, and_true, forall_eq, implies_true]
        refine cs_setReg_J (y := v2) (yr := yr) (yf := yf) hi hr (hI.2 i (Nat.le_refl _) hi) (fun P _ => Or.inl ⟨hn, rfl⟩) (fun b hb => absurd hb (cs_num_nw (by omega) (by omega) hn)) (fun u' F J => ?_)
        have ih' := ih u' (cs_LI_s hI F J)
        obtain ⟨f_reached', f_half', f_marking', a_register', a_field', a_kept', a_seen', a_queue', a_forward', a_trial', a_turn', a_partner', a_partnerBack', a_tally', a_remembered', a_shade'⟩ := u'
        simp only [nI_1, not_true, not_false_iff, false_implies, true_implies, true_and, and_true, forall_eq, implies_true]
        exact ih'
theorem i_vc_copy {k : Nat} {u : SX} {v : SY} (I : i_Rel k u v) (hk : k + 4 ≤ 2048) (v1 : Int32) (v2 : Int32) : wpX_copy (fun r u' => wpY_copy (fun r' v' => r' = r ∧ i_Rel (k + 4) u' v') v v1 v2) u v1 v2 := by
  obtain ⟨f_reached, f_half, f_marking, a_register, a_field, a_kept, a_seen, a_queue, a_forward, a_trial, a_turn, a_partner, a_partnerBack, a_tally, a_remembered, a_shade⟩ := u
  obtain ⟨yr, yf⟩ := v
  obtain ⟨hJ, hY⟩ := I
  dsimp only at hY hJ
  simp only [wpX_copy]
  refine cs_isReg (fun hn => ?_) (fun r hr er => ?_)
  · simp only [wpY_copy, not_true, not_false_iff, false_implies, true_implies, true_and, and_true, forall_eq, implies_true]
    refine cs_yReg (fun _ => ?_) (fun r hr e => absurd e (hn r hr))
    simp only [not_true, not_false_iff, false_implies, true_implies, true_and, and_true, forall_eq, implies_true]
    first | exact ⟨hJ, hY⟩ | exact ⟨rfl, hJ, hY⟩
  · subst er
    have vr : vp_in (nI r) 6 := vp_in_nI hr (by omega)
    have kr : (nI r).toNatClampNeg = r := nI_clamp (by omega)
    have yc : ∀ r, r < 6 → ∀ {Q : Int32 → Prop}, Q 1 → wpY_isRegister Q (yr, yf) (nI r) := fun r hr Q hq => cs_yReg (fun h => absurd rfl (h r hr)) (fun _ _ _ => hq)
    simp only [cs_n10, not_true, not_false_iff, false_implies, true_implies, true_and, and_true, forall_eq, implies_true]
    refine cs_isReg (fun hn => ?_) (fun s hs es => ?_)
    · simp only [wpY_copy, not_true, not_false_iff, false_implies, true_implies, true_and, and_true, forall_eq, implies_true]
      refine yc r hr ?_
      simp only [cs_n10, not_true, not_false_iff, false_implies, true_implies, true_and, and_true, forall_eq, implies_true]
      refine cs_yReg (fun _ => ?_) (fun r hr e => absurd e (hn r hr))
      simp only [not_true, not_false_iff, false_implies, true_implies, true_and, and_true, forall_eq, implies_true]
      first | exact ⟨hJ, hY⟩ | exact ⟨rfl, hJ, hY⟩
    · subst es
      have vs : vp_in (nI s) 6 := vp_in_nI hs (by omega)
      have ks : (nI s).toNatClampNeg = s := nI_clamp (by omega)
      simp only [cs_n10, not_true, not_false_iff, false_implies, true_implies, true_and, and_true, forall_eq, implies_true]
      have hY' : cs_Y (upd yr r (yr s)) yf := cs_Y_ch hY (fun j hj => by
        by_cases e : j = r
        · rw [e, cs_upd_s]; exact hY.1 s hs
        · rw [cs_upd_n e]; exact hY.1 j hj) hY.2.1 (fun a ha => cs_V_reg (r := r) (fun j hj => cs_upd_n hj) (fun a hw => by
          rw [cs_upd_s] at hw
          exact cs_R_b ⟨s, by omega, hs, by rw [Nat.zero_add]; exact hw⟩) ha)
      refine pk_loop (σ := SX) (fun n i u => wX_copy_18 (fun r_1 u' => wpY_copy (fun r' v' => r' = r_1 ∧ i_Rel (k + 4) u' v') (yr, yf) (nI r) (nI s)) (nI r) (nI s) n (nI i) u.1 u.2.1 u.2.2.1 u.2.2.2.1 u.2.2.2.2.1 u.2.2.2.2.2.1 u.2.2.2.2.2.2.1 u.2.2.2.2.2.2.2.1 u.2.2.2.2.2.2.2.2.1 u.2.2.2.2.2.2.2.2.2.1 u.2.2.2.2.2.2.2.2.2.2.1 u.2.2.2.2.2.2.2.2.2.2.2.1 u.2.2.2.2.2.2.2.2.2.2.2.2.1 u.2.2.2.2.2.2.2.2.2.2.2.2.2.1 u.2.2.2.2.2.2.2.2.2.2.2.2.2.2.1 u.2.2.2.2.2.2.2.2.2.2.2.2.2.2.2) (fun i u => cs_LI yr yf (upd yr r (yr s)) yf i u) 7 0 (f_reached, f_half, f_marking, a_register, a_field, a_kept, a_seen, a_queue, a_forward, a_trial, a_turn, a_partner, a_partnerBack, a_tally, a_remembered, a_shade) (by omega) ⟨fun d h => absurd h (Nat.not_lt_zero _), fun d _ h => hJ d h⟩ (fun n u hI => ?_) (fun n i u hi hI ih => ?_)
      · obtain ⟨f_reached, f_half, f_marking, a_register, a_field, a_kept, a_seen, a_queue, a_forward, a_trial, a_turn, a_partner, a_partnerBack, a_tally, a_remembered, a_shade⟩ := u
        have g : (7 : Int32) ≤ nI 7 := nI_le (a := 7) (by omega) (by omega)
        simp only [wX_copy_18, g, wpY_copy, not_true, not_false_iff, false_implies, true_implies, true_and, and_true, forall_eq, implies_true]
        refine yc r hr ?_
        simp only [cs_n10, not_true, not_false_iff, false_implies, true_implies, true_and, and_true, forall_eq, implies_true]
        refine yc s hs ?_
        simp only [cs_n10, vr, kr, vs, ks, not_true, not_false_iff, false_implies, true_implies, true_and, and_true, forall_eq, implies_true]
        first | exact ⟨hI.1, hY'⟩ | exact ⟨rfl, hI.1, hY'⟩
      · obtain ⟨f_reached, f_half, f_marking, a_register, a_field, a_kept, a_seen, a_queue, a_forward, a_trial, a_turn, a_partner, a_partnerBack, a_tally, a_remembered, a_shade⟩ := u
        have g : ¬ (7 : Int32) ≤ nI i := nI_ge (b := 7) hi (by omega)
        have vv : vp_in (nI (6 * i + s)) 42 := vp_in_nI (by omega) (by omega)
        have kk : (nI (6 * i + s)).toNatClampNeg = 6 * i + s := nI_clamp (by omega)
        simp only [wX_copy_18, g, cs_i6, vv, kk, not_true, not_false_iff, false_implies, true_implies, true_and, and_true, forall_eq, implies_true]
        refine cs_setReg_J (y := yr s) (yr := yr) (yf := yf) hi hr (hI.2 i (Nat.le_refl _) hi) (fun P IP => IP.2.2.2.1 s hs) (fun b hb => Or.inl ⟨s, by omega, hs, hb⟩) (fun u' F J => ?_)
        have ih' := ih u' (cs_LI_s hI F J)
        obtain ⟨f_reached', f_half', f_marking', a_register', a_field', a_kept', a_seen', a_queue', a_forward', a_trial', a_turn', a_partner', a_partnerBack', a_tally', a_remembered', a_shade'⟩ := u'
        simp only [nI_1, not_true, not_false_iff, false_implies, true_implies, true_and, and_true, forall_eq, implies_true]
        exact ih'
theorem i_vc_get {k : Nat} {u : SX} {v : SY} (I : i_Rel k u v) (hk : k + 4 ≤ 2048) (v1 : Int32) (v2 : Int32) (v3 : Int32) : wpX_get (fun r u' => wpY_get (fun r' v' => r' = r ∧ i_Rel (k + 4) u' v') v v1 v2 v3) u v1 v2 v3 := by
  obtain ⟨f_reached, f_half, f_marking, a_register, a_field, a_kept, a_seen, a_queue, a_forward, a_trial, a_turn, a_partner, a_partnerBack, a_tally, a_remembered, a_shade⟩ := u
  obtain ⟨yr, yf⟩ := v
  obtain ⟨hJ, hY⟩ := I
  dsimp only at hY hJ
  have yc : ∀ r, r < 6 → ∀ {Q : Int32 → Prop}, Q 1 → wpY_isRegister Q (yr, yf) (nI r) := fun r hr Q hq => cs_yReg (fun h => absurd rfl (h r hr)) (fun _ _ _ => hq)
  have yh0 : ∀ r, r < 6 → cs_num (yr r) → ∀ {Q : Int32 → Prop}, Q 0 → wpY_holds Q (yr, yf) (nI r) := fun r hr hn Q hq => cs_yHolds hY (fun _ => hq) (fun _ _ _ _ => hq) (fun r' a hr' ha e e2 => by
    have : r' = r := cs_nIinj (by omega) (by omega) e.symm
    subst this
    exact absurd (⟨by omega, e2⟩ : cs_w 10000 (yr r') a) (cs_num_nw (by omega) (by omega) hn))
  have yh1 : ∀ r, r < 6 → ∀ a, a < 48 → yr r = nI (10000 + a) → ∀ {Q : Int32 → Prop}, Q 1 → wpY_holds Q (yr, yf) (nI r) := fun r hr a ha ea Q hq => cs_yHolds hY (fun h => absurd rfl (h r hr)) (fun r' hr' e hn => by
    have : r' = r := cs_nIinj (by omega) (by omega) e.symm
    subst this
    exact absurd (⟨by omega, ea⟩ : cs_w 10000 (yr r') a) (cs_num_nw (by omega) (by omega) hn)) (fun _ _ _ _ _ _ => hq)
  simp only [wpX_get]
  refine cs_isReg (fun hn => ?_) (fun r hr er => ?_)
  · simp only [wpY_get, not_true, not_false_iff, false_implies, true_implies, true_and, and_true, forall_eq, implies_true]
    refine cs_yReg (fun _ => ?_) (fun r hr e => absurd e (hn r hr))
    simp only [not_true, not_false_iff, false_implies, true_implies, true_and, and_true, forall_eq, implies_true]
    first | exact ⟨hJ, hY⟩ | exact ⟨rfl, hJ, hY⟩
  · subst er
    simp only [cs_n10, not_true, not_false_iff, false_implies, true_implies, true_and, and_true, forall_eq, implies_true]
    refine cs_isReg (fun hn => ?_) (fun s hs es => ?_)
    · simp only [wpY_get, not_true, not_false_iff, false_implies, true_implies, true_and, and_true, forall_eq, implies_true]
      refine yc r hr ?_
      simp only [cs_n10, not_true, not_false_iff, false_implies, true_implies, true_and, and_true, forall_eq, implies_true]
      refine cs_yHolds hY (fun _ => ?_) (fun r hr e _ => absurd e (hn r hr)) (fun r a hr _ e _ => absurd e (hn r hr))
      simp only [not_true, not_false_iff, false_implies, true_implies, true_and, and_true, forall_eq, implies_true]
      first | exact ⟨hJ, hY⟩ | exact ⟨rfl, hJ, hY⟩
    · subst es
      simp only [cs_n10, not_true, not_false_iff, false_implies, true_implies, true_and, and_true, forall_eq, implies_true]
      refine cs_isFld (fun hn => ?_) (fun f hf ef => ?_)
      · simp only [wpY_get, not_true, not_false_iff, false_implies, true_implies, true_and, and_true, forall_eq, implies_true]
        refine yc r hr ?_
        simp only [cs_n10, not_true, not_false_iff, false_implies, true_implies, true_and, and_true, forall_eq, implies_true]
        rcases hY.1 s hs with h0 | ⟨a, ha, e⟩
        · refine yh0 s hs h0 ?_
          simp only [not_true, not_false_iff, false_implies, true_implies, true_and, and_true, forall_eq, implies_true]
          first | exact ⟨hJ, hY⟩ | exact ⟨rfl, hJ, hY⟩
        · refine yh1 s hs a ha e ?_
          simp only [cs_n10, not_true, not_false_iff, false_implies, true_implies, true_and, and_true, forall_eq, implies_true]
          refine cs_yFld (fun _ => ?_) (fun r hr e => absurd e (hn r hr))
          simp only [not_true, not_false_iff, false_implies, true_implies, true_and, and_true, forall_eq, implies_true]
          first | exact ⟨hJ, hY⟩ | exact ⟨rfl, hJ, hY⟩
      · subst ef
        simp only [cs_n10, not_true, not_false_iff, false_implies, true_implies, true_and, and_true, forall_eq, implies_true]
        refine cs_refers hs hJ (hY.1 s hs) (fun h0 => ?_) (fun a ha e => ?_)
        · simp only [wpY_get, not_true, not_false_iff, false_implies, true_implies, true_and, and_true, forall_eq, implies_true]
          refine yc r hr ?_
          simp only [cs_n10, not_true, not_false_iff, false_implies, true_implies, true_and, and_true, forall_eq, implies_true]
          refine yh0 s hs h0 ?_
          simp only [not_true, not_false_iff, false_implies, true_implies, true_and, and_true, forall_eq, implies_true]
          first | exact ⟨hJ, hY⟩ | exact ⟨rfl, hJ, hY⟩
        · simp only [cs_n10, not_true, not_false_iff, false_implies, true_implies, true_and, and_true, forall_eq, implies_true]
          have vr : vp_in (nI r) 6 := vp_in_nI hr (by omega)
          have kr : (nI r).toNatClampNeg = r := nI_clamp (by omega)
          have va : vp_in (nI (3 * a + f)) 144 := vp_in_nI (by omega) (by omega)
          have ka : (nI (3 * a + f)).toNatClampNeg = 3 * a + f := nI_clamp (by omega)
          have hY' : cs_Y (upd yr r (yf (3 * a + f))) yf := cs_Y_ch hY (fun j hj => by
            by_cases e : j = r
            · rw [e, cs_upd_s]; exact hY.2.1 _ (by omega)
            · rw [cs_upd_n e]; exact hY.1 j hj) hY.2.1 (fun a' ha' => cs_V_reg (r := r) (fun j hj => cs_upd_n hj) (fun a2 hw => by
              rw [cs_upd_s] at hw
              exact cs_R_s (x := a) (cs_R_b ⟨s, by omega, hs, by rw [Nat.zero_add]; exact ⟨by omega, e⟩⟩) ⟨f, hf, hw⟩) ha')
          refine pk_loop (σ := SX) (fun n i u => wX_get_34 (fun r_1 u' => wpY_get (fun r' v' => r' = r_1 ∧ i_Rel (k + 4) u' v') (yr, yf) (nI r) (nI s) (nI f)) (nI r) (nI s) (nI f) n (nI i) u.1 u.2.1 u.2.2.1 u.2.2.2.1 u.2.2.2.2.1 u.2.2.2.2.2.1 u.2.2.2.2.2.2.1 u.2.2.2.2.2.2.2.1 u.2.2.2.2.2.2.2.2.1 u.2.2.2.2.2.2.2.2.2.1 u.2.2.2.2.2.2.2.2.2.2.1 u.2.2.2.2.2.2.2.2.2.2.2.1 u.2.2.2.2.2.2.2.2.2.2.2.2.1 u.2.2.2.2.2.2.2.2.2.2.2.2.2.1 u.2.2.2.2.2.2.2.2.2.2.2.2.2.2.1 u.2.2.2.2.2.2.2.2.2.2.2.2.2.2.2) (fun i u => cs_LI yr yf (upd yr r (yf (3 * a + f))) yf i u) 7 0 (f_reached, f_half, f_marking, a_register, a_field, a_kept, a_seen, a_queue, a_forward, a_trial, a_turn, a_partner, a_partnerBack, a_tally, a_remembered, a_shade) (by omega) ⟨fun d h => absurd h (Nat.not_lt_zero _), fun d _ h => hJ d h⟩ (fun n u hI => ?_) (fun n i u hi hI ih => ?_)
          · obtain ⟨f_reached, f_half, f_marking, a_register, a_field, a_kept, a_seen, a_queue, a_forward, a_trial, a_turn, a_partner, a_partnerBack, a_tally, a_remembered, a_shade⟩ := u
            have g : (7 : Int32) ≤ nI 7 := nI_le (a := 7) (by omega) (by omega)
            simp only [wX_get_34, g, wpY_get, not_true, not_false_iff, false_implies, true_implies, true_and, and_true, forall_eq, implies_true]
            refine yc r hr ?_
            simp only [cs_n10, not_true, not_false_iff, false_implies, true_implies, true_and, and_true, forall_eq, implies_true]
            refine yh1 s hs a ha e ?_
            simp only [cs_n10, not_true, not_false_iff, false_implies, true_implies, true_and, and_true, forall_eq, implies_true]
            refine cs_yFld (fun h => absurd rfl (h f hf)) (fun _ _ _ => ?_)
            simp only [cs_n10, not_true, not_false_iff, false_implies, true_implies, true_and, and_true, forall_eq, implies_true]
            refine cs_yPlace hs e ?_
            simp only [va, ka, vr, kr, not_true, not_false_iff, false_implies, true_implies, true_and, and_true, forall_eq, implies_true]
            first | exact ⟨hI.1, hY'⟩ | exact ⟨rfl, hI.1, hY'⟩
          · obtain ⟨f_reached, f_half, f_marking, a_register, a_field, a_kept, a_seen, a_queue, a_forward, a_trial, a_turn, a_partner, a_partnerBack, a_tally, a_remembered, a_shade⟩ := u
            have g : ¬ (7 : Int32) ≤ nI i := nI_ge (b := 7) hi (by omega)
            have Ji : cs_J i f_half f_marking a_register a_field a_kept a_tally a_remembered a_shade yr yf := hI.2 i (Nat.le_refl _) hi
            obtain ⟨b, b1, b2, b3⟩ := cs_J_at hi Ji hs ha e
            have b2' := b2
            unfold cs_sg at b2'
            have vv : vp_in (nI (3 * b + f)) 1008 := vp_in_nI (by omega) (by omega)
            have kk : (nI (3 * b + f)).toNatClampNeg = 3 * b + f := nI_clamp (by omega)
            simp only [wX_get_34, g, not_true, not_false_iff, false_implies, true_implies, true_and, and_true, forall_eq, implies_true]
            refine cs_cellOf_ref hi hs (by omega) b1 ?_
            simp only [cs_i3, vv, kk, not_true, not_false_iff, false_implies, true_implies, true_and, and_true, forall_eq, implies_true]
            refine cs_setReg_J (y := yf (3 * a + f)) (yr := yr) (yf := yf) hi hr (hI.2 i (Nat.le_refl _) hi) (fun P IP => ?_) (fun b' hb' => Or.inr ⟨b, ⟨s, by omega, hs, by omega, b1⟩, ⟨f, hf, hb'⟩⟩) (fun u' F J => ?_)
            · obtain ⟨b', p1, p2, p3, p4⟩ := cs_I_at hi IP hs ha e
              unfold cs_sg at p3
              have : b = b' := by
                have := cs_nIinj (by omega) (by omega) (b1.symm.trans p2)
                omega
              rw [this]
              exact IP.2.2.2.2 a b' p1 f hf
            · have ih' := ih u' (cs_LI_s hI F J)
              obtain ⟨f_reached', f_half', f_marking', a_register', a_field', a_kept', a_seen', a_queue', a_forward', a_trial', a_turn', a_partner', a_partnerBack', a_tally', a_remembered', a_shade'⟩ := u'
              simp only [nI_1, not_true, not_false_iff, false_implies, true_implies, true_and, and_true, forall_eq, implies_true]
              exact ih'
theorem i_vc_put {k : Nat} {u : SX} {v : SY} (I : i_Rel k u v) (hk : k + 4 ≤ 2048) (v1 : Int32) (v2 : Int32) (v3 : Int32) : wpX_put (fun r u' => wpY_put (fun r' v' => r' = r ∧ i_Rel (k + 4) u' v') v v1 v2 v3) u v1 v2 v3 := by
  obtain ⟨f_reached, f_half, f_marking, a_register, a_field, a_kept, a_seen, a_queue, a_forward, a_trial, a_turn, a_partner, a_partnerBack, a_tally, a_remembered, a_shade⟩ := u
  obtain ⟨yr, yf⟩ := v
  obtain ⟨hJ, hY⟩ := I
  dsimp only at hY hJ
  have yh0 : ∀ r, r < 6 → cs_num (yr r) → ∀ {Q : Int32 → Prop}, Q 0 → wpY_holds Q (yr, yf) (nI r) := fun r hr hn Q hq => cs_yHolds hY (fun _ => hq) (fun _ _ _ _ => hq) (fun r' a hr' ha e e2 => by
    have : r' = r := cs_nIinj (by omega) (by omega) e.symm
    subst this
    exact absurd (⟨by omega, e2⟩ : cs_w 10000 (yr r') a) (cs_num_nw (by omega) (by omega) hn))
  have yh1 : ∀ r, r < 6 → ∀ a, a < 48 → yr r = nI (10000 + a) → ∀ {Q : Int32 → Prop}, Q 1 → wpY_holds Q (yr, yf) (nI r) := fun r hr a ha ea Q hq => cs_yHolds hY (fun h => absurd rfl (h r hr)) (fun r' hr' e hn => by
    have : r' = r := cs_nIinj (by omega) (by omega) e.symm
    subst this
    exact absurd (⟨by omega, ea⟩ : cs_w 10000 (yr r') a) (cs_num_nw (by omega) (by omega) hn)) (fun _ _ _ _ _ _ => hq)
  have yf1 : ∀ f, f < 3 → ∀ {Q : Int32 → Prop}, Q 1 → wpY_isField Q (yr, yf) (nI f) := fun f hf Q hq => cs_yFld (fun h => absurd rfl (h f hf)) (fun _ _ _ => hq)
  simp only [wpX_put]
  refine cs_isReg (fun hn => ?_) (fun r hr er => ?_)
  · simp only [wpY_put, not_true, not_false_iff, false_implies, true_implies, true_and, and_true, forall_eq, implies_true]
    refine cs_yHolds hY (fun _ => ?_) (fun r hr e _ => absurd e (hn r hr)) (fun r a hr _ e _ => absurd e (hn r hr))
    simp only [not_true, not_false_iff, false_implies, true_implies, true_and, and_true, forall_eq, implies_true]
    first | exact ⟨hJ, hY⟩ | exact ⟨rfl, hJ, hY⟩
  · subst er
    simp only [cs_n10, not_true, not_false_iff, false_implies, true_implies, true_and, and_true, forall_eq, implies_true]
    refine cs_isFld (fun hn => ?_) (fun f hf ef => ?_)
    · simp only [wpY_put, not_true, not_false_iff, false_implies, true_implies, true_and, and_true, forall_eq, implies_true]
      rcases hY.1 r hr with h0 | ⟨a, ha, e⟩
      · refine yh0 r hr h0 ?_
        simp only [not_true, not_false_iff, false_implies, true_implies, true_and, and_true, forall_eq, implies_true]
        first | exact ⟨hJ, hY⟩ | exact ⟨rfl, hJ, hY⟩
      · refine yh1 r hr a ha e ?_
        simp only [cs_n10, not_true, not_false_iff, false_implies, true_implies, true_and, and_true, forall_eq, implies_true]
        refine cs_yFld (fun _ => ?_) (fun r hr e => absurd e (hn r hr))
        simp only [not_true, not_false_iff, false_implies, true_implies, true_and, and_true, forall_eq, implies_true]
        first | exact ⟨hJ, hY⟩ | exact ⟨rfl, hJ, hY⟩
    · subst ef
      simp only [cs_n10, not_true, not_false_iff, false_implies, true_implies, true_and, and_true, forall_eq, implies_true]
      refine cs_isReg (fun hn => ?_) (fun s hs es => ?_)
      · simp only [wpY_put, not_true, not_false_iff, false_implies, true_implies, true_and, and_true, forall_eq, implies_true]
        rcases hY.1 r hr with h0 | ⟨a, ha, e⟩
        · refine yh0 r hr h0 ?_
          simp only [not_true, not_false_iff, false_implies, true_implies, true_and, and_true, forall_eq, implies_true]
          first | exact ⟨hJ, hY⟩ | exact ⟨rfl, hJ, hY⟩
        · refine yh1 r hr a ha e ?_
          simp only [cs_n10, not_true, not_false_iff, false_implies, true_implies, true_and, and_true, forall_eq, implies_true]
          refine yf1 f hf ?_
          simp only [cs_n10, not_true, not_false_iff, false_implies, true_implies, true_and, and_true, forall_eq, implies_true]
          refine cs_yReg (fun _ => ?_) (fun r hr e => absurd e (hn r hr))
          simp only [not_true, not_false_iff, false_implies, true_implies, true_and, and_true, forall_eq, implies_true]
          first | exact ⟨hJ, hY⟩ | exact ⟨rfl, hJ, hY⟩
      · subst es
        simp only [cs_n10, not_true, not_false_iff, false_implies, true_implies, true_and, and_true, forall_eq, implies_true]
        refine cs_refers hr hJ (hY.1 r hr) (fun h0 => ?_) (fun a ha e => ?_)
        · simp only [wpY_put, not_true, not_false_iff, false_implies, true_implies, true_and, and_true, forall_eq, implies_true]
          refine yh0 r hr h0 ?_
          simp only [not_true, not_false_iff, false_implies, true_implies, true_and, and_true, forall_eq, implies_true]
          first | exact ⟨hJ, hY⟩ | exact ⟨rfl, hJ, hY⟩
        · simp only [cs_n10, not_true, not_false_iff, false_implies, true_implies, true_and, and_true, forall_eq, implies_true]
          have vs : vp_in (nI s) 6 := vp_in_nI hs (by omega)
          have ks : (nI s).toNatClampNeg = s := nI_clamp (by omega)
          have va : vp_in (nI (3 * a + f)) 144 := vp_in_nI (by omega) (by omega)
          have ka : (nI (3 * a + f)).toNatClampNeg = 3 * a + f := nI_clamp (by omega)
          have hY' : cs_Y yr (upd yf (3 * a + f) (yr s)) := cs_Y_ch hY hY.1 (fun j hj => by
            by_cases e : j = 3 * a + f
            · rw [e, cs_upd_s]; exact hY.1 s hs
            · rw [cs_upd_n e]; exact hY.2.1 j hj) (fun a' ha' => cs_V_fld (k := 3 * a + f) (fun j hj => cs_upd_n hj) (fun a2 hw => by
              rw [cs_upd_s] at hw
              exact cs_R_b ⟨s, by omega, hs, by rw [Nat.zero_add]; exact hw⟩) ha')
          refine pk_loop (σ := SX) (fun n i u => wX_put_34 (fun r_1 u' => wpY_put (fun r' v' => r' = r_1 ∧ i_Rel (k + 4) u' v') (yr, yf) (nI r) (nI f) (nI s)) (nI r) (nI f) (nI s) n (nI i) u.1 u.2.1 u.2.2.1 u.2.2.2.1 u.2.2.2.2.1 u.2.2.2.2.2.1 u.2.2.2.2.2.2.1 u.2.2.2.2.2.2.2.1 u.2.2.2.2.2.2.2.2.1 u.2.2.2.2.2.2.2.2.2.1 u.2.2.2.2.2.2.2.2.2.2.1 u.2.2.2.2.2.2.2.2.2.2.2.1 u.2.2.2.2.2.2.2.2.2.2.2.2.1 u.2.2.2.2.2.2.2.2.2.2.2.2.2.1 u.2.2.2.2.2.2.2.2.2.2.2.2.2.2.1 u.2.2.2.2.2.2.2.2.2.2.2.2.2.2.2) (fun i u => cs_LI yr yf yr (upd yf (3 * a + f) (yr s)) i u) 7 0 (f_reached, f_half, f_marking, a_register, a_field, a_kept, a_seen, a_queue, a_forward, a_trial, a_turn, a_partner, a_partnerBack, a_tally, a_remembered, a_shade) (by omega) ⟨fun d h => absurd h (Nat.not_lt_zero _), fun d _ h => hJ d h⟩ (fun n u hI => ?_) (fun n i u hi hI ih => ?_)
          · obtain ⟨f_reached, f_half, f_marking, a_register, a_field, a_kept, a_seen, a_queue, a_forward, a_trial, a_turn, a_partner, a_partnerBack, a_tally, a_remembered, a_shade⟩ := u
            have g : (7 : Int32) ≤ nI 7 := nI_le (a := 7) (by omega) (by omega)
            simp only [wX_put_34, g, wpY_put, not_true, not_false_iff, false_implies, true_implies, true_and, and_true, forall_eq, implies_true]
            refine yh1 r hr a ha e ?_
            simp only [cs_n10, not_true, not_false_iff, false_implies, true_implies, true_and, and_true, forall_eq, implies_true]
            refine yf1 f hf ?_
            simp only [cs_n10, not_true, not_false_iff, false_implies, true_implies, true_and, and_true, forall_eq, implies_true]
            refine cs_yReg (fun h => absurd rfl (h s hs)) (fun _ _ _ => ?_)
            simp only [cs_n10, not_true, not_false_iff, false_implies, true_implies, true_and, and_true, forall_eq, implies_true]
            refine cs_yPlace hr e ?_
            simp only [va, ka, vs, ks, not_true, not_false_iff, false_implies, true_implies, true_and, and_true, forall_eq, implies_true]
            first | exact ⟨hI.1, hY'⟩ | exact ⟨rfl, hI.1, hY'⟩
          · obtain ⟨f_reached, f_half, f_marking, a_register, a_field, a_kept, a_seen, a_queue, a_forward, a_trial, a_turn, a_partner, a_partnerBack, a_tally, a_remembered, a_shade⟩ := u
            have g : ¬ (7 : Int32) ≤ nI i := nI_ge (b := 7) hi (by omega)
            have Ji : cs_J i f_half f_marking a_register a_field a_kept a_tally a_remembered a_shade yr yf := hI.2 i (Nat.le_refl _) hi
            obtain ⟨b, b1, b2, b3⟩ := cs_J_at hi Ji hr ha e
            unfold cs_sg at b2
            have vv : vp_in (nI (6 * i + s)) 42 := vp_in_nI (by omega) (by omega)
            have kk : (nI (6 * i + s)).toNatClampNeg = 6 * i + s := nI_clamp (by omega)
            simp only [wX_put_34, g, not_true, not_false_iff, false_implies, true_implies, true_and, and_true, forall_eq, implies_true]
            refine cs_cellOf_ref hi hr (by omega) b1 ?_
            simp only [cs_i6, vv, kk, not_true, not_false_iff, false_implies, true_implies, true_and, and_true, forall_eq, implies_true]
            refine cs_setFld_J (u := (f_reached, f_half, f_marking, a_register, a_field, a_kept, a_seen, a_queue, a_forward, a_trial, a_turn, a_partner, a_partnerBack, a_tally, a_remembered, a_shade)) (yr := yr) (yf := yf) hi hr hs hf ha (by omega) Ji e b1 (fun u' F J => ?_)
            have ih' := ih u' (cs_LI_s hI F J)
            obtain ⟨f_reached', f_half', f_marking', a_register', a_field', a_kept', a_seen', a_queue', a_forward', a_trial', a_turn', a_partner', a_partnerBack', a_tally', a_remembered', a_shade'⟩ := u'
            simp only [nI_1, not_true, not_false_iff, false_implies, true_implies, true_and, and_true, forall_eq, implies_true]
            exact ih'
end
section
/-! make -/
def cs_roomU (c : Nat) (u : SX) : Prop := ∃ lo hi b, cs_re c u.2.1 lo hi ∧ lo ≤ b ∧ b < hi ∧ u.2.2.2.2.2.1 b = 0
theorem cs_roomU_fr {c d : Nat} {u u' : SX} (hd : d < 7) (hdc : d ≠ c) (F : cs_FU c u u') (h : cs_roomU d u) : cs_roomU d u' := by
  obtain ⟨f1, f2, f3, f4, f5⟩ := F
  obtain ⟨lo, hi, b, r, b1, b2, b3⟩ := h
  have rin := cs_re_in hd r
  refine ⟨lo, hi, b, ⟨fun e => ?_, r.2.1, r.2.2⟩, b1, b2, ?_⟩
  · have := r.1 e
    exact ⟨by rw [f1 (by omega)]; exact this.1, this.2⟩
  · rw [(f5 b (fun z => by unfold cs_sg at z; omega)).1]; exact b3
theorem cs_re_ex {c : Nat} {h m : Int32} {xr xf xk tl rm sh yr yf : Nat → Int32} (J : cs_J c h m xr xf xk tl rm sh yr yf) : ∃ lo hi, cs_re c h lo hi := by
  by_cases e1 : c = 1
  · obtain ⟨H, a1, a2, _⟩ := J.2.2.1 e1
    exact ⟨H, H + 24, fun _ => ⟨a1, a2, rfl⟩, fun e => by omega, fun e => absurd e1 e⟩
  · by_cases e4 : c = 4
    · exact ⟨192, 208, fun e => absurd e e1, fun _ => ⟨rfl, rfl⟩, fun _ e => absurd e4 e⟩
    · exact ⟨48 * c, 48 * c + 48, fun e => absurd e e1, fun e => absurd e e4, fun _ _ => ⟨rfl, rfl⟩⟩
theorem cs_room_X {c : Nat} {h : Int32} {xr xf xk yr yf : Nat → Int32} (hc : c < 7) (hY : cs_n (cs_V 10000 yr 0 0 6 yf) 48 < 24) (X : cs_X c xr xf xk yr yf) (h4 : c = 4 → ∀ b, 192 ≤ b → b < 208 → xk b = 0) {lo hi : Nat} (R : cs_re c h lo hi) : ∃ b, lo ≤ b ∧ b < hi ∧ xk b = 0 := by
  have cnt := cs_X_n hc X
  have rin := cs_re_in hc R
  by_cases e4 : c = 4
  · have := R.2.1 e4
    exact ⟨192, by omega, by omega, h4 e4 192 (by omega) (by omega)⟩
  · have len : 24 ≤ hi - lo := by
      by_cases e1 : c = 1
      · have := R.1 e1; omega
      · have := R.2.2 e1 e4; omega
    refine Classical.byContradiction fun hn => ?_
    have k := cs_q_le (A := fun i => ¬ xk (48 * c + i) = 0) (q := fun i => lo - 48 * c + i) (L := 24) (m := 48) (fun i hi' => ⟨by omega, fun z => hn ⟨lo + i, by omega, by omega, by
      rw [show 48 * c + (lo - 48 * c + i) = lo + i by omega] at z; exact z⟩⟩) (fun i j _ _ e => by omega)
    omega
theorem cs_mk63 {post : Int32 → SX → Prop} {c : Nat} {u : SX} (hc : c < 7) (R : cs_roomU c u) (K : post 1 u) : wX_makeRoom_63 post (nI c) u.1 u.2.1 u.2.2.1 u.2.2.2.1 u.2.2.2.2.1 u.2.2.2.2.2.1 u.2.2.2.2.2.2.1 u.2.2.2.2.2.2.2.1 u.2.2.2.2.2.2.2.2.1 u.2.2.2.2.2.2.2.2.2.1 u.2.2.2.2.2.2.2.2.2.2.1 u.2.2.2.2.2.2.2.2.2.2.2.1 u.2.2.2.2.2.2.2.2.2.2.2.2.1 u.2.2.2.2.2.2.2.2.2.2.2.2.2.1 u.2.2.2.2.2.2.2.2.2.2.2.2.2.2.1 u.2.2.2.2.2.2.2.2.2.2.2.2.2.2.2 := by
  obtain ⟨f_reached, f_half, f_marking, a_register, a_field, a_kept, a_seen, a_queue, a_forward, a_trial, a_turn, a_partner, a_partnerBack, a_tally, a_remembered, a_shade⟩ := u
  obtain ⟨lo, hi, b, r, b1, b2, b3⟩ := R
  dsimp only at r b3 ⊢
  have rin := cs_re_in hc r
  simp only [wX_makeRoom_63]
  refine cs_freeCell hc r (fun h => absurd b3 (h b b1 b2)) (fun b' h1 h2 h3 h4 => ?_)
  have g : ¬ nI b' = -1 := cs_nIm1 (by omega)
  simp only [g, not_true, not_false_iff, false_implies, true_implies, true_and, and_true, forall_eq, implies_true]
  exact K
theorem cs_mk9 {post : Int32 → SX → Prop} {c : Nat} {u : SX} {yr yf : Nat → Int32} (hc : c < 7) (hY : cs_n (cs_V 10000 yr 0 0 6 yf) 48 < 24) (J : cs_JU c u yr yf) (K : ∀ u', cs_FU c u u' → cs_JU c u' yr yf → cs_roomU c u' → post 1 u') : wX_makeRoom_9 post (nI c) u.1 u.2.1 u.2.2.1 u.2.2.2.1 u.2.2.2.2.1 u.2.2.2.2.2.1 u.2.2.2.2.2.2.1 u.2.2.2.2.2.2.2.1 u.2.2.2.2.2.2.2.2.1 u.2.2.2.2.2.2.2.2.2.1 u.2.2.2.2.2.2.2.2.2.2.1 u.2.2.2.2.2.2.2.2.2.2.2.1 u.2.2.2.2.2.2.2.2.2.2.2.2.1 u.2.2.2.2.2.2.2.2.2.2.2.2.2.1 u.2.2.2.2.2.2.2.2.2.2.2.2.2.2.1 u.2.2.2.2.2.2.2.2.2.2.2.2.2.2.2 := by
  obtain ⟨f_reached, f_half, f_marking, a_register, a_field, a_kept, a_seen, a_queue, a_forward, a_trial, a_turn, a_partner, a_partnerBack, a_tally, a_remembered, a_shade⟩ := u
  dsimp only
  have J' : cs_J c f_half f_marking a_register a_field a_kept a_tally a_remembered a_shade yr yf := J
  obtain ⟨lo, hi, R⟩ := cs_re_ex J'
  have rin := cs_re_in hc R
  simp only [wX_makeRoom_9]
  have run : wX_makeRoom_58 post (nI c) f_reached f_half f_marking a_register a_field a_kept a_seen a_queue a_forward a_trial a_turn a_partner a_partnerBack a_tally a_remembered a_shade := by
    simp only [wX_makeRoom_58]
    refine cs_run hc (by omega) J (fun u' F' J'' X' N' => ?_)
    have rm : cs_roomU c u' := by
      obtain ⟨lo, hi, R'⟩ := cs_re_ex (show cs_J c u'.2.1 u'.2.2.1 u'.2.2.2.1 u'.2.2.2.2.1 u'.2.2.2.2.2.1 u'.2.2.2.2.2.2.2.2.2.2.2.2.2.1 u'.2.2.2.2.2.2.2.2.2.2.2.2.2.2.1 u'.2.2.2.2.2.2.2.2.2.2.2.2.2.2.2 yr yf from J'')
      obtain ⟨b, b1, b2, b3⟩ := cs_room_X hc hY X' N' R'
      exact ⟨lo, hi, b, R', b1, b2, b3⟩
    have h := cs_mk63 hc rm (K u' F' J'' rm)
    obtain ⟨f_reached', f_half', f_marking', a_register', a_field', a_kept', a_seen', a_queue', a_forward', a_trial', a_turn', a_partner', a_partnerBack', a_tally', a_remembered', a_shade'⟩ := u'
    exact h
  refine cs_freeCell hc R (fun full => ?_) (fun b b1 b2 b3 b4 => ?_)
  · by_cases e4 : c = 4
    · subst e4
      have g4 : nI 4 = 4 := rfl
      have run' : wX_makeRoom_58 post 4 f_reached f_half f_marking a_register a_field a_kept a_seen a_queue a_forward a_trial a_turn a_partner a_partnerBack a_tally a_remembered a_shade := run
      simp only [g4, not_true, not_false_iff, false_implies, true_implies, true_and, and_true, forall_eq, implies_true]
      refine cs_freeCells (p := 208) (q := 240) (by omega) (by omega) ?_
      rw [show (240 - 208 : Nat) = 32 from rfl]
      by_cases g : nI (cs_n (fun i => a_kept (208 + i) = 0) 32) < 16
      · simp only [g, not_true, not_false_iff, false_implies, true_implies, true_and, and_true, forall_eq, implies_true]
        exact run'
      · simp only [g, not_true, not_false_iff, false_implies, true_implies, true_and, and_true, forall_eq, implies_true]
        have l32 := cs_n_le (fun i => a_kept (208 + i) = 0) 32
        have ge16 : 16 ≤ cs_n (fun i => a_kept (208 + i) = 0) 32 := Nat.le_of_not_lt fun z => g (nI_lt (b := 16) z (by omega))
        refine cs_age J' (Nat.le_trans (cs_n_le _ 16) ge16) (fun u' F' J'' _ N' => ?_)
        have rm : cs_roomU 4 u' := ⟨192, 208, 192, ⟨fun e => by omega, fun _ => ⟨rfl, rfl⟩, fun _ e => absurd rfl e⟩, by omega, by omega, N' 192 (by omega) (by omega)⟩
        have h := cs_mk63 (c := 4) (by omega) rm (K u' F' J'' rm)
        obtain ⟨f_reached', f_half', f_marking', a_register', a_field', a_kept', a_seen', a_queue', a_forward', a_trial', a_turn', a_partner', a_partnerBack', a_tally', a_remembered', a_shade'⟩ := u'
        exact h
    · have g4 : ¬ nI c = 4 := cs_ceq (k := 4) (by omega) (by omega) e4
      simp only [g4, not_true, not_false_iff, false_implies, true_implies, true_and, and_true, forall_eq, implies_true]
      exact run
  · have g : ¬ nI b = -1 := cs_nIm1 (by omega)
    simp only [g, not_true, not_false_iff, false_implies, true_implies, true_and, and_true, forall_eq, implies_true]
    exact K (f_reached, f_half, f_marking, a_register, a_field, a_kept, a_seen, a_queue, a_forward, a_trial, a_turn, a_partner, a_partnerBack, a_tally, a_remembered, a_shade) cs_Fr_rfl J ⟨lo, hi, b, R, b1, b2, b3⟩
theorem cs_mk {post : Int32 → SX → Prop} {c : Nat} {u : SX} {yr yf : Nat → Int32} (hc : c < 7) (hY : cs_n (cs_V 10000 yr 0 0 6 yf) 48 < 24) (J : cs_JU c u yr yf) (K : ∀ u', cs_FU c u u' → cs_JU c u' yr yf → cs_roomU c u' → post 1 u') : wpX_makeRoom post u (nI c) := by
  obtain ⟨f_reached, f_half, f_marking, a_register, a_field, a_kept, a_seen, a_queue, a_forward, a_trial, a_turn, a_partner, a_partnerBack, a_tally, a_remembered, a_shade⟩ := u
  by_cases e5 : c = 5
  · subst e5
    have g5 : nI 5 = 5 := rfl
    simp only [wpX_makeRoom, g5, not_true, not_false_iff, false_implies, true_implies, true_and, and_true, forall_eq, implies_true]
    refine cs_pace J (fun u' F' J'' => ?_)
    have h := cs_mk9 (post := post) (c := 5) (by omega) hY J'' (fun u2 F2 J2 R2 => K u2 (cs_FU_tr F' F2) J2 R2)
    obtain ⟨f_reached', f_half', f_marking', a_register', a_field', a_kept', a_seen', a_queue', a_forward', a_trial', a_turn', a_partner', a_partnerBack', a_tally', a_remembered', a_shade'⟩ := u'
    exact h
  · have g5 : ¬ nI c = 5 := cs_ceq (k := 5) (by omega) (by omega) e5
    simp only [wpX_makeRoom, g5, not_true, not_false_iff, false_implies, true_implies, true_and, and_true, forall_eq, implies_true]
    exact cs_mk9 (u := (f_reached, f_half, f_marking, a_register, a_field, a_kept, a_seen, a_queue, a_forward, a_trial, a_turn, a_partner, a_partnerBack, a_tally, a_remembered, a_shade)) hc hY J K
/-- a cell is taken and a register refers to it -/
theorem cs_mkTake {post : SX → Prop} {c r a0 : Nat} {u : SX} {yr yf yf' : Nat → Int32} (hc : c < 7) (hr : r < 6) (ha : a0 < 48) (hn : ¬ cs_V 10000 yr 0 0 6 yf a0) (y3 : ∀ f, f < 3 → yf' (3 * a0 + f) = 0) (y4 : ∀ j, j < 3 * a0 ∨ 3 * a0 + 3 ≤ j → yf' j = yf j) (J : cs_JU c u yr yf) (Rm : cs_roomU c u)
    (K : ∀ u', cs_FU c u u' → cs_JU c u' (upd yr r (nI (10000 + a0))) yf' → post u') : wpX_freeCell (fun b => wpX_takeCell (fun u' => wpX_setRegister post u' (nI c) (nI r) (1000 + b)) u b) u (nI c) := by
  obtain ⟨f_reached, f_half, f_marking, a_register, a_field, a_kept, a_seen, a_queue, a_forward, a_trial, a_turn, a_partner, a_partnerBack, a_tally, a_remembered, a_shade⟩ := u
  have J' : cs_J c f_half f_marking a_register a_field a_kept a_tally a_remembered a_shade yr yf := J
  obtain ⟨lo, hi, b9, R, q1, q2, q3⟩ := Rm
  dsimp only at R q3
  have rin := cs_re_in hc R
  refine cs_freeCell hc R (fun h => absurd q3 (h b9 q1 q2)) (fun b0 b1 b2 b3 b4 => ?_)
  refine cs_takeCell (by omega) (fun xf' sv x3 x4 s1 s2 => ?_)
  rw [cs_ref_add]
  have sg : cs_sg c b0 := ⟨by omega, by omega⟩
  have x4' : ∀ b f, b ≠ b0 → f < 3 → xf' (3 * b + f) = a_field (3 * b + f) := fun b f hb hf => x4 _ (by omega)
  have off : ∀ b, ¬ cs_sg c b → b ≠ b0 := fun b hb e => hb (by rw [e]; exact sg)
  have kk : ¬ upd a_kept b0 1 b0 = 0 := by rw [cs_upd_s]; exact cs_n10
  have ss : ¬ f_marking = 0 → upd a_shade b0 sv b0 = 2 := fun hm => by rw [cs_upd_s]; exact s2 hm
  by_cases e3 : c = 3
  · subst e3
    obtain ⟨⟨P, I⟩, W, ok, okw, H⟩ := cs_new3 (xf' := xf') (xk' := upd a_kept b0 1) (tl1 := upd a_tally b0 0) (yf' := yf') J' hr ha hn sg b3 y3 y4 x3 x4' (by rw [cs_upd_s]; exact cs_n10) (fun b hb => cs_upd_n hb) (cs_upd_s _ _ _) (fun b hb => cs_upd_n hb)
    refine cs_setReg_3 hr W ok okw H (fun xk' tl' q' L d1 d2 => ?_)
    refine K _ ⟨fun _ => rfl, fun _ => rfl, fun j hj => cs_upd_n (by omega), fun j hj => x4 j (by omega), fun b hb => ⟨(d2 b hb).1.trans (cs_upd_n (off b hb)), (d2 b hb).2.trans (cs_upd_n (off b hb)), cs_upd_n (off b hb), cs_upd_n (off b hb)⟩⟩ ?_
    exact cs_J3_fin I d1
  · refine cs_setReg_ne hc e3 hr ?_
    refine K _ ⟨fun _ => rfl, fun _ => rfl, fun j hj => cs_upd_n (by omega), fun j hj => x4 j (by omega), fun b hb => ⟨cs_upd_n (off b hb), cs_upd_n (off b hb), cs_upd_n (off b hb), cs_upd_n (off b hb)⟩⟩ ?_
    exact cs_J_new hc e3 J' hr ha hn sg b3 (fun e H hH hl => by
      obtain ⟨r1, r2, r3⟩ := R.1 e
      have : H = lo := cs_nIinj (by omega) (by omega) (hH.symm.trans r1)
      omega) (fun e b h1 h2 => by
      have := R.2.2 (by omega) (by omega)
      exact b4 b (by omega) h2) (fun e => by have := R.2.1 e; omega) y3 y4 rfl x3 x4' kk (fun b hb => cs_upd_n hb) (fun b hb => cs_upd_n hb) ss (fun b hb => cs_upd_n hb)
def cs_z (yf : Nat → Int32) (a : Nat) : Nat → Nat → Int32
  | 0 => yf
  | f + 1 => upd (cs_z yf a f) (3 * a + f) 0
theorem cs_z_in (yf : Nat → Int32) (a : Nat) : ∀ n f, f < n → cs_z yf a n (3 * a + f) = 0
  | 0, f, h => by omega
  | n + 1, f, h => by
    show upd (cs_z yf a n) (3 * a + n) 0 (3 * a + f) = 0
    by_cases e : f = n
    · rw [e, cs_upd_s]
    · rw [cs_upd_n (by omega)]; exact cs_z_in yf a n f (by omega)
theorem cs_z_out (yf : Nat → Int32) (a : Nat) : ∀ n j, ¬ (3 * a ≤ j ∧ j < 3 * a + n) → cs_z yf a n j = yf j
  | 0, j, h => rfl
  | n + 1, j, h => by
    show upd (cs_z yf a n) (3 * a + n) 0 j = yf j
    rw [cs_upd_n (by omega)]; exact cs_z_out yf a n j (by omega)
/-- the reference makes a cell -/
theorem cs_ymake {post : Int32 → SY → Prop} {yr yf : Nat → Int32} {r a0 : Nat} (hY : cs_Y yr yf) (hr : r < 6) (hn : cs_n (cs_V 10000 yr 0 0 6 yf) 48 < 24) (ha : a0 < 48) (h0 : ¬ cs_V 10000 yr 0 0 6 yf a0) (h1 : ∀ a, a < a0 → cs_V 10000 yr 0 0 6 yf a) (hY' : cs_Y (upd yr r (nI (10000 + a0))) (cs_z yf a0 3))
    (K : post (nI (cs_n (cs_V 10000 (upd yr r (nI (10000 + a0))) 0 0 6 (cs_z yf a0 3)) 48)) (upd yr r (nI (10000 + a0)), cs_z yf a0 3)) : wpY_make post (yr, yf) (nI r) := by
  have vr : vp_in (nI r) 6 := vp_in_nI hr (by omega)
  have kr : (nI r).toNatClampNeg = r := nI_clamp (by omega)
  simp only [wpY_make]
  refine cs_yReg (fun h => absurd rfl (h r hr)) (fun _ _ _ => ?_)
  simp only [cs_n10, not_true, not_false_iff, false_implies, true_implies, true_and, and_true, forall_eq, implies_true]
  refine cs_all hY (fun M m1 m2 => ?_)
  refine cs_ones m1 ?_
  have cn : cs_n (cs_B M) 48 = cs_n (cs_V 10000 yr 0 0 6 yf) 48 := cs_n_eq (fun a _ => m2 a)
  have g : nI (cs_n (cs_B M) 48) < 24 := nI_lt (b := 24) (by omega) (by omega)
  simp only [g, not_true, not_false_iff, false_implies, true_implies, true_and, and_true, forall_eq, implies_true]
  refine pk_loop (σ := Unit) (fun n i _ => wY_make_34 post (nI r) (lN M) yr yf n (nI i)) (fun _ _ => True) a0 0 () (by omega) trivial (fun n _ _ => ?_) (fun n i _ hi _ ih => ?_)
  · have z' : ¬ ((lN M >>> ((nI a0).toInt64 &&& 63)) &&& 1) = 1 := fun y => h0 ((m2 a0).mp ((cs_bit m1 ha).mp y))
    simp only [wY_make_34, z', not_true, not_false_iff, false_implies, true_implies, true_and, and_true, forall_eq, implies_true]
    refine pk_loop (σ := Nat → Int32) (fun n f t => wY_make_54 post (nI r) (nI a0) n (nI f) yr t) (fun f t => t = cs_z yf a0 f) 3 0 yf (by omega) rfl (fun n t hI => ?_) (fun n f t hf hI ih => ?_)
    · have g3 : (3 : Int32) ≤ nI 3 := nI_le (a := 3) (by omega) (by omega)
      have e : (10000 : Int32) + nI a0 = nI (10000 + a0) := nI_add 10000 a0
      simp only [wY_make_54, g3, vr, kr, e, hI, not_true, not_false_iff, false_implies, true_implies, true_and, and_true, forall_eq, implies_true]
      exact cs_ycount (post := fun r' => post r' (upd yr r (nI (10000 + a0)), cs_z yf a0 3)) hY' K
    · have g3 : ¬ (3 : Int32) ≤ nI f := nI_ge (b := 3) hf (by omega)
      have va : vp_in (nI (3 * a0 + f)) 144 := vp_in_nI (by omega) (by omega)
      have ka : (nI (3 * a0 + f)).toNatClampNeg = 3 * a0 + f := nI_clamp (by omega)
      simp only [wY_make_54, g3, cs_y3, va, ka, nI_1, not_true, not_false_iff, false_implies, true_implies, true_and, and_true, forall_eq, implies_true]
      exact ih _ (by rw [hI]; rfl)
  · have z' := (cs_bit (N := M) (k := i) m1 (by omega)).mpr ((m2 i).mpr (h1 i hi))
    simp only [wY_make_34, z', nI_1, not_true, not_false_iff, false_implies, true_implies, true_and, and_true, forall_eq, implies_true]
    exact ih () trivial
theorem i_vc_make {k : Nat} {u : SX} {v : SY} (I : i_Rel k u v) (hk : k + 4 ≤ 2048) (v1 : Int32) : wpX_make (fun r u' => wpY_make (fun r' v' => r' = r ∧ i_Rel (k + 4) u' v') v v1) u v1 := by
  obtain ⟨f_reached, f_half, f_marking, a_register, a_field, a_kept, a_seen, a_queue, a_forward, a_trial, a_turn, a_partner, a_partnerBack, a_tally, a_remembered, a_shade⟩ := u
  obtain ⟨yr, yf⟩ := v
  obtain ⟨hJ, hY⟩ := I
  dsimp only at hY hJ
  simp only [wpX_make]
  refine cs_isReg (fun hn => ?_) (fun r hr er => ?_)
  · simp only [wpY_make, not_true, not_false_iff, false_implies, true_implies, true_and, and_true, forall_eq, implies_true]
    refine cs_yReg (fun _ => ?_) (fun r hr e => absurd e (hn r hr))
    simp only [not_true, not_false_iff, false_implies, true_implies, true_and, and_true, forall_eq, implies_true]
    first | exact ⟨hJ, hY⟩ | exact ⟨rfl, hJ, hY⟩
  · subst er
    simp only [cs_n10, not_true, not_false_iff, false_implies, true_implies, true_and, and_true, forall_eq, implies_true]
    have J0 : cs_J 0 f_half f_marking a_register a_field a_kept a_tally a_remembered a_shade yr yf := hJ 0 (by omega)
    obtain ⟨P, IP⟩ := J0.1
    refine cs_trace (c := 0) (p := 0) (q := 6) (by omega) (by omega) (by omega) IP (fun L s q a1 a2 a3 => ?_)
    have hL := a1.1
    by_cases hlt : L < 24
    · have g : nI L < 24 := nI_lt (b := 24) hlt (by omega)
      simp only [g, not_true, not_false_iff, false_implies, true_implies, true_and, and_true, forall_eq, implies_true]
      have hn : cs_n (cs_V 10000 yr 0 0 6 yf) 48 < 24 := by omega
      obtain ⟨a0, ⟨ha, h0⟩, h1⟩ := pk_least (fun a => a < 48 ∧ ¬ cs_V 10000 yr 0 0 6 yf a) (by
        obtain ⟨a, b1, b2⟩ := cs_n_ex (P := cs_V 10000 yr 0 0 6 yf) (N := 48) (by omega)
        exact ⟨a, b1, b2⟩)
      have h1' : ∀ a, a < a0 → cs_V 10000 yr 0 0 6 yf a := fun a h => Classical.byContradiction fun z => h1 a h ⟨by omega, z⟩
      have y3 : ∀ f, f < 3 → cs_z yf a0 3 (3 * a0 + f) = 0 := fun f hf => cs_z_in yf a0 3 f hf
      have y4 : ∀ j, j < 3 * a0 ∨ 3 * a0 + 3 ≤ j → cs_z yf a0 3 j = yf j := fun j hj => cs_z_out yf a0 3 j (by omega)
      have hY' : cs_Y (upd yr r (nI (10000 + a0))) (cs_z yf a0 3) := cs_Y_new hY hn ha (fun j hj => cs_upd_n hj) (cs_upd_s _ _ _) y3 y4
      refine pk_loop (σ := SX) (fun n i u => wX_make_35 (fun r_1 u' => wpY_make (fun r' v' => r' = r_1 ∧ i_Rel (k + 4) u' v') (yr, yf) (nI r)) (nI r) n 1 (nI i) u.1 u.2.1 u.2.2.1 u.2.2.2.1 u.2.2.2.2.1 u.2.2.2.2.2.1 u.2.2.2.2.2.2.1 u.2.2.2.2.2.2.2.1 u.2.2.2.2.2.2.2.2.1 u.2.2.2.2.2.2.2.2.2.1 u.2.2.2.2.2.2.2.2.2.2.1 u.2.2.2.2.2.2.2.2.2.2.2.1 u.2.2.2.2.2.2.2.2.2.2.2.2.1 u.2.2.2.2.2.2.2.2.2.2.2.2.2.1 u.2.2.2.2.2.2.2.2.2.2.2.2.2.2.1 u.2.2.2.2.2.2.2.2.2.2.2.2.2.2.2) (fun i u => (∀ d, d < 7 → cs_JU d u yr yf) ∧ (∀ d, d < i → d < 7 → cs_roomU d u)) 7 0 (nI L, f_half, f_marking, a_register, a_field, a_kept, s, q, a_forward, a_trial, a_turn, a_partner, a_partnerBack, a_tally, a_remembered, a_shade) (by omega) ⟨hJ, fun d h => absurd h (Nat.not_lt_zero _)⟩ (fun n u hI => ?_) (fun n i u hi hI ih => ?_)
      · have LI0 : cs_LI yr yf (upd yr r (nI (10000 + a0))) (cs_z yf a0 3) 0 u := ⟨fun d h => absurd h (Nat.not_lt_zero _), fun d _ h => hI.1 d h⟩
        have lp := pk_loop (σ := SX) (fun n i u => wX_make_82 (fun r_1 u' => wpY_make (fun r' v' => r' = r_1 ∧ i_Rel (k + 4) u' v') (yr, yf) (nI r)) (nI r) n (nI i) u.1 u.2.1 u.2.2.1 u.2.2.2.1 u.2.2.2.2.1 u.2.2.2.2.2.1 u.2.2.2.2.2.2.1 u.2.2.2.2.2.2.2.1 u.2.2.2.2.2.2.2.2.1 u.2.2.2.2.2.2.2.2.2.1 u.2.2.2.2.2.2.2.2.2.2.1 u.2.2.2.2.2.2.2.2.2.2.2.1 u.2.2.2.2.2.2.2.2.2.2.2.2.1 u.2.2.2.2.2.2.2.2.2.2.2.2.2.1 u.2.2.2.2.2.2.2.2.2.2.2.2.2.2.1 u.2.2.2.2.2.2.2.2.2.2.2.2.2.2.2) (fun i u => cs_LI yr yf (upd yr r (nI (10000 + a0))) (cs_z yf a0 3) i u ∧ (∀ d, i ≤ d → d < 7 → cs_roomU d u)) 7 0 u (by omega) ⟨LI0, fun d _ h => hI.2 d h h⟩ (fun n u hI2 => ?_) (fun n i u hi hI2 ih => ?_)
        · obtain ⟨f_reached, f_half, f_marking, a_register, a_field, a_kept, a_seen, a_queue, a_forward, a_trial, a_turn, a_partner, a_partnerBack, a_tally, a_remembered, a_shade⟩ := u
          have g7 : (7 : Int32) ≤ nI 7 := nI_le (a := 7) (by omega) (by omega)
          simp only [wX_make_35, g7, cs_n10, not_true, not_false_iff, false_implies, true_implies, true_and, and_true, forall_eq, implies_true]
          exact lp
        · obtain ⟨f_reached, f_half, f_marking, a_register, a_field, a_kept, a_seen, a_queue, a_forward, a_trial, a_turn, a_partner, a_partnerBack, a_tally, a_remembered, a_shade⟩ := u
          have g7 : (7 : Int32) ≤ nI 7 := nI_le (a := 7) (by omega) (by omega)
          simp only [wX_make_82, g7, not_true, not_false_iff, false_implies, true_implies, true_and, and_true, forall_eq, implies_true]
          have J0 : cs_J 0 f_half f_marking a_register a_field a_kept a_tally a_remembered a_shade (upd yr r (nI (10000 + a0))) (cs_z yf a0 3) := hI2.1.1 0 (by omega)
          obtain ⟨P, IP⟩ := J0.1
          refine cs_trace (c := 0) (p := 0) (q := 6) (by omega) (by omega) (by omega) IP (fun L2 s2 q2 c1 c2 c3 => ?_)
          simp only []
          refine cs_ymake hY hr hn ha h0 h1' hY' ⟨by rw [c3], hI2.1.1, hY'⟩
        · obtain ⟨f_reached, f_half, f_marking, a_register, a_field, a_kept, a_seen, a_queue, a_forward, a_trial, a_turn, a_partner, a_partnerBack, a_tally, a_remembered, a_shade⟩ := u
          have g7 : ¬ (7 : Int32) ≤ nI i := nI_ge (b := 7) hi (by omega)
          simp only [wX_make_82, g7, not_true, not_false_iff, false_implies, true_implies, true_and, and_true, forall_eq, implies_true]
          refine cs_mkTake hi hr ha h0 y3 y4 (hI2.1.2 i (Nat.le_refl _) hi) (hI2.2 i (Nat.le_refl _) hi) (fun u' F' J' => ?_)
          have ih' := ih u' ⟨cs_LI_s hI2.1 F' J', fun d h1 h2 => cs_roomU_fr h2 (by omega) F' (hI2.2 d (by omega) h2)⟩
          obtain ⟨f_reached', f_half', f_marking', a_register', a_field', a_kept', a_seen', a_queue', a_forward', a_trial', a_turn', a_partner', a_partnerBack', a_tally', a_remembered', a_shade'⟩ := u'
          simp only [nI_1, not_true, not_false_iff, false_implies, true_implies, true_and, and_true, forall_eq, implies_true]
          exact ih'
      · obtain ⟨f_reached, f_half, f_marking, a_register, a_field, a_kept, a_seen, a_queue, a_forward, a_trial, a_turn, a_partner, a_partnerBack, a_tally, a_remembered, a_shade⟩ := u
        have g7 : ¬ (7 : Int32) ≤ nI i := nI_ge (b := 7) hi (by omega)
        simp only [wX_make_35, g7, cs_n10, not_true, not_false_iff, false_implies, true_implies, true_and, and_true, forall_eq, implies_true]
        refine cs_mk (yr := yr) (yf := yf) hi hn (hI.1 i hi) (fun u' F' J' R' => ?_)
        have ih' := ih u' ⟨cs_rel_upd hI.1 F' J', fun d h1 h2 => by
          by_cases e : d = i
          · rw [e]; exact R'
          · exact cs_roomU_fr h2 e F' (hI.2 d (by omega) h2)⟩
        obtain ⟨f_reached', f_half', f_marking', a_register', a_field', a_kept', a_seen', a_queue', a_forward', a_trial', a_turn', a_partner', a_partnerBack', a_tally', a_remembered', a_shade'⟩ := u'
        simp only [cs_n10, nI_1, not_true, not_false_iff, false_implies, true_implies, true_and, and_true, forall_eq, implies_true]
        exact ih'
    · have g : ¬ nI L < 24 := nI_nlt (b := 24) (by omega) (by omega)
      simp only [g, wpY_make, not_true, not_false_iff, false_implies, true_implies, true_and, and_true, forall_eq, implies_true]
      refine cs_yReg (fun h => absurd rfl (h r hr)) (fun _ _ _ => ?_)
      simp only [cs_n10, not_true, not_false_iff, false_implies, true_implies, true_and, and_true, forall_eq, implies_true]
      refine cs_all hY (fun M m1 m2 => ?_)
      refine cs_ones m1 ?_
      have cn : cs_n (cs_B M) 48 = L := by rw [a3]; exact cs_n_eq (fun a _ => m2 a)
      rw [cn]
      simp only [g, not_true, not_false_iff, false_implies, true_implies, true_and, and_true, forall_eq, implies_true]
      first | exact ⟨hJ, hY⟩ | exact ⟨rfl, hJ, hY⟩
end
section
/-! agree -/
theorem cs_pairW {f_reached f_half f_marking : Int32} {a_register a_field a_kept a_seen a_queue a_forward a_trial a_turn a_partner a_partnerBack a_tally a_remembered a_shade : Nat → Int32} {post : Int32 → SX → Prop} {Q : Nat → Nat → Prop} {L : Nat} {w w' : Int32} (q1 : ∀ b b' b'', Q b b' → Q b b'' → b' = b'') (q2 : ∀ b b1 b', Q b b' → Q b1 b' → b = b1) (lt : ∀ b b', Q b b' → b < 336 ∧ b' < 336) (h : cs_PP Q a_partner a_partnerBack a_queue L) (hr : f_reached = nI L) (m : cs_mq Q w w')
    (K : ∀ L' pa pb q', cs_PP Q pa pb q' L' → L ≤ L' → (∀ i, i < L → q' i = a_queue i) → (∀ b b', Q b b' → a_partner b = nI b' → pa b = nI b') → post 1 (nI L', f_half, f_marking, a_register, a_field, a_kept, a_seen, q', a_forward, a_trial, a_turn, pa, pb, a_tally, a_remembered, a_shade)) : wpX_pairWords post (f_reached, f_half, f_marking, a_register, a_field, a_kept, a_seen, a_queue, a_forward, a_trial, a_turn, a_partner, a_partnerBack, a_tally, a_remembered, a_shade) w w' := by
  subst hr
  rcases m with ⟨m1, m2⟩ | ⟨b, b', m1, m2, m3⟩
  · have g := cs_num_lt m1
    subst m2
    simp only [wpX_pairWords, wX_pairWords_14, g, not_true, not_false_iff, false_implies, true_implies, true_and, and_true, forall_eq, implies_true]
    exact K L a_partner a_partnerBack a_queue h (Nat.le_refl _) (fun _ _ => rfl) (fun _ _ _ e => e)
  · obtain ⟨l1, l2⟩ := lt b b' m1
    subst m2 m3
    have g := cs_ref_ge (b := b) (by omega)
    have g2 := cs_ge1000 (b := b') (by omega)
    have v1 : vp_in (nI b) 336 := vp_in_nI l1 (by omega)
    have k1 : (nI b).toNatClampNeg = b := nI_clamp (by omega)
    have v2 : vp_in (nI b') 336 := vp_in_nI l2 (by omega)
    have k2 : (nI b').toNatClampNeg = b' := nI_clamp (by omega)
    rcases h.2.1 b b' m1 with ⟨e1, e2⟩ | ⟨e1, e2⟩
    · obtain ⟨N1, N2⟩ := cs_PP_new q1 q2 (fun b b' hb => by have := lt b b' hb; omega) h m1 e1 e2
      have mono : ∀ x x', Q x x' → a_partner x = nI x' → upd a_partner b (nI b') x = nI x' := fun x x' hx e => by
        by_cases z : x = b
        · rw [z, cs_upd_s, q1 b b' x' m1 (z ▸ hx)]
        · rw [cs_upd_n z]; exact e
      simp only [wpX_pairWords, g, g2, cs_ref_sub, v1, k1, v2, k2, e1, e2, not_true, not_false_iff, false_implies, true_implies, true_and, and_true, forall_eq, implies_true]
      by_cases hL : L < 48
      · refine cs_enq rfl hL ?_
        simp only [wX_pairWords_80, v1, k1, cs_upd_s, not_true, not_false_iff, false_implies, true_implies, true_and, and_true, forall_eq, implies_true]
        exact K _ _ _ _ (N2 hL) (by omega) (fun i hi => cs_upd_n (by omega)) mono
      · have g3 : (48 : Int32) ≤ nI L := nI_le (a := 48) (by omega) (by have := h.1; omega)
        simp only [wpX_enqueue, g3, not_true, not_false_iff, false_implies, true_implies, true_and, and_true, forall_eq, implies_true]
        simp only [wX_pairWords_80, v1, k1, cs_upd_s, not_true, not_false_iff, false_implies, true_implies, true_and, and_true, forall_eq, implies_true]
        exact K _ _ _ _ N1 (Nat.le_refl _) (fun _ _ => rfl) mono
    · have g3 : ¬ nI b' = -1 := cs_nIm1 (by omega)
      simp only [wpX_pairWords, wX_pairWords_80, g, g2, cs_ref_sub, v1, k1, e1, g3, not_true, not_false_iff, false_implies, true_implies, true_and, and_true, forall_eq, implies_true]
      exact K L a_partner a_partnerBack a_queue h (Nat.le_refl _) (fun _ _ => rfl) (fun _ _ _ e => e)
theorem cs_pairs {f_reached f_half f_marking : Int32} {a_register a_field a_kept a_seen a_queue a_forward a_trial a_turn a_partner a_partnerBack a_tally a_remembered a_shade : Nat → Int32} {post : Int32 → SX → Prop} {c d : Nat} {P P' : Nat → Nat → Prop} {yr yf : Nat → Int32} (hc : c < 7) (hd : d < 7) (I : cs_I c P a_register a_field a_kept yr yf) (I' : cs_I d P' a_register a_field a_kept yr yf)
    (K : ∀ L pa pb q, post 1 (nI L, f_half, f_marking, a_register, a_field, a_kept, a_seen, q, a_forward, a_trial, a_turn, pa, pb, a_tally, a_remembered, a_shade)) : wpX_pairsUp post (f_reached, f_half, f_marking, a_register, a_field, a_kept, a_seen, a_queue, a_forward, a_trial, a_turn, a_partner, a_partnerBack, a_tally, a_remembered, a_shade) (nI c) (nI d) := by
  have q1 : ∀ b b' b'', cs_PQ P P' b b' → cs_PQ P P' b b'' → b' = b'' := fun b b' b'' ⟨a, h1, h2⟩ ⟨a2, h3, h4⟩ => by
    have e := I.2.1 a a2 b h1 h3
    subst e
    exact I'.1 a b' b'' h2 h4
  have q2 : ∀ b b1 b', cs_PQ P P' b b' → cs_PQ P P' b1 b' → b = b1 := fun b b1 b' ⟨a, h1, h2⟩ ⟨a2, h3, h4⟩ => by
    have e := I'.2.1 a a2 b' h2 h4
    subst e
    exact I.1 a b b1 h1 h3
  have sgs : ∀ b b', cs_PQ P P' b b' → cs_sg c b ∧ cs_sg d b' := fun b b' ⟨a, h1, h2⟩ => by
    have p := I.2.2.1 a b h1
    have p' := I'.2.2.1 a b' h2
    exact ⟨⟨p.2.1, p.2.2.1⟩, ⟨p'.2.1, p'.2.2.1⟩⟩
  have lt : ∀ b b', cs_PQ P P' b b' → b < 336 ∧ b' < 336 := fun b b' h => by
    have := sgs b b' h
    unfold cs_sg at this; omega
  simp only [wpX_pairsUp]
  refine pk_loop (σ := (Nat → Int32) × (Nat → Int32)) (fun n i t => wX_pairsUp_2 post (nI c) (nI d) f_reached f_half f_marking n (nI i) a_register a_field a_kept a_seen a_queue a_forward a_trial a_turn t.1 t.2 a_tally a_remembered a_shade) (fun i t => (∀ b, 48 * c ≤ b → b < 48 * c + i → t.1 b = -1) ∧ (∀ b, 48 * d ≤ b → b < 48 * d + i → t.2 b = -1)) 48 0 (a_partner, a_partnerBack) (by omega) ⟨fun b h1 h2 => by omega, fun b h1 h2 => by omega⟩ (fun n t hI => ?_) (fun n i t hi hI ih => ?_)
  · obtain ⟨pa, pb⟩ := t
    obtain ⟨i1, i2⟩ := hI
    dsimp only at i1 i2 ⊢
    have g : (48 : Int32) ≤ nI 48 := nI_le (a := 48) (by omega) (by omega)
    simp only [wX_pairsUp_2, g, not_true, not_false_iff, false_implies, true_implies, true_and, and_true, forall_eq, implies_true]
    have PP0 : cs_PP (cs_PQ P P') pa pb a_queue 0 := ⟨by omega, fun b b' h => by
      have s := sgs b b' h
      exact Or.inl ⟨i1 b s.1.1 s.1.2, i2 b' s.2.1 s.2.2⟩, fun i hi => by omega⟩
    refine pk_loop (σ := Nat × (Nat → Int32) × (Nat → Int32) × (Nat → Int32)) (fun n r t => wX_pairsUp_45 post (nI c) (nI d) n (nI r) (nI t.1) f_half f_marking a_register a_field a_kept a_seen t.2.2.2 a_forward a_trial a_turn t.2.1 t.2.2.1 a_tally a_remembered a_shade) (fun _ t => cs_PP (cs_PQ P P') t.2.1 t.2.2.1 t.2.2.2 t.1) 6 0 (0, pa, pb, a_queue) (by omega) PP0 (fun n t hI => ?_) (fun n r t hr hI ih => ?_)
    · obtain ⟨L, pa, pb, q⟩ := t
      dsimp only at hI ⊢
      have g6 : (6 : Int32) ≤ nI 6 := nI_le (a := 6) (by omega) (by omega)
      simp only [wX_pairsUp_45, g6, not_true, not_false_iff, false_implies, true_implies, true_and, and_true, forall_eq, implies_true]
      refine loop_m (σ := Nat × Nat × (Nat → Int32) × (Nat → Int32) × (Nat → Int32)) (fun n t => wX_pairsUp_94 post n (nI t.1) (nI t.2.1) f_half f_marking a_register a_field a_kept a_seen t.2.2.2.2 a_forward a_trial a_turn t.2.2.1 t.2.2.2.1 a_tally a_remembered a_shade) (fun t => t.1 ≤ t.2.1 ∧ cs_PP (cs_PQ P P') t.2.2.1 t.2.2.2.1 t.2.2.2.2 t.2.1) (fun t => 48 - t.1) (fun n t hI ih => ?_) (0, L, pa, pb, q) ⟨Nat.zero_le _, hI⟩
      obtain ⟨i, L, pa, pb, q⟩ := t
      obtain ⟨j1, j2⟩ := hI
      dsimp only at j1 j2 ih ⊢
      have hL := j2.1
      by_cases e : i = L
      · subst e
        have g2 : nI i ≤ nI i := nI_le (Nat.le_refl _) (by omega)
        have fin := K i pa pb q
        by_cases g5 : (48 : Int32) ≤ nI i
        · simp only [wX_pairsUp_94, g5, not_true, not_false_iff, false_implies, true_implies, true_and, and_true, forall_eq, implies_true]; exact fin
        · simp only [wX_pairsUp_94, g5, g2, not_true, not_false_iff, false_implies, true_implies, true_and, and_true, forall_eq, implies_true]; exact fin
      · have g5 : ¬ (48 : Int32) ≤ nI i := nI_ge (b := 48) (by omega) (by omega)
        have g2 : ¬ nI L ≤ nI i := nI_ge (by omega) (by omega)
        obtain ⟨b, b', x1, x2, x3⟩ := j2.2.2 i (by omega)
        obtain ⟨l1, l2⟩ := lt b b' x1
        have v1 : vp_in (nI i) 48 := vp_in_nI (by omega) (by omega)
        have k1 : (nI i).toNatClampNeg = i := nI_clamp (by omega)
        have v2 : vp_in (nI b) 336 := vp_in_nI l1 (by omega)
        have k2 : (nI b).toNatClampNeg = b := nI_clamp (by omega)
        simp only [wX_pairsUp_94, g5, g2, v1, k1, x2, not_true, not_false_iff, false_implies, true_implies, true_and, and_true, forall_eq, implies_true]
        refine pk_loop (σ := Nat × (Nat → Int32) × (Nat → Int32) × (Nat → Int32)) (fun m f t => wX_pairsUp_119 post (wX_pairsUp_94 post n) (nI i) (nI b) m (nI f) (nI t.1) f_half f_marking a_register a_field a_kept a_seen t.2.2.2 a_forward a_trial a_turn t.2.1 t.2.2.1 a_tally a_remembered a_shade) (fun f t => i < t.1 ∧ cs_PP (cs_PQ P P') t.2.1 t.2.2.1 t.2.2.2 t.1 ∧ t.2.1 b = nI b') 3 0 (L, pa, pb, q) (by omega) ⟨by dsimp only; omega, j2, x3⟩ (fun m t hI2 => ?_) (fun m f t hf hI2 ih2 => ?_)
        · obtain ⟨L, pa, pb, q⟩ := t
          obtain ⟨y1, y2, y3⟩ := hI2
          dsimp only at y1 y2 y3 ⊢
          have g6 : (3 : Int32) ≤ nI 3 := nI_le (a := 3) (by omega) (by omega)
          simp only [wX_pairsUp_119, g6, nI_1, not_true, not_false_iff, false_implies, true_implies, true_and, and_true, forall_eq, implies_true]
          exact ih (i + 1, L, pa, pb, q) ⟨by dsimp only; omega, y2⟩ (by dsimp only; omega)
        · obtain ⟨L, pa, pb, q⟩ := t
          obtain ⟨y1, y2, y3⟩ := hI2
          dsimp only at y1 y2 y3 ih2 ⊢
          have g6 : ¬ (3 : Int32) ≤ nI f := nI_ge (b := 3) hf (by omega)
          have v3 : vp_in (nI (3 * b + f)) 1008 := vp_in_nI (by omega) (by omega)
          have k3 : (nI (3 * b + f)).toNatClampNeg = 3 * b + f := nI_clamp (by omega)
          have v4 : vp_in (nI (3 * b' + f)) 1008 := vp_in_nI (by omega) (by omega)
          have k4 : (nI (3 * b' + f)).toNatClampNeg = 3 * b' + f := nI_clamp (by omega)
          simp only [wX_pairsUp_119, g6, cs_i3, v2, k2, v3, k3, y3, v4, k4, not_true, not_false_iff, false_implies, true_implies, true_and, and_true, forall_eq, implies_true]
          obtain ⟨a, z1, z2⟩ := x1
          refine cs_pairW q1 q2 lt y2 rfl (cs_mq_of hc hd I I' (I.2.2.2.2 a b z1 f hf) (I'.2.2.2.2 a b' z2 f hf)) (fun L' pa' pb' q' w1 w2 w3 w4 => ?_)
          simp only [cs_n10, nI_1, not_true, not_false_iff, false_implies, true_implies, true_and, and_true, forall_eq, implies_true]
          exact ih2 (L', pa', pb', q') ⟨by dsimp only; omega, w1, w4 b b' ⟨a, z1, z2⟩ y3⟩
    · obtain ⟨L, pa, pb, q⟩ := t
      dsimp only at hI ih ⊢
      have g6 : ¬ (6 : Int32) ≤ nI r := nI_ge (b := 6) hr (by omega)
      have v3 : vp_in (nI (6 * c + r)) 42 := vp_in_nI (by omega) (by omega)
      have k3 : (nI (6 * c + r)).toNatClampNeg = 6 * c + r := nI_clamp (by omega)
      have v4 : vp_in (nI (6 * d + r)) 42 := vp_in_nI (by omega) (by omega)
      have k4 : (nI (6 * d + r)).toNatClampNeg = 6 * d + r := nI_clamp (by omega)
      simp only [wX_pairsUp_45, g6, cs_i6, v3, k3, v4, k4, not_true, not_false_iff, false_implies, true_implies, true_and, and_true, forall_eq, implies_true]
      refine cs_pairW q1 q2 lt hI rfl (cs_mq_of hc hd I I' (I.2.2.2.1 r hr) (I'.2.2.2.1 r hr)) (fun L' pa' pb' q' w1 w2 w3 w4 => ?_)
      simp only [cs_n10, nI_1, not_true, not_false_iff, false_implies, true_implies, true_and, and_true, forall_eq, implies_true]
      exact ih (L', pa', pb', q') w1
  · obtain ⟨pa, pb⟩ := t
    obtain ⟨i1, i2⟩ := hI
    dsimp only at i1 i2 ih ⊢
    have g : ¬ (48 : Int32) ≤ nI i := nI_ge (b := 48) hi (by omega)
    have e1 : nI (48 * c) + nI i = nI (48 * c + i) := nI_add _ _
    have e2 : nI (48 * d) + nI i = nI (48 * d + i) := nI_add _ _
    have v3 : vp_in (nI (48 * c + i)) 336 := vp_in_nI (by omega) (by omega)
    have k3 : (nI (48 * c + i)).toNatClampNeg = 48 * c + i := nI_clamp (by omega)
    have v4 : vp_in (nI (48 * d + i)) 336 := vp_in_nI (by omega) (by omega)
    have k4 : (nI (48 * d + i)).toNatClampNeg = 48 * d + i := nI_clamp (by omega)
    simp only [wX_pairsUp_2, g, cs_i48, e1, e2, v3, k3, v4, k4, nI_1, not_true, not_false_iff, false_implies, true_implies, true_and, and_true, forall_eq, implies_true]
    refine ih (upd pa (48 * c + i) (-1), upd pb (48 * d + i) (-1)) ⟨fun b h1 h2 => ?_, fun b h1 h2 => ?_⟩
    · show upd pa (48 * c + i) (-1) b = -1
      by_cases e : b = 48 * c + i
      · rw [e, cs_upd_s]
      · rw [cs_upd_n e]; exact i1 b h1 (by omega)
    · show upd pb (48 * d + i) (-1) b = -1
      by_cases e : b = 48 * d + i
      · rw [e, cs_upd_s]
      · rw [cs_upd_n e]; exact i2 b h1 (by omega)
theorem i_vc_agree {k : Nat} {u : SX} {v : SY} (I : i_Rel k u v) (hk : k + 4 ≤ 2048) (v1 : Int32) (v2 : Int32) : wpX_agree (fun r u' => wpY_agree (fun r' => r' = r ∧ i_Rel (k + 4) u' v) v v1 v2) u v1 v2 := by
  obtain ⟨f_reached, f_half, f_marking, a_register, a_field, a_kept, a_seen, a_queue, a_forward, a_trial, a_turn, a_partner, a_partnerBack, a_tally, a_remembered, a_shade⟩ := u
  obtain ⟨yr, yf⟩ := v
  obtain ⟨hJ, hY⟩ := I
  dsimp only at hY hJ
  simp only [wpX_agree, wpY_agree]
  refine cs_isCol (fun hn => ?_) (fun c hc ec => ?_)
  · simp only [not_true, not_false_iff, false_implies, true_implies, true_and, and_true, forall_eq, implies_true]
    refine cs_yCol (fun _ => ?_) (fun r hr e => absurd e (hn r hr))
    simp only [not_true, not_false_iff, false_implies, true_implies, true_and, and_true, forall_eq, implies_true]
    first | exact ⟨hJ, hY⟩ | exact ⟨rfl, hJ, hY⟩
  · subst ec
    simp only [cs_n10, not_true, not_false_iff, false_implies, true_implies, true_and, and_true, forall_eq, implies_true]
    have yc : ∀ c, c < 7 → ∀ {Q : Int32 → Prop}, Q 1 → wpY_isCollector Q (yr, yf) (nI c) := fun c hc Q hq => cs_yCol (fun hc2 => absurd rfl (hc2 c hc)) (fun _ _ _ => hq)
    refine cs_isCol (fun hn => ?_) (fun d hd ed => ?_)
    · simp only [not_true, not_false_iff, false_implies, true_implies, true_and, and_true, forall_eq, implies_true]
      refine yc c hc ?_
      simp only [cs_n10, not_true, not_false_iff, false_implies, true_implies, true_and, and_true, forall_eq, implies_true]
      refine cs_yCol (fun _ => ?_) (fun r hr e => absurd e (hn r hr))
      simp only [not_true, not_false_iff, false_implies, true_implies, true_and, and_true, forall_eq, implies_true]
      first | exact ⟨hJ, hY⟩ | exact ⟨rfl, hJ, hY⟩
    · subst ed
      simp only [cs_n10, not_true, not_false_iff, false_implies, true_implies, true_and, and_true, forall_eq, implies_true]
      have Jc : cs_J c f_half f_marking a_register a_field a_kept a_tally a_remembered a_shade yr yf := hJ c hc
      have Jd : cs_J d f_half f_marking a_register a_field a_kept a_tally a_remembered a_shade yr yf := hJ d hd
      obtain ⟨P, IP⟩ := Jc.1
      obtain ⟨P', IP'⟩ := Jd.1
      refine cs_pairs hc hd IP IP' (fun L pa pb q => ?_)
      simp only [cs_n10, not_true, not_false_iff, false_implies, true_implies, true_and, and_true, forall_eq, implies_true]
      refine yc c hc ?_
      simp only [cs_n10, not_true, not_false_iff, false_implies, true_implies, true_and, and_true, forall_eq, implies_true]
      refine yc d hd ?_
      simp only [cs_n10, not_true, not_false_iff, false_implies, true_implies, true_and, and_true, forall_eq, implies_true]
      first | exact ⟨hJ, hY⟩ | exact ⟨rfl, hJ, hY⟩
end
section
/-! sound -/
theorem cs_narB1 : narrow .boolean (.int (1 : Int32)) = .int 1 := rfl
theorem cs_wSound {f_reached f_half f_marking : Int32} {a_register a_field a_kept a_seen a_queue a_forward a_trial a_turn a_partner a_partnerBack a_tally a_remembered a_shade : Nat → Int32} {post : Int32 → Prop} {c : Nat} {w : Int32} (hc : c < 7) (ok : cs_ok c a_kept w) (K : post 1) : wpX_wordIsSound post (f_reached, f_half, f_marking, a_register, a_field, a_kept, a_seen, a_queue, a_forward, a_trial, a_turn, a_partner, a_partnerBack, a_tally, a_remembered, a_shade) (nI c) w := by
  rcases ok with o | ⟨b, o1, o2, o3, o4⟩
  · have g := cs_nge1000 (cs_num_lt o)
    simp only [wpX_wordIsSound, g, not_true, not_false_iff, false_implies, true_implies, true_and, and_true, forall_eq, implies_true]
    refine cs_isNum (fun h => absurd o h) (fun _ => ?_)
    exact ⟨cs_narB1, K⟩
  · subst o4
    have g := cs_ge1000 (b := b) (by omega)
    have g1 : ¬ nI b < nI (48 * c) := nI_nlt o1 (by omega)
    have g2 : ¬ nI (48 * (c + 1)) ≤ nI b := nI_ge (by omega) (by omega)
    have v : vp_in (nI b) 336 := vp_in_nI (by omega) (by omega)
    have k : (nI b).toNatClampNeg = b := nI_clamp (by omega)
    simp only [wpX_wordIsSound, g, cs_ref_sub, nI_1, cs_i48, g1, g2, v, k, o3, not_true, not_false_iff, false_implies, true_implies, true_and, and_true, forall_eq, implies_true]
    exact K
theorem cs_wsSound {f_reached f_half f_marking : Int32} {a_register a_field a_kept a_seen a_queue a_forward a_trial a_turn a_partner a_partnerBack a_tally a_remembered a_shade : Nat → Int32} {post : Int32 → Prop} {c : Nat} {yr yf : Nat → Int32} (hc : c < 7) (J : cs_J c f_half f_marking a_register a_field a_kept a_tally a_remembered a_shade yr yf) (K : post 1) : wpX_wordsAreSound post (f_reached, f_half, f_marking, a_register, a_field, a_kept, a_seen, a_queue, a_forward, a_trial, a_turn, a_partner, a_partnerBack, a_tally, a_remembered, a_shade) (nI c) := by
  simp only [wpX_wordsAreSound]
  refine pk_loop (σ := Unit) (fun n r _ => wX_wordsAreSound_2 post (nI c) f_reached f_half f_marking a_register a_field a_kept a_seen a_queue a_forward a_trial a_turn a_partner a_partnerBack a_tally a_remembered a_shade n (nI r)) (fun _ _ => True) 6 0 () (by omega) trivial (fun n _ _ => ?_) (fun n r _ hr _ ih => ?_)
  · have g : (6 : Int32) ≤ nI 6 := nI_le (a := 6) (by omega) (by omega)
    simp only [wX_wordsAreSound_2, g, cs_i48, not_true, not_false_iff, false_implies, true_implies, true_and, and_true, forall_eq, implies_true]
    refine pk_loop (σ := Unit) (fun n i _ => wX_wordsAreSound_40 post (nI c) f_reached f_half f_marking a_register a_field a_kept a_seen a_queue a_forward a_trial a_turn a_partner a_partnerBack a_tally a_remembered a_shade n (nI i)) (fun i _ => 48 * c ≤ i) (48 * c + 48) (48 * c) () (by omega) (Nat.le_refl _) (fun n _ _ => ?_) (fun n i _ hi hI ih => ?_)
    · have g2 : nI (48 * (c + 1)) ≤ nI (48 * c + 48) := nI_le (by omega) (by omega)
      simp only [wX_wordsAreSound_40, nI_1, cs_i48, g2, not_true, not_false_iff, false_implies, true_implies, true_and, and_true, forall_eq, implies_true]
      exact K
    · have g2 : ¬ nI (48 * (c + 1)) ≤ nI i := nI_ge (by omega) (by omega)
      have v : vp_in (nI i) 336 := vp_in_nI (by omega) (by omega)
      have k : (nI i).toNatClampNeg = i := nI_clamp (by omega)
      simp only [wX_wordsAreSound_40, nI_1, cs_i48, g2, not_true, not_false_iff, false_implies, true_implies, true_and, and_true, forall_eq, implies_true]
      have ih' := ih () (by omega)
      by_cases z : a_kept i = 0
      · refine ⟨1, ?_⟩
        have g5 : ¬ (3 : Int32) ≤ 0 := by decide
        simp only [wX_wordsAreSound_52, g5, v, k, z, nI_1, not_true, not_false_iff, false_implies, true_implies, true_and, and_true, forall_eq, implies_true]
        exact ih'
      · refine pk_loop (σ := Unit) (fun m f _ => wX_wordsAreSound_52 post (wX_wordsAreSound_40 post (nI c) f_reached f_half f_marking a_register a_field a_kept a_seen a_queue a_forward a_trial a_turn a_partner a_partnerBack a_tally a_remembered a_shade n) (nI c) (nI i) f_reached f_half f_marking a_register a_field a_kept a_seen a_queue a_forward a_trial a_turn a_partner a_partnerBack a_tally a_remembered a_shade m (nI f)) (fun _ _ => True) 3 0 () (by omega) trivial (fun m _ _ => ?_) (fun m f _ hf _ ih2 => ?_)
        · have g6 : (3 : Int32) ≤ nI 3 := nI_le (a := 3) (by omega) (by omega)
          simp only [wX_wordsAreSound_52, g6, nI_1, not_true, not_false_iff, false_implies, true_implies, true_and, and_true, forall_eq, implies_true]
          exact ih'
        · have g6 : ¬ (3 : Int32) ≤ nI f := nI_ge (b := 3) hf (by omega)
          have v2 : vp_in (nI (3 * i + f)) 1008 := vp_in_nI (by omega) (by omega)
          have k2 : (nI (3 * i + f)).toNatClampNeg = 3 * i + f := nI_clamp (by omega)
          simp only [wX_wordsAreSound_52, g6, v, k, z, cs_i3, v2, k2, not_true, not_false_iff, false_implies, true_implies, true_and, and_true, forall_eq, implies_true]
          refine cs_wSound hc (J.2.1 i hI hi z f hf) ?_
          simp only [cs_n10, nI_1, not_true, not_false_iff, false_implies, true_implies, true_and, and_true, forall_eq, implies_true]
          exact ih2 () trivial
  · have g : ¬ (6 : Int32) ≤ nI r := nI_ge (b := 6) hr (by omega)
    have v : vp_in (nI (6 * c + r)) 42 := vp_in_nI (by omega) (by omega)
    have k : (nI (6 * c + r)).toNatClampNeg = 6 * c + r := nI_clamp (by omega)
    simp only [wX_wordsAreSound_2, g, cs_i6, v, k, not_true, not_false_iff, false_implies, true_implies, true_and, and_true, forall_eq, implies_true]
    refine cs_wSound hc (cs_J_ok J hr) ?_
    simp only [cs_n10, nI_1, not_true, not_false_iff, false_implies, true_implies, true_and, and_true, forall_eq, implies_true]
    exact ih () trivial
theorem cs_otherEmpty {f_reached f_half f_marking : Int32} {a_register a_field a_kept a_seen a_queue a_forward a_trial a_turn a_partner a_partnerBack a_tally a_remembered a_shade : Nat → Int32} {post : Int32 → Prop} {yr yf : Nat → Int32} (J : cs_J 1 f_half f_marking a_register a_field a_kept a_tally a_remembered a_shade yr yf) (K : post 1) : wpX_otherHalfIsEmpty post (f_reached, f_half, f_marking, a_register, a_field, a_kept, a_seen, a_queue, a_forward, a_trial, a_turn, a_partner, a_partnerBack, a_tally, a_remembered, a_shade) := by
  obtain ⟨H, a1, a2, a3⟩ := J.2.2.1 rfl
  have go : ∀ d, (H = 48 ∧ d = 72) ∨ (H = 72 ∧ d = 48) → wpX_freeCells (fun r_18 => (r_18 = 24 → post 1) ∧ (¬ r_18 = 24 → post 0)) (f_reached, f_half, f_marking, a_register, a_field, a_kept, a_seen, a_queue, a_forward, a_trial, a_turn, a_partner, a_partnerBack, a_tally, a_remembered, a_shade) (nI d) (nI (d + 24)) := fun d hd => by
    refine cs_freeCells (by omega) (by omega) ?_
    rw [show d + 24 - d = 24 by omega, cs_n_all (P := fun i => a_kept (d + i) = 0) (fun i hi => Classical.byContradiction fun z => by
      have := a3 (d + i) ⟨by omega, by omega⟩ z
      omega)]
    exact ⟨fun _ => K, fun h => absurd rfl h⟩
  rcases a2 with rfl | rfl
  · have h := go 72 (Or.inl ⟨rfl, rfl⟩)
    subst a1
    have e1 : nI 48 = 48 := rfl
    have e3 : (72 : Int32) + 24 = nI 96 := by decide
    simp only [wpX_otherHalfIsEmpty, wpX_otherHalf, e1, e3, not_true, not_false_iff, false_implies, true_implies, true_and, and_true, forall_eq, implies_true]
    exact h
  · have h := go 48 (Or.inr ⟨rfl, rfl⟩)
    subst a1
    have e1 : nI 72 = 72 := rfl
    have e0 : ¬ (72 : Int32) = 48 := by decide
    have e3 : (48 : Int32) + 24 = nI 72 := by decide
    simp only [wpX_otherHalfIsEmpty, wpX_otherHalf, e1, e0, not_true, not_false_iff, false_implies, true_implies, true_and, and_true, forall_eq, implies_true]
    exact h
theorem cs_noGap {f_reached f_half f_marking : Int32} {a_register a_field a_kept a_seen a_queue a_forward a_trial a_turn a_partner a_partnerBack a_tally a_remembered a_shade : Nat → Int32} {post : Int32 → Prop} (h : cs_K2 a_kept) (K : post 1) : wpX_slidCellsHaveNoGap post (f_reached, f_half, f_marking, a_register, a_field, a_kept, a_seen, a_queue, a_forward, a_trial, a_turn, a_partner, a_partnerBack, a_tally, a_remembered, a_shade) := by
  simp only [wpX_slidCellsHaveNoGap]
  refine pk_loop (σ := Unit) (fun n i _ => wX_slidCellsHaveNoGap_3 post f_reached f_half f_marking a_register a_field a_kept a_seen a_queue a_forward a_trial a_turn a_partner a_partnerBack a_tally a_remembered a_shade n (nI i)) (fun i _ => 97 ≤ i) 144 97 () (by omega) (Nat.le_refl _) (fun n _ _ => ?_) (fun n i _ hi hI ih => ?_)
  · have g : (144 : Int32) ≤ nI 144 := nI_le (a := 144) (by omega) (by omega)
    simp only [wX_slidCellsHaveNoGap_3, g, not_true, not_false_iff, false_implies, true_implies, true_and, and_true, forall_eq, implies_true]
    exact K
  · have g : ¬ (144 : Int32) ≤ nI i := nI_ge (b := 144) hi (by omega)
    have v : vp_in (nI i) 336 := vp_in_nI (by omega) (by omega)
    have k : (nI i).toNatClampNeg = i := nI_clamp (by omega)
    have ih' := ih () (by omega)
    by_cases z : a_kept i = 0
    · simp only [wX_slidCellsHaveNoGap_3, g, v, k, z, nI_1, not_true, not_false_iff, false_implies, true_implies, true_and, and_true, forall_eq, implies_true]
      exact ih'
    · have e : nI i - 1 = nI (i - 1) := by
        have := nI_pred (i - 1)
        rw [show i - 1 + 1 = i by omega] at this
        exact this
      have v2 : vp_in (nI (i - 1)) 336 := vp_in_nI (by omega) (by omega)
      have k2 : (nI (i - 1)).toNatClampNeg = i - 1 := nI_clamp (by omega)
      have z2 := h i (i - 1) (by omega) (by omega) hi z
      simp only [wX_slidCellsHaveNoGap_3, g, v, k, z, e, v2, k2, z2, nI_1, not_true, not_false_iff, false_implies, true_implies, true_and, and_true, forall_eq, implies_true]
      exact ih'
theorem cs_tallies {f_reached f_half f_marking : Int32} {a_register a_field a_kept a_seen a_queue a_forward a_trial a_turn a_partner a_partnerBack a_tally a_remembered a_shade : Nat → Int32} {post : Int32 → SX → Prop} {yr yf : Nat → Int32} (J : cs_J 3 f_half f_marking a_register a_field a_kept a_tally a_remembered a_shade yr yf) (K : ∀ tr, post 1 (f_reached, f_half, f_marking, a_register, a_field, a_kept, a_seen, a_queue, a_forward, tr, a_turn, a_partner, a_partnerBack, a_tally, a_remembered, a_shade)) : wpX_talliesAreRight post (f_reached, f_half, f_marking, a_register, a_field, a_kept, a_seen, a_queue, a_forward, a_trial, a_turn, a_partner, a_partnerBack, a_tally, a_remembered, a_shade) := by
  have K3 := J.2.2.2.2.1 rfl
  have e192 : (144 : Int32) + 48 = nI 192 := by decide
  have g192 : nI 192 ≤ nI 192 := nI_le (Nat.le_refl _) (by omega)
  simp only [wpX_talliesAreRight]
  refine pk_loop (σ := Nat → Int32) (fun n i t => wX_talliesAreRight_6 post 144 f_reached f_half f_marking n (nI i) a_register a_field a_kept a_seen a_queue a_forward t a_turn a_partner a_partnerBack a_tally a_remembered a_shade) (fun i t => 144 ≤ i ∧ cs_st 144 i (fun _ => 0) a_trial t) 192 144 a_trial (by omega) ⟨Nat.le_refl _, cs_st_0⟩ (fun n t hI => ?_) (fun n i t hi hI ih => ?_)
  · simp only [wX_talliesAreRight_6, e192, g192, not_true, not_false_iff, false_implies, true_implies, true_and, and_true, forall_eq, implies_true]
    refine pk_loop (σ := Nat → Int32) (fun n r t => wX_talliesAreRight_29 post 144 f_reached f_half f_marking n (nI r) a_register a_field a_kept a_seen a_queue a_forward t a_turn a_partner a_partnerBack a_tally a_remembered a_shade) (fun r t => ∀ b, cs_sg 3 b → t b = nI (cs_rc a_register r b)) 6 0 t (by omega) (fun b hb => hI.2.1 b hb.1 hb.2) (fun n t hI2 => ?_) (fun n r t hr hI2 ih => ?_)
    · have g : (6 : Int32) ≤ nI 6 := nI_le (a := 6) (by omega) (by omega)
      simp only [wX_talliesAreRight_29, g, not_true, not_false_iff, false_implies, true_implies, true_and, and_true, forall_eq, implies_true]
      refine cs_addF J.2.1 (fun tr htr => ?_)
      simp only []
      refine pk_loop (σ := Unit) (fun n i _ => wX_talliesAreRight_70 post 144 f_reached f_half f_marking a_register a_field a_kept a_seen a_queue a_forward tr a_turn a_partner a_partnerBack a_tally a_remembered a_shade n (nI i)) (fun i _ => 144 ≤ i) 192 144 () (by omega) (Nat.le_refl _) (fun n _ _ => ?_) (fun n i _ hi hI3 ih => ?_)
      · simp only [wX_talliesAreRight_70, e192, g192, not_true, not_false_iff, false_implies, true_implies, true_and, and_true, forall_eq, implies_true]
        exact K tr
      · have g2 : ¬ nI 192 ≤ nI i := nI_ge hi (by omega)
        have v : vp_in (nI i) 336 := vp_in_nI (by omega) (by omega)
        have k : (nI i).toNatClampNeg = i := nI_clamp (by omega)
        have ih' := ih () (by omega)
        by_cases z : a_kept i = 0
        · simp only [wX_talliesAreRight_70, e192, g2, v, k, z, nI_1, not_true, not_false_iff, false_implies, true_implies, true_and, and_true, forall_eq, implies_true]
          exact ih'
        · have sg : cs_sg 3 i := ⟨by omega, by omega⟩
          obtain ⟨p1, p2⟩ := K3 i sg z
          have le := cs_c_le a_register a_field a_kept i
          have tv : tr i = nI (cs_c a_register a_field a_kept i) := by
            rw [htr i sg, hI2 i sg, cs_c_eq, ← nI_add]
            grind
          have e : tr i = a_tally i := by rw [tv, p2]
          have nz : ¬ a_tally i = 0 := by rw [p2]; exact nI_ne0 p1 (by omega)
          simp only [wX_talliesAreRight_70, e192, g2, v, k, z, e, nz, nI_1, not_true, not_false_iff, false_implies, true_implies, true_and, and_true, forall_eq, implies_true]
          exact ih'
    · have g : ¬ (6 : Int32) ≤ nI r := nI_ge (b := 6) hr (by omega)
      simp only [wX_talliesAreRight_29, g, not_true, not_false_iff, false_implies, true_implies, true_and, and_true, forall_eq, implies_true]
      rcases cs_ok_word (c := 3) (by omega) (cs_J_ok J hr) with ⟨o1, o2⟩ | ⟨b, o1, o2, o3, o4⟩
      · refine cs_cellOf_num (c := 3) (by omega) hr o1 ?_
        simp only [nI_1, not_true, not_false_iff, false_implies, true_implies, true_and, and_true, forall_eq, implies_true]
        exact ih t (cs_rc_num hI2 o1)
      · refine cs_cellOf_ref (c := 3) (by omega) hr (by omega) o4 ?_
        have g4 : ¬ nI b = -1 := cs_nIm1 (by omega)
        have v : vp_in (nI b) 336 := vp_in_nI o2 (by omega)
        have k : (nI b).toNatClampNeg = b := nI_clamp (by omega)
        simp only [g4, v, k, nI_1, not_true, not_false_iff, false_implies, true_implies, true_and, and_true, forall_eq, implies_true]
        exact ih _ (cs_rc_ref hI2 (by omega) o4)
  · have g2 : ¬ nI 192 ≤ nI i := nI_ge hi (by omega)
    have v : vp_in (nI i) 336 := vp_in_nI (by omega) (by omega)
    have k : (nI i).toNatClampNeg = i := nI_clamp (by omega)
    simp only [wX_talliesAreRight_6, e192, g2, v, k, nI_1, not_true, not_false_iff, false_implies, true_implies, true_and, and_true, forall_eq, implies_true]
    exact ih _ ⟨by have := hI.1; omega, cs_st_s hI.2 hI.1 rfl⟩
theorem cs_oldRem {f_reached f_half f_marking : Int32} {a_register a_field a_kept a_seen a_queue a_forward a_trial a_turn a_partner a_partnerBack a_tally a_remembered a_shade : Nat → Int32} {post : Int32 → Prop} {yr yf : Nat → Int32} (J : cs_J 4 f_half f_marking a_register a_field a_kept a_tally a_remembered a_shade yr yf) (K : post 1) : wpX_oldCellsAreRemembered post (f_reached, f_half, f_marking, a_register, a_field, a_kept, a_seen, a_queue, a_forward, a_trial, a_turn, a_partner, a_partnerBack, a_tally, a_remembered, a_shade) := by
  have K4 := J.2.2.2.2.2.1 rfl
  simp only [wpX_oldCellsAreRemembered]
  refine pk_loop (σ := Unit) (fun n i _ => wX_oldCellsAreRemembered_8 post 240 f_reached f_half f_marking a_register a_field a_kept a_seen a_queue a_forward a_trial a_turn a_partner a_partnerBack a_tally a_remembered a_shade n (nI i)) (fun i _ => 208 ≤ i) 240 208 () (by omega) (Nat.le_refl _) (fun n _ _ => ?_) (fun n i _ hi hI ih => ?_)
  · have g : (240 : Int32) ≤ nI 240 := nI_le (a := 240) (by omega) (by omega)
    simp only [wX_oldCellsAreRemembered_8, g, not_true, not_false_iff, false_implies, true_implies, true_and, and_true, forall_eq, implies_true]
    exact K
  · have g : ¬ (240 : Int32) ≤ nI i := nI_ge (b := 240) hi (by omega)
    have v : vp_in (nI i) 336 := vp_in_nI (by omega) (by omega)
    have k : (nI i).toNatClampNeg = i := nI_clamp (by omega)
    have ih' := ih () (by omega)
    have g5 : ¬ (3 : Int32) ≤ 0 := by decide
    simp only [wX_oldCellsAreRemembered_8, g, not_true, not_false_iff, false_implies, true_implies, true_and, and_true, forall_eq, implies_true]
    by_cases z : a_kept i = 0
    · refine ⟨1, ?_⟩
      simp only [wX_oldCellsAreRemembered_15, g5, v, k, z, nI_1, not_true, not_false_iff, false_implies, true_implies, true_and, and_true, forall_eq, implies_true]
      exact ih'
    · by_cases z2 : a_remembered i = 0
      · refine pk_loop (σ := Unit) (fun m f _ => wX_oldCellsAreRemembered_15 post (wX_oldCellsAreRemembered_8 post 240 f_reached f_half f_marking a_register a_field a_kept a_seen a_queue a_forward a_trial a_turn a_partner a_partnerBack a_tally a_remembered a_shade n) 240 (nI i) f_reached f_half f_marking a_register a_field a_kept a_seen a_queue a_forward a_trial a_turn a_partner a_partnerBack a_tally a_remembered a_shade m (nI f)) (fun _ _ => True) 3 0 () (by omega) trivial (fun m _ _ => ?_) (fun m f _ hf _ ih2 => ?_)
        · have g6 : (3 : Int32) ≤ nI 3 := nI_le (a := 3) (by omega) (by omega)
          simp only [wX_oldCellsAreRemembered_15, g6, nI_1, not_true, not_false_iff, false_implies, true_implies, true_and, and_true, forall_eq, implies_true]
          exact ih'
        · have g6 : ¬ (3 : Int32) ≤ nI f := nI_ge (b := 3) hf (by omega)
          have v2 : vp_in (nI (3 * i + f)) 1008 := vp_in_nI (by omega) (by omega)
          have k2 : (nI (3 * i + f)).toNatClampNeg = 3 * i + f := nI_clamp (by omega)
          simp only [wX_oldCellsAreRemembered_15, g6, v, k, z, z2, cs_i3, v2, k2, not_true, not_false_iff, false_implies, true_implies, true_and, and_true, forall_eq, implies_true]
          refine cs_young (cs_ok_lt (c := 4) (by omega) (J.2.1 i (by omega) (by omega) z f hf)) (fun _ => ?_) (fun b b1 b2 b3 b4 => absurd ⟨b3, b4⟩ (K4 i f b hI hi z z2 hf b2 (by omega)))
          simp only [nI_1, not_true, not_false_iff, false_implies, true_implies, true_and, and_true, forall_eq, implies_true]
          exact ih2 () trivial
      · refine ⟨1, ?_⟩
        simp only [wX_oldCellsAreRemembered_15, g5, v, k, z, z2, nI_1, not_true, not_false_iff, false_implies, true_implies, true_and, and_true, forall_eq, implies_true]
        exact ih'
end
section
/-! nothingWillBeMissed, sound -/
theorem cs_missed {f_reached f_half f_marking : Int32} {a_register a_field a_kept a_seen a_queue a_forward a_trial a_turn a_partner a_partnerBack a_tally a_remembered a_shade : Nat → Int32} {post : Int32 → SX → Prop} {yr yf : Nat → Int32} (J : cs_J 5 f_half f_marking a_register a_field a_kept a_tally a_remembered a_shade yr yf) (K : ∀ r s q, post 1 (r, f_half, f_marking, a_register, a_field, a_kept, s, q, a_forward, a_trial, a_turn, a_partner, a_partnerBack, a_tally, a_remembered, a_shade)) : wpX_nothingWillBeMissed post (f_reached, f_half, f_marking, a_register, a_field, a_kept, a_seen, a_queue, a_forward, a_trial, a_turn, a_partner, a_partnerBack, a_tally, a_remembered, a_shade) := by
  by_cases hm : f_marking = 0
  · have := K f_reached a_seen a_queue
    subst hm
    simp only [wpX_nothingWillBeMissed, not_true, not_false_iff, false_implies, true_implies, true_and, and_true, forall_eq, implies_true]
    exact this
  · obtain ⟨S, T⟩ := J.2.2.2.2.2.2 rfl hm
    have W := J.2.1
    have hZ := cs_Z_W W
    have e288 : (240 : Int32) + 48 = nI 288 := by decide
    have g288 : nI 288 ≤ nI 288 := nI_le (Nat.le_refl _) (by omega)
    have t12 : ¬ (1 : Int32) = 2 := by decide
    have t02 : ¬ (0 : Int32) = 1 := by decide
    simp only [wpX_nothingWillBeMissed, hm, not_true, not_false_iff, false_implies, true_implies, true_and, and_true, forall_eq, implies_true]
    refine cs_forget (c := 5) (by omega) (fun s0 hs0 => ?_)
    simp only []
    refine pk_loop (σ := Nat × (Nat → Int32) × (Nat → Int32)) (fun n i t => wX_nothingWillBeMissed_20 post 240 n (nI i) (nI t.1) f_half f_marking a_register a_field a_kept t.2.1 t.2.2 a_forward a_trial a_turn a_partner a_partnerBack a_tally a_remembered a_shade)
      (fun i t => 240 ≤ i ∧ cs_F 5 (fun b => cs_sg 5 b ∧ ¬ a_kept b = 0) (fun b => 240 ≤ b ∧ b < i ∧ a_shade b = 2) t.2.1 t.2.2 t.1 ∧ (∀ b, i ≤ b → b < 288 → t.2.1 b = 0) ∧ (∀ b, 240 ≤ b → b < i → ¬ a_shade b = 0 → ¬ t.2.1 b = 0)) 288 240 (0, s0, a_queue) (by omega)
      ⟨Nat.le_refl _, cs_F_S0 (cs_F_nil hs0) (fun _ h => h.elim) (fun b hb => by omega), fun b h1 h2 => hs0 b ⟨by omega, by omega⟩, fun b h1 h2 => by omega⟩ (fun n t hI => ?_) (fun n i t hi hI ih => ?_)
    · obtain ⟨L1, s1, q1⟩ := t
      obtain ⟨_, j1, j2, j3⟩ := hI
      dsimp only at j1 j2 j3 ⊢
      simp only [wX_nothingWillBeMissed_20, e288, g288, not_true, not_false_iff, false_implies, true_implies, true_and, and_true, forall_eq, implies_true]
      refine cs_follow (c := 5) (by omega) hZ j1 rfl (fun L s q a1 a2 a3 => ?_)
      simp only []
      obtain ⟨c1, c2⟩ := T (fun b => ¬ s b = 0) (fun b hb hs => a3 b (j3 b hb.1 hb.2 hs)) (fun a b ha hka hs hn ⟨g, hg, hw⟩ => by
        rcases a1.2.2.2.2 a ha hs with z | ⟨i, i1, i2⟩
        · exact absurd z.2.2 hn
        · have ha2 := ha
          unfold cs_sg at ha2
          exact a2 i a g b (Or.inl i1) hg (by omega) hw.1 i2 hw.2)
      refine pk_loop (σ := Unit) (fun n r _ => wX_nothingWillBeMissed_73 post 240 (nI L) f_half f_marking a_register a_field a_kept s q a_forward a_trial a_turn a_partner a_partnerBack a_tally a_remembered a_shade n 0 (nI r)) (fun _ _ => True) 6 0 () (by omega) trivial (fun n _ _ => ?_) (fun n r _ hr _ ih => ?_)
      · have g : (6 : Int32) ≤ nI 6 := nI_le (a := 6) (by omega) (by omega)
        simp only [wX_nothingWillBeMissed_73, g, not_true, not_false_iff, false_implies, true_implies, true_and, and_true, forall_eq, implies_true]
        refine pk_loop (σ := Unit) (fun n i _ => wX_nothingWillBeMissed_121 post 240 (nI L) f_half f_marking a_register a_field a_kept s q a_forward a_trial a_turn a_partner a_partnerBack a_tally a_remembered a_shade n 0 (nI i)) (fun i _ => 240 ≤ i) 288 240 () (by omega) (Nat.le_refl _) (fun n _ _ => ?_) (fun n i _ hi hI ih => ?_)
        · simp only [wX_nothingWillBeMissed_121, e288, g288, not_true, not_false_iff, false_implies, true_implies, true_and, and_true, forall_eq, implies_true]
          exact K (nI L) s q
        · have g2 : ¬ nI 288 ≤ nI i := nI_ge hi (by omega)
          have v : vp_in (nI i) 336 := vp_in_nI (by omega) (by omega)
          have k : (nI i).toNatClampNeg = i := nI_clamp (by omega)
          have ih' := ih () (by omega)
          have g5 : ¬ (3 : Int32) ≤ 0 := by decide
          simp only [wX_nothingWillBeMissed_121, e288, g2, not_true, not_false_iff, false_implies, true_implies, true_and, and_true, forall_eq, implies_true]
          by_cases z : a_shade i = 2
          · have sg : cs_sg 5 i := ⟨by omega, by omega⟩
            have kp : ¬ a_kept i = 0 := S.1 i sg (by rw [z]; decide)
            refine pk_loop (σ := Unit) (fun m f _ => wX_nothingWillBeMissed_132 post (wX_nothingWillBeMissed_121 post 240 (nI L) f_half f_marking a_register a_field a_kept s q a_forward a_trial a_turn a_partner a_partnerBack a_tally a_remembered a_shade n) 240 (nI i) (nI L) f_half f_marking a_register a_field a_kept s q a_forward a_trial a_turn a_partner a_partnerBack a_tally a_remembered a_shade m 0 (nI f)) (fun _ _ => True) 3 0 () (by omega) trivial (fun m _ _ => ?_) (fun m f _ hf _ ih2 => ?_)
            · have g6 : (3 : Int32) ≤ nI 3 := nI_le (a := 3) (by omega) (by omega)
              simp only [wX_nothingWillBeMissed_132, g6, nI_1, not_true, not_false_iff, false_implies, true_implies, true_and, and_true, forall_eq, implies_true]
              exact ih'
            · have g6 : ¬ (3 : Int32) ≤ nI f := nI_ge (b := 3) hf (by omega)
              have v2 : vp_in (nI (3 * i + f)) 1008 := vp_in_nI (by omega) (by omega)
              have k2 : (nI (3 * i + f)).toNatClampNeg = 3 * i + f := nI_clamp (by omega)
              have ih2' := ih2 () trivial
              rcases cs_W_word (c := 5) (by omega) W sg kp hf with ⟨o1, o2⟩ | ⟨b', o1, o2, o3, o4⟩
              · simp only [wX_nothingWillBeMissed_132, g6, v, k, z, cs_i3, v2, k2, o2, nI_1, not_true, not_false_iff, false_implies, true_implies, true_and, and_true, forall_eq, implies_true]
                exact ih2'
              · have g7 := cs_ref_ge (b := b') (by omega)
                have v3 : vp_in (nI b') 336 := vp_in_nI o2 (by omega)
                have k3 : (nI b').toNatClampNeg = b' := nI_clamp (by omega)
                have sb : ¬ s b' = 0 := c2 i b' sg kp z ⟨f, hf, by omega, o4⟩
                simp only [wX_nothingWillBeMissed_132, g6, v, k, z, cs_i3, v2, k2, o4, g7, cs_ref_sub, v3, k3, sb, nI_1, not_true, not_false_iff, false_implies, true_implies, true_and, and_true, forall_eq, implies_true]
                exact ih2'
          · refine ⟨1, ?_⟩
            simp only [wX_nothingWillBeMissed_132, g5, v, k, z, nI_1, not_true, not_false_iff, false_implies, true_implies, true_and, and_true, forall_eq, implies_true]
            exact ih'
      · have g : ¬ (6 : Int32) ≤ nI r := nI_ge (b := 6) hr (by omega)
        have ih' := ih () trivial
        simp only [wX_nothingWillBeMissed_73, g, not_true, not_false_iff, false_implies, true_implies, true_and, and_true, forall_eq, implies_true]
        rcases cs_ok_word (c := 5) (by omega) (cs_J_ok J hr) with ⟨o1, o2⟩ | ⟨b, o1, o2, o3, o4⟩
        · refine cs_cellOf_num (c := 5) (by omega) hr o1 ?_
          simp only [nI_1, not_true, not_false_iff, false_implies, true_implies, true_and, and_true, forall_eq, implies_true]
          exact ih'
        · refine cs_cellOf_ref (c := 5) (by omega) hr (by omega) o4 ?_
          have g4 : ¬ nI b = -1 := cs_nIm1 (by omega)
          have v : vp_in (nI b) 336 := vp_in_nI o2 (by omega)
          have k : (nI b).toNatClampNeg = b := nI_clamp (by omega)
          have sb : ¬ s b = 0 := c1 b ⟨r, by omega, hr, by omega, o4⟩
          simp only [g4, v, k, sb, nI_1, not_true, not_false_iff, false_implies, true_implies, true_and, and_true, forall_eq, implies_true]
          exact ih'
    · obtain ⟨L1, s1, q1⟩ := t
      obtain ⟨j0, j1, j2, j3⟩ := hI
      dsimp only at j0 j1 j2 j3 ih ⊢
      have g2 : ¬ nI 288 ≤ nI i := nI_ge hi (by omega)
      have v : vp_in (nI i) 336 := vp_in_nI (by omega) (by omega)
      have k : (nI i).toNatClampNeg = i := nI_clamp (by omega)
      have sg : cs_sg 5 i := ⟨by omega, by omega⟩
      have si : s1 i = 0 := j2 i (Nat.le_refl _) hi
      have up : ∀ b, ¬ s1 b = 0 → ¬ upd s1 i 1 b = 0 := fun b hb => by
        by_cases e : b = i
        · rw [e, cs_upd_s]; exact cs_n10
        · rw [cs_upd_n e]; exact hb
      have z2 : ∀ b, i + 1 ≤ b → b < 288 → upd s1 i 1 b = 0 := fun b h1 h2 => by rw [cs_upd_n (by omega)]; exact j2 b (by omega) h2
      have z3 : ∀ b, 240 ≤ b → b < i + 1 → ¬ a_shade b = 0 → ¬ upd s1 i 1 b = 0 := fun b h1 h2 h3 => by
        by_cases e : b = i
        · rw [e, cs_upd_s]; exact cs_n10
        · exact up b (j3 b h1 (by omega) h3)
      rcases S.2 i sg with z | z | z
      · simp only [wX_nothingWillBeMissed_20, wX_nothingWillBeMissed_44, e288, g2, v, k, z, t02, nI_1, not_true, not_false_iff, false_implies, true_implies, true_and, and_true, forall_eq, implies_true]
        refine ih (L1, s1, q1) ⟨by omega, cs_F_S0 j1 (fun b hb => ⟨hb.1, by omega, hb.2.2⟩) (fun b hb => ?_), fun b h1 h2 => j2 b (by omega) h2, fun b h1 h2 h3 => j3 b h1 ?_ h3⟩
        · refine j3 b hb.1 ?_ (by rw [hb.2.2]; decide)
          have : b ≠ i := fun e => by
            have h := hb.2.2
            rw [e, z] at h
            exact absurd h (by decide)
          have := hb.2.1
          omega
        · have : b ≠ i := fun e => h3 (e ▸ z)
          omega
      · have kp : ¬ a_kept i = 0 := S.1 i sg (by rw [z]; exact cs_n10)
        have hL := cs_F_lt (c := 5) (by omega) hZ j1 sg si
        simp only [wX_nothingWillBeMissed_20, wX_nothingWillBeMissed_44, e288, g2, v, k, z, cs_n10, cs_nb1, not_true, not_false_iff, false_implies, true_implies, true_and, and_true, forall_eq, implies_true]
        refine cs_enq rfl hL ?_
        simp only [nI_1, not_true, not_false_iff, false_implies, true_implies, true_and, and_true, forall_eq, implies_true]
        refine ih (L1 + 1, upd s1 i 1, upd q1 L1 (nI i)) ⟨by omega, cs_F_S0 (cs_F_add (c := 5) (by omega) hZ j1 ⟨sg, kp⟩ si) (fun b hb => ⟨hb.1, by omega, hb.2.2⟩) (fun b hb => ?_), z2, z3⟩
        exact z3 b hb.1 hb.2.1 (by rw [hb.2.2]; decide)
      · have t20 : ¬ (2 : Int32) = 0 := by decide
        have t21 : ¬ (2 : Int32) = 1 := by decide
        simp only [wX_nothingWillBeMissed_20, wX_nothingWillBeMissed_44, e288, g2, v, k, z, t20, t21, cs_nb1, nI_1, not_true, not_false_iff, false_implies, true_implies, true_and, and_true, forall_eq, implies_true]
        refine ih (L1, upd s1 i 1, q1) ⟨by omega, cs_F_S0 (cs_F_mark j1 i) (fun b hb => ?_) (fun b hb => ?_), z2, z3⟩
        · rcases hb with hb | hb
          · exact ⟨hb.1, by omega, hb.2.2⟩
          · rw [hb]; exact ⟨j0, by omega, z⟩
        · exact z3 b hb.1 hb.2.1 (by rw [hb.2.2]; decide)
theorem i_vc_sound {k : Nat} {u : SX} {v : SY} (I : i_Rel k u v) (hk : k + 4 ≤ 2048) : wpX_sound (fun r u' => wpY_sound (fun r' => r' = r ∧ i_Rel (k + 4) u' v) v) u := by
  obtain ⟨f_reached, f_half, f_marking, a_register, a_field, a_kept, a_seen, a_queue, a_forward, a_trial, a_turn, a_partner, a_partnerBack, a_tally, a_remembered, a_shade⟩ := u
  obtain ⟨yr, yf⟩ := v
  obtain ⟨hJ, hY⟩ := I
  dsimp only at hY hJ
  have Jd : ∀ d, d < 7 → cs_J d f_half f_marking a_register a_field a_kept a_tally a_remembered a_shade yr yf := hJ
  simp only [wpX_sound, wpY_sound]
  refine pk_loop (σ := Unit) (fun n c _ => wX_sound_2 (fun r u' => 1 = r ∧ i_Rel (k + 4) u' (yr, yf)) f_reached f_half f_marking a_register a_field a_kept a_seen a_queue a_forward a_trial a_turn a_partner a_partnerBack a_tally a_remembered a_shade n (nI c)) (fun _ _ => True) 7 0 () (by omega) trivial (fun n _ _ => ?_) (fun n c _ hc _ ih => ?_)
  · have g : (7 : Int32) ≤ nI 7 := nI_le (a := 7) (by omega) (by omega)
    simp only [wX_sound_2, g, not_true, not_false_iff, false_implies, true_implies, true_and, and_true, forall_eq, implies_true]
    refine pk_loop (σ := Int32 × (Nat → Int32) × (Nat → Int32) × (Nat → Int32)) (fun n c t => wX_sound_26 (fun r u' => 1 = r ∧ i_Rel (k + 4) u' (yr, yf)) n (nI c) t.1 f_half f_marking a_register a_field a_kept a_seen t.2.2.2 a_forward a_trial a_turn t.2.1 t.2.2.1 a_tally a_remembered a_shade) (fun _ _ => True) 7 1 (f_reached, a_partner, a_partnerBack, a_queue) (by omega) trivial (fun n t _ => ?_) (fun n c t hc _ ih => ?_)
    · obtain ⟨rc, pa, pb, q⟩ := t
      dsimp only
      simp only [wX_sound_26, g, not_true, not_false_iff, false_implies, true_implies, true_and, and_true, forall_eq, implies_true]
      refine cs_otherEmpty (Jd 1 (by omega)) ?_
      simp only [cs_n10, not_true, not_false_iff, false_implies, true_implies, true_and, and_true, forall_eq, implies_true]
      refine cs_noGap ((Jd 2 (by omega)).2.2.2.1 rfl) ?_
      simp only [cs_n10, not_true, not_false_iff, false_implies, true_implies, true_and, and_true, forall_eq, implies_true]
      refine cs_tallies (Jd 3 (by omega)) (fun tr => ?_)
      simp only [cs_n10, not_true, not_false_iff, false_implies, true_implies, true_and, and_true, forall_eq, implies_true]
      refine cs_oldRem (Jd 4 (by omega)) ?_
      simp only [cs_n10, not_true, not_false_iff, false_implies, true_implies, true_and, and_true, forall_eq, implies_true]
      refine cs_missed (Jd 5 (by omega)) (fun r2 s2 q2 => ?_)
      simp only [cs_n10, not_true, not_false_iff, false_implies, true_implies, true_and, and_true, forall_eq, implies_true]
      first | exact ⟨hJ, hY⟩ | exact ⟨rfl, hJ, hY⟩
    · obtain ⟨rc, pa, pb, q⟩ := t
      dsimp only at ih ⊢
      have g2 : ¬ (7 : Int32) ≤ nI c := nI_ge (b := 7) hc (by omega)
      obtain ⟨P, IP⟩ := (Jd 0 (by omega)).1
      obtain ⟨P', IP'⟩ := (Jd c hc).1
      simp only [wX_sound_26, g2, not_true, not_false_iff, false_implies, true_implies, true_and, and_true, forall_eq, implies_true]
      refine cs_pairs (c := 0) (by omega) hc IP IP' (fun L pa' pb' q' => ?_)
      simp only [cs_n10, nI_1, not_true, not_false_iff, false_implies, true_implies, true_and, and_true, forall_eq, implies_true]
      exact ih (nI L, pa', pb', q') trivial
  · have g : ¬ (7 : Int32) ≤ nI c := nI_ge (b := 7) hc (by omega)
    simp only [wX_sound_2, g, not_true, not_false_iff, false_implies, true_implies, true_and, and_true, forall_eq, implies_true]
    refine cs_wsSound hc (Jd c hc) ?_
    simp only [cs_n10, nI_1, not_true, not_false_iff, false_implies, true_implies, true_and, and_true, forall_eq, implies_true]
    exact ih () trivial
end
