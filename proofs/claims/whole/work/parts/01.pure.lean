/-! counting, sums and least sets; nothing of the program -/
noncomputable def cs_b (P : Prop) : Nat := @ite Nat P (Classical.propDecidable P) 1 0
theorem cs_bt {P : Prop} (h : P) : cs_b P = 1 := by unfold cs_b; rw [if_pos h]
theorem cs_bf {P : Prop} (h : ¬ P) : cs_b P = 0 := by unfold cs_b; rw [if_neg h]
theorem cs_ble (P : Prop) : cs_b P ≤ 1 := by
  rcases Classical.em P with h | h
  · rw [cs_bt h]; omega
  · rw [cs_bf h]; omega
theorem cs_bmono {P Q : Prop} (h : P → Q) : cs_b P ≤ cs_b Q := by
  rcases Classical.em P with hp | hp
  · rw [cs_bt hp, cs_bt (h hp)]; omega
  · rw [cs_bf hp]; omega
noncomputable def cs_n (P : Nat → Prop) : Nat → Nat
  | 0 => 0
  | k + 1 => cs_n P k + cs_b (P k)
theorem cs_n_mono {P Q : Nat → Prop} : ∀ {N : Nat}, (∀ k, k < N → P k → Q k) → cs_n P N ≤ cs_n Q N
  | 0, _ => Nat.le_refl _
  | N + 1, h => by
    have a := cs_n_mono (P := P) (Q := Q) (N := N) (fun k hk => h k (by omega))
    have b := cs_bmono (h N (by omega))
    simp only [cs_n]; omega
theorem cs_n_lt {P Q : Nat → Prop} {a : Nat} (hp : ¬ P a) (hq : Q a) : ∀ {N : Nat}, (∀ k, k < N → P k → Q k) → a < N → cs_n P N < cs_n Q N
  | 0, _, h => by omega
  | N + 1, h, ha => by
    simp only [cs_n]
    rcases Nat.lt_or_ge a N with z | z
    · have x := cs_n_lt hp hq (N := N) (fun k hk => h k (by omega)) z
      have b := cs_bmono (h N (by omega))
      omega
    · have e : a = N := by omega
      subst e
      have x := cs_n_mono (P := P) (Q := Q) (N := a) (fun k hk => h k (by omega))
      rw [cs_bt hq, cs_bf hp]; omega
theorem cs_n_le (P : Nat → Prop) : ∀ N, cs_n P N ≤ N
  | 0 => Nat.le_refl _
  | N + 1 => by have := cs_n_le P N; have := cs_ble (P N); simp only [cs_n]; omega
theorem cs_n_eq {P Q : Nat → Prop} {N : Nat} (h : ∀ k, k < N → (P k ↔ Q k)) : cs_n P N = cs_n Q N :=
  Nat.le_antisymm (cs_n_mono fun k hk => (h k hk).mp) (cs_n_mono fun k hk => (h k hk).mpr)
theorem cs_n_add {P : Nat → Prop} {a : Nat} (hp : ¬ P a) : ∀ {N : Nat}, a < N → cs_n (fun k => P k ∨ k = a) N = cs_n P N + 1
  | 0, h => by omega
  | N + 1, h => by
    simp only [cs_n]
    rcases Nat.lt_or_ge a N with z | z
    · rw [cs_n_add hp z]
      have : cs_b (P N ∨ N = a) = cs_b (P N) := Nat.le_antisymm (cs_bmono fun q => q.elim id (fun e => by omega)) (cs_bmono Or.inl)
      omega
    · have e : a = N := by omega
      subst e
      rw [cs_n_eq (P := fun k => P k ∨ k = a) (Q := P) (fun k hk => ⟨fun q => q.elim id (fun e => by omega), Or.inl⟩), cs_bt (Or.inr rfl), cs_bf hp]
theorem cs_n_rem {P : Nat → Prop} {a N : Nat} (hp : P a) (ha : a < N) : cs_n P N = cs_n (fun k => P k ∧ k ≠ a) N + 1 := by
  rw [← cs_n_add (P := fun k => P k ∧ k ≠ a) (a := a) (fun h => h.2 rfl) ha]
  refine cs_n_eq (fun k _ => ⟨fun h => ?_, fun h => ?_⟩)
  · by_cases e : k = a
    · exact Or.inr e
    · exact Or.inl ⟨h, e⟩
  · rcases h with h | h
    · exact h.1
    · rw [h]; exact hp
theorem cs_n_0 {P : Nat → Prop} : ∀ {N : Nat}, (∀ k, k < N → ¬ P k) → cs_n P N = 0
  | 0, _ => rfl
  | N + 1, h => by
    have a := cs_n_0 (P := P) (N := N) (fun k hk => h k (by omega))
    simp only [cs_n]; rw [cs_bf (h N (by omega))]; omega
theorem cs_n_all {P : Nat → Prop} : ∀ {N : Nat}, (∀ k, k < N → P k) → cs_n P N = N
  | 0, _ => rfl
  | N + 1, h => by
    have a := cs_n_all (P := P) (N := N) (fun k hk => h k (by omega))
    simp only [cs_n]; rw [cs_bt (h N (by omega))]; omega
theorem cs_n_pos {P : Nat → Prop} {N : Nat} (h : 0 < cs_n P N) : ∃ k, k < N ∧ P k := by
  refine Classical.byContradiction fun hn => ?_
  have := cs_n_0 (P := P) (N := N) (fun k hk hp => hn ⟨k, hk, hp⟩)
  omega
theorem cs_n_ex {P : Nat → Prop} {N : Nat} (h : cs_n P N < N) : ∃ k, k < N ∧ ¬ P k := by
  refine Classical.byContradiction fun hn => ?_
  have := cs_n_all (P := P) (N := N) (fun k hk => Classical.byContradiction fun hp => hn ⟨k, hk, hp⟩)
  omega
theorem cs_n_compl {P : Nat → Prop} : ∀ {N : Nat}, cs_n P N + cs_n (fun k => ¬ P k) N = N
  | 0 => rfl
  | N + 1 => by
    have a := cs_n_compl (P := P) (N := N)
    simp only [cs_n]
    rcases Classical.em (P N) with h | h
    · rw [cs_bt h, cs_bf (P := ¬ P N) (fun z => z h)]; omega
    · rw [cs_bf h, cs_bt (P := ¬ P N) h]; omega
theorem cs_n_inj {A : Nat → Prop} {Q : Nat → Nat → Prop} {m : Nat} : ∀ (n : Nat) (B : Nat → Prop), (∀ a, a < n → A a → ∃ b, b < m ∧ B b ∧ Q a b) → (∀ a a' b, a < n → a' < n → Q a b → Q a' b → a = a') → cs_n A n ≤ cs_n B m
  | 0, _, _, _ => Nat.zero_le _
  | n + 1, B, h, hi => by
    have hi' : ∀ a a' b, a < n → a' < n → Q a b → Q a' b → a = a' := fun a a' b h1 h2 => hi a a' b (by omega) (by omega)
    simp only [cs_n]
    rcases Classical.em (A n) with hA | hA
    · obtain ⟨b, hb, hB, hQ⟩ := h n (by omega) hA
      have ih := cs_n_inj n (fun k => B k ∧ k ≠ b) (fun a ha hAa => by
        obtain ⟨b', hb', hB', hQ'⟩ := h a (by omega) hAa
        refine ⟨b', hb', ⟨hB', fun e => ?_⟩, hQ'⟩
        rw [e] at hQ'
        have := hi a n b (by omega) (by omega) hQ' hQ
        omega) hi'
      have r := cs_n_rem hB hb
      rw [cs_bt hA]; omega
    · have ih := cs_n_inj n B (fun a ha => h a (by omega)) hi'
      rw [cs_bf hA]; omega
theorem cs_n_bij {A B : Nat → Prop} {Q : Nat → Nat → Prop} {n m : Nat} (h : ∀ a, a < n → A a → ∃ b, b < m ∧ B b ∧ Q a b) (h' : ∀ b, b < m → B b → ∃ a, a < n ∧ A a ∧ Q a b)
    (hi : ∀ a a' b, Q a b → Q a' b → a = a') (hf : ∀ a b b', Q a b → Q a b' → b = b') : cs_n A n = cs_n B m :=
  Nat.le_antisymm (cs_n_inj n B h (fun a a' b _ _ => hi a a' b)) (cs_n_inj (Q := fun b a => Q a b) m A h' (fun b b' a _ _ => hf a b b'))
/-- a queue without repetition within a set is no longer than the set -/
theorem cs_q_le {A : Nat → Prop} {q : Nat → Nat} {L m : Nat} (h : ∀ i, i < L → q i < m ∧ A (q i)) (hi : ∀ i j, i < L → j < L → q i = q j → i = j) : L ≤ cs_n A m := by
  have := cs_n_inj (A := fun _ => True) (Q := fun i b => b = q i) (m := m) L A (fun a ha _ => ⟨q a, (h a ha).1, (h a ha).2, rfl⟩) (fun a a' b h1 h2 e e' => hi a a' h1 h2 (e.symm.trans e'))
  rw [cs_n_all (fun _ _ => trivial)] at this
  exact this
theorem cs_q_eq {A : Nat → Prop} {q : Nat → Nat} {L m : Nat} (h : ∀ i, i < L → q i < m ∧ A (q i)) (hi : ∀ i j, i < L → j < L → q i = q j → i = j) (hs : ∀ a, a < m → A a → ∃ i, i < L ∧ q i = a) : cs_n A m = L := by
  have := cs_n_bij (A := fun _ => True) (B := A) (n := L) (m := m) (Q := fun i b => i < L ∧ b = q i) (fun a ha _ => ⟨q a, (h a ha).1, (h a ha).2, ha, rfl⟩)
    (fun b hb hB => by obtain ⟨i, h1, h2⟩ := hs b hb hB; exact ⟨i, h1, trivial, h1, h2.symm⟩)
    (fun a a' b e e' => hi a a' e.1 e'.1 (e.2.symm.trans e'.2)) (fun a b b' e e' => e.2.trans e'.2.symm)
  rw [cs_n_all (fun _ _ => trivial)] at this
  exact this.symm
noncomputable def cs_t (P : Prop) (x : Int32) : Int32 := @ite Int32 P (Classical.propDecidable P) x 0
theorem cs_tt {P : Prop} (h : P) (x : Int32) : cs_t P x = x := by unfold cs_t; rw [if_pos h]
theorem cs_tf {P : Prop} (h : ¬ P) (x : Int32) : cs_t P x = 0 := by unfold cs_t; rw [if_neg h]
noncomputable def cs_s (A : Nat → Prop) (g : Nat → Int32) : Nat → Int32
  | 0 => 0
  | k + 1 => cs_s A g k + cs_t (A k) (g k)
theorem cs_s_cg {A B : Nat → Prop} {g h : Nat → Int32} : ∀ {N : Nat}, (∀ k, k < N → (A k ↔ B k)) → (∀ k, k < N → A k → g k = h k) → cs_s A g N = cs_s B h N
  | 0, _, _ => rfl
  | N + 1, hA, hg => by
    have a := cs_s_cg (A := A) (B := B) (g := g) (h := h) (N := N) (fun k hk => hA k (by omega)) (fun k hk => hg k (by omega))
    simp only [cs_s]; rw [a]
    rcases Classical.em (A N) with z | z
    · rw [cs_tt z, cs_tt ((hA N (by omega)).mp z), hg N (by omega) z]
    · rw [cs_tf z, cs_tf (fun y => z ((hA N (by omega)).mpr y))]
theorem cs_s_0 {A : Nat → Prop} {g : Nat → Int32} : ∀ {N : Nat}, (∀ k, k < N → ¬ A k) → cs_s A g N = 0
  | 0, _ => rfl
  | N + 1, h => by
    have a := cs_s_0 (A := A) (g := g) (N := N) (fun k hk => h k (by omega))
    simp only [cs_s]; rw [a, cs_tf (h N (by omega))]; rfl
theorem cs_s_rem {A : Nat → Prop} {g : Nat → Int32} {a : Nat} (hp : A a) : ∀ {N : Nat}, a < N → cs_s A g N = cs_s (fun k => A k ∧ k ≠ a) g N + g a
  | 0, h => by omega
  | N + 1, h => by
    simp only [cs_s]
    rcases Nat.lt_or_ge a N with z | z
    · rw [cs_s_rem hp z]
      have e : cs_t (A N ∧ N ≠ a) (g N) = cs_t (A N) (g N) := by
        rcases Classical.em (A N) with y | y
        · rw [cs_tt y, cs_tt (⟨y, by omega⟩ : A N ∧ N ≠ a)]
        · rw [cs_tf y, cs_tf (fun w : A N ∧ N ≠ a => y w.1)]
      rw [e]; grind
    · have e : a = N := by omega
      subst e
      rw [cs_tt hp, cs_tf (fun w : A a ∧ a ≠ a => w.2 rfl), cs_s_cg (A := fun k => A k ∧ k ≠ a) (B := A) (h := g) (fun k hk => ⟨fun w => w.1, fun w => ⟨w, by omega⟩⟩) (fun _ _ _ => rfl)]
      grind
theorem cs_s_bij {A : Nat → Prop} {g h : Nat → Int32} {Q : Nat → Nat → Prop} {m : Nat} (hi : ∀ a a' b, Q a b → Q a' b → a = a') (hf : ∀ a b b', Q a b → Q a b' → b = b') (hg : ∀ a b, Q a b → g a = h b) :
    ∀ (n : Nat) (B : Nat → Prop), (∀ a, a < n → A a → ∃ b, b < m ∧ B b ∧ Q a b) → (∀ b, b < m → B b → ∃ a, a < n ∧ A a ∧ Q a b) → cs_s A g n = cs_s B h m
  | 0, B, _, h2 => by
    rw [cs_s_0 (A := B) (fun k hk hB => by obtain ⟨a, ha, _⟩ := h2 k hk hB; omega)]; rfl
  | n + 1, B, h1, h2 => by
    simp only [cs_s]
    rcases Classical.em (A n) with hA | hA
    · obtain ⟨b, hb, hB, hQ⟩ := h1 n (by omega) hA
      have ih := cs_s_bij hi hf hg n (fun k => B k ∧ k ≠ b) (fun a ha hAa => by
        obtain ⟨b', hb', hB', hQ'⟩ := h1 a (by omega) hAa
        refine ⟨b', hb', ⟨hB', fun e => ?_⟩, hQ'⟩
        rw [e] at hQ'
        have := hi a n b hQ' hQ
        omega) (fun b' hb' hB' => by
        obtain ⟨a, ha, hAa, hQ'⟩ := h2 b' hb' hB'.1
        refine ⟨a, ?_, hAa, hQ'⟩
        rcases Nat.lt_or_ge a n with z | z
        · exact z
        · have e : a = n := by omega
          rw [e] at hQ'
          exact absurd (hf n b' b hQ' hQ) hB'.2)
      rw [cs_s_rem hB hb, cs_tt hA, ih, hg n b hQ]
    · have ih := cs_s_bij hi hf hg n B (fun a ha => h1 a (by omega)) (fun b hb hB => by
        obtain ⟨a, ha, hAa, hQ'⟩ := h2 b hb hB
        refine ⟨a, ?_, hAa, hQ'⟩
        rcases Nat.lt_or_ge a n with z | z
        · exact z
        · have e : a = n := by omega
          rw [e] at hAa
          exact absurd hAa hA)
      rw [cs_tf hA, ih]; grind
/-- the least set that holds R and is closed under E -/
def cs_R (R : Nat → Prop) (E : Nat → Nat → Prop) (x : Nat) : Prop := ∀ S : Nat → Prop, (∀ a, R a → S a) → (∀ a b, S a → E a b → S b) → S x
theorem cs_R_b {R : Nat → Prop} {E : Nat → Nat → Prop} {x : Nat} (h : R x) : cs_R R E x := fun _ h0 _ => h0 x h
theorem cs_R_s {R : Nat → Prop} {E : Nat → Nat → Prop} {x y : Nat} (h : cs_R R E x) (e : E x y) : cs_R R E y := fun S h0 h1 => h1 x y (h S h0 h1) e
theorem cs_R_i {R : Nat → Prop} {E : Nat → Nat → Prop} (S : Nat → Prop) (h0 : ∀ a, R a → S a) (hs : ∀ a b, cs_R R E a → S a → E a b → S b) {x : Nat} (h : cs_R R E x) : S x :=
  (h (fun a => cs_R R E a ∧ S a) (fun a ha => ⟨cs_R_b ha, h0 a ha⟩) (fun a b hab hE => ⟨cs_R_s hab.1 hE, hs a b hab.1 hab.2 hE⟩)).2
theorem cs_bcg {P Q : Prop} (h : P ↔ Q) : cs_b P = cs_b Q := by rw [propext h]
theorem cs_n_upd {A A' : Nat → Prop} {k : Nat} (h : ∀ j, j ≠ k → (A j ↔ A' j)) : ∀ {N : Nat}, k < N → cs_n A' N + cs_b (A k) = cs_n A N + cs_b (A' k)
  | 0, z => by omega
  | N + 1, z => by
    simp only [cs_n]
    rcases Nat.lt_or_ge k N with y | y
    · have a := cs_n_upd h (N := N) y
      have b := cs_bcg (h N (by omega))
      omega
    · have e : k = N := by omega
      subst e
      have a := cs_n_eq (P := A') (Q := A) (N := k) (fun j hj => (h j (by omega)).symm)
      omega
theorem cs_n_suc (P : Nat → Prop) (k : Nat) : cs_n P (k + 1) = cs_n P k + cs_b (P k) := rfl
theorem cs_n_up (P : Nat → Prop) {j : Nat} : ∀ {k : Nat}, j ≤ k → cs_n P j ≤ cs_n P k
  | 0, h => by
    have e : j = 0 := by omega
    rw [e]; exact Nat.le_refl _
  | k + 1, h => by
    rcases Nat.lt_or_ge j (k + 1) with y | y
    · have := cs_n_up P (j := j) (k := k) (by omega)
      rw [cs_n_suc]; omega
    · have e : j = k + 1 := by omega
      rw [e]; exact Nat.le_refl _
def cs_un (t : Nat → Nat) (k v : Nat) : Nat → Nat := fun z => if z = k then v else t z
theorem cs_un_s (t : Nat → Nat) (k v : Nat) : cs_un t k v k = v := if_pos rfl
theorem cs_un_n {t : Nat → Nat} {k v z : Nat} (h : z ≠ k) : cs_un t k v z = t z := if_neg h
theorem cs_upd_s (a : Nat → Int32) (k : Nat) (x : Int32) : upd a k x k = x := if_pos rfl
theorem cs_upd_n {a : Nat → Int32} {k j : Nat} {x : Int32} (h : j ≠ k) : upd a k x j = a j := if_neg h
