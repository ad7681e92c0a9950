/-! cells: sweeping, free ones, taking one -/
def cs_up (lo i : Nat) (A : Nat → Prop) (k0 k : Nat → Int32) : Prop := (∀ b, lo ≤ b → b < i → (¬ k b = 0 ↔ A b)) ∧ (∀ b, ¬ (lo ≤ b ∧ b < i) → k b = k0 b)
theorem cs_up_0 {lo : Nat} {A : Nat → Prop} {k0 : Nat → Int32} : cs_up lo lo A k0 k0 := ⟨fun b h1 h2 => by omega, fun _ _ => rfl⟩
theorem cs_up_s {lo i : Nat} {A : Nat → Prop} {k0 k : Nat → Int32} (h : cs_up lo i A k0 k) (hi : lo ≤ i) {v : Int32} (hv : ¬ v = 0 ↔ A i) : cs_up lo (i + 1) A k0 (upd k i v) := by
  refine ⟨fun b h1 h2 => ?_, fun b hb => ?_⟩
  · by_cases e : b = i
    · rw [e, cs_upd_s]; exact hv
    · rw [cs_upd_n e]; exact h.1 b h1 (by omega)
  · rw [cs_upd_n (by omega)]; exact h.2 b (by omega)
theorem cs_up_at {lo i : Nat} {A : Nat → Prop} {k0 k : Nat → Int32} (h : cs_up lo i A k0 k) : k i = k0 i := h.2 i (by omega)
def cs_st (lo i : Nat) (g k0 k : Nat → Int32) : Prop := (∀ b, lo ≤ b → b < i → k b = g b) ∧ (∀ b, ¬ (lo ≤ b ∧ b < i) → k b = k0 b)
theorem cs_st_0 {lo : Nat} {g k0 : Nat → Int32} : cs_st lo lo g k0 k0 := ⟨fun b h1 h2 => by omega, fun _ _ => rfl⟩
theorem cs_st_s {lo i : Nat} {g k0 k : Nat → Int32} (h : cs_st lo i g k0 k) (hi : lo ≤ i) {v : Int32} (hv : v = g i) : cs_st lo (i + 1) g k0 (upd k i v) := by
  refine ⟨fun b h1 h2 => ?_, fun b hb => ?_⟩
  · by_cases e : b = i
    · rw [e, cs_upd_s]; exact hv
    · rw [cs_upd_n e]; exact h.1 b h1 (by omega)
  · rw [cs_upd_n (by omega)]; exact h.2 b (by omega)
theorem cs_n00 {P : Prop} (h : ¬ P) : (¬ (0 : Int32) = 0 ↔ P) := ⟨fun z => absurd rfl z, fun z => absurd z h⟩
theorem cs_n11 {P : Prop} (h : P) : (¬ (1 : Int32) = 0 ↔ P) := ⟨fun _ => h, fun _ => cs_n10⟩
theorem cs_sweepU {f_reached f_half f_marking : Int32} {a_register a_field a_kept a_seen a_queue a_forward a_trial a_turn a_partner a_partnerBack a_tally a_remembered a_shade : Nat → Int32} {post : SX → Prop} {c : Nat} (hc : c < 7) (K : ∀ xk', (∀ b, cs_sg c b → (¬ xk' b = 0 ↔ ¬ a_kept b = 0 ∧ ¬ a_seen b = 0)) → (∀ b, ¬ cs_sg c b → xk' b = a_kept b) → post (f_reached, f_half, f_marking, a_register, a_field, xk', a_seen, a_queue, a_forward, a_trial, a_turn, a_partner, a_partnerBack, a_tally, a_remembered, a_shade)) : wpX_sweepUnseen post (f_reached, f_half, f_marking, a_register, a_field, a_kept, a_seen, a_queue, a_forward, a_trial, a_turn, a_partner, a_partnerBack, a_tally, a_remembered, a_shade) (nI c) := by
  simp only [wpX_sweepUnseen, cs_i48, not_true, not_false_iff, false_implies, true_implies, true_and, and_true, forall_eq, implies_true]
  refine pk_loop (σ := Nat → Int32) (fun n i s => wX_sweepUnseen_5 post (nI c) f_reached f_half f_marking n (nI i) a_register a_field s a_seen a_queue a_forward a_trial a_turn a_partner a_partnerBack a_tally a_remembered a_shade) (fun i s => 48 * c ≤ i ∧ cs_up (48 * c) i (fun b => ¬ a_kept b = 0 ∧ ¬ a_seen b = 0) a_kept s) (48 * c + 48) (48 * c) a_kept (by omega) ⟨Nat.le_refl _, cs_up_0⟩ (fun n s hI => ?_) (fun n i s hi hI ih => ?_)
  · have g : nI (48 * (c + 1)) ≤ nI (48 * c + 48) := nI_le (by omega) (by omega)
    simp only [wX_sweepUnseen_5, nI_1, cs_i48, g, not_true, not_false_iff, false_implies, true_implies, true_and, and_true, forall_eq, implies_true]
    exact K s (fun b hb => hI.2.1 b hb.1 hb.2) (fun b hb => hI.2.2 b hb)
  · have g : ¬ nI (48 * (c + 1)) ≤ nI i := nI_ge (by omega) (by omega)
    have v : vp_in (nI i) 336 := vp_in_nI (by omega) (by omega)
    have k : (nI i).toNatClampNeg = i := nI_clamp (by omega)
    have ea := cs_up_at hI.2
    by_cases z : a_kept i = 0
    · simp only [wX_sweepUnseen_5, cs_i48, g, v, k, ea, z, cs_nb0, nI_1, not_true, not_false_iff, false_implies, true_implies, true_and, and_true, forall_eq, implies_true]
      exact ih _ ⟨by omega, cs_up_s hI.2 hI.1 (cs_n00 (fun y => y.1 z))⟩
    · by_cases z2 : a_seen i = 0
      · simp only [wX_sweepUnseen_5, cs_i48, g, v, k, ea, z, z2, cs_nb0, nI_1, not_true, not_false_iff, false_implies, true_implies, true_and, and_true, forall_eq, implies_true]
        exact ih _ ⟨by omega, cs_up_s hI.2 hI.1 (cs_n00 (fun y => y.2 z2))⟩
      · simp only [wX_sweepUnseen_5, cs_i48, g, v, k, ea, z, z2, cs_nb1, nI_1, not_true, not_false_iff, false_implies, true_implies, true_and, and_true, forall_eq, implies_true]
        exact ih _ ⟨by omega, cs_up_s hI.2 hI.1 (cs_n11 ⟨z, z2⟩)⟩
theorem cs_freeCells {f_reached f_half f_marking : Int32} {a_register a_field a_kept a_seen a_queue a_forward a_trial a_turn a_partner a_partnerBack a_tally a_remembered a_shade : Nat → Int32} {post : Int32 → Prop} {p q : Nat} (hpq : p ≤ q) (hq : q ≤ 336) (K : post (nI (cs_n (fun i => a_kept (p + i) = 0) (q - p)))) : wpX_freeCells post (f_reached, f_half, f_marking, a_register, a_field, a_kept, a_seen, a_queue, a_forward, a_trial, a_turn, a_partner, a_partnerBack, a_tally, a_remembered, a_shade) (nI p) (nI q) := by
  simp only [wpX_freeCells]
  refine pk_loop (σ := Nat) (fun n i t => wX_freeCells_5 post (nI q) f_reached f_half f_marking a_register a_field a_kept a_seen a_queue a_forward a_trial a_turn a_partner a_partnerBack a_tally a_remembered a_shade n (nI t) (nI i)) (fun i t => p ≤ i ∧ t = cs_n (fun i => a_kept (p + i) = 0) (i - p)) q p 0 hpq ⟨Nat.le_refl _, by rw [Nat.sub_self]; rfl⟩ (fun n t hI => ?_) (fun n i t hi hI ih => ?_)
  · have g : nI q ≤ nI q := nI_le (Nat.le_refl _) (by omega)
    simp only [wX_freeCells_5, g, not_true, not_false_iff, false_implies, true_implies, true_and, and_true, forall_eq, implies_true]
    rw [hI.2]; exact K
  · have g : ¬ nI q ≤ nI i := nI_ge hi (by omega)
    have v : vp_in (nI i) 336 := vp_in_nI (by omega) (by omega)
    have k : (nI i).toNatClampNeg = i := nI_clamp (by omega)
    have h1 := hI.1
    have e : i + 1 - p = (i - p) + 1 := by omega
    have e2 : p + (i - p) = i := by omega
    by_cases z : a_kept i = 0
    · simp only [wX_freeCells_5, g, v, k, z, nI_1, not_true, not_false_iff, false_implies, true_implies, true_and, and_true, forall_eq, implies_true]
      exact ih (t + 1) ⟨by omega, by rw [e, cs_n_suc, cs_bt (by rw [e2]; exact z), hI.2]⟩
    · simp only [wX_freeCells_5, g, v, k, z, nI_1, not_true, not_false_iff, false_implies, true_implies, true_and, and_true, forall_eq, implies_true]
      exact ih t ⟨by omega, by rw [e, cs_n_suc, cs_bf (by rw [e2]; exact z), hI.2, Nat.add_zero]⟩
theorem cs_firstFree {f_reached f_half f_marking : Int32} {a_register a_field a_kept a_seen a_queue a_forward a_trial a_turn a_partner a_partnerBack a_tally a_remembered a_shade : Nat → Int32} {post : Int32 → Prop} {p q : Nat} (hpq : p ≤ q) (hq : q ≤ 336) (K1 : (∀ b, p ≤ b → b < q → ¬ a_kept b = 0) → post (-1)) (K2 : ∀ b, p ≤ b → b < q → a_kept b = 0 → (∀ b', p ≤ b' → b' < b → ¬ a_kept b' = 0) → post (nI b)) : wpX_firstFree post (f_reached, f_half, f_marking, a_register, a_field, a_kept, a_seen, a_queue, a_forward, a_trial, a_turn, a_partner, a_partnerBack, a_tally, a_remembered, a_shade) (nI p) (nI q) := by
  simp only [wpX_firstFree]
  refine pk_loop (σ := Unit) (fun n i _ => wX_firstFree_2 post (nI q) f_reached f_half f_marking a_register a_field a_kept a_seen a_queue a_forward a_trial a_turn a_partner a_partnerBack a_tally a_remembered a_shade n (nI i)) (fun i _ => p ≤ i ∧ ∀ b', p ≤ b' → b' < i → ¬ a_kept b' = 0) q p () hpq ⟨Nat.le_refl _, fun b h1 h2 => by omega⟩ (fun n t hI => ?_) (fun n i t hi hI ih => ?_)
  · have g : nI q ≤ nI q := nI_le (Nat.le_refl _) (by omega)
    simp only [wX_firstFree_2, g, not_true, not_false_iff, false_implies, true_implies, true_and, and_true, forall_eq, implies_true]
    exact K1 hI.2
  · have g : ¬ nI q ≤ nI i := nI_ge hi (by omega)
    have v : vp_in (nI i) 336 := vp_in_nI (by omega) (by omega)
    have k : (nI i).toNatClampNeg = i := nI_clamp (by omega)
    by_cases z : a_kept i = 0
    · simp only [wX_firstFree_2, g, v, k, z, not_true, not_false_iff, false_implies, true_implies, true_and, and_true, forall_eq, implies_true]
      exact K2 i hI.1 hi z hI.2
    · simp only [wX_firstFree_2, g, v, k, z, nI_1, not_true, not_false_iff, false_implies, true_implies, true_and, and_true, forall_eq, implies_true]
      refine ih () ⟨by have := hI.1; omega, fun b' h1 h2 => ?_⟩
      by_cases e : b' = i
      · rw [e]; exact z
      · exact hI.2 b' h1 (by omega)
/-- where collector c looks for a free cell -/
def cs_re (c : Nat) (h : Int32) (lo hi : Nat) : Prop := (c = 1 → h = nI lo ∧ (lo = 48 ∨ lo = 72) ∧ hi = lo + 24) ∧ (c = 4 → lo = 192 ∧ hi = 208) ∧ (c ≠ 1 → c ≠ 4 → lo = 48 * c ∧ hi = 48 * c + 48)
theorem cs_re_in {c : Nat} {h : Int32} {lo hi : Nat} (hc : c < 7) (R : cs_re c h lo hi) : 48 * c ≤ lo ∧ lo ≤ hi ∧ hi ≤ 48 * c + 48 ∧ hi ≤ 336 := by
  obtain ⟨r1, r2, r3⟩ := R
  by_cases e1 : c = 1
  · have := r1 e1; omega
  · by_cases e4 : c = 4
    · have := r2 e4; omega
    · have := r3 e1 e4; omega
theorem cs_freeCell {f_reached f_half f_marking : Int32} {a_register a_field a_kept a_seen a_queue a_forward a_trial a_turn a_partner a_partnerBack a_tally a_remembered a_shade : Nat → Int32} {post : Int32 → Prop} {c lo hi : Nat} (hc : c < 7) (R : cs_re c f_half lo hi) (K1 : (∀ b, lo ≤ b → b < hi → ¬ a_kept b = 0) → post (-1)) (K2 : ∀ b, lo ≤ b → b < hi → a_kept b = 0 → (∀ b', lo ≤ b' → b' < b → ¬ a_kept b' = 0) → post (nI b)) : wpX_freeCell post (f_reached, f_half, f_marking, a_register, a_field, a_kept, a_seen, a_queue, a_forward, a_trial, a_turn, a_partner, a_partnerBack, a_tally, a_remembered, a_shade) (nI c) := by
  have rin := cs_re_in hc R
  obtain ⟨r1, r2, r3⟩ := R
  have fin : wpX_firstFree (fun r => post r) (f_reached, f_half, f_marking, a_register, a_field, a_kept, a_seen, a_queue, a_forward, a_trial, a_turn, a_partner, a_partnerBack, a_tally, a_remembered, a_shade) (nI lo) (nI hi) := cs_firstFree rin.2.1 rin.2.2.2 K1 K2
  by_cases e1 : c = 1
  · obtain ⟨a1, a2, a3⟩ := r1 e1
    subst e1
    have g1 : nI 1 = 1 := rfl
    have g4 : ¬ (1 : Int32) = 4 := by decide
    have e24 : f_half + 24 = nI hi := by rw [a1, a3]; exact nI_add lo 24
    simp only [wpX_freeCell, wX_freeCell_28, wX_freeCell_38, g1, g4, e24, not_true, not_false_iff, false_implies, true_implies, true_and, and_true, forall_eq, implies_true]
    rw [a1] at fin ⊢
    exact fin
  · have g1 : ¬ nI c = 1 := cs_ceq (k := 1) (by omega) (by omega) e1
    by_cases e4 : c = 4
    · obtain ⟨a1, a2⟩ := r2 e4
      subst e4 a1 a2
      have g4 : nI 4 = 4 := rfl
      have g14 : ¬ (4 : Int32) = 1 := by decide
      have e1 : (4 : Int32) * 48 = nI 192 := by decide
      have e2 : nI 192 + 16 = nI 208 := by decide
      simp only [wpX_freeCell, wX_freeCell_28, wX_freeCell_38, g4, g14, e1, e2, not_true, not_false_iff, false_implies, true_implies, true_and, and_true, forall_eq, implies_true]
      exact fin
    · obtain ⟨a1, a2⟩ := r3 e1 e4
      subst a1 a2
      have g4 : ¬ nI c = 4 := cs_ceq (k := 4) (by omega) (by omega) e4
      have e1 : nI (48 * c) + 48 = nI (48 * c + 48) := nI_add _ 48
      simp only [wpX_freeCell, wX_freeCell_28, wX_freeCell_38, g1, g4, cs_i48, e1, not_true, not_false_iff, false_implies, true_implies, true_and, and_true, forall_eq, implies_true]
      exact fin
theorem cs_takeCell {f_reached f_half f_marking : Int32} {a_register a_field a_kept a_seen a_queue a_forward a_trial a_turn a_partner a_partnerBack a_tally a_remembered a_shade : Nat → Int32} {post : SX → Prop} {b0 : Nat} (hb : b0 < 336) (K : ∀ xf' sv, (∀ f, f < 3 → xf' (3 * b0 + f) = 0) → (∀ j, ¬ (3 * b0 ≤ j ∧ j < 3 * b0 + 3) → xf' j = a_field j) → (f_marking = 0 → sv = 0) → (¬ f_marking = 0 → sv = 2) → post (f_reached, f_half, f_marking, a_register, xf', upd a_kept b0 1, a_seen, a_queue, a_forward, a_trial, a_turn, a_partner, a_partnerBack, upd a_tally b0 0, upd a_remembered b0 0, upd a_shade b0 sv)) : wpX_takeCell post (f_reached, f_half, f_marking, a_register, a_field, a_kept, a_seen, a_queue, a_forward, a_trial, a_turn, a_partner, a_partnerBack, a_tally, a_remembered, a_shade) (nI b0) := by
  have v : vp_in (nI b0) 336 := vp_in_nI hb (by omega)
  have k : (nI b0).toNatClampNeg = b0 := nI_clamp (by omega)
  simp only [wpX_takeCell, v, k, cs_nb1, not_true, not_false_iff, false_implies, true_implies, true_and, and_true, forall_eq, implies_true]
  refine pk_loop (σ := Nat → Int32) (fun n f s => wX_takeCell_9 post (nI b0) f_reached f_half f_marking n (nI f) a_register s (upd a_kept b0 1) a_seen a_queue a_forward a_trial a_turn a_partner a_partnerBack a_tally a_remembered a_shade) (fun f s => cs_st (3 * b0) (3 * b0 + f) (fun _ => 0) a_field s) 3 0 a_field (by omega) cs_st_0 (fun n s hI => ?_) (fun n f s hf hI ih => ?_)
  · have g3 : (3 : Int32) ≤ nI 3 := nI_le (a := 3) (by omega) (by omega)
    have a1 : ∀ f, f < 3 → s (3 * b0 + f) = 0 := fun f hf => hI.1 _ (by omega) (by omega)
    by_cases z : f_marking = 0
    · simp only [wX_takeCell_9, g3, v, k, z, cs_nb0, not_true, not_false_iff, false_implies, true_implies, true_and, and_true, forall_eq, implies_true]
      have := K s 0 a1 hI.2 (fun _ => rfl) (fun y => absurd z y)
      rw [z] at this; exact this
    · simp only [wX_takeCell_9, g3, v, k, z, cs_nb0, not_true, not_false_iff, false_implies, true_implies, true_and, and_true, forall_eq, implies_true]
      exact K s 2 a1 hI.2 (fun y => absurd y z) (fun _ => rfl)
  · have g3 : ¬ (3 : Int32) ≤ nI f := nI_ge (b := 3) hf (by omega)
    have v3 : vp_in (nI (3 * b0 + f)) 1008 := vp_in_nI (by omega) (by omega)
    have k3 : (nI (3 * b0 + f)).toNatClampNeg = 3 * b0 + f := nI_clamp (by omega)
    simp only [wX_takeCell_9, g3, cs_i3, v3, k3, nI_1, not_true, not_false_iff, false_implies, true_implies, true_and, and_true, forall_eq, implies_true]
    exact ih _ (cs_st_s hI (by omega) rfl)
