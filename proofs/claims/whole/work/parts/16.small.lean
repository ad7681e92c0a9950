/-! small methods -/
theorem cs_ge1000 {b : Nat} (h : b < 1000) : (1000 : Int32) ≤ nI (1000 + b) := nI_le (a := 1000) (by omega) (by omega)
theorem cs_nge1000 {w : Int32} (h : w < 1000) : ¬ (1000 : Int32) ≤ w := by
  rw [Int32.lt_iff_toInt_lt] at h
  rw [Int32.le_iff_toInt_le]
  omega
theorem cs_ceq {c k : Nat} (hc : c < 1000) (hk : k < 1000) (h : c ≠ k) : ¬ nI c = nI k := fun e => h (cs_nIinj (by omega) (by omega) e)
theorem cs_isReg {post : Int32 → Prop} {p : Int32} (K1 : (∀ r, r < 6 → ¬ p = nI r) → post 0) (K2 : ∀ r, r < 6 → p = nI r → post 1) : wpX_isRegister post p := by
  rcases pk_ix p (n := 6) (by omega) with h | h | ⟨r, h1, h2⟩
  · simp only [wpX_isRegister, h, not_true, not_false_iff, false_implies, true_implies, true_and, and_true, forall_eq, implies_true]
    exact K1 (fun r hr e => by rw [e] at h; exact nI_pos (by omega) h)
  · have h' : (6 : Int32) ≤ p := h
    have g : ¬ p < 0 := fun z => by
      rw [Int32.lt_iff_toInt_lt] at z
      rw [Int32.le_iff_toInt_le] at h'
      have e1 : (0 : Int32).toInt = 0 := by decide
      have e2 : (6 : Int32).toInt = 6 := by decide
      omega
    simp only [wpX_isRegister, h', g, not_true, not_false_iff, false_implies, true_implies, true_and, and_true, forall_eq, implies_true]
    exact K1 (fun r hr e => by rw [e] at h; exact nI_ge hr (by omega) h)
  · have g : ¬ p < 0 := by rw [h2]; exact nI_pos (by omega)
    have g2 : ¬ (6 : Int32) ≤ p := by rw [h2]; exact nI_ge (b := 6) h1 (by omega)
    simp only [wpX_isRegister, g, g2, not_true, not_false_iff, false_implies, true_implies, true_and, and_true, forall_eq, implies_true]
    exact K2 r h1 h2
theorem cs_isFld {post : Int32 → Prop} {p : Int32} (K1 : (∀ r, r < 3 → ¬ p = nI r) → post 0) (K2 : ∀ r, r < 3 → p = nI r → post 1) : wpX_isField post p := by
  rcases pk_ix p (n := 3) (by omega) with h | h | ⟨r, h1, h2⟩
  · simp only [wpX_isField, h, not_true, not_false_iff, false_implies, true_implies, true_and, and_true, forall_eq, implies_true]
    exact K1 (fun r hr e => by rw [e] at h; exact nI_pos (by omega) h)
  · have h' : (3 : Int32) ≤ p := h
    have g : ¬ p < 0 := fun z => by
      rw [Int32.lt_iff_toInt_lt] at z
      rw [Int32.le_iff_toInt_le] at h'
      have e1 : (0 : Int32).toInt = 0 := by decide
      have e2 : (3 : Int32).toInt = 3 := by decide
      omega
    simp only [wpX_isField, h', g, not_true, not_false_iff, false_implies, true_implies, true_and, and_true, forall_eq, implies_true]
    exact K1 (fun r hr e => by rw [e] at h; exact nI_ge hr (by omega) h)
  · have g : ¬ p < 0 := by rw [h2]; exact nI_pos (by omega)
    have g2 : ¬ (3 : Int32) ≤ p := by rw [h2]; exact nI_ge (b := 3) h1 (by omega)
    simp only [wpX_isField, g, g2, not_true, not_false_iff, false_implies, true_implies, true_and, and_true, forall_eq, implies_true]
    exact K2 r h1 h2
theorem cs_isCol {post : Int32 → Prop} {p : Int32} (K1 : (∀ r, r < 7 → ¬ p = nI r) → post 0) (K2 : ∀ r, r < 7 → p = nI r → post 1) : wpX_isCollector post p := by
  rcases pk_ix p (n := 7) (by omega) with h | h | ⟨r, h1, h2⟩
  · simp only [wpX_isCollector, h, not_true, not_false_iff, false_implies, true_implies, true_and, and_true, forall_eq, implies_true]
    exact K1 (fun r hr e => by rw [e] at h; exact nI_pos (by omega) h)
  · have h' : (7 : Int32) ≤ p := h
    have g : ¬ p < 0 := fun z => by
      rw [Int32.lt_iff_toInt_lt] at z
      rw [Int32.le_iff_toInt_le] at h'
      have e1 : (0 : Int32).toInt = 0 := by decide
      have e2 : (7 : Int32).toInt = 7 := by decide
      omega
    simp only [wpX_isCollector, h', g, not_true, not_false_iff, false_implies, true_implies, true_and, and_true, forall_eq, implies_true]
    exact K1 (fun r hr e => by rw [e] at h; exact nI_ge hr (by omega) h)
  · have g : ¬ p < 0 := by rw [h2]; exact nI_pos (by omega)
    have g2 : ¬ (7 : Int32) ≤ p := by rw [h2]; exact nI_ge (b := 7) h1 (by omega)
    simp only [wpX_isCollector, g, g2, not_true, not_false_iff, false_implies, true_implies, true_and, and_true, forall_eq, implies_true]
    exact K2 r h1 h2
theorem cs_isNum {post : Int32 → Prop} {p : Int32} (K1 : ¬ cs_num p → post 0) (K2 : cs_num p → post 1) : wpX_isNumber post p := by
  have e1 : (-999 : Int32).toInt = -999 := by decide
  have e2 : (999 : Int32).toInt = 999 := by decide
  by_cases h : p < -999
  · simp only [wpX_isNumber, h, not_true, not_false_iff, false_implies, true_implies, true_and, and_true, forall_eq, implies_true]
    refine K1 (fun z => ?_)
    rw [Int32.lt_iff_toInt_lt] at h
    unfold cs_num at z; omega
  · by_cases h2 : 999 < p
    · simp only [wpX_isNumber, h, h2, not_true, not_false_iff, false_implies, true_implies, true_and, and_true, forall_eq, implies_true]
      refine K1 (fun z => ?_)
      rw [Int32.lt_iff_toInt_lt] at h2
      unfold cs_num at z; omega
    · simp only [wpX_isNumber, h, h2, not_true, not_false_iff, false_implies, true_implies, true_and, and_true, forall_eq, implies_true]
      refine K2 ?_
      rw [Int32.lt_iff_toInt_lt] at h h2
      unfold cs_num; omega
theorem cs_cellOf_num {f_reached f_half f_marking : Int32} {a_register a_field a_kept a_seen a_queue a_forward a_trial a_turn a_partner a_partnerBack a_tally a_remembered a_shade : Nat → Int32} {post : Int32 → Prop} {c r : Nat} (hc : c < 7) (hr : r < 6) (h : cs_num (a_register (6 * c + r))) (K : post (-1)) : wpX_cellOf post (f_reached, f_half, f_marking, a_register, a_field, a_kept, a_seen, a_queue, a_forward, a_trial, a_turn, a_partner, a_partnerBack, a_tally, a_remembered, a_shade) (nI c) (nI r) := by
  have v : vp_in (nI (6 * c + r)) 42 := vp_in_nI (by omega) (by omega)
  have k : (nI (6 * c + r)).toNatClampNeg = 6 * c + r := nI_clamp (by omega)
  have g := cs_nge1000 (cs_num_lt h)
  simp only [wpX_cellOf, cs_i6, v, k, g, not_true, not_false_iff, false_implies, true_implies, true_and, and_true, forall_eq, implies_true]
  exact K
theorem cs_cellOf_ref {f_reached f_half f_marking : Int32} {a_register a_field a_kept a_seen a_queue a_forward a_trial a_turn a_partner a_partnerBack a_tally a_remembered a_shade : Nat → Int32} {post : Int32 → Prop} {c r b : Nat} (hc : c < 7) (hr : r < 6) (hb : b < 1000) (h : a_register (6 * c + r) = nI (1000 + b)) (K : post (nI b)) : wpX_cellOf post (f_reached, f_half, f_marking, a_register, a_field, a_kept, a_seen, a_queue, a_forward, a_trial, a_turn, a_partner, a_partnerBack, a_tally, a_remembered, a_shade) (nI c) (nI r) := by
  have v : vp_in (nI (6 * c + r)) 42 := vp_in_nI (by omega) (by omega)
  have k : (nI (6 * c + r)).toNatClampNeg = 6 * c + r := nI_clamp (by omega)
  have g := cs_ge1000 hb
  simp only [wpX_cellOf, cs_i6, v, k, h, g, cs_ref_sub, not_true, not_false_iff, false_implies, true_implies, true_and, and_true, forall_eq, implies_true]
  exact K
theorem cs_enq {f_reached f_half f_marking : Int32} {a_register a_field a_kept a_seen a_queue a_forward a_trial a_turn a_partner a_partnerBack a_tally a_remembered a_shade : Nat → Int32} {post : SX → Prop} {L : Nat} {x : Int32} (hr : f_reached = nI L) (hL : L < 48) (K : post (nI (L + 1), f_half, f_marking, a_register, a_field, a_kept, a_seen, upd a_queue L x, a_forward, a_trial, a_turn, a_partner, a_partnerBack, a_tally, a_remembered, a_shade)) : wpX_enqueue post (f_reached, f_half, f_marking, a_register, a_field, a_kept, a_seen, a_queue, a_forward, a_trial, a_turn, a_partner, a_partnerBack, a_tally, a_remembered, a_shade) x := by
  subst hr
  have g : ¬ (48 : Int32) ≤ nI L := nI_ge (b := 48) hL (by omega)
  have v : vp_in (nI L) 48 := vp_in_nI hL (by omega)
  have k : (nI L).toNatClampNeg = L := nI_clamp (by omega)
  simp only [wpX_enqueue, g, v, k, nI_1, not_true, not_false_iff, false_implies, true_implies, true_and, and_true, forall_eq, implies_true]
  exact K
theorem cs_addRef {f_reached f_half f_marking : Int32} {a_register a_field a_kept a_seen a_queue a_forward a_trial a_turn a_partner a_partnerBack a_tally a_remembered a_shade : Nat → Int32} {post : SX → Prop} {xk : Nat → Int32} {w : Int32} (ok : cs_ok 3 xk w) (K : ∀ tl', (∀ b, cs_sg 3 b → tl' b = a_tally b + nI (cs_b (w = nI (1000 + b)))) → (∀ b, ¬ cs_sg 3 b → tl' b = a_tally b) → post (f_reached, f_half, f_marking, a_register, a_field, a_kept, a_seen, a_queue, a_forward, a_trial, a_turn, a_partner, a_partnerBack, tl', a_remembered, a_shade)) : wpX_addReference post (f_reached, f_half, f_marking, a_register, a_field, a_kept, a_seen, a_queue, a_forward, a_trial, a_turn, a_partner, a_partnerBack, a_tally, a_remembered, a_shade) w := by
  rcases cs_ok_word (by omega) ok with ⟨h1, h2⟩ | ⟨b0, b1, b2, b3, b4⟩
  · simp only [wpX_addReference, h2, not_true, not_false_iff, false_implies, true_implies, true_and, and_true, forall_eq, implies_true]
    refine K a_tally (fun b hb => ?_) (fun _ _ => rfl)
    unfold cs_sg at hb
    rw [cs_bf (fun z => cs_num_nw (B := 1000) (b := b) (by omega) (by omega) h1 ⟨by omega, z⟩), nI_0]
    grind
  · subst b4
    have g := cs_ref_ge (b := b0) (by omega)
    have v : vp_in (nI b0) 336 := vp_in_nI b2 (by omega)
    have k : (nI b0).toNatClampNeg = b0 := nI_clamp (by omega)
    simp only [wpX_addReference, g, cs_ref_sub, v, k, not_true, not_false_iff, false_implies, true_implies, true_and, and_true, forall_eq, implies_true]
    refine K _ (fun b hb => ?_) (fun b hb => cs_upd_n (fun e => hb (e ▸ b1)))
    unfold cs_sg at hb
    by_cases e : b = b0
    · subst e; rw [cs_upd_s, cs_bt rfl]; rfl
    · rw [cs_upd_n e, cs_bf (fun z => ?_), nI_0]
      · grind
      · have := cs_nIinj (by omega) (by omega) z
        omega
theorem cs_lower {f_reached f_half f_marking : Int32} {a_register a_field a_kept a_seen a_queue a_forward a_trial a_turn a_partner a_partnerBack a_tally a_remembered a_shade : Nat → Int32} {post : SX → Prop} {ex ex' : Nat → Nat} {n L : Nat} {w : Int32} (h : cs_D a_register a_field a_kept a_tally a_queue ex n L) (hr : f_reached = nI L) (hL : L ≤ 48) (ok : cs_ok 3 a_kept w) (he : ∀ b, cs_sg 3 b → ex b = ex' b + cs_b (w = nI (1000 + b))) (hx : ∀ b, ex' b ≤ 3)
    (K : ∀ tl' q' L', cs_D a_register a_field a_kept tl' q' ex' n L' → L ≤ L' → L' ≤ 48 → (∀ i, i < L → q' i = a_queue i) → (∀ b, ¬ cs_sg 3 b → tl' b = a_tally b) → post (nI L', f_half, f_marking, a_register, a_field, a_kept, a_seen, q', a_forward, a_trial, a_turn, a_partner, a_partnerBack, tl', a_remembered, a_shade)) : wpX_lowerTally post (f_reached, f_half, f_marking, a_register, a_field, a_kept, a_seen, a_queue, a_forward, a_trial, a_turn, a_partner, a_partnerBack, a_tally, a_remembered, a_shade) w := by
  subst hr
  rcases cs_ok_word (by omega) ok with ⟨h1, h2⟩ | ⟨b0, b1, b2, b3, b4⟩
  · have g := cs_nge1000 h2
    simp only [wpX_lowerTally, g, not_true, not_false_iff, false_implies, true_implies, true_and, and_true, forall_eq, implies_true]
    refine K a_tally a_queue L (cs_D_ex h (fun b hb => ?_)) (Nat.le_refl _) hL (fun _ _ => rfl) (fun _ _ => rfl)
    rw [he b hb]
    unfold cs_sg at hb
    rw [cs_bf (fun z => cs_num_nw (B := 1000) (b := b) (by omega) (by omega) h1 ⟨by omega, z⟩)]
    rfl
  · subst b4
    have g := cs_ge1000 (b := b0) (by omega)
    have v : vp_in (nI b0) 336 := vp_in_nI b2 (by omega)
    have k : (nI b0).toNatClampNeg = b0 := nI_clamp (by omega)
    obtain ⟨l1, l2, l3⟩ := cs_D_low (ex' := ex') (b := b0) (v := cs_c a_register a_field a_kept b0 + ex' b0) h b1 b3 (by rw [he b0 b1, cs_bt rfl]) (fun z hz hne => by
      rw [he z hz, cs_bf (fun y => ?_)]
      · rfl
      · unfold cs_sg at hz
        have := cs_nIinj (by omega) (by omega) y
        omega) rfl
    have hvv : cs_c a_register a_field a_kept b0 + ex' b0 < 1000 := by
      have z1 := cs_c_le a_register a_field a_kept b0
      have z2 := hx b0
      omega
    generalize cs_c a_register a_field a_kept b0 + ex' b0 = vv at l1 l2 l3 hvv
    by_cases e : vv = 0
    · subst e
      obtain ⟨m1, m2⟩ := l2 rfl
      have e0 : upd a_tally b0 (nI 0) b0 = 0 := cs_upd_s _ _ _
      simp only [wpX_lowerTally, g, cs_ref_sub, v, k, l1, nI_pred, e0, not_true, not_false_iff, false_implies, true_implies, true_and, and_true, forall_eq, implies_true]
      refine cs_enq rfl m1 ?_
      exact K _ _ _ m2 (by omega) (by omega) (fun i hi => cs_upd_n (by omega)) (fun b hb => cs_upd_n (fun e => hb (e ▸ b1)))
    · have m2 := l3 e
      have e0 : ¬ upd a_tally b0 (nI vv) b0 = 0 := by
        rw [cs_upd_s]
        exact nI_ne0 (by omega) (by omega)
      simp only [wpX_lowerTally, g, cs_ref_sub, v, k, l1, nI_pred, e0, not_true, not_false_iff, false_implies, true_implies, true_and, and_true, forall_eq, implies_true]
      exact K _ _ _ m2 (Nat.le_refl _) hL (fun _ _ => rfl) (fun b hb => cs_upd_n (fun e => hb (e ▸ b1)))
