/-! marking a little at a time -/
theorem cs_shade {f_reached f_half f_marking : Int32} {a_register a_field a_kept a_seen a_queue a_forward a_trial a_turn a_partner a_partnerBack a_tally a_remembered a_shade : Nat → Int32} {post : SX → Prop} {w : Int32} (hw : cs_num w ∨ ∃ b, b < 336 ∧ w = nI (1000 + b)) (K1 : cs_num w → post (f_reached, f_half, f_marking, a_register, a_field, a_kept, a_seen, a_queue, a_forward, a_trial, a_turn, a_partner, a_partnerBack, a_tally, a_remembered, a_shade)) (K2 : ∀ b, b < 336 → w = nI (1000 + b) → ¬ a_shade b = 0 → post (f_reached, f_half, f_marking, a_register, a_field, a_kept, a_seen, a_queue, a_forward, a_trial, a_turn, a_partner, a_partnerBack, a_tally, a_remembered, a_shade)) (K3 : ∀ b, b < 336 → w = nI (1000 + b) → a_shade b = 0 → post (f_reached, f_half, f_marking, a_register, a_field, a_kept, a_seen, a_queue, a_forward, a_trial, a_turn, a_partner, a_partnerBack, a_tally, a_remembered, upd a_shade b 1)) : wpX_shadeGrey post (f_reached, f_half, f_marking, a_register, a_field, a_kept, a_seen, a_queue, a_forward, a_trial, a_turn, a_partner, a_partnerBack, a_tally, a_remembered, a_shade) w := by
  rcases hw with h | ⟨b, b1, b2⟩
  · have g := cs_num_lt h
    simp only [wpX_shadeGrey, g, not_true, not_false_iff, false_implies, true_implies, true_and, and_true, forall_eq, implies_true]
    exact K1 h
  · have g := cs_ref_ge (b := b) (by omega)
    have v : vp_in (nI b) 336 := vp_in_nI b1 (by omega)
    have k : (nI b).toNatClampNeg = b := nI_clamp (by omega)
    by_cases z : a_shade b = 0
    · have := K3 b b1 b2 z
      subst b2
      simp only [wpX_shadeGrey, g, cs_ref_sub, v, k, z, not_true, not_false_iff, false_implies, true_implies, true_and, and_true, forall_eq, implies_true]
      exact this
    · have := K2 b b1 b2 z
      subst b2
      simp only [wpX_shadeGrey, g, cs_ref_sub, v, k, z, not_true, not_false_iff, false_implies, true_implies, true_and, and_true, forall_eq, implies_true]
      exact this
theorem cs_ok_lt {c : Nat} {xk : Nat → Int32} (hc : c < 7) {w : Int32} (h : cs_ok c xk w) : cs_num w ∨ ∃ b, b < 336 ∧ w = nI (1000 + b) := by
  rcases h with h | ⟨b, o1, o2, o3, o4⟩
  · exact Or.inl h
  · exact Or.inr ⟨b, by omega, o4⟩
theorem cs_begin {f_reached f_half f_marking : Int32} {a_register a_field a_kept a_seen a_queue a_forward a_trial a_turn a_partner a_partnerBack a_tally a_remembered a_shade : Nat → Int32} {post : SX → Prop} (ok : ∀ r, r < 6 → cs_ok 5 a_kept (a_register (30 + r)))
    (K : ∀ sh', (∀ b, cs_sg 5 b → sh' b = 0 ∨ sh' b = 1) → (∀ b, cs_sg 5 b → ¬ sh' b = 0 → cs_Q 1000 a_register 30 0 6 b) → (∀ b, cs_Q 1000 a_register 30 0 6 b → ¬ sh' b = 0) → (∀ b, ¬ cs_sg 5 b → sh' b = a_shade b) → post (f_reached, f_half, 1, a_register, a_field, a_kept, a_seen, a_queue, a_forward, a_trial, a_turn, a_partner, a_partnerBack, a_tally, a_remembered, sh')) : wpX_beginMarking post (f_reached, f_half, f_marking, a_register, a_field, a_kept, a_seen, a_queue, a_forward, a_trial, a_turn, a_partner, a_partnerBack, a_tally, a_remembered, a_shade) := by
  simp only [wpX_beginMarking]
  refine pk_loop (σ := Nat → Int32) (fun n i s => wX_beginMarking_4 post f_reached f_half f_marking n (nI i) a_register a_field a_kept a_seen a_queue a_forward a_trial a_turn a_partner a_partnerBack a_tally a_remembered s) (fun i s => 240 ≤ i ∧ cs_st 240 i (fun _ => 0) a_shade s) 288 240 a_shade (by omega) ⟨Nat.le_refl _, cs_st_0⟩ (fun n s hI => ?_) (fun n i s hi hI ih => ?_)
  · have g : (288 : Int32) ≤ nI 288 := nI_le (a := 288) (by omega) (by omega)
    simp only [wX_beginMarking_4, g, not_true, not_false_iff, false_implies, true_implies, true_and, and_true, forall_eq, implies_true]
    obtain ⟨_, s1, s2⟩ := hI
    refine pk_loop (σ := Nat → Int32) (fun n r t => wX_beginMarking_26 post n (nI r) f_reached f_half f_marking a_register a_field a_kept a_seen a_queue a_forward a_trial a_turn a_partner a_partnerBack a_tally a_remembered t) (fun r t => (∀ b, cs_sg 5 b → t b = 0 ∨ t b = 1) ∧ (∀ b, cs_sg 5 b → ¬ t b = 0 → cs_Q 1000 a_register 30 0 r b) ∧ (∀ b, cs_Q 1000 a_register 30 0 r b → ¬ t b = 0) ∧ (∀ b, ¬ cs_sg 5 b → t b = a_shade b)) 6 0 s (by omega)
      ⟨fun b hb => Or.inl (s1 b hb.1 hb.2), fun b hb z => absurd (s1 b hb.1 hb.2) z, fun b ⟨r, _, r2, _⟩ => by omega, fun b hb => s2 b hb⟩ (fun n t hI => ?_) (fun n r t hr hI ih => ?_)
    · have g3 : (6 : Int32) ≤ nI 6 := nI_le (a := 6) (by omega) (by omega)
      simp only [wX_beginMarking_26, g3, not_true, not_false_iff, false_implies, true_implies, true_and, and_true, forall_eq, implies_true]
      exact K t hI.1 hI.2.1 hI.2.2.1 hI.2.2.2
    · obtain ⟨t1, t2, t3, t4⟩ := hI
      have g3 : ¬ (6 : Int32) ≤ nI r := nI_ge (b := 6) hr (by omega)
      have e : (30 : Int32) + nI r = nI (30 + r) := nI_add 30 r
      have v : vp_in (nI (30 + r)) 42 := vp_in_nI (by omega) (by omega)
      have k : (nI (30 + r)).toNatClampNeg = 30 + r := nI_clamp (by omega)
      simp only [wX_beginMarking_26, g3, e, v, k, not_true, not_false_iff, false_implies, true_implies, true_and, and_true, forall_eq, implies_true]
      have qs : ∀ b, cs_Q 1000 a_register 30 0 r b → cs_Q 1000 a_register 30 0 (r + 1) b := fun b ⟨j, j1, j2, j3⟩ => ⟨j, j1, by omega, j3⟩
      refine cs_shade (cs_ok_lt (by omega) (ok r hr)) (fun hn => ?_) (fun b b1 b2 b3 => ?_) (fun b b1 b2 b3 => ?_)
      · simp only [nI_1, not_true, not_false_iff, false_implies, true_implies, true_and, and_true, forall_eq, implies_true]
        refine ih _ ⟨t1, fun b hb hz => qs b (t2 b hb hz), fun b ⟨j, j1, j2, j3⟩ => ?_, t4⟩
        by_cases ej : j = r
        · rw [ej] at j3; exact absurd j3 (cs_num_nw (by omega) (by omega) hn)
        · exact t3 b ⟨j, j1, by omega, j3⟩
      · simp only [nI_1, not_true, not_false_iff, false_implies, true_implies, true_and, and_true, forall_eq, implies_true]
        refine ih _ ⟨t1, fun b hb hz => qs b (t2 b hb hz), fun b' ⟨j, j1, j2, j3⟩ => ?_, t4⟩
        by_cases ej : j = r
        · rw [ej] at j3
          have : b' = b := cs_w_inj (B := 1000) (by omega) j3 ⟨by omega, b2⟩
          rw [this]; exact b3
        · exact t3 b' ⟨j, j1, by omega, j3⟩
      · simp only [nI_1, not_true, not_false_iff, false_implies, true_implies, true_and, and_true, forall_eq, implies_true]
        have sg : cs_sg 5 b := by
          rcases ok r hr with o | ⟨b', o1, o2, o3, o4⟩
          · exact absurd (⟨by omega, b2⟩ : cs_w 1000 _ b) (cs_num_nw (by omega) (by omega) o)
          · have e2 : b = b' := cs_w_inj (B := 1000) (w := a_register (30 + r)) (by omega) ⟨by omega, b2⟩ ⟨by omega, o4⟩
            rw [e2]; exact ⟨o1, o2⟩
        refine ih _ ⟨fun b' hb' => ?_, fun b' hb' hz => ?_, fun b' ⟨j, j1, j2, j3⟩ => ?_, fun b' hb' => ?_⟩
        · by_cases eb : b' = b
          · rw [eb, cs_upd_s]; exact Or.inr rfl
          · rw [cs_upd_n eb]; exact t1 b' hb'
        · by_cases eb : b' = b
          · rw [eb]; exact ⟨r, by omega, by omega, by omega, b2⟩
          · rw [cs_upd_n eb] at hz; exact qs b' (t2 b' hb' hz)
        · by_cases eb : b' = b
          · rw [eb, cs_upd_s]; exact cs_n10
          · rw [cs_upd_n eb]
            by_cases ej : j = r
            · rw [ej] at j3
              exact absurd (cs_w_inj (B := 1000) (by omega) j3 ⟨by omega, b2⟩) eb
            · exact t3 b' ⟨j, j1, by omega, j3⟩
        · rw [cs_upd_n (fun eb : b' = b => hb' (by rw [eb]; exact sg))]; exact t4 b' hb'
  · have g : ¬ (288 : Int32) ≤ nI i := nI_ge (b := 288) hi (by omega)
    have v : vp_in (nI i) 336 := vp_in_nI (by omega) (by omega)
    have k : (nI i).toNatClampNeg = i := nI_clamp (by omega)
    simp only [wX_beginMarking_4, g, v, k, nI_1, not_true, not_false_iff, false_implies, true_implies, true_and, and_true, forall_eq, implies_true]
    exact ih _ ⟨by have := hI.1; omega, cs_st_s hI.2 hI.1 rfl⟩
theorem cs_blacken {f_reached f_half f_marking : Int32} {a_register a_field a_kept a_seen a_queue a_forward a_trial a_turn a_partner a_partnerBack a_tally a_remembered a_shade : Nat → Int32} {post : Int32 → SX → Prop} (W : cs_W 5 a_field a_kept) (S : cs_S5 a_kept a_shade) (K1 : (∀ b, cs_sg 5 b → ¬ a_shade b = 1) → post 0 (f_reached, f_half, f_marking, a_register, a_field, a_kept, a_seen, a_queue, a_forward, a_trial, a_turn, a_partner, a_partnerBack, a_tally, a_remembered, a_shade)) (K2 : ∀ x sh', cs_sg 5 x → a_shade x = 1 → cs_bl a_field a_shade x 3 sh' → post 1 (f_reached, f_half, f_marking, a_register, a_field, a_kept, a_seen, a_queue, a_forward, a_trial, a_turn, a_partner, a_partnerBack, a_tally, a_remembered, sh')) : wpX_blackenOne post (f_reached, f_half, f_marking, a_register, a_field, a_kept, a_seen, a_queue, a_forward, a_trial, a_turn, a_partner, a_partnerBack, a_tally, a_remembered, a_shade) := by
  simp only [wpX_blackenOne]
  refine pk_loop (σ := Unit) (fun n i _ => wX_blackenOne_4 post f_reached f_half f_marking a_register a_field a_kept a_seen a_queue a_forward a_trial a_turn a_partner a_partnerBack a_tally a_remembered a_shade n (nI i)) (fun i _ => 240 ≤ i ∧ ∀ b, 240 ≤ b → b < i → ¬ a_shade b = 1) 288 240 () (by omega) ⟨Nat.le_refl _, fun b h1 h2 => by omega⟩ (fun n s hI => ?_) (fun n i s hi hI ih => ?_)
  · have g : (288 : Int32) ≤ nI 288 := nI_le (a := 288) (by omega) (by omega)
    simp only [wX_blackenOne_4, g, not_true, not_false_iff, false_implies, true_implies, true_and, and_true, forall_eq, implies_true]
    exact K1 (fun b hb => hI.2 b hb.1 hb.2)
  · have g : ¬ (288 : Int32) ≤ nI i := nI_ge (b := 288) hi (by omega)
    have v : vp_in (nI i) 336 := vp_in_nI (by omega) (by omega)
    have k : (nI i).toNatClampNeg = i := nI_clamp (by omega)
    have hi0 := hI.1
    by_cases z : a_shade i = 1
    · simp only [wX_blackenOne_4, g, v, k, z, not_true, not_false_iff, false_implies, true_implies, true_and, and_true, forall_eq, implies_true]
      have hx : cs_sg 5 i := ⟨by omega, by omega⟩
      have kx : ¬ a_kept i = 0 := S.1 i hx (by rw [z]; exact cs_n10)
      refine pk_loop (σ := Nat → Int32) (fun n f t => wX_blackenOne_30 post (nI i) n (nI f) f_reached f_half f_marking a_register a_field a_kept a_seen a_queue a_forward a_trial a_turn a_partner a_partnerBack a_tally a_remembered t) (fun f t => cs_bl a_field a_shade i f t) 3 0 (upd a_shade i 2) (by omega) cs_bl_0 (fun n t hI => ?_) (fun n f t hf hI ih => ?_)
      · have g3 : (3 : Int32) ≤ nI 3 := nI_le (a := 3) (by omega) (by omega)
        simp only [wX_blackenOne_30, g3, not_true, not_false_iff, false_implies, true_implies, true_and, and_true, forall_eq, implies_true]
        exact K2 i t hx z hI
      · have g3 : ¬ (3 : Int32) ≤ nI f := nI_ge (b := 3) hf (by omega)
        have v3 : vp_in (nI (3 * i + f)) 1008 := vp_in_nI (by omega) (by omega)
        have k3 : (nI (3 * i + f)).toNatClampNeg = 3 * i + f := nI_clamp (by omega)
        simp only [wX_blackenOne_30, g3, cs_i3, v3, k3, not_true, not_false_iff, false_implies, true_implies, true_and, and_true, forall_eq, implies_true]
        refine cs_shade (cs_ok_lt (c := 5) (by omega) (W i hx.1 hx.2 kx f hf)) (fun hn => ?_) (fun b b1 b2 b3 => ?_) (fun b b1 b2 b3 => ?_)
        · simp only [nI_1, not_true, not_false_iff, false_implies, true_implies, true_and, and_true, forall_eq, implies_true]
          exact ih _ (cs_bl_num hI hn)
        · simp only [nI_1, not_true, not_false_iff, false_implies, true_implies, true_and, and_true, forall_eq, implies_true]
          exact ih _ (cs_bl_seen hI (by omega) b2 b3)
        · simp only [nI_1, not_true, not_false_iff, false_implies, true_implies, true_and, and_true, forall_eq, implies_true]
          exact ih _ (cs_bl_new hI (by omega) b2 b3)
    · simp only [wX_blackenOne_4, g, v, k, z, nI_1, not_true, not_false_iff, false_implies, true_implies, true_and, and_true, forall_eq, implies_true]
      refine ih () ⟨by omega, fun b h1 h2 => ?_⟩
      by_cases e : b = i
      · rw [e]; exact z
      · exact hI.2 b h1 (by omega)
theorem cs_endMark {f_reached f_half f_marking : Int32} {a_register a_field a_kept a_seen a_queue a_forward a_trial a_turn a_partner a_partnerBack a_tally a_remembered a_shade : Nat → Int32} {post : SX → Prop} (K : ∀ xk', (∀ b, cs_sg 5 b → (¬ xk' b = 0 ↔ ¬ a_kept b = 0 ∧ ¬ a_shade b = 0)) → (∀ b, ¬ cs_sg 5 b → xk' b = a_kept b) → post (f_reached, f_half, 0, a_register, a_field, xk', a_seen, a_queue, a_forward, a_trial, a_turn, a_partner, a_partnerBack, a_tally, a_remembered, a_shade)) : wpX_endMarking post (f_reached, f_half, f_marking, a_register, a_field, a_kept, a_seen, a_queue, a_forward, a_trial, a_turn, a_partner, a_partnerBack, a_tally, a_remembered, a_shade) := by
  simp only [wpX_endMarking]
  refine pk_loop (σ := Nat → Int32) (fun n i s => wX_endMarking_4 post f_reached f_half f_marking n (nI i) a_register a_field s a_seen a_queue a_forward a_trial a_turn a_partner a_partnerBack a_tally a_remembered a_shade) (fun i s => 240 ≤ i ∧ cs_up 240 i (fun b => ¬ a_kept b = 0 ∧ ¬ a_shade b = 0) a_kept s) 288 240 a_kept (by omega) ⟨Nat.le_refl _, cs_up_0⟩ (fun n s hI => ?_) (fun n i s hi hI ih => ?_)
  · have g : (288 : Int32) ≤ nI 288 := nI_le (a := 288) (by omega) (by omega)
    simp only [wX_endMarking_4, g, not_true, not_false_iff, false_implies, true_implies, true_and, and_true, forall_eq, implies_true]
    exact K s (fun b hb => hI.2.1 b hb.1 hb.2) (fun b hb => hI.2.2 b hb)
  · have g : ¬ (288 : Int32) ≤ nI i := nI_ge (b := 288) hi (by omega)
    have v : vp_in (nI i) 336 := vp_in_nI (by omega) (by omega)
    have k : (nI i).toNatClampNeg = i := nI_clamp (by omega)
    have hi0 := hI.1
    have ea := cs_up_at hI.2
    by_cases z : a_kept i = 0
    · simp only [wX_endMarking_4, g, v, k, ea, z, cs_nb0, nI_1, not_true, not_false_iff, false_implies, true_implies, true_and, and_true, forall_eq, implies_true]
      exact ih _ ⟨by omega, cs_up_s hI.2 hI.1 (cs_n00 (fun y => y.1 z))⟩
    · by_cases z2 : a_shade i = 0
      · simp only [wX_endMarking_4, g, v, k, ea, z, z2, cs_nb0, nI_1, not_true, not_false_iff, false_implies, true_implies, true_and, and_true, forall_eq, implies_true]
        exact ih _ ⟨by omega, cs_up_s hI.2 hI.1 (cs_n00 (fun y => y.2 z2))⟩
      · simp only [wX_endMarking_4, g, v, k, ea, z, z2, cs_nb1, nI_1, not_true, not_false_iff, false_implies, true_implies, true_and, and_true, forall_eq, implies_true]
        exact ih _ ⟨by omega, cs_up_s hI.2 hI.1 (cs_n11 ⟨z, z2⟩)⟩
