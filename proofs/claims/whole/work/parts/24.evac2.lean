/-! moving, from its beginning to its end -/
theorem cs_evac {f_reached f_half f_marking : Int32} {a_register a_field a_kept a_seen a_queue a_forward a_trial a_turn a_partner a_partnerBack a_tally a_remembered a_shade : Nat → Int32} {post : SX → Prop} {c o oe d de : Nat} {Z : Nat → Prop} (R : cs_rg c o oe d de) (hZ : ∀ b, Z b → cs_sg c b ∧ ¬ a_kept b = 0) (hZc : cs_Z c Z a_field) (cap : cs_n (fun i => ¬ a_kept (o + i) = 0) (oe - o) ≤ cs_n (fun i => a_kept (d + i) = 0) (de - d))
    (hreg : ∀ r, r < 6 → cs_num (a_register (6 * c + r)) ∨ ∃ b, Z b ∧ a_register (6 * c + r) = nI (1000 + b)) (hrem : ∀ b, d ≤ b → b < de → ¬ a_kept b = 0 → Z b)
    (K : ∀ (L0 L : Nat) (xr' F K1 fw q : Nat → Int32) (sr tq : Nat → Nat) (K' rm' : Nat → Int32), cs_Ev c o oe d de L0 Z a_field a_kept F K1 fw q sr tq L 0 L → (∀ b, d ≤ b → b < de → ¬ a_kept b = 0 → ¬ a_remembered b = 0 → ∃ i, i < L0 ∧ tq i = b) → (∀ r, r < 6 → cs_l (cs_mv c o oe L0 L a_kept sr tq) (a_register (6 * c + r)) (xr' (6 * c + r))) → (∀ j, ¬ (6 * c ≤ j ∧ j < 6 * c + 6) → xr' j = a_register j) →
      (∀ b, o ≤ b → b < oe → K' b = 0) → (∀ b, ¬ (o ≤ b ∧ b < oe) → K' b = K1 b) → (∀ b, ¬ cs_sg c b → rm' b = a_remembered b) → post (nI L, f_half, f_marking, xr', F, K', a_seen, q, fw, a_trial, a_turn, a_partner, a_partnerBack, a_tally, rm', a_shade)) : wpX_evacuate post (f_reached, f_half, f_marking, a_register, a_field, a_kept, a_seen, a_queue, a_forward, a_trial, a_turn, a_partner, a_partnerBack, a_tally, a_remembered, a_shade) (nI c) (nI o) (nI oe) (nI d) (nI de) := by
  have R' := R
  obtain ⟨r0, r1, r2, r3, r4, r5, r6, r7, r8⟩ := R'
  simp only [wpX_evacuate]
  refine pk_loop (σ := Nat → Int32) (fun n i x => wX_evacuate_3 post (nI c) (nI o) (nI oe) (nI d) (nI de) f_reached f_half f_marking n (nI i) a_register a_field a_kept a_seen a_queue x a_trial a_turn a_partner a_partnerBack a_tally a_remembered a_shade) (fun i x => o ≤ i ∧ cs_st o i (fun _ => -1) a_forward x) oe o a_forward (by omega) ⟨Nat.le_refl _, cs_st_0⟩ (fun n fw0 hI => ?_) (fun n i x hi hI ih => ?_)
  · have g : nI oe ≤ nI oe := nI_le (Nat.le_refl _) (by omega)
    simp only [wX_evacuate_3, g, not_true, not_false_iff, false_implies, true_implies, true_and, and_true, forall_eq, implies_true]
    refine cs_enqRem (by omega) (by omega) (by omega) (fun L0 tq0 q0 rm' q1 q2 q3 q4 => ?_)
    simp only []
    have E0 : cs_Ev c o oe d de L0 Z a_field a_kept a_field a_kept fw0 q0 tq0 tq0 0 0 L0 := cs_Ev_begin R (fun b b1 b2 => hI.2.1 b b1 b2) (fun i hi => by
      obtain ⟨s1, s2, s3, s4⟩ := q1 i hi
      exact ⟨s1, hrem _ s2 s3 s4, s2, s3, s4⟩) q2
    refine pk_loop (σ := Nat × (Nat → Int32) × (Nat → Int32) × (Nat → Int32) × (Nat → Int32) × (Nat → Int32)) (fun n r t => wX_evacuate_34 post (nI c) (nI o) (nI oe) (nI d) (nI de) n (nI r) (nI t.1) f_half f_marking t.2.1 t.2.2.1 t.2.2.2.1 a_seen t.2.2.2.2.2 t.2.2.2.2.1 a_trial a_turn a_partner a_partnerBack a_tally rm' a_shade)
      (fun r t => ∃ sr tq, cs_Ev c o oe d de L0 Z a_field a_kept t.2.2.1 t.2.2.2.1 t.2.2.2.2.1 t.2.2.2.2.2 sr tq 0 0 t.1 ∧ (∀ i, i < L0 → tq i = tq0 i) ∧ (∀ r', r' < r → cs_l (cs_mv c o oe L0 t.1 a_kept sr tq) (a_register (6 * c + r')) (t.2.1 (6 * c + r'))) ∧ (∀ j, ¬ (6 * c ≤ j ∧ j < 6 * c + r) → t.2.1 j = a_register j)) 6 0 (L0, a_register, a_field, a_kept, fw0, q0) (by omega)
      ⟨tq0, tq0, E0, fun _ _ => rfl, fun r' h => by omega, fun _ _ => rfl⟩ (fun n t hI2 => ?_) (fun n r t hr hI2 ih => ?_)
    · obtain ⟨L, xr', F, K1, fw, q⟩ := t
      obtain ⟨sr, tq, e1, e2, e3, e4⟩ := hI2
      dsimp only at e1 e2 e3 e4 ⊢
      have g3 : (6 : Int32) ≤ nI 6 := nI_le (a := 6) (by omega) (by omega)
      simp only [wX_evacuate_34, g3, not_true, not_false_iff, false_implies, true_implies, true_and, and_true, forall_eq, implies_true]
      have fin : ∀ L F K1 fw q sr tq, cs_Ev c o oe d de L0 Z a_field a_kept F K1 fw q sr tq L 0 L → (∀ i, i < L0 → tq i = tq0 i) → (∀ r, r < 6 → cs_l (cs_mv c o oe L0 L a_kept sr tq) (a_register (6 * c + r)) (xr' (6 * c + r))) →
          ∃ m, wX_evacuate_161 post (nI oe) (nI L) f_half f_marking m (nI o) xr' F K1 a_seen q fw a_trial a_turn a_partner a_partnerBack a_tally rm' a_shade := fun L F K1 fw q sr tq f1 f2 f3 => by
        refine pk_loop (σ := Nat → Int32) (fun n i x => wX_evacuate_161 post (nI oe) (nI L) f_half f_marking n (nI i) xr' F x a_seen q fw a_trial a_turn a_partner a_partnerBack a_tally rm' a_shade) (fun i x => o ≤ i ∧ cs_st o i (fun _ => 0) K1 x) oe o K1 (by omega) ⟨Nat.le_refl _, cs_st_0⟩ (fun n K' hI3 => ?_) (fun n i x hi hI3 ih => ?_)
        · simp only [wX_evacuate_161, g, not_true, not_false_iff, false_implies, true_implies, true_and, and_true, forall_eq, implies_true]
          refine K L0 L xr' F K1 fw q sr tq K' rm' f1 (fun b b1 b2 b3 b4 => ?_) f3 (fun j hj => e4 j hj) (fun b b1 b2 => hI3.2.1 b b1 b2) hI3.2.2 (fun b hb => q4 b (fun z => hb ⟨by omega, by omega⟩))
          obtain ⟨i, i1, i2⟩ := q3 b b1 b2 b3 b4
          exact ⟨i, i1, by rw [f2 i i1]; exact i2⟩
        · have g4 : ¬ nI oe ≤ nI i := nI_ge hi (by omega)
          have v : vp_in (nI i) 336 := vp_in_nI (by omega) (by omega)
          have k : (nI i).toNatClampNeg = i := nI_clamp (by omega)
          simp only [wX_evacuate_161, g4, v, k, cs_nb0, nI_1, not_true, not_false_iff, false_implies, true_implies, true_and, and_true, forall_eq, implies_true]
          exact ih _ ⟨by have := hI3.1; omega, cs_st_s hI3.2 hI3.1 rfl⟩
      refine loop_m (σ := Nat × Nat × (Nat → Int32) × (Nat → Int32) × (Nat → Int32) × (Nat → Int32)) (fun n t => wX_evacuate_83 post (nI o) (nI oe) (nI d) (nI de) n (nI t.1) (nI t.2.1) f_half f_marking xr' t.2.2.1 t.2.2.2.1 a_seen t.2.2.2.2.2 t.2.2.2.2.1 a_trial a_turn a_partner a_partnerBack a_tally rm' a_shade)
        (fun t => ∃ sr tq, cs_Ev c o oe d de L0 Z a_field a_kept t.2.2.1 t.2.2.2.1 t.2.2.2.2.1 t.2.2.2.2.2 sr tq t.1 0 t.2.1 ∧ (∀ i, i < L0 → tq i = tq0 i) ∧ (∀ r, r < 6 → cs_l (cs_mv c o oe L0 t.2.1 a_kept sr tq) (a_register (6 * c + r)) (xr' (6 * c + r)))) (fun t => 48 - t.1) (fun n t hI3 ih => ?_) (0, L, F, K1, fw, q) ⟨sr, tq, e1, e2, e3⟩
      obtain ⟨i, L, F, K1, fw, q⟩ := t
      obtain ⟨sr, tq, f1, f2, f3⟩ := hI3
      dsimp only at f1 f2 f3 ih ⊢
      have hL := cs_Ev_len R f1
      have hiL := f1.1.2.1
      by_cases e : i = L
      · subst e
        have fn := fin i F K1 fw q sr tq f1 f2 f3
        have g2 : nI i ≤ nI i := nI_le (Nat.le_refl _) (by omega)
        by_cases e2 : i = 48
        · have g5 : (48 : Int32) ≤ nI i := nI_le (a := 48) (by omega) (by omega)
          simp only [wX_evacuate_83, g5, not_true, not_false_iff, false_implies, true_implies, true_and, and_true, forall_eq, implies_true]
          exact fn
        · have g5 : ¬ (48 : Int32) ≤ nI i := nI_ge (b := 48) (by omega) (by omega)
          simp only [wX_evacuate_83, g5, g2, not_true, not_false_iff, false_implies, true_implies, true_and, and_true, forall_eq, implies_true]
          exact fn
      · have g5 : ¬ (48 : Int32) ≤ nI i := nI_ge (b := 48) (by omega) (by omega)
        have g2 : ¬ nI L ≤ nI i := nI_ge (by omega) (by omega)
        simp only [wX_evacuate_83, g5, g2, not_true, not_false_iff, false_implies, true_implies, true_and, and_true, forall_eq, implies_true]
        refine pk_loop (σ := Nat × (Nat → Int32) × (Nat → Int32) × (Nat → Int32) × (Nat → Int32)) (fun m f t => wX_evacuate_102 post (wX_evacuate_83 post (nI o) (nI oe) (nI d) (nI de) n) (nI o) (nI oe) (nI d) (nI de) (nI i) m (nI f) (nI t.1) f_half f_marking xr' t.2.1 t.2.2.1 a_seen t.2.2.2.2 t.2.2.2.1 a_trial a_turn a_partner a_partnerBack a_tally rm' a_shade)
          (fun f t => ∃ sr tq, i < t.1 ∧ cs_Ev c o oe d de L0 Z a_field a_kept t.2.1 t.2.2.1 t.2.2.2.1 t.2.2.2.2 sr tq i f t.1 ∧ (∀ i, i < L0 → tq i = tq0 i) ∧ (∀ r, r < 6 → cs_l (cs_mv c o oe L0 t.1 a_kept sr tq) (a_register (6 * c + r)) (xr' (6 * c + r)))) 3 0 (L, F, K1, fw, q) (by omega) ⟨sr, tq, by dsimp only; omega, f1, f2, f3⟩ (fun m t hI4 => ?_) (fun m f t hf hI4 ih2 => ?_)
        · obtain ⟨L, F, K1, fw, q⟩ := t
          obtain ⟨sr, tq, h0, h1, h2, h3⟩ := hI4
          dsimp only at h0 h1 h2 h3 ⊢
          have g6 : (3 : Int32) ≤ nI 3 := nI_le (a := 3) (by omega) (by omega)
          simp only [wX_evacuate_102, g6, nI_1, not_true, not_false_iff, false_implies, true_implies, true_and, and_true, forall_eq, implies_true]
          exact ih (i + 1, L, F, K1, fw, q) ⟨sr, tq, cs_Ev_next h1 h0, h2, h3⟩ (by dsimp only; omega)
        · obtain ⟨L, F, K1, fw, q⟩ := t
          obtain ⟨sr, tq, h0, h1, h2, h3⟩ := hI4
          dsimp only at h0 h1 h2 h3 ih2 ⊢
          have hL2 := cs_Ev_len R h1
          have ai := h1.2.1 i h0
          have g6 : ¬ (3 : Int32) ≤ nI f := nI_ge (b := 3) hf (by omega)
          have v1 : vp_in (nI i) 48 := vp_in_nI (by omega) (by omega)
          have k1 : (nI i).toNatClampNeg = i := nI_clamp (by omega)
          have v2 : vp_in (nI (3 * tq i + f)) 1008 := vp_in_nI (by omega) (by omega)
          have k2 : (nI (3 * tq i + f)).toNatClampNeg = 3 * tq i + f := nI_clamp (by omega)
          have ew := cs_Ev_w h1 h0 hf
          simp only [wX_evacuate_102, g6, v1, k1, ai.1, cs_i3, v2, k2, not_true, not_false_iff, false_implies, true_implies, true_and, and_true, forall_eq, implies_true]
          refine cs_moved R hZ cap h1 rfl (by rw [ew]; exact (hZc _ ai.2.1).2 f hf) (fun w' F' K2 fw' q' sr' tq' L' j1 j2 j3 j4 j5 => ?_)
          simp only [v2, k2, nI_1, not_true, not_false_iff, false_implies, true_implies, true_and, and_true, forall_eq, implies_true]
          rw [ew] at j5
          have j3i := j3 i h0
          have sc := cs_Ev_scan R j1 (by omega) hf (w' := w') (by rw [j3i.1]; exact j5)
          rw [j3i.2] at sc
          exact ih2 (L', _, K2, fw', q') ⟨sr', tq', by dsimp only; omega, sc, fun k hk => by rw [(j3 k (by have := h1.1.1; omega)).2]; exact h2 k hk, fun r hr => cs_l_mono j4 (h3 r hr)⟩
    · obtain ⟨L, xr', F, K1, fw, q⟩ := t
      obtain ⟨sr, tq, e1, e2, e3, e4⟩ := hI2
      dsimp only at e1 e2 e3 e4 ih ⊢
      have g3 : ¬ (6 : Int32) ≤ nI r := nI_ge (b := 6) hr (by omega)
      have v : vp_in (nI (6 * c + r)) 42 := vp_in_nI (by omega) (by omega)
      have k : (nI (6 * c + r)).toNatClampNeg = 6 * c + r := nI_clamp (by omega)
      have ex : xr' (6 * c + r) = a_register (6 * c + r) := e4 _ (by omega)
      simp only [wX_evacuate_34, g3, cs_i6, v, k, not_true, not_false_iff, false_implies, true_implies, true_and, and_true, forall_eq, implies_true]
      refine cs_moved R hZ cap e1 rfl (by rw [ex]; exact hreg r hr) (fun w' F' K2 fw' q' sr' tq' L' j1 j2 j3 j4 j5 => ?_)
      simp only [v, k, nI_1, not_true, not_false_iff, false_implies, true_implies, true_and, and_true, forall_eq, implies_true]
      rw [ex] at j5
      refine ih (L', upd xr' (6 * c + r) w', F', K2, fw', q') ⟨sr', tq', j1, fun k hk => by rw [(j3 k (by have := e1.1.1; omega)).2]; exact e2 k hk, fun r' hr' => ?_, fun j hj => ?_⟩
      · show cs_l (cs_mv c o oe L0 L' a_kept sr' tq') (a_register (6 * c + r')) (upd xr' (6 * c + r) w' (6 * c + r'))
        by_cases er : r' = r
        · rw [er, cs_upd_s]; exact j5
        · rw [cs_upd_n (by omega)]; exact cs_l_mono j4 (e3 r' (by omega))
      · show upd xr' (6 * c + r) w' j = a_register j
        rw [cs_upd_n (by omega)]; exact e4 j (by omega)
  · have g4 : ¬ nI oe ≤ nI i := nI_ge hi (by omega)
    have v : vp_in (nI i) 336 := vp_in_nI (by omega) (by omega)
    have k : (nI i).toNatClampNeg = i := nI_clamp (by omega)
    simp only [wX_evacuate_3, g4, v, k, nI_1, not_true, not_false_iff, false_implies, true_implies, true_and, and_true, forall_eq, implies_true]
    exact ih _ ⟨by have := hI.1; omega, cs_st_s hI.2 hI.1 rfl⟩
