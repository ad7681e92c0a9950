/-! moving -/
theorem cs_moved {f_reached f_half f_marking : Int32} {a_register a_field a_kept a_seen a_queue a_forward a_trial a_turn a_partner a_partnerBack a_tally a_remembered a_shade : Nat → Int32} {post : Int32 → SX → Prop} {c o oe d de L0 n f L : Nat} {Z : Nat → Prop} {F0 K0 : Nat → Int32} {sr tq : Nat → Nat} {w : Int32} (R : cs_rg c o oe d de) (hZ : ∀ b, Z b → cs_sg c b ∧ ¬ K0 b = 0) (cap : cs_n (fun i => ¬ K0 (o + i) = 0) (oe - o) ≤ cs_n (fun i => K0 (d + i) = 0) (de - d))
    (h : cs_Ev c o oe d de L0 Z F0 K0 a_field a_kept a_forward a_queue sr tq n f L) (hr : f_reached = nI L) (hw : cs_num w ∨ ∃ b, Z b ∧ w = nI (1000 + b))
    (K : ∀ w' F' K' fw' q' sr' tq' L', cs_Ev c o oe d de L0 Z F0 K0 F' K' fw' q' sr' tq' n f L' → L ≤ L' → (∀ i, i < L → sr' i = sr i ∧ tq' i = tq i) → (∀ b b', cs_mv c o oe L0 L K0 sr tq b b' → cs_mv c o oe L0 L' K0 sr' tq' b b') → cs_l (cs_mv c o oe L0 L' K0 sr' tq') w w' → post w' (nI L', f_half, f_marking, a_register, F', K', a_seen, q', fw', a_trial, a_turn, a_partner, a_partnerBack, a_tally, a_remembered, a_shade)) : wpX_moved post (f_reached, f_half, f_marking, a_register, a_field, a_kept, a_seen, a_queue, a_forward, a_trial, a_turn, a_partner, a_partnerBack, a_tally, a_remembered, a_shade) w (nI o) (nI oe) (nI d) (nI de) := by
  have R' := R
  obtain ⟨r0, r1, r2, r3, r4, r5, r6, r7, r8⟩ := R'
  subst hr
  have stay : cs_l (cs_mv c o oe L0 L K0 sr tq) w w → post w (nI L, f_half, f_marking, a_register, a_field, a_kept, a_seen, a_queue, a_forward, a_trial, a_turn, a_partner, a_partnerBack, a_tally, a_remembered, a_shade) := fun l => K w a_field a_kept a_forward a_queue sr tq L h (Nat.le_refl _) (fun _ _ => ⟨rfl, rfl⟩) (fun _ _ m => m) l
  rcases hw with hn | ⟨b, b1, b2⟩
  · have g := cs_num_sub hn (o := o) (by omega)
    simp only [wpX_moved, g, not_true, not_false_iff, false_implies, true_implies, true_and, and_true, forall_eq, implies_true]
    exact stay (Or.inl ⟨hn, rfl⟩)
  · have sb := (hZ b b1).1
    unfold cs_sg at sb
    by_cases z1 : b < o
    · have g : nI b < nI o := nI_lt z1 (by omega)
      have st := stay (by rw [b2]; exact cs_Ev_out hZ b1 (by omega))
      subst b2
      simp only [wpX_moved, cs_ref_sub, g, not_true, not_false_iff, false_implies, true_implies, true_and, and_true, forall_eq, implies_true]
      exact st
    · have g : ¬ nI b < nI o := nI_nlt (by omega) (by omega)
      by_cases z2 : b < oe
      · have g2 : nI b < nI oe := nI_lt z2 (by omega)
        have v : vp_in (nI b) 336 := vp_in_nI (by omega) (by omega)
        have k : (nI b).toNatClampNeg = b := nI_clamp (by omega)
        by_cases z3 : a_forward b = -1
        · have hh : wpX_moved post (nI L, f_half, f_marking, a_register, a_field, a_kept, a_seen, a_queue, a_forward, a_trial, a_turn, a_partner, a_partnerBack, a_tally, a_remembered, a_shade) (nI (1000 + b)) (nI o) (nI oe) (nI d) (nI de) := by
            simp only [wpX_moved, cs_ref_sub, g, g2, v, k, z3, not_true, not_false_iff, false_implies, true_implies, true_and, and_true, forall_eq, implies_true]
            refine cs_firstFree (by omega) (by omega) (fun full => ?_) (fun t t1 t2 t3 t4 => ?_)
            · obtain ⟨t, t1, t2, t3⟩ := cs_Ev_room R h (fun b hb => (hZ b hb).2) cap b1 (by omega) z2 z3
              exact absurd t3 (full t t1 t2)
            · have g3 : ¬ nI t = -1 := cs_nIm1 (by omega)
              have v2 : vp_in (nI t) 336 := vp_in_nI (by omega) (by omega)
              have k2 : (nI t).toNatClampNeg = t := nI_clamp (by omega)
              simp only [g3, v2, k2, cs_nb1, not_true, not_false_iff, false_implies, true_implies, true_and, and_true, forall_eq, implies_true]
              have bt : b ≠ t := by omega
              refine pk_loop (σ := Nat → Int32) (fun m g x => wX_moved_61 post (nI b) (nI t) (nI L) f_half f_marking m (nI g) a_register x (upd a_kept t 1) a_seen a_queue a_forward a_trial a_turn a_partner a_partnerBack a_tally a_remembered a_shade) (fun g x => cs_st (3 * t) (3 * t + g) (fun j => a_field (3 * b + (j - 3 * t))) a_field x) 3 0 a_field (by omega) cs_st_0 (fun m x hI => ?_) (fun m g x hg hI ih => ?_)
              · have g4 : (3 : Int32) ≤ nI 3 := nI_le (a := 3) (by omega) (by omega)
                have E' := cs_Ev_new R h b1 (by omega) z2 z3 t1 t2 t3 (F' := x) (fun g hg => by
                  have := hI.1 (3 * t + g) (by omega) (by omega)
                  rw [this]
                  dsimp only
                  rw [show 3 * t + g - 3 * t = g by omega]) (fun y g hg hy => hI.2 _ (by omega))
                have hL := cs_Ev_len R E'
                simp only [wX_moved_61, g4, v, k, not_true, not_false_iff, false_implies, true_implies, true_and, and_true, forall_eq, implies_true]
                refine cs_enq rfl (by omega) ?_
                simp only [v, k, cs_upd_s, cs_ref_add, not_true, not_false_iff, false_implies, true_implies, true_and, and_true, forall_eq, implies_true]
                rw [b2] at K
                exact K _ _ _ _ _ _ _ _ E' (by omega) (fun i hi => ⟨cs_un_n (by omega), cs_un_n (by omega)⟩) (fun _ _ m => cs_mv_mono m) (cs_Ev_fresh h.1.1)
              · have g4 : ¬ (3 : Int32) ≤ nI g := nI_ge (b := 3) hg (by omega)
                have v3 : vp_in (nI (3 * b + g)) 1008 := vp_in_nI (by omega) (by omega)
                have k3 : (nI (3 * b + g)).toNatClampNeg = 3 * b + g := nI_clamp (by omega)
                have v4 : vp_in (nI (3 * t + g)) 1008 := vp_in_nI (by omega) (by omega)
                have k4 : (nI (3 * t + g)).toNatClampNeg = 3 * t + g := nI_clamp (by omega)
                have ex : x (3 * b + g) = a_field (3 * b + g) := hI.2 _ (by omega)
                simp only [wX_moved_61, g4, cs_i3, v3, k3, v4, k4, nI_1, not_true, not_false_iff, false_implies, true_implies, true_and, and_true, forall_eq, implies_true]
                exact ih _ (cs_st_s hI (by omega) (by rw [ex, show 3 * t + g - 3 * t = g by omega]))
          rw [b2]; exact hh
        · obtain ⟨t, e1, e2, e3⟩ := cs_Ev_old R h (by omega) z2 z3
          have st := K (nI (1000 + t)) a_field a_kept a_forward a_queue sr tq L h (Nat.le_refl _) (fun _ _ => ⟨rfl, rfl⟩) (fun _ _ m => m) (by rw [b2]; exact e3)
          subst b2
          have g3 : ¬ nI t = -1 := cs_nIm1 (by omega)
          simp only [wpX_moved, cs_ref_sub, g, g2, v, k, e1, g3, cs_ref_add, not_true, not_false_iff, false_implies, true_implies, true_and, and_true, forall_eq, implies_true]
          exact st
      · have g2 : ¬ nI b < nI oe := nI_nlt (by omega) (by omega)
        have st := stay (by rw [b2]; exact cs_Ev_out hZ b1 (by omega))
        subst b2
        simp only [wpX_moved, cs_ref_sub, g, g2, not_true, not_false_iff, false_implies, true_implies, true_and, and_true, forall_eq, implies_true]
        exact st
theorem cs_enqRem {f_reached f_half f_marking : Int32} {a_register a_field a_kept a_seen a_queue a_forward a_trial a_turn a_partner a_partnerBack a_tally a_remembered a_shade : Nat → Int32} {post : SX → Prop} {d de : Nat} (h1 : d ≤ de) (h2 : de ≤ 336) (h3 : de ≤ d + 48)
    (K : ∀ (L0 : Nat) (tq : Nat → Nat) (q' rm' : Nat → Int32), (∀ i, i < L0 → q' i = nI (tq i) ∧ d ≤ tq i ∧ tq i < de ∧ ¬ a_kept (tq i) = 0) → (∀ i j, i < L0 → j < L0 → tq i = tq j → i = j) → (∀ b, d ≤ b → b < de → ¬ a_kept b = 0 → ¬ a_remembered b = 0 → ∃ i, i < L0 ∧ tq i = b) → (∀ b, ¬ (d ≤ b ∧ b < de) → rm' b = a_remembered b) → post (nI L0, f_half, f_marking, a_register, a_field, a_kept, a_seen, q', a_forward, a_trial, a_turn, a_partner, a_partnerBack, a_tally, rm', a_shade)) : wpX_enqueueRemembered post (f_reached, f_half, f_marking, a_register, a_field, a_kept, a_seen, a_queue, a_forward, a_trial, a_turn, a_partner, a_partnerBack, a_tally, a_remembered, a_shade) (nI d) (nI de) := by
  simp only [wpX_enqueueRemembered]
  refine pk_loop (σ := Nat × (Nat → Nat) × (Nat → Int32) × (Nat → Int32)) (fun n i t => wX_enqueueRemembered_7 post (nI de) n (nI i) (nI t.1) f_half f_marking a_register a_field a_kept a_seen t.2.2.1 a_forward a_trial a_turn a_partner a_partnerBack a_tally t.2.2.2 a_shade)
    (fun i t => d ≤ i ∧ d + t.1 ≤ i ∧ (∀ k, k < t.1 → t.2.2.1 k = nI (t.2.1 k) ∧ d ≤ t.2.1 k ∧ t.2.1 k < i ∧ ¬ a_kept (t.2.1 k) = 0) ∧ (∀ k j, k < t.1 → j < t.1 → t.2.1 k = t.2.1 j → k = j) ∧ (∀ b, d ≤ b → b < i → ¬ a_kept b = 0 → ¬ a_remembered b = 0 → ∃ k, k < t.1 ∧ t.2.1 k = b) ∧ cs_st d i (fun _ => 0) a_remembered t.2.2.2) de d (0, fun _ => 0, a_queue, a_remembered) h1
    ⟨Nat.le_refl _, Nat.le_refl _, fun k hk => absurd hk (Nat.not_lt_zero _), fun k j hk => absurd hk (Nat.not_lt_zero _), fun b b1 b2 => by omega, cs_st_0⟩ (fun n t hI => ?_) (fun n i t hi hI ih => ?_)
  · obtain ⟨L, tq, q, rm⟩ := t
    obtain ⟨a0, a1, a2, a3, a4, a5⟩ := hI
    dsimp only at a0 a1 a2 a3 a4 a5 ⊢
    have g : nI de ≤ nI de := nI_le (Nat.le_refl _) (by omega)
    simp only [wX_enqueueRemembered_7, g, not_true, not_false_iff, false_implies, true_implies, true_and, and_true, forall_eq, implies_true]
    exact K L tq q rm a2 a3 a4 a5.2
  · obtain ⟨L, tq, q, rm⟩ := t
    obtain ⟨a0, a1, a2, a3, a4, a5⟩ := hI
    dsimp only at a0 a1 a2 a3 a4 a5 ih ⊢
    have g : ¬ nI de ≤ nI i := nI_ge hi (by omega)
    have v : vp_in (nI i) 336 := vp_in_nI (by omega) (by omega)
    have k : (nI i).toNatClampNeg = i := nI_clamp (by omega)
    have ea : rm i = a_remembered i := a5.2 i (by omega)
    have skip : (a_kept i = 0 ∨ a_remembered i = 0) → wX_enqueueRemembered_7 post (nI de) n (nI (i + 1)) (nI L) f_half f_marking a_register a_field a_kept a_seen q a_forward a_trial a_turn a_partner a_partnerBack a_tally (upd rm i 0) a_shade := fun hz => by
      refine ih (L, tq, q, upd rm i 0) ⟨by omega, by dsimp only; omega, fun k hk => ?_, a3, fun b b1 b2 b3 b4 => a4 b b1 ?_ b3 b4, cs_st_s a5 a0 rfl⟩
      · have := a2 k hk
        exact ⟨this.1, this.2.1, by have := this.2.2.1; dsimp only; omega, this.2.2.2⟩
      · have : b ≠ i := fun e => by
          rw [e] at b3 b4
          exact hz.elim b3 b4
        omega
    by_cases z : a_kept i = 0
    · simp only [wX_enqueueRemembered_7, g, v, k, z, cs_nb0, nI_1, not_true, not_false_iff, false_implies, true_implies, true_and, and_true, forall_eq, implies_true]
      exact skip (Or.inl z)
    · by_cases z2 : a_remembered i = 0
      · simp only [wX_enqueueRemembered_7, g, v, k, z, ea, z2, cs_nb0, nI_1, not_true, not_false_iff, false_implies, true_implies, true_and, and_true, forall_eq, implies_true]
        exact skip (Or.inr z2)
      · simp only [wX_enqueueRemembered_7, g, v, k, z, ea, z2, not_true, not_false_iff, false_implies, true_implies, true_and, and_true, forall_eq, implies_true]
        refine cs_enq rfl (by omega) ?_
        simp only [v, k, cs_nb0, nI_1, not_true, not_false_iff, false_implies, true_implies, true_and, and_true, forall_eq, implies_true]
        refine ih (L + 1, cs_un tq L i, upd q L (nI i), upd rm i 0) ⟨by omega, by dsimp only; omega, fun k hk => ?_, fun k j hk hj e => ?_, fun b b1 b2 b3 b4 => ?_, cs_st_s a5 a0 rfl⟩
        · dsimp only at hk ⊢
          by_cases e : k = L
          · rw [e, cs_upd_s, cs_un_s]
            exact ⟨rfl, a0, by omega, z⟩
          · have := a2 k (by omega)
            rw [cs_upd_n e, cs_un_n e]
            exact ⟨this.1, this.2.1, by have := this.2.2.1; omega, this.2.2.2⟩
        · dsimp only at hk hj e
          by_cases ek : k = L <;> by_cases ej : j = L
          · rw [ek, ej]
          · rw [ek, cs_un_s, cs_un_n ej] at e
            have := (a2 j (by omega)).2.2.1
            omega
          · rw [ej, cs_un_s, cs_un_n ek] at e
            have := (a2 k (by omega)).2.2.1
            omega
          · rw [cs_un_n ek, cs_un_n ej] at e
            exact a3 k j (by omega) (by omega) e
        · dsimp only
          by_cases e : b = i
          · exact ⟨L, by omega, by rw [cs_un_s]; exact e.symm⟩
          · obtain ⟨k, k1, k2⟩ := a4 b b1 (by omega) b3 b4
            exact ⟨k, by omega, by rw [cs_un_n (by omega)]; exact k2⟩
