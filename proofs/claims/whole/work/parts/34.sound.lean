/-! sound -/
theorem cs_narB1 : narrow .boolean (.int (1 : Int32)) = .int 1 := rfl
theorem cs_wSound {f_reached f_half f_marking : Int32} {a_register a_field a_kept a_seen a_queue a_forward a_trial a_turn a_partner a_partnerBack a_tally a_remembered a_shade : Nat → Int32} {post : Int32 → Prop} {c : Nat} {w : Int32} (hc : c < 7) (ok : cs_ok c a_kept w) (K : post 1) : wpX_wordIsSound post (f_reached, f_half, f_marking, a_register, a_field, a_kept, a_seen, a_queue, a_forward, a_trial, a_turn, a_partner, a_partnerBack, a_tally, a_remembered, a_shade) (nI c) w := by
  rcases ok with o | ⟨b, o1, o2, o3, o4⟩
  · have g := cs_nge1000 (cs_num_lt o)
    simp only [wpX_wordIsSound, g, not_true, not_false_iff, false_implies, true_implies, true_and, and_true, forall_eq, implies_true]
    refine cs_isNum (fun h => absurd o h) (fun _ => ?_)
    exact ⟨cs_narB1, K⟩
  · subst o4
    have g := cs_ge1000 (b := b) (by omega)
    have g1 : ¬ nI b < nI (48 * c) := nI_nlt o1 (by omega)
    have g2 : ¬ nI (48 * (c + 1)) ≤ nI b := nI_ge (by omega) (by omega)
    have v : vp_in (nI b) 336 := vp_in_nI (by omega) (by omega)
    have k : (nI b).toNatClampNeg = b := nI_clamp (by omega)
    simp only [wpX_wordIsSound, g, cs_ref_sub, nI_1, cs_i48, g1, g2, v, k, o3, not_true, not_false_iff, false_implies, true_implies, true_and, and_true, forall_eq, implies_true]
    exact K
theorem cs_wsSound {f_reached f_half f_marking : Int32} {a_register a_field a_kept a_seen a_queue a_forward a_trial a_turn a_partner a_partnerBack a_tally a_remembered a_shade : Nat → Int32} {post : Int32 → Prop} {c : Nat} {yr yf : Nat → Int32} (hc : c < 7) (J : cs_J c f_half f_marking a_register a_field a_kept a_tally a_remembered a_shade yr yf) (K : post 1) : wpX_wordsAreSound post (f_reached, f_half, f_marking, a_register, a_field, a_kept, a_seen, a_queue, a_forward, a_trial, a_turn, a_partner, a_partnerBack, a_tally, a_remembered, a_shade) (nI c) := by
  simp only [wpX_wordsAreSound]
  refine pk_loop (σ := Unit) (fun n r _ => wX_wordsAreSound_2 post (nI c) f_reached f_half f_marking a_register a_field a_kept a_seen a_queue a_forward a_trial a_turn a_partner a_partnerBack a_tally a_remembered a_shade n (nI r)) (fun _ _ => True) 6 0 () (by omega) trivial (fun n _ _ => ?_) (fun n r _ hr _ ih => ?_)
  · have g : (6 : Int32) ≤ nI 6 := nI_le (a := 6) (by omega) (by omega)
    simp only [wX_wordsAreSound_2, g, cs_i48, not_true, not_false_iff, false_implies, true_implies, true_and, and_true, forall_eq, implies_true]
    refine pk_loop (σ := Unit) (fun n i _ => wX_wordsAreSound_40 post (nI c) f_reached f_half f_marking a_register a_field a_kept a_seen a_queue a_forward a_trial a_turn a_partner a_partnerBack a_tally a_remembered a_shade n (nI i)) (fun i _ => 48 * c ≤ i) (48 * c + 48) (48 * c) () (by omega) (Nat.le_refl _) (fun n _ _ => ?_) (fun n i _ hi hI ih => ?_)
    · have g2 : nI (48 * (c + 1)) ≤ nI (48 * c + 48) := nI_le (by omega) (by omega)
      simp only [wX_wordsAreSound_40, nI_1, cs_i48, g2, not_true, not_false_iff, false_implies, true_implies, true_and, and_true, forall_eq, implies_true]
      exact K
    · have g2 : ¬ nI (48 * (c + 1)) ≤ nI i := nI_ge (by omega) (by omega)
      have v : vp_in (nI i) 336 := vp_in_nI (by omega) (by omega)
      have k : (nI i).toNatClampNeg = i := nI_clamp (by omega)
      simp only [wX_wordsAreSound_40, nI_1, cs_i48, g2, not_true, not_false_iff, false_implies, true_implies, true_and, and_true, forall_eq, implies_true]
      have ih' := ih () (by omega)
      by_cases z : a_kept i = 0
      · refine ⟨1, ?_⟩
        have g5 : ¬ (3 : Int32) ≤ 0 := by decide
        simp only [wX_wordsAreSound_52, g5, v, k, z, nI_1, not_true, not_false_iff, false_implies, true_implies, true_and, and_true, forall_eq, implies_true]
        exact ih'
      · refine pk_loop (σ := Unit) (fun m f _ => wX_wordsAreSound_52 post (wX_wordsAreSound_40 post (nI c) f_reached f_half f_marking a_register a_field a_kept a_seen a_queue a_forward a_trial a_turn a_partner a_partnerBack a_tally a_remembered a_shade n) (nI c) (nI i) f_reached f_half f_marking a_register a_field a_kept a_seen a_queue a_forward a_trial a_turn a_partner a_partnerBack a_tally a_remembered a_shade m (nI f)) (fun _ _ => True) 3 0 () (by omega) trivial (fun m _ _ => ?_) (fun m f _ hf _ ih2 => ?_)
        · have g6 : (3 : Int32) ≤ nI 3 := nI_le (a := 3) (by omega) (by omega)
          simp only [wX_wordsAreSound_52, g6, nI_1, not_true, not_false_iff, false_implies, true_implies, true_and, and_true, forall_eq, implies_true]
          exact ih'
        · have g6 : ¬ (3 : Int32) ≤ nI f := nI_ge (b := 3) hf (by omega)
          have v2 : vp_in (nI (3 * i + f)) 1008 := vp_in_nI (by omega) (by omega)
          have k2 : (nI (3 * i + f)).toNatClampNeg = 3 * i + f := nI_clamp (by omega)
          simp only [wX_wordsAreSound_52, g6, v, k, z, cs_i3, v2, k2, not_true, not_false_iff, false_implies, true_implies, true_and, and_true, forall_eq, implies_true]
          refine cs_wSound hc (J.2.1 i hI hi z f hf) ?_
          simp only [cs_n10, nI_1, not_true, not_false_iff, false_implies, true_implies, true_and, and_true, forall_eq, implies_true]
          exact ih2 () trivial
  · have g : ¬ (6 : Int32) ≤ nI r := nI_ge (b := 6) hr (by omega)
    have v : vp_in (nI (6 * c + r)) 42 := vp_in_nI (by omega) (by omega)
    have k : (nI (6 * c + r)).toNatClampNeg = 6 * c + r := nI_clamp (by omega)
    simp only [wX_wordsAreSound_2, g, cs_i6, v, k, not_true, not_false_iff, false_implies, true_implies, true_and, and_true, forall_eq, implies_true]
    refine cs_wSound hc (cs_J_ok J hr) ?_
    simp only [cs_n10, nI_1, not_true, not_false_iff, false_implies, true_implies, true_and, and_true, forall_eq, implies_true]
    exact ih () trivial
theorem cs_otherEmpty {f_reached f_half f_marking : Int32} {a_register a_field a_kept a_seen a_queue a_forward a_trial a_turn a_partner a_partnerBack a_tally a_remembered a_shade : Nat → Int32} {post : Int32 → Prop} {yr yf : Nat → Int32} (J : cs_J 1 f_half f_marking a_register a_field a_kept a_tally a_remembered a_shade yr yf) (K : post 1) : wpX_otherHalfIsEmpty post (f_reached, f_half, f_marking, a_register, a_field, a_kept, a_seen, a_queue, a_forward, a_trial, a_turn, a_partner, a_partnerBack, a_tally, a_remembered, a_shade) := by
  obtain ⟨H, a1, a2, a3⟩ := J.2.2.1 rfl
  have go : ∀ d, (H = 48 ∧ d = 72) ∨ (H = 72 ∧ d = 48) → wpX_freeCells (fun r_18 => (r_18 = 24 → post 1) ∧ (¬ r_18 = 24 → post 0)) (f_reached, f_half, f_marking, a_register, a_field, a_kept, a_seen, a_queue, a_forward, a_trial, a_turn, a_partner, a_partnerBack, a_tally, a_remembered, a_shade) (nI d) (nI (d + 24)) := fun d hd => by
    refine cs_freeCells (by omega) (by omega) ?_
    rw [show d + 24 - d = 24 by omega, cs_n_all (P := fun i => a_kept (d + i) = 0) (fun i hi => Classical.byContradiction fun z => by
      have := a3 (d + i) ⟨by omega, by omega⟩ z
      omega)]
    exact ⟨fun _ => K, fun h => absurd rfl h⟩
  rcases a2 with rfl | rfl
  · have h := go 72 (Or.inl ⟨rfl, rfl⟩)
    subst a1
    have e1 : nI 48 = 48 := rfl
    have e3 : (72 : Int32) + 24 = nI 96 := by decide
    simp only [wpX_otherHalfIsEmpty, wpX_otherHalf, e1, e3, not_true, not_false_iff, false_implies, true_implies, true_and, and_true, forall_eq, implies_true]
    exact h
  · have h := go 48 (Or.inr ⟨rfl, rfl⟩)
    subst a1
    have e1 : nI 72 = 72 := rfl
    have e0 : ¬ (72 : Int32) = 48 := by decide
    have e3 : (48 : Int32) + 24 = nI 72 := by decide
    simp only [wpX_otherHalfIsEmpty, wpX_otherHalf, e1, e0, not_true, not_false_iff, false_implies, true_implies, true_and, and_true, forall_eq, implies_true]
    exact h
theorem cs_noGap {f_reached f_half f_marking : Int32} {a_register a_field a_kept a_seen a_queue a_forward a_trial a_turn a_partner a_partnerBack a_tally a_remembered a_shade : Nat → Int32} {post : Int32 → Prop} (h : cs_K2 a_kept) (K : post 1) : wpX_slidCellsHaveNoGap post (f_reached, f_half, f_marking, a_register, a_field, a_kept, a_seen, a_queue, a_forward, a_trial, a_turn, a_partner, a_partnerBack, a_tally, a_remembered, a_shade) := by
  simp only [wpX_slidCellsHaveNoGap]
  refine pk_loop (σ := Unit) (fun n i _ => wX_slidCellsHaveNoGap_3 post f_reached f_half f_marking a_register a_field a_kept a_seen a_queue a_forward a_trial a_turn a_partner a_partnerBack a_tally a_remembered a_shade n (nI i)) (fun i _ => 97 ≤ i) 144 97 () (by omega) (Nat.le_refl _) (fun n _ _ => ?_) (fun n i _ hi hI ih => ?_)
  · have g : (144 : Int32) ≤ nI 144 := nI_le (a := 144) (by omega) (by omega)
    simp only [wX_slidCellsHaveNoGap_3, g, not_true, not_false_iff, false_implies, true_implies, true_and, and_true, forall_eq, implies_true]
    exact K
  · have g : ¬ (144 : Int32) ≤ nI i := nI_ge (b := 144) hi (by omega)
    have v : vp_in (nI i) 336 := vp_in_nI (by omega) (by omega)
    have k : (nI i).toNatClampNeg = i := nI_clamp (by omega)
    have ih' := ih () (by omega)
    by_cases z : a_kept i = 0
    · simp only [wX_slidCellsHaveNoGap_3, g, v, k, z, nI_1, not_true, not_false_iff, false_implies, true_implies, true_and, and_true, forall_eq, implies_true]
      exact ih'
    · have e : nI i - 1 = nI (i - 1) := by
        have := nI_pred (i - 1)
        rw [show i - 1 + 1 = i by omega] at this
        exact this
      have v2 : vp_in (nI (i - 1)) 336 := vp_in_nI (by omega) (by omega)
      have k2 : (nI (i - 1)).toNatClampNeg = i - 1 := nI_clamp (by omega)
      have z2 := h i (i - 1) (by omega) (by omega) hi z
      simp only [wX_slidCellsHaveNoGap_3, g, v, k, z, e, v2, k2, z2, nI_1, not_true, not_false_iff, false_implies, true_implies, true_and, and_true, forall_eq, implies_true]
      exact ih'
theorem cs_tallies {f_reached f_half f_marking : Int32} {a_register a_field a_kept a_seen a_queue a_forward a_trial a_turn a_partner a_partnerBack a_tally a_remembered a_shade : Nat → Int32} {post : Int32 → SX → Prop} {yr yf : Nat → Int32} (J : cs_J 3 f_half f_marking a_register a_field a_kept a_tally a_remembered a_shade yr yf) (K : ∀ tr, post 1 (f_reached, f_half, f_marking, a_register, a_field, a_kept, a_seen, a_queue, a_forward, tr, a_turn, a_partner, a_partnerBack, a_tally, a_remembered, a_shade)) : wpX_talliesAreRight post (f_reached, f_half, f_marking, a_register, a_field, a_kept, a_seen, a_queue, a_forward, a_trial, a_turn, a_partner, a_partnerBack, a_tally, a_remembered, a_shade) := by
  have K3 := J.2.2.2.2.1 rfl
  have e192 : (144 : Int32) + 48 = nI 192 := by decide
  have g192 : nI 192 ≤ nI 192 := nI_le (Nat.le_refl _) (by omega)
  simp only [wpX_talliesAreRight]
  refine pk_loop (σ := Nat → Int32) (fun n i t => wX_talliesAreRight_6 post 144 f_reached f_half f_marking n (nI i) a_register a_field a_kept a_seen a_queue a_forward t a_turn a_partner a_partnerBack a_tally a_remembered a_shade) (fun i t => 144 ≤ i ∧ cs_st 144 i (fun _ => 0) a_trial t) 192 144 a_trial (by omega) ⟨Nat.le_refl _, cs_st_0⟩ (fun n t hI => ?_) (fun n i t hi hI ih => ?_)
  · simp only [wX_talliesAreRight_6, e192, g192, not_true, not_false_iff, false_implies, true_implies, true_and, and_true, forall_eq, implies_true]
    refine pk_loop (σ := Nat → Int32) (fun n r t => wX_talliesAreRight_29 post 144 f_reached f_half f_marking n (nI r) a_register a_field a_kept a_seen a_queue a_forward t a_turn a_partner a_partnerBack a_tally a_remembered a_shade) (fun r t => ∀ b, cs_sg 3 b → t b = nI (cs_rc a_register r b)) 6 0 t (by omega) (fun b hb => hI.2.1 b hb.1 hb.2) (fun n t hI2 => ?_) (fun n r t hr hI2 ih => ?_)
    · have g : (6 : Int32) ≤ nI 6 := nI_le (a := 6) (by omega) (by omega)
      simp only [wX_talliesAreRight_29, g, not_true, not_false_iff, false_implies, true_implies, true_and, and_true, forall_eq, implies_true]
      refine cs_addF J.2.1 (fun tr htr => ?_)
      simp only []
      refine pk_loop (σ := Unit) (fun n i _ => wX_talliesAreRight_70 post 144 f_reached f_half f_marking a_register a_field a_kept a_seen a_queue a_forward tr a_turn a_partner a_partnerBack a_tally a_remembered a_shade n (nI i)) (fun i _ => 144 ≤ i) 192 144 () (by omega) (Nat.le_refl _) (fun n _ _ => ?_) (fun n i _ hi hI3 ih => ?_)
      · simp only [wX_talliesAreRight_70, e192, g192, not_true, not_false_iff, false_implies, true_implies, true_and, and_true, forall_eq, implies_true]
        exact K tr
      · have g2 : ¬ nI 192 ≤ nI i := nI_ge hi (by omega)
        have v : vp_in (nI i) 336 := vp_in_nI (by omega) (by omega)
        have k : (nI i).toNatClampNeg = i := nI_clamp (by omega)
        have ih' := ih () (by omega)
        by_cases z : a_kept i = 0
        · simp only [wX_talliesAreRight_70, e192, g2, v, k, z, nI_1, not_true, not_false_iff, false_implies, true_implies, true_and, and_true, forall_eq, implies_true]
          exact ih'
        · have sg : cs_sg 3 i := ⟨by omega, by omega⟩
          obtain ⟨p1, p2⟩ := K3 i sg z
          have le := cs_c_le a_register a_field a_kept i
          have tv : tr i = nI (cs_c a_register a_field a_kept i) := by
            rw [htr i sg, hI2 i sg, cs_c_eq, ← nI_add]
            grind
          have e : tr i = a_tally i := by rw [tv, p2]
          have nz : ¬ a_tally i = 0 := by rw [p2]; exact nI_ne0 p1 (by omega)
          simp only [wX_talliesAreRight_70, e192, g2, v, k, z, e, nz, nI_1, not_true, not_false_iff, false_implies, true_implies, true_and, and_true, forall_eq, implies_true]
          exact ih'
    · have g : ¬ (6 : Int32) ≤ nI r := nI_ge (b := 6) hr (by omega)
      simp only [wX_talliesAreRight_29, g, not_true, not_false_iff, false_implies, true_implies, true_and, and_true, forall_eq, implies_true]
      rcases cs_ok_word (c := 3) (by omega) (cs_J_ok J hr) with ⟨o1, o2⟩ | ⟨b, o1, o2, o3, o4⟩
      · refine cs_cellOf_num (c := 3) (by omega) hr o1 ?_
        simp only [nI_1, not_true, not_false_iff, false_implies, true_implies, true_and, and_true, forall_eq, implies_true]
        exact ih t (cs_rc_num hI2 o1)
      · refine cs_cellOf_ref (c := 3) (by omega) hr (by omega) o4 ?_
        have g4 : ¬ nI b = -1 := cs_nIm1 (by omega)
        have v : vp_in (nI b) 336 := vp_in_nI o2 (by omega)
        have k : (nI b).toNatClampNeg = b := nI_clamp (by omega)
        simp only [g4, v, k, nI_1, not_true, not_false_iff, false_implies, true_implies, true_and, and_true, forall_eq, implies_true]
        exact ih _ (cs_rc_ref hI2 (by omega) o4)
  · have g2 : ¬ nI 192 ≤ nI i := nI_ge hi (by omega)
    have v : vp_in (nI i) 336 := vp_in_nI (by omega) (by omega)
    have k : (nI i).toNatClampNeg = i := nI_clamp (by omega)
    simp only [wX_talliesAreRight_6, e192, g2, v, k, nI_1, not_true, not_false_iff, false_implies, true_implies, true_and, and_true, forall_eq, implies_true]
    exact ih _ ⟨by have := hI.1; omega, cs_st_s hI.2 hI.1 rfl⟩
theorem cs_oldRem {f_reached f_half f_marking : Int32} {a_register a_field a_kept a_seen a_queue a_forward a_trial a_turn a_partner a_partnerBack a_tally a_remembered a_shade : Nat → Int32} {post : Int32 → Prop} {yr yf : Nat → Int32} (J : cs_J 4 f_half f_marking a_register a_field a_kept a_tally a_remembered a_shade yr yf) (K : post 1) : wpX_oldCellsAreRemembered post (f_reached, f_half, f_marking, a_register, a_field, a_kept, a_seen, a_queue, a_forward, a_trial, a_turn, a_partner, a_partnerBack, a_tally, a_remembered, a_shade) := by
  have K4 := J.2.2.2.2.2.1 rfl
  simp only [wpX_oldCellsAreRemembered]
  refine pk_loop (σ := Unit) (fun n i _ => wX_oldCellsAreRemembered_8 post 240 f_reached f_half f_marking a_register a_field a_kept a_seen a_queue a_forward a_trial a_turn a_partner a_partnerBack a_tally a_remembered a_shade n (nI i)) (fun i _ => 208 ≤ i) 240 208 () (by omega) (Nat.le_refl _) (fun n _ _ => ?_) (fun n i _ hi hI ih => ?_)
  · have g : (240 : Int32) ≤ nI 240 := nI_le (a := 240) (by omega) (by omega)
    simp only [wX_oldCellsAreRemembered_8, g, not_true, not_false_iff, false_implies, true_implies, true_and, and_true, forall_eq, implies_true]
    exact K
  · have g : ¬ (240 : Int32) ≤ nI i := nI_ge (b := 240) hi (by omega)
    have v : vp_in (nI i) 336 := vp_in_nI (by omega) (by omega)
    have k : (nI i).toNatClampNeg = i := nI_clamp (by omega)
    have ih' := ih () (by omega)
    have g5 : ¬ (3 : Int32) ≤ 0 := by decide
    simp only [wX_oldCellsAreRemembered_8, g, not_true, not_false_iff, false_implies, true_implies, true_and, and_true, forall_eq, implies_true]
    by_cases z : a_kept i = 0
    · refine ⟨1, ?_⟩
      simp only [wX_oldCellsAreRemembered_15, g5, v, k, z, nI_1, not_true, not_false_iff, false_implies, true_implies, true_and, and_true, forall_eq, implies_true]
      exact ih'
    · by_cases z2 : a_remembered i = 0
      · refine pk_loop (σ := Unit) (fun m f _ => wX_oldCellsAreRemembered_15 post (wX_oldCellsAreRemembered_8 post 240 f_reached f_half f_marking a_register a_field a_kept a_seen a_queue a_forward a_trial a_turn a_partner a_partnerBack a_tally a_remembered a_shade n) 240 (nI i) f_reached f_half f_marking a_register a_field a_kept a_seen a_queue a_forward a_trial a_turn a_partner a_partnerBack a_tally a_remembered a_shade m (nI f)) (fun _ _ => True) 3 0 () (by omega) trivial (fun m _ _ => ?_) (fun m f _ hf _ ih2 => ?_)
        · have g6 : (3 : Int32) ≤ nI 3 := nI_le (a := 3) (by omega) (by omega)
          simp only [wX_oldCellsAreRemembered_15, g6, nI_1, not_true, not_false_iff, false_implies, true_implies, true_and, and_true, forall_eq, implies_true]
          exact ih'
        · have g6 : ¬ (3 : Int32) ≤ nI f := nI_ge (b := 3) hf (by omega)
          have v2 : vp_in (nI (3 * i + f)) 1008 := vp_in_nI (by omega) (by omega)
          have k2 : (nI (3 * i + f)).toNatClampNeg = 3 * i + f := nI_clamp (by omega)
          simp only [wX_oldCellsAreRemembered_15, g6, v, k, z, z2, cs_i3, v2, k2, not_true, not_false_iff, false_implies, true_implies, true_and, and_true, forall_eq, implies_true]
          refine cs_young (cs_ok_lt (c := 4) (by omega) (J.2.1 i (by omega) (by omega) z f hf)) (fun _ => ?_) (fun b b1 b2 b3 b4 => absurd ⟨b3, b4⟩ (K4 i f b hI hi z z2 hf b2 (by omega)))
          simp only [nI_1, not_true, not_false_iff, false_implies, true_implies, true_and, and_true, forall_eq, implies_true]
          exact ih2 () trivial
      · refine ⟨1, ?_⟩
        simp only [wX_oldCellsAreRemembered_15, g5, v, k, z, z2, nI_1, not_true, not_false_iff, false_implies, true_implies, true_and, and_true, forall_eq, implies_true]
        exact ih'
