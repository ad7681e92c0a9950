/-! a collection, whichever -/
theorem cs_n_split (P : Nat → Prop) (a : Nat) : ∀ b, cs_n P (a + b) = cs_n P a + cs_n (fun i => P (a + i)) b
  | 0 => rfl
  | b + 1 => by
    have := cs_n_split P a b
    rw [← Nat.add_assoc, cs_n_suc, cs_n_suc, this, Nat.add_assoc]
theorem cs_Ev_fr {c o oe d de L0 n f L : Nat} {Z : Nat → Prop} {F0 K0 F K fw q : Nat → Int32} {sr tq : Nat → Nat} (R : cs_rg c o oe d de) (h : cs_Ev c o oe d de L0 Z F0 K0 F K fw q sr tq n f L) : (∀ j, ¬ (144 * c ≤ j ∧ j < 144 * c + 144) → F j = F0 j) ∧ (∀ b, ¬ cs_sg c b → K b = K0 b) := by
  obtain ⟨h0, h1, h2, h3, h4, h5, h6, h7, h8, h9⟩ := h
  obtain ⟨r0, r1, r2, r3, r4, r5, r6, r7, r8⟩ := R
  refine ⟨fun j hj => ?_, fun b hb => h6 b (fun i _ i2 e => ?_)⟩
  · have := h9 (j / 3) (j % 3) (by omega) (fun i hi e => by have := h1 i hi; omega)
    rw [show 3 * (j / 3) + j % 3 = j by omega] at this
    exact this
  · have := h1 i i2
    exact hb ⟨by omega, by omega⟩
theorem cs_run1 {f_reached f_half f_marking : Int32} {a_register a_field a_kept a_seen a_queue a_forward a_trial a_turn a_partner a_partnerBack a_tally a_remembered a_shade : Nat → Int32} {post : SX → Prop} {yr yf : Nat → Int32} {o d : Nat} (J : cs_J 1 f_half f_marking a_register a_field a_kept a_tally a_remembered a_shade yr yf) (ho : f_half = nI o) (hod : (o = 48 ∧ d = 72) ∨ (o = 72 ∧ d = 48)) (K : ∀ u', cs_FU 1 (f_reached, f_half, f_marking, a_register, a_field, a_kept, a_seen, a_queue, a_forward, a_trial, a_turn, a_partner, a_partnerBack, a_tally, a_remembered, a_shade) u' → cs_JU 1 u' yr yf → cs_XU 1 u' yr yf → post u') :
    wpX_evacuate (fun u => match u with | (f_reached, f_half, f_marking, a_register, a_field, a_kept, a_seen, a_queue, a_forward, a_trial, a_turn, a_partner, a_partnerBack, a_tally, a_remembered, a_shade) => post (f_reached, nI d, f_marking, a_register, a_field, a_kept, a_seen, a_queue, a_forward, a_trial, a_turn, a_partner, a_partnerBack, a_tally, a_remembered, a_shade)) (f_reached, f_half, f_marking, a_register, a_field, a_kept, a_seen, a_queue, a_forward, a_trial, a_turn, a_partner, a_partnerBack, a_tally, a_remembered, a_shade) (nI 1) (nI o) (nI (o + 24)) (nI d) (nI (d + 24)) := by
  have J0 := J
  obtain ⟨⟨P, I⟩, W, c1, _⟩ := J0
  obtain ⟨H, a1, a2, a3⟩ := c1 rfl
  have eH : H = o := cs_nIinj (by omega) (by omega) (a1.symm.trans ho)
  subst eH
  have R : cs_rg 1 H (H + 24) d (d + 24) := by refine ⟨?_, ?_, ?_, ?_, ?_, ?_, ?_, ?_, ?_⟩ <;> omega
  have off : ∀ b, cs_sg 1 b → ¬ (H ≤ b ∧ b < H + 24) → a_kept b = 0 := fun b hb hn => Classical.byContradiction fun z => hn (a3 b hb z)
  have other : ∀ b, d ≤ b → b < d + 24 → a_kept b = 0 := fun b b1 b2 => off b ⟨by omega, by omega⟩ (by omega)
  refine cs_evac (Z := cs_V 1000 a_register 6 0 6 a_field) R (fun b hb => ?_) (cs_Z_V (c := 1) (by omega) I (by omega)) ?_ (fun r hr => ?_) (fun b b1 b2 b3 => absurd (other b b1 b2) b3) (fun L0 L xr' F K1 fw q sr tq K' rm' E hL hr hx k1 k2 k3 => ?_)
  · have g := cs_X_in (c := 1) (p := 0) (q := 6) (by omega) I (by omega) hb
    exact ⟨⟨g.1, g.2.1⟩, g.2.2⟩
  · rw [show H + 24 - H = 24 by omega, show d + 24 - d = 24 by omega, cs_n_all (P := fun i => a_kept (d + i) = 0) (fun k hk => other _ (by omega) (by omega))]
    exact cs_n_le _ 24
  · rcases I.2.2.2.1 r hr with ⟨m1, m2⟩ | ⟨a, b, m1, m2, m3⟩
    · exact Or.inl (m2 ▸ m1)
    · have p := I.2.2.1 a b m1
      exact Or.inr ⟨b, cs_R_b ⟨r, by omega, hr, by omega, m3⟩, m3⟩
  · have L00 : L0 = 0 := by
      rcases Nat.eq_zero_or_pos L0 with z | z
      · exact z
      · have e := E.2.1 0 (by have := E.1.1; omega)
        exact absurd (other _ e.2.2.1 e.2.2.2.1) (e.2.2.2.2.1 z).2
    subst L00
    obtain ⟨e1, e2⟩ := cs_copy_end (m' := f_marking) (tl' := a_tally) (rm' := rm') (sh' := a_shade) J ho hod E hr k1 k2
    obtain ⟨f1, f2⟩ := cs_Ev_fr R E
    refine K (nI L, nI d, f_marking, xr', F, K', a_seen, q, fw, a_trial, a_turn, a_partner, a_partnerBack, a_tally, rm', a_shade) ⟨fun e => absurd rfl e, fun _ => rfl, hx, f1, fun b hb => ⟨?_, rfl, k3 b hb, rfl⟩⟩ e1 e2
    show K' b = a_kept b
    rw [k2 b (fun z => hb ⟨by omega, by omega⟩)]; exact f2 b hb
/-- the nursery is emptied -/
theorem cs_age {f_reached f_half f_marking : Int32} {a_register a_field a_kept a_seen a_queue a_forward a_trial a_turn a_partner a_partnerBack a_tally a_remembered a_shade : Nat → Int32} {post : SX → Prop} {yr yf : Nat → Int32} (J : cs_J 4 f_half f_marking a_register a_field a_kept a_tally a_remembered a_shade yr yf) (cap : cs_n (fun i => ¬ a_kept (192 + i) = 0) 16 ≤ cs_n (fun i => a_kept (208 + i) = 0) 32)
    (K : ∀ u', cs_FU 4 (f_reached, f_half, f_marking, a_register, a_field, a_kept, a_seen, a_queue, a_forward, a_trial, a_turn, a_partner, a_partnerBack, a_tally, a_remembered, a_shade) u' → cs_JU 4 u' yr yf → ((∀ b, cs_sg 4 b → ¬ a_kept b = 0 → cs_V 1000 a_register 24 0 6 a_field b) → cs_XU 4 u' yr yf) → (∀ b, 192 ≤ b → b < 208 → u'.2.2.2.2.2.1 b = 0) → post u') : wpX_evacuate post (f_reached, f_half, f_marking, a_register, a_field, a_kept, a_seen, a_queue, a_forward, a_trial, a_turn, a_partner, a_partnerBack, a_tally, a_remembered, a_shade) (nI 4) (nI 192) (nI 208) (nI 208) (nI 240) := by
  have R : cs_rg 4 192 208 208 240 := by refine ⟨?_, ?_, ?_, ?_, ?_, ?_, ?_, ?_, ?_⟩ <;> omega
  refine cs_evac (Z := fun b => cs_sg 4 b ∧ ¬ a_kept b = 0) R (fun b hb => hb) (cs_Z_W J.2.1) cap (fun r hr => ?_) (fun b b1 b2 b3 => ⟨⟨by omega, by omega⟩, b3⟩) (fun L0 L xr' F K1 fw q sr tq K' rm' E hL hr hx k1 k2 k3 => ?_)
  · rcases cs_J_ok J hr with o | ⟨b, o1, o2, o3, o4⟩
    · exact Or.inl o
    · exact Or.inr ⟨b, ⟨⟨o1, o2⟩, o3⟩, o4⟩
  · obtain ⟨e1, e2⟩ := cs_age_end (h' := f_half) (m' := f_marking) (tl' := a_tally) (rm' := rm') (sh' := a_shade) J E hL hr k1 k2
    obtain ⟨f1, f2⟩ := cs_Ev_fr R E
    refine K (nI L, f_half, f_marking, xr', F, K', a_seen, q, fw, a_trial, a_turn, a_partner, a_partnerBack, a_tally, rm', a_shade) ⟨fun _ => rfl, fun _ => rfl, hx, f1, fun b hb => ⟨?_, rfl, k3 b hb, rfl⟩⟩ e1 e2 k1
    show K' b = a_kept b
    rw [k2 b (fun z => hb ⟨by omega, by omega⟩)]; exact f2 b hb
theorem cs_run {u : SX} {post : SX → Prop} {c : Nat} {yr yf : Nat → Int32} (hc : c < 7) (hY : cs_n (cs_V 10000 yr 0 0 6 yf) 48 ≤ 24) (J : cs_JU c u yr yf) (K : ∀ u', cs_FU c u u' → cs_JU c u' yr yf → cs_XU c u' yr yf → (c = 4 → ∀ b, 192 ≤ b → b < 208 → u'.2.2.2.2.2.1 b = 0) → post u') : wpX_runCollection post u (nI c) := by
  obtain ⟨f_reached, f_half, f_marking, a_register, a_field, a_kept, a_seen, a_queue, a_forward, a_trial, a_turn, a_partner, a_partnerBack, a_tally, a_remembered, a_shade⟩ := u
  have hcc : c = 0 ∨ c = 1 ∨ c = 2 ∨ c = 3 ∨ c = 4 ∨ c = 5 ∨ c = 6 := by omega
  rcases hcc with rfl | rfl | rfl | rfl | rfl | rfl | rfl
  · have J' : cs_J 0 f_half f_marking a_register a_field a_kept a_tally a_remembered a_shade yr yf := J
    obtain ⟨P, I⟩ := J'.1
    have g : nI 0 < 1 := by decide
    simp only [wpX_runCollection, g, not_true, not_false_iff, false_implies, true_implies, true_and, and_true, forall_eq, implies_true]
    refine cs_trace (c := 0) (p := 0) (q := 6) (by omega) (by omega) (by omega) I (fun L s q a1 a2 a3 => ?_)
    simp only []
    refine cs_sweepU (c := 0) (by omega) (fun xk' k1 k2 => ?_)
    obtain ⟨r1, r2⟩ := cs_J_swept (Or.inl rfl) J' (xk' := xk') (fun b hb => (k1 b hb).trans (and_congr Iff.rfl (a2 b hb)))
    exact K (nI L, f_half, f_marking, a_register, a_field, xk', s, q, a_forward, a_trial, a_turn, a_partner, a_partnerBack, a_tally, a_remembered, a_shade) ⟨fun _ => rfl, fun _ => rfl, fun _ _ => rfl, fun _ _ => rfl, fun b hb => ⟨k2 b hb, rfl, rfl, rfl⟩⟩ r1 r2 (fun e => by omega)
  · have J' : cs_J 1 f_half f_marking a_register a_field a_kept a_tally a_remembered a_shade yr yf := J
    obtain ⟨H, a1, a2, _⟩ := J'.2.2.1 rfl
    have g0 : ¬ nI 1 < 1 := by decide
    have g6 : ¬ 6 < nI 1 := by decide
    have g1 : nI 1 = 1 := rfl
    rcases a2 with rfl | rfl
    · have h := cs_run1 (o := 48) (d := 72) J' a1 (Or.inl ⟨rfl, rfl⟩) (fun u' x1 x2 x3 => K u' x1 x2 x3 (fun e => by omega))
      subst a1
      have e1 : nI 48 = 48 := rfl
      have e2 : (48 : Int32) + 24 = nI 72 := by decide
      have e3 : (72 : Int32) + 24 = nI 96 := by decide
      simp only [wpX_runCollection, wpX_otherHalf, g0, g6, not_true, not_false_iff, false_implies, true_implies, true_and, and_true, forall_eq, implies_true]
      simp only [g1, e1, e2, e3, not_true, not_false_iff, false_implies, true_implies, true_and, and_true, forall_eq, implies_true]
      exact h
    · have h := cs_run1 (o := 72) (d := 48) J' a1 (Or.inr ⟨rfl, rfl⟩) (fun u' x1 x2 x3 => K u' x1 x2 x3 (fun e => by omega))
      subst a1
      have e1 : nI 72 = 72 := rfl
      have e0 : ¬ (72 : Int32) = 48 := by decide
      have e2 : (72 : Int32) + 24 = nI 96 := by decide
      have e3 : (48 : Int32) + 24 = nI 72 := by decide
      simp only [wpX_runCollection, wpX_otherHalf, g0, g6, not_true, not_false_iff, false_implies, true_implies, true_and, and_true, forall_eq, implies_true]
      simp only [g1, e1, e0, e2, e3, not_true, not_false_iff, false_implies, true_implies, true_and, and_true, forall_eq, implies_true]
      exact h
  · have J' : cs_J 2 f_half f_marking a_register a_field a_kept a_tally a_remembered a_shade yr yf := J
    obtain ⟨P, I⟩ := J'.1
    have g0 : ¬ nI 2 < 1 := by decide
    have g6 : ¬ 6 < nI 2 := by decide
    have g1 : ¬ nI 2 = 1 := by decide
    have g2 : nI 2 = 2 := rfl
    simp only [wpX_runCollection, g0, g6, g1, not_true, not_false_iff, false_implies, true_implies, true_and, and_true, forall_eq, implies_true]
    simp only [g2, not_true, not_false_iff, false_implies, true_implies, true_and, and_true, forall_eq, implies_true]
    refine cs_trace (c := 2) (p := 0) (q := 6) (by omega) (by omega) (by omega) I (fun L s q a1 a2 a3 => ?_)
    simp only []
    refine cs_slide J' a2 (fun xr' xf' xk' fw' f1 f2 f3 r1 r2 => ?_)
    exact K (nI L, f_half, f_marking, xr', xf', xk', s, q, fw', a_trial, a_turn, a_partner, a_partnerBack, a_tally, a_remembered, a_shade) ⟨fun _ => rfl, fun _ => rfl, f1, f2, fun b hb => ⟨f3 b hb, rfl, rfl, rfl⟩⟩ r1 r2 (fun e => by omega)
  · have J' : cs_J 3 f_half f_marking a_register a_field a_kept a_tally a_remembered a_shade yr yf := J
    have g0 : ¬ nI 3 < 1 := by decide
    have g6 : ¬ 6 < nI 3 := by decide
    have g1 : ¬ nI 3 = 1 := by decide
    have g2 : ¬ nI 3 = 2 := by decide
    have g3 : nI 3 = 3 := rfl
    simp only [wpX_runCollection, g0, g6, g1, g2, not_true, not_false_iff, false_implies, true_implies, true_and, and_true, forall_eq, implies_true]
    simp only [g3, not_true, not_false_iff, false_implies, true_implies, true_and, and_true, forall_eq, implies_true]
    refine cs_cycles J' (fun L s q tr tl' xk' f1 r1 r2 => ?_)
    exact K (nI L, f_half, f_marking, a_register, a_field, xk', s, q, a_forward, tr, a_turn, a_partner, a_partnerBack, tl', a_remembered, a_shade) ⟨fun _ => rfl, fun _ => rfl, fun _ _ => rfl, fun _ _ => rfl, fun b hb => ⟨(f1 b hb).1, (f1 b hb).2, rfl, rfl⟩⟩ r1 r2 (fun e => by omega)
  · have J' : cs_J 4 f_half f_marking a_register a_field a_kept a_tally a_remembered a_shade yr yf := J
    obtain ⟨P, I⟩ := J'.1
    have g0 : ¬ nI 4 < 1 := by decide
    have g6 : ¬ 6 < nI 4 := by decide
    have g1 : ¬ nI 4 = 1 := by decide
    have g2 : ¬ nI 4 = 2 := by decide
    have g3 : ¬ nI 4 = 3 := by decide
    have g4 : nI 4 = 4 := rfl
    simp only [wpX_runCollection, g0, g6, g1, g2, g3, not_true, not_false_iff, false_implies, true_implies, true_and, and_true, forall_eq, implies_true]
    simp only [g4, not_true, not_false_iff, false_implies, true_implies, true_and, and_true, forall_eq, implies_true]
    refine cs_trace (c := 4) (p := 0) (q := 6) (by omega) (by omega) (by omega) I (fun L s q a1 a2 a3 => ?_)
    simp only []
    refine cs_sweepU (c := 4) (by omega) (fun xk' k1 k2 => ?_)
    simp only []
    obtain ⟨r1, r2⟩ := cs_J_swept (Or.inr (Or.inl rfl)) J' (xk' := xk') (fun b hb => (k1 b hb).trans (and_congr Iff.rfl (a2 b hb)))
    have cnt := cs_X_n (by omega) r2
    have sp := cs_n_split (fun i => ¬ xk' (48 * 4 + i) = 0) 16 32
    have cm := cs_n_compl (P := fun i => xk' (208 + i) = 0) (N := 32)
    have e1 : cs_n (fun i => ¬ xk' (48 * 4 + (16 + i)) = 0) 32 = cs_n (fun i => ¬ xk' (208 + i) = 0) 32 := cs_n_eq (fun i _ => by rw [show 48 * 4 + (16 + i) = 208 + i by omega])
    have cap : cs_n (fun i => ¬ xk' (192 + i) = 0) 16 ≤ cs_n (fun i => xk' (208 + i) = 0) 32 := by
      have e2 : cs_n (fun i => ¬ xk' (48 * 4 + i) = 0) (16 + 32) = cs_n (fun i => ¬ xk' (48 * 4 + i) = 0) 48 := rfl
      have e3 : cs_n (fun i => ¬ xk' (48 * 4 + i) = 0) 16 = cs_n (fun i => ¬ xk' (192 + i) = 0) 16 := rfl
      omega
    refine cs_age (yr := yr) (yf := yf) r1 cap (fun u' F' J'' X' N' => ?_)
    exact K u' (cs_FU_tr (u' := (nI L, f_half, f_marking, a_register, a_field, xk', s, q, a_forward, a_trial, a_turn, a_partner, a_partnerBack, a_tally, a_remembered, a_shade)) ⟨fun _ => rfl, fun _ => rfl, fun _ _ => rfl, fun _ _ => rfl, fun b hb => ⟨k2 b hb, rfl, rfl, rfl⟩⟩ F') J'' (X' (fun b hb hk => (a2 b hb).mp ((k1 b hb).mp hk).2)) (fun _ => N')
  · have J' : cs_J 5 f_half f_marking a_register a_field a_kept a_tally a_remembered a_shade yr yf := J
    have g0 : ¬ nI 5 < 1 := by decide
    have g6 : ¬ 6 < nI 5 := by decide
    have g1 : ¬ nI 5 = 1 := by decide
    have g2 : ¬ nI 5 = 2 := by decide
    have g3 : ¬ nI 5 = 3 := by decide
    have g4 : ¬ nI 5 = 4 := by decide
    have g5 : nI 5 = 5 := rfl
    simp only [wpX_runCollection, g0, g6, g1, g2, g3, g4, not_true, not_false_iff, false_implies, true_implies, true_and, and_true, forall_eq, implies_true]
    simp only [g5, not_true, not_false_iff, false_implies, true_implies, true_and, and_true, forall_eq, implies_true]
    refine cs_begin (fun r hr => cs_J_ok J' hr) (fun sh' h1 h2 h3 h4 => ?_)
    simp only []
    obtain ⟨S, T, V⟩ := cs_begin_J J' h1 h2 h3
    have J1 : cs_J 5 f_half 1 a_register a_field a_kept a_tally a_remembered sh' yr yf := ⟨J'.1, J'.2.1, fun e => by omega, fun e => by omega, fun e => by omega, fun e => by omega, fun _ _ => ⟨S, T⟩⟩
    refine cs_finish J1 S T V (fun sh2 xk' f1 f2 r1 r2 => ?_)
    exact K (f_reached, f_half, 0, a_register, a_field, xk', a_seen, a_queue, a_forward, a_trial, a_turn, a_partner, a_partnerBack, a_tally, a_remembered, sh2) ⟨fun _ => rfl, fun e => absurd rfl e, fun _ _ => rfl, fun _ _ => rfl, fun b hb => ⟨f2 b hb, rfl, rfl, (f1 b hb).trans (h4 b hb)⟩⟩ r1 r2 (fun e => by omega)
  · have J' : cs_J 6 f_half f_marking a_register a_field a_kept a_tally a_remembered a_shade yr yf := J
    obtain ⟨P, I⟩ := J'.1
    have g0 : ¬ nI 6 < 1 := by decide
    have g6 : ¬ 6 < nI 6 := by decide
    have g1 : ¬ nI 6 = 1 := by decide
    have g2 : ¬ nI 6 = 2 := by decide
    have g3 : ¬ nI 6 = 3 := by decide
    have g4 : ¬ nI 6 = 4 := by decide
    have g5 : ¬ nI 6 = 5 := by decide
    have g7 : nI 6 = 6 := rfl
    simp only [wpX_runCollection, g0, g6, g1, g2, g3, g4, g5, not_true, not_false_iff, false_implies, true_implies, true_and, and_true, forall_eq, implies_true]
    simp only [g7, not_true, not_false_iff, false_implies, true_implies, true_and, and_true, forall_eq, implies_true]
    refine cs_reverse I (fun s ta a2 => ?_)
    simp only []
    refine cs_sweepU (c := 6) (by omega) (fun xk' k1 k2 => ?_)
    obtain ⟨r1, r2⟩ := cs_J_swept (Or.inr (Or.inr rfl)) J' (xk' := xk') (fun b hb => (k1 b hb).trans (and_congr Iff.rfl (a2 b hb)))
    exact K (0, f_half, f_marking, a_register, a_field, xk', s, a_queue, a_forward, a_trial, ta, a_partner, a_partnerBack, a_tally, a_remembered, a_shade) ⟨fun _ => rfl, fun _ => rfl, fun _ _ => rfl, fun _ _ => rfl, fun b hb => ⟨k2 b hb, rfl, rfl, rfl⟩⟩ r1 r2 (fun e => by omega)
