/-! marking: at make, and to its end -/
theorem cs_paceLoop {post : SX → Prop} {yr yf : Nat → Int32} {u0 : SX} (K : ∀ u', cs_FU 5 u0 u' → cs_JU 5 u' yr yf → post u') (u : SX) (F : cs_FU 5 u0 u) (J : cs_JU 5 u yr yf) : ∃ n, wX_paceMarking_31 post n 0 u.1 u.2.1 u.2.2.1 u.2.2.2.1 u.2.2.2.2.1 u.2.2.2.2.2.1 u.2.2.2.2.2.2.1 u.2.2.2.2.2.2.2.1 u.2.2.2.2.2.2.2.2.1 u.2.2.2.2.2.2.2.2.2.1 u.2.2.2.2.2.2.2.2.2.2.1 u.2.2.2.2.2.2.2.2.2.2.2.1 u.2.2.2.2.2.2.2.2.2.2.2.2.1 u.2.2.2.2.2.2.2.2.2.2.2.2.2.1 u.2.2.2.2.2.2.2.2.2.2.2.2.2.2.1 u.2.2.2.2.2.2.2.2.2.2.2.2.2.2.2 := by
  refine pk_loop (σ := SX) (fun n i u => wX_paceMarking_31 post n (nI i) u.1 u.2.1 u.2.2.1 u.2.2.2.1 u.2.2.2.2.1 u.2.2.2.2.2.1 u.2.2.2.2.2.2.1 u.2.2.2.2.2.2.2.1 u.2.2.2.2.2.2.2.2.1 u.2.2.2.2.2.2.2.2.2.1 u.2.2.2.2.2.2.2.2.2.2.1 u.2.2.2.2.2.2.2.2.2.2.2.1 u.2.2.2.2.2.2.2.2.2.2.2.2.1 u.2.2.2.2.2.2.2.2.2.2.2.2.2.1 u.2.2.2.2.2.2.2.2.2.2.2.2.2.2.1 u.2.2.2.2.2.2.2.2.2.2.2.2.2.2.2) (fun _ u => cs_FU 5 u0 u ∧ cs_JU 5 u yr yf) 2 0 u (by omega) ⟨F, J⟩ (fun n u hI => ?_) (fun n i u hi hI ih => ?_)
  · obtain ⟨f_reached, f_half, f_marking, a_register, a_field, a_kept, a_seen, a_queue, a_forward, a_trial, a_turn, a_partner, a_partnerBack, a_tally, a_remembered, a_shade⟩ := u
    have g : (2 : Int32) ≤ nI 2 := nI_le (a := 2) (by omega) (by omega)
    simp only [wX_paceMarking_31, g, not_true, not_false_iff, false_implies, true_implies, true_and, and_true, forall_eq, implies_true]
    exact K _ hI.1 hI.2
  · obtain ⟨f_reached, f_half, f_marking, a_register, a_field, a_kept, a_seen, a_queue, a_forward, a_trial, a_turn, a_partner, a_partnerBack, a_tally, a_remembered, a_shade⟩ := u
    have g : ¬ (2 : Int32) ≤ nI i := nI_ge (b := 2) hi (by omega)
    by_cases z : f_marking = 0
    · subst z
      simp only [wX_paceMarking_31, g, not_true, not_false_iff, false_implies, true_implies, true_and, and_true, forall_eq, implies_true]
      exact K _ hI.1 hI.2
    · have J' : cs_J 5 f_half f_marking a_register a_field a_kept a_tally a_remembered a_shade yr yf := hI.2
      have J0 := J'
      obtain ⟨I, W, _, _, _, _, k5⟩ := J'
      obtain ⟨S, T⟩ := k5 rfl z
      simp only [wX_paceMarking_31, g, z, not_true, not_false_iff, false_implies, true_implies, true_and, and_true, forall_eq, implies_true]
      refine cs_blacken W S (fun hg => ?_) (fun x sh' x1 x2 x3 => ?_)
      · simp only [not_true, not_false_iff, false_implies, true_implies, true_and, and_true, forall_eq, implies_true]
        refine cs_endMark (fun xk' k1 k2 => ?_)
        simp only [nI_1, not_true, not_false_iff, false_implies, true_implies, true_and, and_true, forall_eq, implies_true]
        refine ih (f_reached, f_half, 0, a_register, a_field, xk', a_seen, a_queue, a_forward, a_trial, a_turn, a_partner, a_partnerBack, a_tally, a_remembered, a_shade) ⟨cs_FU_tr hI.1 ⟨fun _ => rfl, fun e => absurd rfl e, fun _ _ => rfl, fun _ _ => rfl, fun b hb => ⟨k2 b hb, rfl, rfl, rfl⟩⟩, (cs_mark_end J0 S T hg k1 rfl).1⟩
      · simp only [nI_1, cs_n10, not_true, not_false_iff, false_implies, true_implies, true_and, and_true, forall_eq, implies_true]
        obtain ⟨e1, e2, e3, e4, e5⟩ := cs_bl_end x3 W S x1 x2
        refine ih (f_reached, f_half, f_marking, a_register, a_field, a_kept, a_seen, a_queue, a_forward, a_trial, a_turn, a_partner, a_partnerBack, a_tally, a_remembered, sh') ⟨cs_FU_tr hI.1 ⟨fun _ => rfl, fun _ => rfl, fun _ _ => rfl, fun _ _ => rfl, fun b hb => ⟨rfl, rfl, rfl, e5 b hb⟩⟩, ?_⟩
        exact ⟨I, W, fun e => by omega, fun e => by omega, fun e => by omega, fun e => by omega, fun _ _ => ⟨e1, e2 _ T⟩⟩
theorem cs_begin_J {f_half f_marking : Int32} {a_register a_field a_kept a_tally a_remembered a_shade : Nat → Int32} {yr yf : Nat → Int32} (J : cs_J 5 f_half f_marking a_register a_field a_kept a_tally a_remembered a_shade yr yf) {sh' : Nat → Int32} (h1 : ∀ b, cs_sg 5 b → sh' b = 0 ∨ sh' b = 1) (h2 : ∀ b, cs_sg 5 b → ¬ sh' b = 0 → cs_Q 1000 a_register 30 0 6 b) (h3 : ∀ b, cs_Q 1000 a_register 30 0 6 b → ¬ sh' b = 0) :
    cs_S5 a_kept sh' ∧ cs_TC a_register a_field a_kept sh' ∧ (∀ b, cs_sg 5 b → ¬ sh' b = 0 → cs_V 1000 a_register 30 0 6 a_field b) := by
  obtain ⟨⟨P, I⟩, W, _⟩ := J
  have sg : ∀ b, cs_Q 1000 a_register 30 0 6 b → cs_sg 5 b ∧ ¬ a_kept b = 0 := fun b hq => by
    have g := cs_X_in (c := 5) (p := 0) (q := 6) (by omega) I (by omega) (cs_R_b hq)
    exact ⟨⟨g.1, g.2.1⟩, g.2.2⟩
  have t12 : ¬ (1 : Int32) = 2 := by decide
  have t02 : ¬ (0 : Int32) = 2 := by decide
  refine ⟨⟨fun b hb hs => (sg b (h2 b hb hs)).2, fun b hb => (h1 b hb).imp id Or.inl⟩, cs_TC_begin (fun b hq => ⟨(sg b hq).1, h3 b hq⟩) (fun b hb e => ?_), fun b hb hs => cs_R_b (h2 b hb hs)⟩
  rcases h1 b hb with y | y
  · rw [y] at e; exact t02 e
  · rw [y] at e; exact t12 e
theorem cs_pace {u : SX} {post : SX → Prop} {yr yf : Nat → Int32} (J : cs_JU 5 u yr yf) (K : ∀ u', cs_FU 5 u u' → cs_JU 5 u' yr yf → post u') : wpX_paceMarking post u := by
  obtain ⟨f_reached, f_half, f_marking, a_register, a_field, a_kept, a_seen, a_queue, a_forward, a_trial, a_turn, a_partner, a_partnerBack, a_tally, a_remembered, a_shade⟩ := u
  have J' : cs_J 5 f_half f_marking a_register a_field a_kept a_tally a_remembered a_shade yr yf := J
  by_cases z : f_marking = 0
  · have e : (240 : Int32) + 48 = nI 288 := by decide
    simp only [wpX_paceMarking, z, e, not_true, not_false_iff, false_implies, true_implies, true_and, and_true, forall_eq, implies_true]
    subst z
    refine cs_freeCells (p := 240) (q := 288) (by omega) (by omega) ?_
    by_cases g : (16 : Int32) ≤ nI (cs_n (fun i => a_kept (240 + i) = 0) (288 - 240))
    · simp only [g, not_true, not_false_iff, false_implies, true_implies, true_and, and_true, forall_eq, implies_true]
      exact cs_paceLoop K (f_reached, f_half, 0, a_register, a_field, a_kept, a_seen, a_queue, a_forward, a_trial, a_turn, a_partner, a_partnerBack, a_tally, a_remembered, a_shade) cs_Fr_rfl J
    · simp only [g, not_true, not_false_iff, false_implies, true_implies, true_and, and_true, forall_eq, implies_true]
      refine cs_begin (fun r hr => cs_J_ok J' hr) (fun sh' h1 h2 h3 h4 => ?_)
      obtain ⟨S, T, _⟩ := cs_begin_J J' h1 h2 h3
      refine cs_paceLoop K (f_reached, f_half, 1, a_register, a_field, a_kept, a_seen, a_queue, a_forward, a_trial, a_turn, a_partner, a_partnerBack, a_tally, a_remembered, sh') ⟨fun _ => rfl, fun e => absurd rfl e, fun _ _ => rfl, fun _ _ => rfl, fun b hb => ⟨rfl, rfl, rfl, h4 b hb⟩⟩ ?_
      exact ⟨J'.1, J'.2.1, fun e => by omega, fun e => by omega, fun e => by omega, fun e => by omega, fun _ _ => ⟨S, T⟩⟩
  · simp only [wpX_paceMarking, z, not_true, not_false_iff, false_implies, true_implies, true_and, and_true, forall_eq, implies_true]
    exact cs_paceLoop K (f_reached, f_half, f_marking, a_register, a_field, a_kept, a_seen, a_queue, a_forward, a_trial, a_turn, a_partner, a_partnerBack, a_tally, a_remembered, a_shade) cs_Fr_rfl J
theorem cs_finish {f_reached f_half f_marking : Int32} {a_register a_field a_kept a_seen a_queue a_forward a_trial a_turn a_partner a_partnerBack a_tally a_remembered a_shade : Nat → Int32} {post : SX → Prop} {yr yf : Nat → Int32} (J : cs_J 5 f_half f_marking a_register a_field a_kept a_tally a_remembered a_shade yr yf) (S : cs_S5 a_kept a_shade) (T : cs_TC a_register a_field a_kept a_shade) (V : ∀ b, cs_sg 5 b → ¬ a_shade b = 0 → cs_V 1000 a_register 30 0 6 a_field b)
    (K : ∀ sh' xk', (∀ b, ¬ cs_sg 5 b → sh' b = a_shade b) → (∀ b, ¬ cs_sg 5 b → xk' b = a_kept b) → cs_J 5 f_half 0 a_register a_field xk' a_tally a_remembered sh' yr yf → cs_X 5 a_register a_field xk' yr yf → post (f_reached, f_half, 0, a_register, a_field, xk', a_seen, a_queue, a_forward, a_trial, a_turn, a_partner, a_partnerBack, a_tally, a_remembered, sh')) : wpX_finishMarking post (f_reached, f_half, f_marking, a_register, a_field, a_kept, a_seen, a_queue, a_forward, a_trial, a_turn, a_partner, a_partnerBack, a_tally, a_remembered, a_shade) := by
  have W := J.2.1
  have fin : ∀ sh, cs_S5 a_kept sh → cs_TC a_register a_field a_kept sh → (∀ b, cs_sg 5 b → ¬ sh b = 0 → cs_V 1000 a_register 30 0 6 a_field b) → (∀ b, ¬ cs_sg 5 b → sh b = a_shade b) → (∀ b, cs_sg 5 b → ¬ sh b = 1) → wX_finishMarking_25 post f_reached f_half f_marking a_register a_field a_kept a_seen a_queue a_forward a_trial a_turn a_partner a_partnerBack a_tally a_remembered sh := fun sh S' T' V' F' G' => by
    simp only [wX_finishMarking_25]
    refine cs_endMark (fun xk' k1 k2 => ?_)
    have J' : cs_J 5 f_half f_marking a_register a_field a_kept a_tally a_remembered sh yr yf := ⟨J.1, W, fun e => by omega, fun e => by omega, fun e => by omega, fun e => by omega, fun _ _ => ⟨S', T'⟩⟩
    have r := cs_mark_end J' S' T' G' (m' := 0) k1 rfl
    exact K sh xk' F' k2 r.1 (r.2 V')
  simp only [wpX_finishMarking]
  refine pk_loop (σ := Int32 × (Nat → Int32)) (fun n i t => wX_finishMarking_4 post n t.1 (nI i) f_reached f_half f_marking a_register a_field a_kept a_seen a_queue a_forward a_trial a_turn a_partner a_partnerBack a_tally a_remembered t.2)
    (fun i t => cs_S5 a_kept t.2 ∧ cs_TC a_register a_field a_kept t.2 ∧ (∀ b, cs_sg 5 b → ¬ t.2 b = 0 → cs_V 1000 a_register 30 0 6 a_field b) ∧ (∀ b, ¬ cs_sg 5 b → t.2 b = a_shade b) ∧ ((t.1 = 0 ∧ ∀ b, cs_sg 5 b → ¬ t.2 b = 1) ∨ (t.1 = 1 ∧ cs_n (fun k => ¬ t.2 (240 + k) = 2) 48 + i ≤ 48))) 48 0 (1, a_shade) (by omega) ⟨S, T, V, fun _ _ => rfl, Or.inr ⟨rfl, by
      have h48 := cs_n_le (fun k => ¬ a_shade (240 + k) = 2) 48
      dsimp only
      omega⟩⟩ (fun n t hI => ?_) (fun n i t hi hI ih => ?_)
  · obtain ⟨mo, sh⟩ := t
    obtain ⟨a1, a2, a3, a4, a5⟩ := hI
    dsimp only at a1 a2 a3 a4 a5 ⊢
    have g : (48 : Int32) ≤ nI 48 := nI_le (a := 48) (by omega) (by omega)
    simp only [wX_finishMarking_4, g, not_true, not_false_iff, false_implies, true_implies, true_and, and_true, forall_eq, implies_true]
    refine fin sh a1 a2 a3 a4 (fun b hb e => ?_)
    rcases a5 with ⟨_, z⟩ | ⟨_, z⟩
    · exact z b hb e
    · unfold cs_sg at hb
      have k := cs_n_rem (P := fun k => ¬ sh (240 + k) = 2) (a := b - 240) (N := 48) (by
        show ¬ sh (240 + (b - 240)) = 2
        rw [show 240 + (b - 240) = b by omega, e]; decide) (by omega)
      omega
  · obtain ⟨mo, sh⟩ := t
    obtain ⟨a1, a2, a3, a4, a5⟩ := hI
    dsimp only at a1 a2 a3 a4 a5 ih ⊢
    have g : ¬ (48 : Int32) ≤ nI i := nI_ge (b := 48) hi (by omega)
    rcases a5 with ⟨y, z⟩ | ⟨y, z⟩
    · subst y
      simp only [wX_finishMarking_4, g, not_true, not_false_iff, false_implies, true_implies, true_and, and_true, forall_eq, implies_true]
      exact fin sh a1 a2 a3 a4 z
    · subst y
      simp only [wX_finishMarking_4, g, cs_n10, not_true, not_false_iff, false_implies, true_implies, true_and, and_true, forall_eq, implies_true]
      refine cs_blacken W a1 (fun hg => ?_) (fun x sh' x1 x2 x3 => ?_)
      · simp only [nI_1, not_true, not_false_iff, false_implies, true_implies, true_and, and_true, forall_eq, implies_true]
        exact ih (0, sh) ⟨a1, a2, a3, a4, Or.inl ⟨rfl, hg⟩⟩
      · simp only [nI_1, not_true, not_false_iff, false_implies, true_implies, true_and, and_true, forall_eq, implies_true]
        obtain ⟨e1, e2, e3, e4, e5⟩ := cs_bl_end x3 W a1 x1 x2
        exact ih (1, sh') ⟨e1, e2 _ a2, e4 _ a3 (fun a b ha he => cs_R_s ha he), fun b hb => (e5 b hb).trans (a4 b hb), Or.inr ⟨rfl, by dsimp only; omega⟩⟩
