/-! marking by turning references round -/
def cs_bv : List Nat → Int32
  | [] => -1
  | p :: _ => nI p
theorem cs_walkLoop {f_reached f_half f_marking : Int32} {a_register a_field a_kept a_seen a_queue a_forward a_trial a_turn a_partner a_partnerBack a_tally a_remembered a_shade : Nat → Int32} {post : SX → Prop} {Z : Nat → Prop} {F0 s0 : Nat → Int32} {x0 : Nat} (hZ : cs_Z 6 Z F0)
    (K : ∀ s ta, (∀ b, ¬ s0 b = 0 → ¬ s b = 0) → (∀ b, ¬ s b = 0 → s0 b = 0 → Z b) → (∀ p g b, ¬ s p = 0 → s0 p = 0 → g < 3 → b < 1000 → F0 (3 * p + g) = nI (1000 + b) → ¬ s b = 0) → ¬ s x0 = 0 → post (f_reached, f_half, f_marking, a_register, F0, a_kept, s, a_queue, a_forward, a_trial, ta, a_partner, a_partnerBack, a_tally, a_remembered, a_shade)) :
    ∀ (n : Nat) (st : List Nat) (x m : Nat) (F s ta : Nat → Int32) (t : Nat → Nat), 240 - m < n → ¬ s x0 = 0 → cs_SW 6 F0 s0 Z F s ta t st x m → wX_walkAndReturn_21 post n (cs_bv st) (nI x) (nI m) f_reached f_half f_marking a_register F a_kept s a_queue a_forward a_trial ta a_partner a_partnerBack a_tally a_remembered a_shade := by
  intro n
  induction n with
  | zero => intro st x m F s ta t hn; omega
  | succ n ih =>
    intro st x m F s ta t hn hx0 h
    have H := h
    obtain ⟨h1, h2, h3, h4, h5, h6, h7, h8, h9⟩ := h
    obtain ⟨zx, sx, s0x, tx⟩ := h4 x List.mem_cons_self
    have gx := (hZ x zx).1
    unfold cs_sg at gx
    have hm : m ≤ 239 := by
      simp only [cs_sm] at h9
      omega
    have g1 : ¬ (240 : Int32) ≤ nI m := nI_ge (b := 240) (by omega) (by omega)
    have g2 : ¬ nI x = -1 := cs_nIm1 (by omega)
    have v : vp_in (nI x) 336 := vp_in_nI (by omega) (by omega)
    have k : (nI x).toNatClampNeg = x := nI_clamp (by omega)
    by_cases e3 : t x = 3
    · have t3 : ta x = 3 := by rw [tx, e3]; rfl
      cases st with
      | nil =>
        obtain ⟨f1, f2⟩ := cs_SW_end H e3
        obtain ⟨n, rfl⟩ : ∃ k, n = k + 1 := ⟨n - 1, by omega⟩
        have fin := K s ta h6 h7 f2 hx0
        subst f1
        simp only [wX_walkAndReturn_21, cs_bv, g1, g2, v, k, t3, nI_1, not_true, not_false_iff, false_implies, true_implies, true_and, and_true, forall_eq, implies_true]
        by_cases g4 : (240 : Int32) ≤ nI (m + 1)
        · simp only [g4, not_true, not_false_iff, false_implies, true_implies, true_and, and_true, forall_eq, implies_true]; exact fin
        · simp only [g4, not_true, not_false_iff, false_implies, true_implies, true_and, and_true, forall_eq, implies_true]; exact fin
      | cons p st =>
        obtain ⟨p1, p2, p3, p4⟩ := cs_SW_pop (by omega) hZ H e3
        have zp := (h4 p (List.mem_cons_of_mem _ List.mem_cons_self)).1
        have gp := (hZ p zp).1
        unfold cs_sg at gp
        have g4 : ¬ nI p = -1 := cs_nIm1 (by omega)
        have v1 : vp_in (nI p) 336 := vp_in_nI (by omega) (by omega)
        have k1 : (nI p).toNatClampNeg = p := nI_clamp (by omega)
        have v2 : vp_in (nI (3 * p + t p)) 1008 := vp_in_nI (by omega) (by omega)
        have k2 : (nI (3 * p + t p)).toNatClampNeg = 3 * p + t p := nI_clamp (by omega)
        cases st with
        | nil =>
          have g5 : ¬ (1000 : Int32) ≤ 0 := by decide
          have p1' : F (3 * p + t p) = 0 := p1
          have r := ih [] p (m + 1) _ _ _ _ (by omega) hx0 p4
          simp only [wX_walkAndReturn_21, wpX_returnThrough, cs_bv, g1, g2, g4, v, k, t3, v1, k1, p3, cs_i3, v2, k2, p1', g5, cs_ref_add, nI_1, not_true, not_false_iff, false_implies, true_implies, true_and, and_true, forall_eq, implies_true]
          exact r
        | cons q st =>
          have zq := (h4 q (List.mem_cons_of_mem _ (List.mem_cons_of_mem _ List.mem_cons_self))).1
          have gq := (hZ q zq).1
          unfold cs_sg at gq
          have g5 := cs_ge1000 (b := q) (by omega)
          have p1' : F (3 * p + t p) = nI (1000 + q) := p1
          have r := ih (q :: st) p (m + 1) _ _ _ _ (by omega) hx0 p4
          simp only [wX_walkAndReturn_21, wpX_returnThrough, cs_bv, g1, g2, g4, v, k, t3, v1, k1, p3, cs_i3, v2, k2, p1', g5, cs_ref_sub, cs_ref_add, nI_1, not_true, not_false_iff, false_implies, true_implies, true_and, and_true, forall_eq, implies_true]
          exact r
    · have ht : t x < 3 := by omega
      have t3 : ¬ ta x = 3 := by rw [tx]; exact cs_ceq (k := 3) (by omega) (by omega) e3
      have v2 : vp_in (nI (3 * x + t x)) 1008 := vp_in_nI (by omega) (by omega)
      have k2 : (nI (3 * x + t x)).toNatClampNeg = 3 * x + t x := nI_clamp (by omega)
      have ew := cs_SW_w H ht
      have tt : ¬ nI (t x) = 3 := by rw [← tx]; exact t3
      have adv : (∀ b, b < 1000 → F0 (3 * x + t x) = nI (1000 + b) → ¬ s b = 0) → wX_walkAndReturn_113 post (wX_walkAndReturn_21 post n) (cs_bv st) (nI x) (nI m) f_reached f_half f_marking a_register F a_kept s a_queue a_forward a_trial ta a_partner a_partnerBack a_tally a_remembered a_shade := fun hw => by
        have r := ih st x (m + 1) _ _ _ _ (by omega) hx0 (cs_SW_adv H ht hw)
        simp only [wX_walkAndReturn_113, v, k, tx, nI_1, not_true, not_false_iff, false_implies, true_implies, true_and, and_true, forall_eq, implies_true]
        exact r
      rcases (hZ x zx).2 (t x) ht with o | ⟨b, o1, o2⟩
      · have g5 := cs_num_lt o
        have ad := adv (fun b hb e => absurd (⟨hb, e⟩ : cs_w 1000 _ b) (cs_num_nw (by omega) (by omega) o))
        simp only [wX_walkAndReturn_21, g1, g2, v, k, tx, tt, cs_i3, v2, k2, ew, g5, not_true, not_false_iff, false_implies, true_implies, true_and, and_true, forall_eq, implies_true]
        exact ad
      · have gb := (hZ b o1).1
        unfold cs_sg at gb
        have g5 := cs_ref_ge (b := b) (by omega)
        have v3 : vp_in (nI b) 336 := vp_in_nI (by omega) (by omega)
        have k3 : (nI b).toNatClampNeg = b := nI_clamp (by omega)
        by_cases z : s b = 0
        · have r := ih (x :: st) b (m + 1) _ _ _ _ (by omega) (by
            by_cases e : x0 = b
            · rw [e, cs_upd_s]; exact cs_n10
            · rw [cs_upd_n e]; exact hx0) (cs_SW_push (by omega) hZ H ht (by omega) o2 z)
          cases st with
          | nil =>
            simp only [wX_walkAndReturn_21, wX_walkAndReturn_159, cs_bv, g1, g2, v, k, tx, tt, cs_i3, v2, k2, ew, o2, g5, cs_ref_sub, v3, k3, z, cs_nb1, nI_1, not_true, not_false_iff, false_implies, true_implies, true_and, and_true, forall_eq, implies_true]
            exact r
          | cons p st =>
            have zp := (h4 p (List.mem_cons_of_mem _ List.mem_cons_self)).1
            have gp := (hZ p zp).1
            unfold cs_sg at gp
            have g4 : ¬ nI p = -1 := cs_nIm1 (by omega)
            simp only [wX_walkAndReturn_21, wX_walkAndReturn_159, cs_bv, g1, g2, g4, v, k, tx, tt, cs_i3, v2, k2, ew, o2, g5, cs_ref_sub, cs_ref_add, v3, k3, z, cs_nb1, nI_1, not_true, not_false_iff, false_implies, true_implies, true_and, and_true, forall_eq, implies_true]
            exact r
        · have ad := adv (fun b' hb' e => by
            have : b' = b := cs_w_inj (B := 1000) (w := F0 (3 * x + t x)) (by omega) ⟨hb', e⟩ ⟨by omega, o2⟩
            rw [this]; exact z)
          simp only [wX_walkAndReturn_21, g1, g2, v, k, tx, tt, cs_i3, v2, k2, ew, o2, g5, cs_ref_sub, v3, k3, z, not_true, not_false_iff, false_implies, true_implies, true_and, and_true, forall_eq, implies_true]
          exact ad
theorem cs_walk {f_reached f_half f_marking : Int32} {a_register a_field a_kept a_seen a_queue a_forward a_trial a_turn a_partner a_partnerBack a_tally a_remembered a_shade : Nat → Int32} {post : SX → Prop} {Z : Nat → Prop} {x0 : Nat} (hZ : cs_Z 6 Z a_field) (hx : Z x0) (hs : a_seen x0 = 0)
    (K : ∀ s ta, (∀ b, ¬ a_seen b = 0 → ¬ s b = 0) → (∀ b, ¬ s b = 0 → a_seen b = 0 → Z b) → (∀ p g b, ¬ s p = 0 → a_seen p = 0 → g < 3 → b < 1000 → a_field (3 * p + g) = nI (1000 + b) → ¬ s b = 0) → ¬ s x0 = 0 → post (f_reached, f_half, f_marking, a_register, a_field, a_kept, s, a_queue, a_forward, a_trial, ta, a_partner, a_partnerBack, a_tally, a_remembered, a_shade)) : wpX_walkAndReturn post (f_reached, f_half, f_marking, a_register, a_field, a_kept, a_seen, a_queue, a_forward, a_trial, a_turn, a_partner, a_partnerBack, a_tally, a_remembered, a_shade) (nI x0) := by
  have g := (hZ x0 hx).1
  unfold cs_sg at g
  have v : vp_in (nI x0) 336 := vp_in_nI (by omega) (by omega)
  have k : (nI x0).toNatClampNeg = x0 := nI_clamp (by omega)
  simp only [wpX_walkAndReturn, v, k, cs_nb1, not_true, not_false_iff, false_implies, true_implies, true_and, and_true, forall_eq, implies_true]
  exact ⟨241, cs_walkLoop (a_field := a_field) (a_seen := a_seen) (a_turn := a_turn) hZ K 241 [] x0 0 _ _ _ _ (by omega) (by rw [cs_upd_s]; exact cs_n10) (cs_SW_begin (by omega) hZ hx hs)⟩
theorem cs_reverse {f_reached f_half f_marking : Int32} {a_register a_field a_kept a_seen a_queue a_forward a_trial a_turn a_partner a_partnerBack a_tally a_remembered a_shade : Nat → Int32} {post : SX → Prop} {P : Nat → Nat → Prop} {yr yf : Nat → Int32} (I : cs_I 6 P a_register a_field a_kept yr yf) (K : ∀ s ta, (∀ b, cs_sg 6 b → (¬ s b = 0 ↔ cs_V 1000 a_register 36 0 6 a_field b)) → post (0, f_half, f_marking, a_register, a_field, a_kept, s, a_queue, a_forward, a_trial, ta, a_partner, a_partnerBack, a_tally, a_remembered, a_shade)) : wpX_markByReversing post (f_reached, f_half, f_marking, a_register, a_field, a_kept, a_seen, a_queue, a_forward, a_trial, a_turn, a_partner, a_partnerBack, a_tally, a_remembered, a_shade) := by
  have hZ := cs_Z_V (c := 6) (p := 0) (q := 6) (by omega) I (by omega)
  simp only [wpX_markByReversing]
  refine cs_forget (c := 6) (by omega) (fun s0 hs0 => ?_)
  simp only []
  refine pk_loop (σ := (Nat → Int32) × (Nat → Int32)) (fun n r t => wX_markByReversing_8 post n (nI r) 0 f_half f_marking a_register a_field a_kept t.1 a_queue a_forward a_trial t.2 a_partner a_partnerBack a_tally a_remembered a_shade)
    (fun r t => (∀ b, cs_Q 1000 a_register 36 0 r b → ¬ t.1 b = 0) ∧ (∀ p g b, cs_sg 6 p → ¬ t.1 p = 0 → g < 3 → b < 1000 → a_field (3 * p + g) = nI (1000 + b) → ¬ t.1 b = 0) ∧ (∀ b, cs_sg 6 b → ¬ t.1 b = 0 → cs_V 1000 a_register 36 0 6 a_field b)) 6 0 (s0, a_turn) (by omega)
    ⟨fun b ⟨r, _, r2, _⟩ => by omega, fun p g b hp hz => absurd (hs0 p hp) hz, fun b hb hz => absurd (hs0 b hb) hz⟩ (fun n t hI => ?_) (fun n r t hr hI ih => ?_)
  · obtain ⟨s, ta⟩ := t
    obtain ⟨i1, i2, i3⟩ := hI
    dsimp only at i1 i2 i3 ⊢
    have g : (6 : Int32) ≤ nI 6 := nI_le (a := 6) (by omega) (by omega)
    simp only [wX_markByReversing_8, g, not_true, not_false_iff, false_implies, true_implies, true_and, and_true, forall_eq, implies_true]
    exact K s ta (cs_seen_V (c := 6) (by omega) I i1 i2 i3)
  · obtain ⟨s, ta⟩ := t
    obtain ⟨i1, i2, i3⟩ := hI
    dsimp only at i1 i2 i3 ih ⊢
    have g : ¬ (6 : Int32) ≤ nI r := nI_ge (b := 6) hr (by omega)
    simp only [wX_markByReversing_8, g, not_true, not_false_iff, false_implies, true_implies, true_and, and_true, forall_eq, implies_true]
    rcases I.2.2.2.1 r hr with ⟨m1, m2⟩ | ⟨a, b, m1, m2, m3⟩
    · have hn : cs_num (a_register (6 * 6 + r)) := m2 ▸ m1
      refine cs_cellOf_num (c := 6) (by omega) hr hn ?_
      simp only [nI_1, not_true, not_false_iff, false_implies, true_implies, true_and, and_true, forall_eq, implies_true]
      refine ih (s, ta) ⟨fun b ⟨j, j1, j2, j3⟩ => ?_, i2, i3⟩
      by_cases e : j = r
      · rw [e] at j3; exact absurd j3 (cs_num_nw (by omega) (by omega) hn)
      · exact i1 b ⟨j, j1, by omega, j3⟩
    · have p := I.2.2.1 a b m1
      have sg : cs_sg 6 b := ⟨p.2.1, p.2.2.1⟩
      have vb : cs_V 1000 a_register 36 0 6 a_field b := cs_R_b ⟨r, by omega, hr, by omega, m3⟩
      refine cs_cellOf_ref (c := 6) (by omega) hr (by omega) m3 ?_
      have g4 : ¬ nI b = -1 := cs_nIm1 (by omega)
      have v : vp_in (nI b) 336 := vp_in_nI (by omega) (by omega)
      have k : (nI b).toNatClampNeg = b := nI_clamp (by omega)
      have roots : ∀ s' : Nat → Int32, (∀ b, ¬ s b = 0 → ¬ s' b = 0) → ¬ s' b = 0 → ∀ b', cs_Q 1000 a_register 36 0 (r + 1) b' → ¬ s' b' = 0 := fun s' u1 u2 b' ⟨j, j1, j2, j3⟩ => by
        by_cases e : j = r
        · rw [e] at j3
          have : b' = b := cs_w_inj (B := 1000) (by omega) j3 ⟨by omega, m3⟩
          rw [this]; exact u2
        · exact u1 b' (i1 b' ⟨j, j1, by omega, j3⟩)
      by_cases z : s b = 0
      · simp only [g4, v, k, z, not_true, not_false_iff, false_implies, true_implies, true_and, and_true, forall_eq, implies_true]
        refine cs_walk hZ vb z (fun s' ta' w1 w2 w3 w4 => ?_)
        simp only [nI_1, not_true, not_false_iff, false_implies, true_implies, true_and, and_true, forall_eq, implies_true]
        refine ih (s', ta') ⟨roots s' w1 w4, fun p g b' hp hz hg hb' hw => ?_, fun b' hb' hz => ?_⟩
        · dsimp only at hz ⊢
          by_cases y : s p = 0
          · exact w3 p g b' hz y hg hb' hw
          · exact w1 b' (i2 p g b' hp y hg hb' hw)
        · dsimp only at hz
          by_cases y : s b' = 0
          · exact w2 b' hz y
          · exact i3 b' hb' y
      · simp only [g4, v, k, z, nI_1, not_true, not_false_iff, false_implies, true_implies, true_and, and_true, forall_eq, implies_true]
        exact ih (s, ta) ⟨roots s (fun _ y => y) z, i2, i3⟩
