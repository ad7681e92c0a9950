/-! small methods of the class, and trace -/
theorem cs_nI48 {L : Nat} (h : L < 48) : nI L < 48 := nI_lt (b := 48) h (by omega)
theorem cs_forget {f_reached f_half f_marking : Int32} {a_register a_field a_kept a_seen a_queue a_forward a_trial a_turn a_partner a_partnerBack a_tally a_remembered a_shade : Nat → Int32} {post : SX → Prop} {c : Nat} (hc : c < 7) (K : ∀ s, (∀ b, cs_sg c b → s b = 0) → post (0, f_half, f_marking, a_register, a_field, a_kept, s, a_queue, a_forward, a_trial, a_turn, a_partner, a_partnerBack, a_tally, a_remembered, a_shade)) : wpX_forgetSeen post (f_reached, f_half, f_marking, a_register, a_field, a_kept, a_seen, a_queue, a_forward, a_trial, a_turn, a_partner, a_partnerBack, a_tally, a_remembered, a_shade) (nI c) := by
  simp only [wpX_forgetSeen, cs_i48, not_true, not_false_iff, false_implies, true_implies, true_and, and_true, forall_eq, implies_true]
  refine pk_loop (σ := Nat → Int32) (fun n i s => wX_forgetSeen_5 post (nI c) f_reached f_half f_marking n (nI i) a_register a_field a_kept s a_queue a_forward a_trial a_turn a_partner a_partnerBack a_tally a_remembered a_shade) (fun i s => ∀ b, 48 * c ≤ b → b < i → s b = 0) (48 * c + 48) (48 * c) a_seen (by omega) (fun b h1 h2 => by omega) (fun n s hI => ?_) (fun n i s hi hI ih => ?_)
  · have g : nI (48 * (c + 1)) ≤ nI (48 * c + 48) := nI_le (by omega) (by omega)
    simp only [wX_forgetSeen_5, nI_1, cs_i48, g, not_true, not_false_iff, false_implies, true_implies, true_and, and_true, forall_eq, implies_true]
    exact K s (fun b hb => hI b hb.1 hb.2)
  · have g : ¬ nI (48 * (c + 1)) ≤ nI i := nI_ge (by omega) (by omega)
    have v : vp_in (nI i) 336 := vp_in_nI (by omega) (by omega)
    have k : (nI i).toNatClampNeg = i := nI_clamp (by omega)
    simp only [wX_forgetSeen_5, cs_i48, g, v, k, cs_nb0, nI_1, not_true, not_false_iff, false_implies, true_implies, true_and, and_true, forall_eq, implies_true]
    refine ih _ (fun b h1 h2 => ?_)
    by_cases e : b = i
    · rw [e, cs_upd_s]
    · rw [cs_upd_n e]; exact hI b h1 (by omega)
theorem cs_visit {f_reached f_half f_marking : Int32} {a_register a_field a_kept a_seen a_queue a_forward a_trial a_turn a_partner a_partnerBack a_tally a_remembered a_shade : Nat → Int32} {post : SX → Prop} {c L : Nat} {Z S0 : Nat → Prop} {xf : Nat → Int32} {w : Int32} (hc : c < 7) (hZ : cs_Z c Z xf) (h : cs_F c Z S0 a_seen a_queue L) (hr : f_reached = nI L) (hw : cs_num w ∨ ∃ b, Z b ∧ w = nI (1000 + b))
    (K : ∀ L' s' q', cs_F c Z S0 s' q' L' → L ≤ L' → (∀ b, ¬ a_seen b = 0 → ¬ s' b = 0) → (∀ i, i < L → q' i = a_queue i) → (∀ b, b < 1000 → w = nI (1000 + b) → ¬ s' b = 0) → post (nI L', f_half, f_marking, a_register, a_field, a_kept, s', q', a_forward, a_trial, a_turn, a_partner, a_partnerBack, a_tally, a_remembered, a_shade)) : wpX_visit post (f_reached, f_half, f_marking, a_register, a_field, a_kept, a_seen, a_queue, a_forward, a_trial, a_turn, a_partner, a_partnerBack, a_tally, a_remembered, a_shade) w := by
  subst hr
  rcases cs_Z_w hc hZ hw with ⟨h1, h2⟩ | ⟨b, b1, b2, b3, b4⟩
  · simp only [wpX_visit, h1, not_true, not_false_iff, false_implies, true_implies, true_and, and_true, forall_eq, implies_true]
    exact K L a_seen a_queue h (Nat.le_refl _) (fun _ z => z) (fun _ _ => rfl) (fun b hb e => absurd (⟨hb, e⟩ : cs_w 1000 w b) (cs_num_nw (by omega) (by omega) h2))
  · subst b2
    have g1 := cs_ref_ge (b := b) (by omega)
    have v : vp_in (nI b) 336 := vp_in_nI b4 (by omega)
    have k : (nI b).toNatClampNeg = b := nI_clamp (by omega)
    have inj : ∀ b', b' < 1000 → nI (1000 + b) = nI (1000 + b') → b' = b := fun b' hb' e => by
      have := cs_nIinj (by omega) (by omega) e
      omega
    by_cases z : a_seen b = 0
    · have hL := cs_F_lt hc hZ h b3 z
      have g2 := cs_nI48 hL
      have v2 : vp_in (nI L) 48 := vp_in_nI hL (by omega)
      have k2 : (nI L).toNatClampNeg = L := nI_clamp (by omega)
      simp only [wpX_visit, g1, cs_ref_sub, v, k, z, g2, v2, k2, cs_nb1, nI_1, not_true, not_false_iff, false_implies, true_implies, true_and, and_true, forall_eq, implies_true]
      refine K (L + 1) _ _ (cs_F_add hc hZ h b1 z) (by omega) (fun b' hb' => ?_) (fun i hi => cs_upd_n (by omega)) (fun b' hb' e => ?_)
      · by_cases e : b' = b
        · rw [e, cs_upd_s]; exact cs_n10
        · rw [cs_upd_n e]; exact hb'
      · rw [inj b' hb' e, cs_upd_s]; exact cs_n10
    · simp only [wpX_visit, g1, cs_ref_sub, v, k, z, not_true, not_false_iff, false_implies, true_implies, true_and, and_true, forall_eq, implies_true]
      exact K L a_seen a_queue h (Nat.le_refl _) (fun _ z => z) (fun _ _ => rfl) (fun b' hb' e => by rw [inj b' hb' e]; exact z)
theorem cs_follow {f_reached f_half f_marking : Int32} {a_register a_field a_kept a_seen a_queue a_forward a_trial a_turn a_partner a_partnerBack a_tally a_remembered a_shade : Nat → Int32} {post : SX → Prop} {c L : Nat} {Z S0 : Nat → Prop} (hc : c < 7) (hZ : cs_Z c Z a_field) (h : cs_F c Z S0 a_seen a_queue L) (hr : f_reached = nI L)
    (K : ∀ L' s' q', cs_F c Z S0 s' q' L' → cs_pr a_field s' q' L' 0 → (∀ b, ¬ a_seen b = 0 → ¬ s' b = 0) → post (nI L', f_half, f_marking, a_register, a_field, a_kept, s', q', a_forward, a_trial, a_turn, a_partner, a_partnerBack, a_tally, a_remembered, a_shade)) : wpX_followFields post (f_reached, f_half, f_marking, a_register, a_field, a_kept, a_seen, a_queue, a_forward, a_trial, a_turn, a_partner, a_partnerBack, a_tally, a_remembered, a_shade) := by
  simp only [wpX_followFields]
  refine loop_m (σ := Nat × Nat × (Nat → Int32) × (Nat → Int32)) (fun n t => wX_followFields_2 post n (nI t.1) (nI t.2.1) f_half f_marking a_register a_field a_kept t.2.2.1 t.2.2.2 a_forward a_trial a_turn a_partner a_partnerBack a_tally a_remembered a_shade)
    (fun t => t.1 ≤ t.2.1 ∧ cs_F c Z S0 t.2.2.1 t.2.2.2 t.2.1 ∧ cs_pr a_field t.2.2.1 t.2.2.2 t.1 0 ∧ (∀ b, ¬ a_seen b = 0 → ¬ t.2.2.1 b = 0)) (fun t => 48 - t.1) (fun n t hI ih => ?_) (0, L, a_seen, a_queue) ⟨by omega, h, cs_pr_0, fun _ z => z⟩ |> fun ⟨n, hn⟩ => ⟨n, by rw [hr]; exact hn⟩
  obtain ⟨i, L1, s1, q1⟩ := t
  obtain ⟨i1, i2, i3, i4⟩ := hI
  try dsimp only at i1 i2 i3 i4 ih ⊢
  have hL := i2.1
  by_cases e : i = L1
  · subst e
    have fin := K i s1 q1 i2 i3 i4
    have g2 : nI i ≤ nI i := nI_le (Nat.le_refl _) (by omega)
    by_cases e2 : i = 48
    · have g : (48 : Int32) ≤ nI i := nI_le (a := 48) (by omega) (by omega)
      simp only [wX_followFields_2, g, not_true, not_false_iff, false_implies, true_implies, true_and, and_true, forall_eq, implies_true]
      exact fin
    · have g : ¬ (48 : Int32) ≤ nI i := nI_ge (b := 48) (by omega) (by omega)
      simp only [wX_followFields_2, g, g2, not_true, not_false_iff, false_implies, true_implies, true_and, and_true, forall_eq, implies_true]
      exact fin
  · have g : ¬ (48 : Int32) ≤ nI i := nI_ge (b := 48) (by omega) (by omega)
    have g2 : ¬ nI L1 ≤ nI i := nI_ge (by omega) (by omega)
    simp only [wX_followFields_2, g, g2, not_true, not_false_iff, false_implies, true_implies, true_and, and_true, forall_eq, implies_true]
    refine pk_loop (σ := Nat × (Nat → Int32) × (Nat → Int32)) (fun m f t => wX_followFields_18 post (wX_followFields_2 post n) (nI i) m (nI f) (nI t.1) f_half f_marking a_register a_field a_kept t.2.1 t.2.2 a_forward a_trial a_turn a_partner a_partnerBack a_tally a_remembered a_shade)
      (fun f t => i < t.1 ∧ cs_F c Z S0 t.2.1 t.2.2 t.1 ∧ cs_pr a_field t.2.1 t.2.2 i f ∧ (∀ b, ¬ a_seen b = 0 → ¬ t.2.1 b = 0)) 3 0 (L1, s1, q1) (by omega) ⟨by omega, i2, i3, i4⟩ (fun m t hI => ?_) (fun m f t hf hI ih2 => ?_)
    · obtain ⟨L2, s2, q2⟩ := t
      obtain ⟨j1, j2, j3, j4⟩ := hI
      try dsimp only at j1 j2 j3 j4 ⊢
      have g3 : (3 : Int32) ≤ nI 3 := nI_le (a := 3) (by omega) (by omega)
      simp only [wX_followFields_18, g3, nI_1, not_true, not_false_iff, false_implies, true_implies, true_and, and_true, forall_eq, implies_true]
      exact ih (i + 1, L2, s2, q2) ⟨by (try dsimp only); omega, j2, cs_pr_n j3, j4⟩ (by (try dsimp only); omega)
    · obtain ⟨L2, s2, q2⟩ := t
      obtain ⟨j1, j2, j3, j4⟩ := hI
      try dsimp only at j1 j2 j3 j4 ⊢
      obtain ⟨b, b1, b2, b3, b4⟩ := cs_F_q hc hZ j2 j1
      have hL2 := j2.1
      have g3 : ¬ (3 : Int32) ≤ nI f := nI_ge (b := 3) hf (by omega)
      have v1 : vp_in (nI i) 48 := vp_in_nI (by omega) (by omega)
      have k1 : (nI i).toNatClampNeg = i := nI_clamp (by omega)
      have v2 : vp_in (nI (3 * b + f)) 1008 := vp_in_nI (by omega) (by omega)
      have k2 : (nI (3 * b + f)).toNatClampNeg = 3 * b + f := nI_clamp (by omega)
      simp only [wX_followFields_18, g3, v1, k1, b2, cs_i3, v2, k2, not_true, not_false_iff, false_implies, true_implies, true_and, and_true, forall_eq, implies_true]
      refine cs_visit hc hZ j2 rfl ((hZ b b1).2 f hf) (fun L3 s3 q3 a1 a2 a3 a4 a5 => ?_)
      simp only [nI_1, not_true, not_false_iff, false_implies, true_implies, true_and, and_true, forall_eq, implies_true]
      refine ih2 (L3, s3, q3) ⟨by (try dsimp only); omega, a1, ?_, fun b z => a3 b (j4 b z)⟩
      try dsimp only
      refine cs_pr_f (a := b) (cs_pr_mono j3 a3 (fun k hk => a4 k (by omega))) (by omega) (by rw [a4 i j1]; exact b2) a5
theorem cs_trace {f_reached f_half f_marking : Int32} {a_register a_field a_kept a_seen a_queue a_forward a_trial a_turn a_partner a_partnerBack a_tally a_remembered a_shade : Nat → Int32} {post : Int32 → SX → Prop} {c p q : Nat} {P : Nat → Nat → Prop} {yr yf : Nat → Int32} (hc : c < 7) (hpq : p ≤ q) (hq : q ≤ 6) (I : cs_I c P a_register a_field a_kept yr yf)
    (K : ∀ L s qq, cs_F c (cs_V 1000 a_register (6 * c) p q a_field) (fun _ => False) s qq L → (∀ b, cs_sg c b → (¬ s b = 0 ↔ cs_V 1000 a_register (6 * c) p q a_field b)) → L = cs_n (cs_V 10000 yr 0 p q yf) 48 → post (nI L) (nI L, f_half, f_marking, a_register, a_field, a_kept, s, qq, a_forward, a_trial, a_turn, a_partner, a_partnerBack, a_tally, a_remembered, a_shade)) : wpX_trace post (f_reached, f_half, f_marking, a_register, a_field, a_kept, a_seen, a_queue, a_forward, a_trial, a_turn, a_partner, a_partnerBack, a_tally, a_remembered, a_shade) (nI c) (nI p) (nI q) := by
  have hZ := cs_Z_V (p := p) hc I hq
  simp only [wpX_trace]
  refine cs_forget hc (fun s0 hs0 => ?_)
  simp only []
  refine pk_loop (σ := Nat × (Nat → Int32) × (Nat → Int32)) (fun m r t => wX_trace_8 post (nI c) (nI q) m (nI r) (nI t.1) f_half f_marking a_register a_field a_kept t.2.1 t.2.2 a_forward a_trial a_turn a_partner a_partnerBack a_tally a_remembered a_shade)
    (fun r t => p ≤ r ∧ cs_F c (cs_V 1000 a_register (6 * c) p q a_field) (fun _ => False) t.2.1 t.2.2 t.1 ∧ (∀ b, cs_Q 1000 a_register (6 * c) p r b → ¬ t.2.1 b = 0)) q p (0, s0, a_queue) hpq ⟨Nat.le_refl _, cs_F_nil hs0, fun b ⟨r, r1, r2, _⟩ => by omega⟩ (fun m t hI => ?_) (fun m r t hr hI ih => ?_)
  · obtain ⟨L, s, qq⟩ := t
    obtain ⟨_, j1, j2⟩ := hI
    try dsimp only at j1 j2 ⊢
    have g : nI q ≤ nI q := nI_le (Nat.le_refl _) (by omega)
    simp only [wX_trace_8, g, not_true, not_false_iff, false_implies, true_implies, true_and, and_true, forall_eq, implies_true]
    refine cs_follow hc hZ j1 rfl (fun L' s' q' a1 a2 a3 => ?_)
    obtain ⟨e1, e2⟩ := cs_F_end hc hZ a1 a2 (fun b hb => a3 b (j2 b hb))
    exact K L' s' q' a1 e1 (by rw [cs_iso_n hc I hq, e2])
  · obtain ⟨L, s, qq⟩ := t
    obtain ⟨j0, j1, j2⟩ := hI
    try dsimp only at j1 j2 ih ⊢
    have g : ¬ nI q ≤ nI r := nI_ge hr (by omega)
    have v : vp_in (nI (6 * c + r)) 42 := vp_in_nI (by omega) (by omega)
    have k : (nI (6 * c + r)).toNatClampNeg = 6 * c + r := nI_clamp (by omega)
    simp only [wX_trace_8, g, cs_i6, v, k, not_true, not_false_iff, false_implies, true_implies, true_and, and_true, forall_eq, implies_true]
    refine cs_visit hc hZ j1 rfl ?_ (fun L3 s3 q3 a1 a2 a3 a4 a5 => ?_)
    · rcases I.2.2.2.1 r (by omega) with ⟨m1, m2⟩ | ⟨a, b, m1, m2, m3⟩
      · exact Or.inl (m2 ▸ m1)
      · have g := I.2.2.1 a b m1
        exact Or.inr ⟨b, cs_R_b ⟨r, j0, hr, by omega, m3⟩, m3⟩
    · simp only [nI_1, not_true, not_false_iff, false_implies, true_implies, true_and, and_true, forall_eq, implies_true]
      refine ih (L3, s3, q3) ⟨by omega, a1, fun b ⟨r', r1, r2, r3⟩ => ?_⟩
      by_cases e : r' = r
      · rw [e] at r3; exact a5 b r3.1 r3.2
      · exact a3 b (j2 b ⟨r', r1, by omega, r3⟩)
