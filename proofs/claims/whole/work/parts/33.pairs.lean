/-! agree -/
theorem cs_pairW {f_reached f_half f_marking : Int32} {a_register a_field a_kept a_seen a_queue a_forward a_trial a_turn a_partner a_partnerBack a_tally a_remembered a_shade : Nat → Int32} {post : Int32 → SX → Prop} {Q : Nat → Nat → Prop} {L : Nat} {w w' : Int32} (q1 : ∀ b b' b'', Q b b' → Q b b'' → b' = b'') (q2 : ∀ b b1 b', Q b b' → Q b1 b' → b = b1) (lt : ∀ b b', Q b b' → b < 336 ∧ b' < 336) (h : cs_PP Q a_partner a_partnerBack a_queue L) (hr : f_reached = nI L) (m : cs_mq Q w w')
    (K : ∀ L' pa pb q', cs_PP Q pa pb q' L' → L ≤ L' → (∀ i, i < L → q' i = a_queue i) → (∀ b b', Q b b' → a_partner b = nI b' → pa b = nI b') → post 1 (nI L', f_half, f_marking, a_register, a_field, a_kept, a_seen, q', a_forward, a_trial, a_turn, pa, pb, a_tally, a_remembered, a_shade)) : wpX_pairWords post (f_reached, f_half, f_marking, a_register, a_field, a_kept, a_seen, a_queue, a_forward, a_trial, a_turn, a_partner, a_partnerBack, a_tally, a_remembered, a_shade) w w' := by
  subst hr
  rcases m with ⟨m1, m2⟩ | ⟨b, b', m1, m2, m3⟩
  · have g := cs_num_lt m1
    subst m2
    simp only [wpX_pairWords, wX_pairWords_14, g, not_true, not_false_iff, false_implies, true_implies, true_and, and_true, forall_eq, implies_true]
    exact K L a_partner a_partnerBack a_queue h (Nat.le_refl _) (fun _ _ => rfl) (fun _ _ _ e => e)
  · obtain ⟨l1, l2⟩ := lt b b' m1
    subst m2 m3
    have g := cs_ref_ge (b := b) (by omega)
    have g2 := cs_ge1000 (b := b') (by omega)
    have v1 : vp_in (nI b) 336 := vp_in_nI l1 (by omega)
    have k1 : (nI b).toNatClampNeg = b := nI_clamp (by omega)
    have v2 : vp_in (nI b') 336 := vp_in_nI l2 (by omega)
    have k2 : (nI b').toNatClampNeg = b' := nI_clamp (by omega)
    rcases h.2.1 b b' m1 with ⟨e1, e2⟩ | ⟨e1, e2⟩
    · obtain ⟨N1, N2⟩ := cs_PP_new q1 q2 (fun b b' hb => by have := lt b b' hb; omega) h m1 e1 e2
      have mono : ∀ x x', Q x x' → a_partner x = nI x' → upd a_partner b (nI b') x = nI x' := fun x x' hx e => by
        by_cases z : x = b
        · rw [z, cs_upd_s, q1 b b' x' m1 (z ▸ hx)]
        · rw [cs_upd_n z]; exact e
      simp only [wpX_pairWords, g, g2, cs_ref_sub, v1, k1, v2, k2, e1, e2, not_true, not_false_iff, false_implies, true_implies, true_and, and_true, forall_eq, implies_true]
      by_cases hL : L < 48
      · refine cs_enq rfl hL ?_
        simp only [wX_pairWords_80, v1, k1, cs_upd_s, not_true, not_false_iff, false_implies, true_implies, true_and, and_true, forall_eq, implies_true]
        exact K _ _ _ _ (N2 hL) (by omega) (fun i hi => cs_upd_n (by omega)) mono
      · have g3 : (48 : Int32) ≤ nI L := nI_le (a := 48) (by omega) (by have := h.1; omega)
        simp only [wpX_enqueue, g3, not_true, not_false_iff, false_implies, true_implies, true_and, and_true, forall_eq, implies_true]
        simp only [wX_pairWords_80, v1, k1, cs_upd_s, not_true, not_false_iff, false_implies, true_implies, true_and, and_true, forall_eq, implies_true]
        exact K _ _ _ _ N1 (Nat.le_refl _) (fun _ _ => rfl) mono
    · have g3 : ¬ nI b' = -1 := cs_nIm1 (by omega)
      simp only [wpX_pairWords, wX_pairWords_80, g, g2, cs_ref_sub, v1, k1, e1, g3, not_true, not_false_iff, false_implies, true_implies, true_and, and_true, forall_eq, implies_true]
      exact K L a_partner a_partnerBack a_queue h (Nat.le_refl _) (fun _ _ => rfl) (fun _ _ _ e => e)
theorem cs_pairs {f_reached f_half f_marking : Int32} {a_register a_field a_kept a_seen a_queue a_forward a_trial a_turn a_partner a_partnerBack a_tally a_remembered a_shade : Nat → Int32} {post : Int32 → SX → Prop} {c d : Nat} {P P' : Nat → Nat → Prop} {yr yf : Nat → Int32} (hc : c < 7) (hd : d < 7) (I : cs_I c P a_register a_field a_kept yr yf) (I' : cs_I d P' a_register a_field a_kept yr yf)
    (K : ∀ L pa pb q, post 1 (nI L, f_half, f_marking, a_register, a_field, a_kept, a_seen, q, a_forward, a_trial, a_turn, pa, pb, a_tally, a_remembered, a_shade)) : wpX_pairsUp post (f_reached, f_half, f_marking, a_register, a_field, a_kept, a_seen, a_queue, a_forward, a_trial, a_turn, a_partner, a_partnerBack, a_tally, a_remembered, a_shade) (nI c) (nI d) := by
  have q1 : ∀ b b' b'', cs_PQ P P' b b' → cs_PQ P P' b b'' → b' = b'' := fun b b' b'' ⟨a, h1, h2⟩ ⟨a2, h3, h4⟩ => by
    have e := I.2.1 a a2 b h1 h3
    subst e
    exact I'.1 a b' b'' h2 h4
  have q2 : ∀ b b1 b', cs_PQ P P' b b' → cs_PQ P P' b1 b' → b = b1 := fun b b1 b' ⟨a, h1, h2⟩ ⟨a2, h3, h4⟩ => by
    have e := I'.2.1 a a2 b' h2 h4
    subst e
    exact I.1 a b b1 h1 h3
  have sgs : ∀ b b', cs_PQ P P' b b' → cs_sg c b ∧ cs_sg d b' := fun b b' ⟨a, h1, h2⟩ => by
    have p := I.2.2.1 a b h1
    have p' := I'.2.2.1 a b' h2
    exact ⟨⟨p.2.1, p.2.2.1⟩, ⟨p'.2.1, p'.2.2.1⟩⟩
  have lt : ∀ b b', cs_PQ P P' b b' → b < 336 ∧ b' < 336 := fun b b' h => by
    have := sgs b b' h
    unfold cs_sg at this; omega
  simp only [wpX_pairsUp]
  refine pk_loop (σ := (Nat → Int32) × (Nat → Int32)) (fun n i t => wX_pairsUp_2 post (nI c) (nI d) f_reached f_half f_marking n (nI i) a_register a_field a_kept a_seen a_queue a_forward a_trial a_turn t.1 t.2 a_tally a_remembered a_shade) (fun i t => (∀ b, 48 * c ≤ b → b < 48 * c + i → t.1 b = -1) ∧ (∀ b, 48 * d ≤ b → b < 48 * d + i → t.2 b = -1)) 48 0 (a_partner, a_partnerBack) (by omega) ⟨fun b h1 h2 => by omega, fun b h1 h2 => by omega⟩ (fun n t hI => ?_) (fun n i t hi hI ih => ?_)
  · obtain ⟨pa, pb⟩ := t
    obtain ⟨i1, i2⟩ := hI
    dsimp only at i1 i2 ⊢
    have g : (48 : Int32) ≤ nI 48 := nI_le (a := 48) (by omega) (by omega)
    simp only [wX_pairsUp_2, g, not_true, not_false_iff, false_implies, true_implies, true_and, and_true, forall_eq, implies_true]
    have PP0 : cs_PP (cs_PQ P P') pa pb a_queue 0 := ⟨by omega, fun b b' h => by
      have s := sgs b b' h
      exact Or.inl ⟨i1 b s.1.1 s.1.2, i2 b' s.2.1 s.2.2⟩, fun i hi => by omega⟩
    refine pk_loop (σ := Nat × (Nat → Int32) × (Nat → Int32) × (Nat → Int32)) (fun n r t => wX_pairsUp_45 post (nI c) (nI d) n (nI r) (nI t.1) f_half f_marking a_register a_field a_kept a_seen t.2.2.2 a_forward a_trial a_turn t.2.1 t.2.2.1 a_tally a_remembered a_shade) (fun _ t => cs_PP (cs_PQ P P') t.2.1 t.2.2.1 t.2.2.2 t.1) 6 0 (0, pa, pb, a_queue) (by omega) PP0 (fun n t hI => ?_) (fun n r t hr hI ih => ?_)
    · obtain ⟨L, pa, pb, q⟩ := t
      dsimp only at hI ⊢
      have g6 : (6 : Int32) ≤ nI 6 := nI_le (a := 6) (by omega) (by omega)
      simp only [wX_pairsUp_45, g6, not_true, not_false_iff, false_implies, true_implies, true_and, and_true, forall_eq, implies_true]
      refine loop_m (σ := Nat × Nat × (Nat → Int32) × (Nat → Int32) × (Nat → Int32)) (fun n t => wX_pairsUp_94 post n (nI t.1) (nI t.2.1) f_half f_marking a_register a_field a_kept a_seen t.2.2.2.2 a_forward a_trial a_turn t.2.2.1 t.2.2.2.1 a_tally a_remembered a_shade) (fun t => t.1 ≤ t.2.1 ∧ cs_PP (cs_PQ P P') t.2.2.1 t.2.2.2.1 t.2.2.2.2 t.2.1) (fun t => 48 - t.1) (fun n t hI ih => ?_) (0, L, pa, pb, q) ⟨Nat.zero_le _, hI⟩
      obtain ⟨i, L, pa, pb, q⟩ := t
      obtain ⟨j1, j2⟩ := hI
      dsimp only at j1 j2 ih ⊢
      have hL := j2.1
      by_cases e : i = L
      · subst e
        have g2 : nI i ≤ nI i := nI_le (Nat.le_refl _) (by omega)
        have fin := K i pa pb q
        by_cases g5 : (48 : Int32) ≤ nI i
        · simp only [wX_pairsUp_94, g5, not_true, not_false_iff, false_implies, true_implies, true_and, and_true, forall_eq, implies_true]; exact fin
        · simp only [wX_pairsUp_94, g5, g2, not_true, not_false_iff, false_implies, true_implies, true_and, and_true, forall_eq, implies_true]; exact fin
      · have g5 : ¬ (48 : Int32) ≤ nI i := nI_ge (b := 48) (by omega) (by omega)
        have g2 : ¬ nI L ≤ nI i := nI_ge (by omega) (by omega)
        obtain ⟨b, b', x1, x2, x3⟩ := j2.2.2 i (by omega)
        obtain ⟨l1, l2⟩ := lt b b' x1
        have v1 : vp_in (nI i) 48 := vp_in_nI (by omega) (by omega)
        have k1 : (nI i).toNatClampNeg = i := nI_clamp (by omega)
        have v2 : vp_in (nI b) 336 := vp_in_nI l1 (by omega)
        have k2 : (nI b).toNatClampNeg = b := nI_clamp (by omega)
        simp only [wX_pairsUp_94, g5, g2, v1, k1, x2, not_true, not_false_iff, false_implies, true_implies, true_and, and_true, forall_eq, implies_true]
        refine pk_loop (σ := Nat × (Nat → Int32) × (Nat → Int32) × (Nat → Int32)) (fun m f t => wX_pairsUp_119 post (wX_pairsUp_94 post n) (nI i) (nI b) m (nI f) (nI t.1) f_half f_marking a_register a_field a_kept a_seen t.2.2.2 a_forward a_trial a_turn t.2.1 t.2.2.1 a_tally a_remembered a_shade) (fun f t => i < t.1 ∧ cs_PP (cs_PQ P P') t.2.1 t.2.2.1 t.2.2.2 t.1 ∧ t.2.1 b = nI b') 3 0 (L, pa, pb, q) (by omega) ⟨by dsimp only; omega, j2, x3⟩ (fun m t hI2 => ?_) (fun m f t hf hI2 ih2 => ?_)
        · obtain ⟨L, pa, pb, q⟩ := t
          obtain ⟨y1, y2, y3⟩ := hI2
          dsimp only at y1 y2 y3 ⊢
          have g6 : (3 : Int32) ≤ nI 3 := nI_le (a := 3) (by omega) (by omega)
          simp only [wX_pairsUp_119, g6, nI_1, not_true, not_false_iff, false_implies, true_implies, true_and, and_true, forall_eq, implies_true]
          exact ih (i + 1, L, pa, pb, q) ⟨by dsimp only; omega, y2⟩ (by dsimp only; omega)
        · obtain ⟨L, pa, pb, q⟩ := t
          obtain ⟨y1, y2, y3⟩ := hI2
          dsimp only at y1 y2 y3 ih2 ⊢
          have g6 : ¬ (3 : Int32) ≤ nI f := nI_ge (b := 3) hf (by omega)
          have v3 : vp_in (nI (3 * b + f)) 1008 := vp_in_nI (by omega) (by omega)
          have k3 : (nI (3 * b + f)).toNatClampNeg = 3 * b + f := nI_clamp (by omega)
          have v4 : vp_in (nI (3 * b' + f)) 1008 := vp_in_nI (by omega) (by omega)
          have k4 : (nI (3 * b' + f)).toNatClampNeg = 3 * b' + f := nI_clamp (by omega)
          simp only [wX_pairsUp_119, g6, cs_i3, v2, k2, v3, k3, y3, v4, k4, not_true, not_false_iff, false_implies, true_implies, true_and, and_true, forall_eq, implies_true]
          obtain ⟨a, z1, z2⟩ := x1
          refine cs_pairW q1 q2 lt y2 rfl (cs_mq_of hc hd I I' (I.2.2.2.2 a b z1 f hf) (I'.2.2.2.2 a b' z2 f hf)) (fun L' pa' pb' q' w1 w2 w3 w4 => ?_)
          simp only [cs_n10, nI_1, not_true, not_false_iff, false_implies, true_implies, true_and, and_true, forall_eq, implies_true]
          exact ih2 (L', pa', pb', q') ⟨by dsimp only; omega, w1, w4 b b' ⟨a, z1, z2⟩ y3⟩
    · obtain ⟨L, pa, pb, q⟩ := t
      dsimp only at hI ih ⊢
      have g6 : ¬ (6 : Int32) ≤ nI r := nI_ge (b := 6) hr (by omega)
      have v3 : vp_in (nI (6 * c + r)) 42 := vp_in_nI (by omega) (by omega)
      have k3 : (nI (6 * c + r)).toNatClampNeg = 6 * c + r := nI_clamp (by omega)
      have v4 : vp_in (nI (6 * d + r)) 42 := vp_in_nI (by omega) (by omega)
      have k4 : (nI (6 * d + r)).toNatClampNeg = 6 * d + r := nI_clamp (by omega)
      simp only [wX_pairsUp_45, g6, cs_i6, v3, k3, v4, k4, not_true, not_false_iff, false_implies, true_implies, true_and, and_true, forall_eq, implies_true]
      refine cs_pairW q1 q2 lt hI rfl (cs_mq_of hc hd I I' (I.2.2.2.1 r hr) (I'.2.2.2.1 r hr)) (fun L' pa' pb' q' w1 w2 w3 w4 => ?_)
      simp only [cs_n10, nI_1, not_true, not_false_iff, false_implies, true_implies, true_and, and_true, forall_eq, implies_true]
      exact ih (L', pa', pb', q') w1
  · obtain ⟨pa, pb⟩ := t
    obtain ⟨i1, i2⟩ := hI
    dsimp only at i1 i2 ih ⊢
    have g : ¬ (48 : Int32) ≤ nI i := nI_ge (b := 48) hi (by omega)
    have e1 : nI (48 * c) + nI i = nI (48 * c + i) := nI_add _ _
    have e2 : nI (48 * d) + nI i = nI (48 * d + i) := nI_add _ _
    have v3 : vp_in (nI (48 * c + i)) 336 := vp_in_nI (by omega) (by omega)
    have k3 : (nI (48 * c + i)).toNatClampNeg = 48 * c + i := nI_clamp (by omega)
    have v4 : vp_in (nI (48 * d + i)) 336 := vp_in_nI (by omega) (by omega)
    have k4 : (nI (48 * d + i)).toNatClampNeg = 48 * d + i := nI_clamp (by omega)
    simp only [wX_pairsUp_2, g, cs_i48, e1, e2, v3, k3, v4, k4, nI_1, not_true, not_false_iff, false_implies, true_implies, true_and, and_true, forall_eq, implies_true]
    refine ih (upd pa (48 * c + i) (-1), upd pb (48 * d + i) (-1)) ⟨fun b h1 h2 => ?_, fun b h1 h2 => ?_⟩
    · show upd pa (48 * c + i) (-1) b = -1
      by_cases e : b = 48 * c + i
      · rw [e, cs_upd_s]
      · rw [cs_upd_n e]; exact i1 b h1 (by omega)
    · show upd pb (48 * d + i) (-1) b = -1
      by_cases e : b = 48 * d + i
      · rw [e, cs_upd_s]
      · rw [cs_upd_n e]; exact i2 b h1 (by omega)
theorem i_vc_agree {k : Nat} {u : SX} {v : SY} (I : i_Rel k u v) (hk : k + 4 ≤ 2048) (v1 : Int32) (v2 : Int32) : wpX_agree (fun r u' => wpY_agree (fun r' => r' = r ∧ i_Rel (k + 4) u' v) v v1 v2) u v1 v2 := by
  obtain ⟨f_reached, f_half, f_marking, a_register, a_field, a_kept, a_seen, a_queue, a_forward, a_trial, a_turn, a_partner, a_partnerBack, a_tally, a_remembered, a_shade⟩ := u
  obtain ⟨yr, yf⟩ := v
  obtain ⟨hJ, hY⟩ := I
  dsimp only at hY hJ
  simp only [wpX_agree, wpY_agree]
  refine cs_isCol (fun hn => ?_) (fun c hc ec => ?_)
  · simp only [not_true, not_false_iff, false_implies, true_implies, true_and, and_true, forall_eq, implies_true]
    refine cs_yCol (fun _ => ?_) (fun r hr e => absurd e (hn r hr))
    simp only [not_true, not_false_iff, false_implies, true_implies, true_and, and_true, forall_eq, implies_true]
    first | exact ⟨hJ, hY⟩ | exact ⟨rfl, hJ, hY⟩
  · subst ec
    simp only [cs_n10, not_true, not_false_iff, false_implies, true_implies, true_and, and_true, forall_eq, implies_true]
    have yc : ∀ c, c < 7 → ∀ {Q : Int32 → Prop}, Q 1 → wpY_isCollector Q (yr, yf) (nI c) := fun c hc Q hq => cs_yCol (fun hc2 => absurd rfl (hc2 c hc)) (fun _ _ _ => hq)
    refine cs_isCol (fun hn => ?_) (fun d hd ed => ?_)
    · simp only [not_true, not_false_iff, false_implies, true_implies, true_and, and_true, forall_eq, implies_true]
      refine yc c hc ?_
      simp only [cs_n10, not_true, not_false_iff, false_implies, true_implies, true_and, and_true, forall_eq, implies_true]
      refine cs_yCol (fun _ => ?_) (fun r hr e => absurd e (hn r hr))
      simp only [not_true, not_false_iff, false_implies, true_implies, true_and, and_true, forall_eq, implies_true]
      first | exact ⟨hJ, hY⟩ | exact ⟨rfl, hJ, hY⟩
    · subst ed
      simp only [cs_n10, not_true, not_false_iff, false_implies, true_implies, true_and, and_true, forall_eq, implies_true]
      have Jc : cs_J c f_half f_marking a_register a_field a_kept a_tally a_remembered a_shade yr yf := hJ c hc
      have Jd : cs_J d f_half f_marking a_register a_field a_kept a_tally a_remembered a_shade yr yf := hJ d hd
      obtain ⟨P, IP⟩ := Jc.1
      obtain ⟨P', IP'⟩ := Jd.1
      refine cs_pairs hc hd IP IP' (fun L pa pb q => ?_)
      simp only [cs_n10, not_true, not_false_iff, false_implies, true_implies, true_and, and_true, forall_eq, implies_true]
      refine yc c hc ?_
      simp only [cs_n10, not_true, not_false_iff, false_implies, true_implies, true_and, and_true, forall_eq, implies_true]
      refine yc d hd ?_
      simp only [cs_n10, not_true, not_false_iff, false_implies, true_implies, true_and, and_true, forall_eq, implies_true]
      first | exact ⟨hJ, hY⟩ | exact ⟨rfl, hJ, hY⟩
