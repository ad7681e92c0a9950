/-! nothingWillBeMissed, sound -/
theorem cs_missed {f_reached f_half f_marking : Int32} {a_register a_field a_kept a_seen a_queue a_forward a_trial a_turn a_partner a_partnerBack a_tally a_remembered a_shade : Nat → Int32} {post : Int32 → SX → Prop} {yr yf : Nat → Int32} (J : cs_J 5 f_half f_marking a_register a_field a_kept a_tally a_remembered a_shade yr yf) (K : ∀ r s q, post 1 (r, f_half, f_marking, a_register, a_field, a_kept, s, q, a_forward, a_trial, a_turn, a_partner, a_partnerBack, a_tally, a_remembered, a_shade)) : wpX_nothingWillBeMissed post (f_reached, f_half, f_marking, a_register, a_field, a_kept, a_seen, a_queue, a_forward, a_trial, a_turn, a_partner, a_partnerBack, a_tally, a_remembered, a_shade) := by
  by_cases hm : f_marking = 0
  · have := K f_reached a_seen a_queue
    subst hm
    simp only [wpX_nothingWillBeMissed, not_true, not_false_iff, false_implies, true_implies, true_and, and_true, forall_eq, implies_true]
    exact this
  · obtain ⟨S, T⟩ := J.2.2.2.2.2.2 rfl hm
    have W := J.2.1
    have hZ := cs_Z_W W
    have e288 : (240 : Int32) + 48 = nI 288 := by decide
    have g288 : nI 288 ≤ nI 288 := nI_le (Nat.le_refl _) (by omega)
    have t12 : ¬ (1 : Int32) = 2 := by decide
    have t02 : ¬ (0 : Int32) = 1 := by decide
    simp only [wpX_nothingWillBeMissed, hm, not_true, not_false_iff, false_implies, true_implies, true_and, and_true, forall_eq, implies_true]
    refine cs_forget (c := 5) (by omega) (fun s0 hs0 => ?_)
    simp only []
    refine pk_loop (σ := Nat × (Nat → Int32) × (Nat → Int32)) (fun n i t => wX_nothingWillBeMissed_20 post 240 n (nI i) (nI t.1) f_half f_marking a_register a_field a_kept t.2.1 t.2.2 a_forward a_trial a_turn a_partner a_partnerBack a_tally a_remembered a_shade)
      (fun i t => 240 ≤ i ∧ cs_F 5 (fun b => cs_sg 5 b ∧ ¬ a_kept b = 0) (fun b => 240 ≤ b ∧ b < i ∧ a_shade b = 2) t.2.1 t.2.2 t.1 ∧ (∀ b, i ≤ b → b < 288 → t.2.1 b = 0) ∧ (∀ b, 240 ≤ b → b < i → ¬ a_shade b = 0 → ¬ t.2.1 b = 0)) 288 240 (0, s0, a_queue) (by omega)
      ⟨Nat.le_refl _, cs_F_S0 (cs_F_nil hs0) (fun _ h => h.elim) (fun b hb => by omega), fun b h1 h2 => hs0 b ⟨by omega, by omega⟩, fun b h1 h2 => by omega⟩ (fun n t hI => ?_) (fun n i t hi hI ih => ?_)
    · obtain ⟨L1, s1, q1⟩ := t
      obtain ⟨_, j1, j2, j3⟩ := hI
      dsimp only at j1 j2 j3 ⊢
      simp only [wX_nothingWillBeMissed_20, e288, g288, not_true, not_false_iff, false_implies, true_implies, true_and, and_true, forall_eq, implies_true]
      refine cs_follow (c := 5) (by omega) hZ j1 rfl (fun L s q a1 a2 a3 => ?_)
      simp only []
      obtain ⟨c1, c2⟩ := T (fun b => ¬ s b = 0) (fun b hb hs => a3 b (j3 b hb.1 hb.2 hs)) (fun a b ha hka hs hn ⟨g, hg, hw⟩ => by
        rcases a1.2.2.2.2 a ha hs with z | ⟨i, i1, i2⟩
        · exact absurd z.2.2 hn
        · have ha2 := ha
          unfold cs_sg at ha2
          exact a2 i a g b (Or.inl i1) hg (by omega) hw.1 i2 hw.2)
      refine pk_loop (σ := Unit) (fun n r _ => wX_nothingWillBeMissed_73 post 240 (nI L) f_half f_marking a_register a_field a_kept s q a_forward a_trial a_turn a_partner a_partnerBack a_tally a_remembered a_shade n 0 (nI r)) (fun _ _ => True) 6 0 () (by omega) trivial (fun n _ _ => ?_) (fun n r _ hr _ ih => ?_)
      · have g : (6 : Int32) ≤ nI 6 := nI_le (a := 6) (by omega) (by omega)
        simp only [wX_nothingWillBeMissed_73, g, not_true, not_false_iff, false_implies, true_implies, true_and, and_true, forall_eq, implies_true]
        refine pk_loop (σ := Unit) (fun n i _ => wX_nothingWillBeMissed_121 post 240 (nI L) f_half f_marking a_register a_field a_kept s q a_forward a_trial a_turn a_partner a_partnerBack a_tally a_remembered a_shade n 0 (nI i)) (fun i _ => 240 ≤ i) 288 240 () (by omega) (Nat.le_refl _) (fun n _ _ => ?_) (fun n i _ hi hI ih => ?_)
        · simp only [wX_nothingWillBeMissed_121, e288, g288, not_true, not_false_iff, false_implies, true_implies, true_and, and_true, forall_eq, implies_true]
          exact K (nI L) s q
        · have g2 : ¬ nI 288 ≤ nI i := nI_ge hi (by omega)
          have v : vp_in (nI i) 336 := vp_in_nI (by omega) (by omega)
          have k : (nI i).toNatClampNeg = i := nI_clamp (by omega)
          have ih' := ih () (by omega)
          have g5 : ¬ (3 : Int32) ≤ 0 := by decide
          simp only [wX_nothingWillBeMissed_121, e288, g2, not_true, not_false_iff, false_implies, true_implies, true_and, and_true, forall_eq, implies_true]
          by_cases z : a_shade i = 2
          · have sg : cs_sg 5 i := ⟨by omega, by omega⟩
            have kp : ¬ a_kept i = 0 := S.1 i sg (by rw [z]; decide)
            refine pk_loop (σ := Unit) (fun m f _ => wX_nothingWillBeMissed_132 post (wX_nothingWillBeMissed_121 post 240 (nI L) f_half f_marking a_register a_field a_kept s q a_forward a_trial a_turn a_partner a_partnerBack a_tally a_remembered a_shade n) 240 (nI i) (nI L) f_half f_marking a_register a_field a_kept s q a_forward a_trial a_turn a_partner a_partnerBack a_tally a_remembered a_shade m 0 (nI f)) (fun _ _ => True) 3 0 () (by omega) trivial (fun m _ _ => ?_) (fun m f _ hf _ ih2 => ?_)
            · have g6 : (3 : Int32) ≤ nI 3 := nI_le (a := 3) (by omega) (by omega)
              simp only [wX_nothingWillBeMissed_132, g6, nI_1, not_true, not_false_iff, false_implies, true_implies, true_and, and_true, forall_eq, implies_true]
              exact ih'
            · have g6 : ¬ (3 : Int32) ≤ nI f := nI_ge (b := 3) hf (by omega)
              have v2 : vp_in (nI (3 * i + f)) 1008 := vp_in_nI (by omega) (by omega)
              have k2 : (nI (3 * i + f)).toNatClampNeg = 3 * i + f := nI_clamp (by omega)
              have ih2' := ih2 () trivial
              rcases cs_W_word (c := 5) (by omega) W sg kp hf with ⟨o1, o2⟩ | ⟨b', o1, o2, o3, o4⟩
              · simp only [wX_nothingWillBeMissed_132, g6, v, k, z, cs_i3, v2, k2, o2, nI_1, not_true, not_false_iff, false_implies, true_implies, true_and, and_true, forall_eq, implies_true]
                exact ih2'
              · have g7 := cs_ref_ge (b := b') (by omega)
                have v3 : vp_in (nI b') 336 := vp_in_nI o2 (by omega)
                have k3 : (nI b').toNatClampNeg = b' := nI_clamp (by omega)
                have sb : ¬ s b' = 0 := c2 i b' sg kp z ⟨f, hf, by omega, o4⟩
                simp only [wX_nothingWillBeMissed_132, g6, v, k, z, cs_i3, v2, k2, o4, g7, cs_ref_sub, v3, k3, sb, nI_1, not_true, not_false_iff, false_implies, true_implies, true_and, and_true, forall_eq, implies_true]
                exact ih2'
          · refine ⟨1, ?_⟩
            simp only [wX_nothingWillBeMissed_132, g5, v, k, z, nI_1, not_true, not_false_iff, false_implies, true_implies, true_and, and_true, forall_eq, implies_true]
            exact ih'
      · have g : ¬ (6 : Int32) ≤ nI r := nI_ge (b := 6) hr (by omega)
        have ih' := ih () trivial
        simp only [wX_nothingWillBeMissed_73, g, not_true, not_false_iff, false_implies, true_implies, true_and, and_true, forall_eq, implies_true]
        rcases cs_ok_word (c := 5) (by omega) (cs_J_ok J hr) with ⟨o1, o2⟩ | ⟨b, o1, o2, o3, o4⟩
        · refine cs_cellOf_num (c := 5) (by omega) hr o1 ?_
          simp only [nI_1, not_true, not_false_iff, false_implies, true_implies, true_and, and_true, forall_eq, implies_true]
          exact ih'
        · refine cs_cellOf_ref (c := 5) (by omega) hr (by omega) o4 ?_
          have g4 : ¬ nI b = -1 := cs_nIm1 (by omega)
          have v : vp_in (nI b) 336 := vp_in_nI o2 (by omega)
          have k : (nI b).toNatClampNeg = b := nI_clamp (by omega)
          have sb : ¬ s b = 0 := c1 b ⟨r, by omega, hr, by omega, o4⟩
          simp only [g4, v, k, sb, nI_1, not_true, not_false_iff, false_implies, true_implies, true_and, and_true, forall_eq, implies_true]
          exact ih'
    · obtain ⟨L1, s1, q1⟩ := t
      obtain ⟨j0, j1, j2, j3⟩ := hI
      dsimp only at j0 j1 j2 j3 ih ⊢
      have g2 : ¬ nI 288 ≤ nI i := nI_ge hi (by omega)
      have v : vp_in (nI i) 336 := vp_in_nI (by omega) (by omega)
      have k : (nI i).toNatClampNeg = i := nI_clamp (by omega)
      have sg : cs_sg 5 i := ⟨by omega, by omega⟩
      have si : s1 i = 0 := j2 i (Nat.le_refl _) hi
      have up : ∀ b, ¬ s1 b = 0 → ¬ upd s1 i 1 b = 0 := fun b hb => by
        by_cases e : b = i
        · rw [e, cs_upd_s]; exact cs_n10
        · rw [cs_upd_n e]; exact hb
      have z2 : ∀ b, i + 1 ≤ b → b < 288 → upd s1 i 1 b = 0 := fun b h1 h2 => by rw [cs_upd_n (by omega)]; exact j2 b (by omega) h2
      have z3 : ∀ b, 240 ≤ b → b < i + 1 → ¬ a_shade b = 0 → ¬ upd s1 i 1 b = 0 := fun b h1 h2 h3 => by
        by_cases e : b = i
        · rw [e, cs_upd_s]; exact cs_n10
        · exact up b (j3 b h1 (by omega) h3)
      rcases S.2 i sg with z | z | z
      · simp only [wX_nothingWillBeMissed_20, wX_nothingWillBeMissed_44, e288, g2, v, k, z, t02, nI_1, not_true, not_false_iff, false_implies, true_implies, true_and, and_true, forall_eq, implies_true]
        refine ih (L1, s1, q1) ⟨by omega, cs_F_S0 j1 (fun b hb => ⟨hb.1, by omega, hb.2.2⟩) (fun b hb => ?_), fun b h1 h2 => j2 b (by omega) h2, fun b h1 h2 h3 => j3 b h1 ?_ h3⟩
        · refine j3 b hb.1 ?_ (by rw [hb.2.2]; decide)
          have : b ≠ i := fun e => by
            have h := hb.2.2
            rw [e, z] at h
            exact absurd h (by decide)
          have := hb.2.1
          omega
        · have : b ≠ i := fun e => h3 (e ▸ z)
          omega
      · have kp : ¬ a_kept i = 0 := S.1 i sg (by rw [z]; exact cs_n10)
        have hL := cs_F_lt (c := 5) (by omega) hZ j1 sg si
        simp only [wX_nothingWillBeMissed_20, wX_nothingWillBeMissed_44, e288, g2, v, k, z, cs_n10, cs_nb1, not_true, not_false_iff, false_implies, true_implies, true_and, and_true, forall_eq, implies_true]
        refine cs_enq rfl hL ?_
        simp only [nI_1, not_true, not_false_iff, false_implies, true_implies, true_and, and_true, forall_eq, implies_true]
        refine ih (L1 + 1, upd s1 i 1, upd q1 L1 (nI i)) ⟨by omega, cs_F_S0 (cs_F_add (c := 5) (by omega) hZ j1 ⟨sg, kp⟩ si) (fun b hb => ⟨hb.1, by omega, hb.2.2⟩) (fun b hb => ?_), z2, z3⟩
        exact z3 b hb.1 hb.2.1 (by rw [hb.2.2]; decide)
      · have t20 : ¬ (2 : Int32) = 0 := by decide
        have t21 : ¬ (2 : Int32) = 1 := by decide
        simp only [wX_nothingWillBeMissed_20, wX_nothingWillBeMissed_44, e288, g2, v, k, z, t20, t21, cs_nb1, nI_1, not_true, not_false_iff, false_implies, true_implies, true_and, and_true, forall_eq, implies_true]
        refine ih (L1, upd s1 i 1, q1) ⟨by omega, cs_F_S0 (cs_F_mark j1 i) (fun b hb => ?_) (fun b hb => ?_), z2, z3⟩
        · rcases hb with hb | hb
          · exact ⟨hb.1, by omega, hb.2.2⟩
          · rw [hb]; exact ⟨j0, by omega, z⟩
        · exact z3 b hb.1 hb.2.1 (by rw [hb.2.2]; decide)
theorem i_vc_sound {k : Nat} {u : SX} {v : SY} (I : i_Rel k u v) (hk : k + 4 ≤ 2048) : wpX_sound (fun r u' => wpY_sound (fun r' => r' = r ∧ i_Rel (k + 4) u' v) v) u := by
  obtain ⟨f_reached, f_half, f_marking, a_register, a_field, a_kept, a_seen, a_queue, a_forward, a_trial, a_turn, a_partner, a_partnerBack, a_tally, a_remembered, a_shade⟩ := u
  obtain ⟨yr, yf⟩ := v
  obtain ⟨hJ, hY⟩ := I
  dsimp only at hY hJ
  have Jd : ∀ d, d < 7 → cs_J d f_half f_marking a_register a_field a_kept a_tally a_remembered a_shade yr yf := hJ
  simp only [wpX_sound, wpY_sound]
  refine pk_loop (σ := Unit) (fun n c _ => wX_sound_2 (fun r u' => 1 = r ∧ i_Rel (k + 4) u' (yr, yf)) f_reached f_half f_marking a_register a_field a_kept a_seen a_queue a_forward a_trial a_turn a_partner a_partnerBack a_tally a_remembered a_shade n (nI c)) (fun _ _ => True) 7 0 () (by omega) trivial (fun n _ _ => ?_) (fun n c _ hc _ ih => ?_)
  · have g : (7 : Int32) ≤ nI 7 := nI_le (a := 7) (by omega) (by omega)
    simp only [wX_sound_2, g, not_true, not_false_iff, false_implies, true_implies, true_and, and_true, forall_eq, implies_true]
    refine pk_loop (σ := Int32 × (Nat → Int32) × (Nat → Int32) × (Nat → Int32)) (fun n c t => wX_sound_26 (fun r u' => 1 = r ∧ i_Rel (k + 4) u' (yr, yf)) n (nI c) t.1 f_half f_marking a_register a_field a_kept a_seen t.2.2.2 a_forward a_trial a_turn t.2.1 t.2.2.1 a_tally a_remembered a_shade) (fun _ _ => True) 7 1 (f_reached, a_partner, a_partnerBack, a_queue) (by omega) trivial (fun n t _ => ?_) (fun n c t hc _ ih => ?_)
    · obtain ⟨rc, pa, pb, q⟩ := t
      dsimp only
      simp only [wX_sound_26, g, not_true, not_false_iff, false_implies, true_implies, true_and, and_true, forall_eq, implies_true]
      refine cs_otherEmpty (Jd 1 (by omega)) ?_
      simp only [cs_n10, not_true, not_false_iff, false_implies, true_implies, true_and, and_true, forall_eq, implies_true]
      refine cs_noGap ((Jd 2 (by omega)).2.2.2.1 rfl) ?_
      simp only [cs_n10, not_true, not_false_iff, false_implies, true_implies, true_and, and_true, forall_eq, implies_true]
      refine cs_tallies (Jd 3 (by omega)) (fun tr => ?_)
      simp only [cs_n10, not_true, not_false_iff, false_implies, true_implies, true_and, and_true, forall_eq, implies_true]
      refine cs_oldRem (Jd 4 (by omega)) ?_
      simp only [cs_n10, not_true, not_false_iff, false_implies, true_implies, true_and, and_true, forall_eq, implies_true]
      refine cs_missed (Jd 5 (by omega)) (fun r2 s2 q2 => ?_)
      simp only [cs_n10, not_true, not_false_iff, false_implies, true_implies, true_and, and_true, forall_eq, implies_true]
      first | exact ⟨hJ, hY⟩ | exact ⟨rfl, hJ, hY⟩
    · obtain ⟨rc, pa, pb, q⟩ := t
      dsimp only at ih ⊢
      have g2 : ¬ (7 : Int32) ≤ nI c := nI_ge (b := 7) hc (by omega)
      obtain ⟨P, IP⟩ := (Jd 0 (by omega)).1
      obtain ⟨P', IP'⟩ := (Jd c hc).1
      simp only [wX_sound_26, g2, not_true, not_false_iff, false_implies, true_implies, true_and, and_true, forall_eq, implies_true]
      refine cs_pairs (c := 0) (by omega) hc IP IP' (fun L pa' pb' q' => ?_)
      simp only [cs_n10, nI_1, not_true, not_false_iff, false_implies, true_implies, true_and, and_true, forall_eq, implies_true]
      exact ih (nI L, pa', pb', q') trivial
  · have g : ¬ (7 : Int32) ≤ nI c := nI_ge (b := 7) hc (by omega)
    simp only [wX_sound_2, g, not_true, not_false_iff, false_implies, true_implies, true_and, and_true, forall_eq, implies_true]
    refine cs_wsSound hc (Jd c hc) ?_
    simp only [cs_n10, nI_1, not_true, not_false_iff, false_implies, true_implies, true_and, and_true, forall_eq, implies_true]
    exact ih () trivial
