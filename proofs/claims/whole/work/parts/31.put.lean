/-! number, copy, get, put: the owed rows -/
theorem cs_yw_num {v : Int32} (h : cs_num v) : ¬ v < -999 ∧ v ≤ 999 := by
  have e1 : (-999 : Int32).toInt = -999 := by decide
  have e2 : (999 : Int32).toInt = 999 := by decide
  rw [Int32.lt_iff_toInt_lt, Int32.le_iff_toInt_le]
  unfold cs_num at h; omega
theorem i_vc_number {k : Nat} {u : SX} {v : SY} (I : i_Rel k u v) (hk : k + 4 ≤ 2048) (v1 : Int32) (v2 : Int32) : wpX_number (fun r u' => wpY_number (fun r' v' => r' = r ∧ i_Rel (k + 4) u' v') v v1 v2) u v1 v2 := by
  obtain ⟨f_reached, f_half, f_marking, a_register, a_field, a_kept, a_seen, a_queue, a_forward, a_trial, a_turn, a_partner, a_partnerBack, a_tally, a_remembered, a_shade⟩ := u
  obtain ⟨yr, yf⟩ := v
  obtain ⟨hJ, hY⟩ := I
  dsimp only at hY hJ
  simp only [wpX_number]
  refine cs_isReg (fun hn => ?_) (fun r hr er => ?_)
  · simp only [wpY_number, not_true, not_false_iff, false_implies, true_implies, true_and, and_true, forall_eq, implies_true]
    refine cs_yReg (fun _ => ?_) (fun r hr e => absurd e (hn r hr))
    simp only [not_true, not_false_iff, false_implies, true_implies, true_and, and_true, forall_eq, implies_true]
    first | exact ⟨hJ, hY⟩ | exact ⟨rfl, hJ, hY⟩
  · subst er
    have vr : vp_in (nI r) 6 := vp_in_nI hr (by omega)
    have kr : (nI r).toNatClampNeg = r := nI_clamp (by omega)
    have yc : ∀ {Q : Int32 → Prop}, Q 1 → wpY_isRegister Q (yr, yf) (nI r) := fun hq => cs_yReg (fun h => absurd rfl (h r hr)) (fun _ _ _ => hq)
    simp only [cs_n10, not_true, not_false_iff, false_implies, true_implies, true_and, and_true, forall_eq, implies_true]
    refine cs_isNum (fun hn => ?_) (fun hn => ?_)
    · simp only [wpY_number, not_true, not_false_iff, false_implies, true_implies, true_and, and_true, forall_eq, implies_true]
      refine yc ?_
      by_cases g : v2 < -999
      · simp only [cs_n10, g, not_true, not_false_iff, false_implies, true_implies, true_and, and_true, forall_eq, implies_true]
        first | exact ⟨hJ, hY⟩ | exact ⟨rfl, hJ, hY⟩
      · have g2 : ¬ v2 ≤ 999 := fun z => hn (by
          have e1 : (-999 : Int32).toInt = -999 := by decide
          have e2 : (999 : Int32).toInt = 999 := by decide
          rw [Int32.lt_iff_toInt_lt] at g
          rw [Int32.le_iff_toInt_le] at z
          unfold cs_num; omega)
        simp only [cs_n10, g, g2, not_true, not_false_iff, false_implies, true_implies, true_and, and_true, forall_eq, implies_true]
        first | exact ⟨hJ, hY⟩ | exact ⟨rfl, hJ, hY⟩
    · obtain ⟨g1, g2⟩ := cs_yw_num hn
      simp only [cs_n10, not_true, not_false_iff, false_implies, true_implies, true_and, and_true, forall_eq, implies_true]
      have hY' : cs_Y (upd yr r v2) yf := cs_Y_ch hY (fun j hj => by
        by_cases e : j = r
        · rw [e, cs_upd_s]; exact Or.inl hn
        · rw [cs_upd_n e]; exact hY.1 j hj) hY.2.1 (fun a ha => cs_V_reg (r := r) (fun j hj => cs_upd_n hj) (fun a hw => absurd hw (by rw [cs_upd_s]; exact cs_num_nw (by omega) (by omega) hn)) ha)
      refine pk_loop (σ := SX) (fun n i u => wX_number_18 (fun r_1 u' => wpY_number (fun r' v' => r' = r_1 ∧ i_Rel (k + 4) u' v') (yr, yf) (nI r) v2) (nI r) v2 n (nI i) u.1 u.2.1 u.2.2.1 u.2.2.2.1 u.2.2.2.2.1 u.2.2.2.2.2.1 u.2.2.2.2.2.2.1 u.2.2.2.2.2.2.2.1 u.2.2.2.2.2.2.2.2.1 u.2.2.2.2.2.2.2.2.2.1 u.2.2.2.2.2.2.2.2.2.2.1 u.2.2.2.2.2.2.2.2.2.2.2.1 u.2.2.2.2.2.2.2.2.2.2.2.2.1 u.2.2.2.2.2.2.2.2.2.2.2.2.2.1 u.2.2.2.2.2.2.2.2.2.2.2.2.2.2.1 u.2.2.2.2.2.2.2.2.2.2.2.2.2.2.2) (fun i u => cs_LI yr yf (upd yr r v2) yf i u) 7 0 (f_reached, f_half, f_marking, a_register, a_field, a_kept, a_seen, a_queue, a_forward, a_trial, a_turn, a_partner, a_partnerBack, a_tally, a_remembered, a_shade) (by omega) ⟨fun d h => absurd h (Nat.not_lt_zero _), fun d _ h => hJ d h⟩ (fun n u hI => ?_) (fun n i u hi hI ih => ?_)
      · obtain ⟨f_reached, f_half, f_marking, a_register, a_field, a_kept, a_seen, a_queue, a_forward, a_trial, a_turn, a_partner, a_partnerBack, a_tally, a_remembered, a_shade⟩ := u
        have g : (7 : Int32) ≤ nI 7 := nI_le (a := 7) (by omega) (by omega)
        simp only [wX_number_18, g, wpY_number, not_true, not_false_iff, false_implies, true_implies, true_and, and_true, forall_eq, implies_true]
        refine yc ?_
        simp only [cs_n10, g1, g2, vr, kr, not_true, not_false_iff, false_implies, true_implies, true_and, and_true, forall_eq, implies_true]
        first | exact ⟨hI.1, hY'⟩ | exact ⟨rfl, hI.1, hY'⟩
      · obtain ⟨f_reached, f_half, f_marking, a_register, a_field, a_kept, a_seen, a_queue, a_forward, a_trial, a_turn, a_partner, a_partnerBack, a_tally, a_remembered, a_shade⟩ := u
        have g : ¬ (7 : Int32) ≤ nI i := nI_ge (b := 7) hi (by omega)
        simp only [wX_number_18, g, not_true, not_false_iff, false_implies, true_implies, true_and, and_true, forall_eq, implies_true]
        refine cs_setReg_J (y := v2) (yr := yr) (yf := yf) hi hr (hI.2 i (Nat.le_refl _) hi) (fun P _ => Or.inl ⟨hn, rfl⟩) (fun b hb => absurd hb (cs_num_nw (by omega) (by omega) hn)) (fun u' F J => ?_)
        have ih' := ih u' (cs_LI_s hI F J)
        obtain ⟨f_reached', f_half', f_marking', a_register', a_field', a_kept', a_seen', a_queue', a_forward', a_trial', a_turn', a_partner', a_partnerBack', a_tally', a_remembered', a_shade'⟩ := u'
        simp only [nI_1, not_true, not_false_iff, false_implies, true_implies, true_and, and_true, forall_eq, implies_true]
        exact ih'
theorem i_vc_copy {k : Nat} {u : SX} {v : SY} (I : i_Rel k u v) (hk : k + 4 ≤ 2048) (v1 : Int32) (v2 : Int32) : wpX_copy (fun r u' => wpY_copy (fun r' v' => r' = r ∧ i_Rel (k + 4) u' v') v v1 v2) u v1 v2 := by
  obtain ⟨f_reached, f_half, f_marking, a_register, a_field, a_kept, a_seen, a_queue, a_forward, a_trial, a_turn, a_partner, a_partnerBack, a_tally, a_remembered, a_shade⟩ := u
  obtain ⟨yr, yf⟩ := v
  obtain ⟨hJ, hY⟩ := I
  dsimp only at hY hJ
  simp only [wpX_copy]
  refine cs_isReg (fun hn => ?_) (fun r hr er => ?_)
  · simp only [wpY_copy, not_true, not_false_iff, false_implies, true_implies, true_and, and_true, forall_eq, implies_true]
    refine cs_yReg (fun _ => ?_) (fun r hr e => absurd e (hn r hr))
    simp only [not_true, not_false_iff, false_implies, true_implies, true_and, and_true, forall_eq, implies_true]
    first | exact ⟨hJ, hY⟩ | exact ⟨rfl, hJ, hY⟩
  · subst er
    have vr : vp_in (nI r) 6 := vp_in_nI hr (by omega)
    have kr : (nI r).toNatClampNeg = r := nI_clamp (by omega)
    have yc : ∀ r, r < 6 → ∀ {Q : Int32 → Prop}, Q 1 → wpY_isRegister Q (yr, yf) (nI r) := fun r hr Q hq => cs_yReg (fun h => absurd rfl (h r hr)) (fun _ _ _ => hq)
    simp only [cs_n10, not_true, not_false_iff, false_implies, true_implies, true_and, and_true, forall_eq, implies_true]
    refine cs_isReg (fun hn => ?_) (fun s hs es => ?_)
    · simp only [wpY_copy, not_true, not_false_iff, false_implies, true_implies, true_and, and_true, forall_eq, implies_true]
      refine yc r hr ?_
      simp only [cs_n10, not_true, not_false_iff, false_implies, true_implies, true_and, and_true, forall_eq, implies_true]
      refine cs_yReg (fun _ => ?_) (fun r hr e => absurd e (hn r hr))
      simp only [not_true, not_false_iff, false_implies, true_implies, true_and, and_true, forall_eq, implies_true]
      first | exact ⟨hJ, hY⟩ | exact ⟨rfl, hJ, hY⟩
    · subst es
      have vs : vp_in (nI s) 6 := vp_in_nI hs (by omega)
      have ks : (nI s).toNatClampNeg = s := nI_clamp (by omega)
      simp only [cs_n10, not_true, not_false_iff, false_implies, true_implies, true_and, and_true, forall_eq, implies_true]
      have hY' : cs_Y (upd yr r (yr s)) yf := cs_Y_ch hY (fun j hj => by
        by_cases e : j = r
        · rw [e, cs_upd_s]; exact hY.1 s hs
        · rw [cs_upd_n e]; exact hY.1 j hj) hY.2.1 (fun a ha => cs_V_reg (r := r) (fun j hj => cs_upd_n hj) (fun a hw => by
          rw [cs_upd_s] at hw
          exact cs_R_b ⟨s, by omega, hs, by rw [Nat.zero_add]; exact hw⟩) ha)
      refine pk_loop (σ := SX) (fun n i u => wX_copy_18 (fun r_1 u' => wpY_copy (fun r' v' => r' = r_1 ∧ i_Rel (k + 4) u' v') (yr, yf) (nI r) (nI s)) (nI r) (nI s) n (nI i) u.1 u.2.1 u.2.2.1 u.2.2.2.1 u.2.2.2.2.1 u.2.2.2.2.2.1 u.2.2.2.2.2.2.1 u.2.2.2.2.2.2.2.1 u.2.2.2.2.2.2.2.2.1 u.2.2.2.2.2.2.2.2.2.1 u.2.2.2.2.2.2.2.2.2.2.1 u.2.2.2.2.2.2.2.2.2.2.2.1 u.2.2.2.2.2.2.2.2.2.2.2.2.1 u.2.2.2.2.2.2.2.2.2.2.2.2.2.1 u.2.2.2.2.2.2.2.2.2.2.2.2.2.2.1 u.2.2.2.2.2.2.2.2.2.2.2.2.2.2.2) (fun i u => cs_LI yr yf (upd yr r (yr s)) yf i u) 7 0 (f_reached, f_half, f_marking, a_register, a_field, a_kept, a_seen, a_queue, a_forward, a_trial, a_turn, a_partner, a_partnerBack, a_tally, a_remembered, a_shade) (by omega) ⟨fun d h => absurd h (Nat.not_lt_zero _), fun d _ h => hJ d h⟩ (fun n u hI => ?_) (fun n i u hi hI ih => ?_)
      · obtain ⟨f_reached, f_half, f_marking, a_register, a_field, a_kept, a_seen, a_queue, a_forward, a_trial, a_turn, a_partner, a_partnerBack, a_tally, a_remembered, a_shade⟩ := u
        have g : (7 : Int32) ≤ nI 7 := nI_le (a := 7) (by omega) (by omega)
        simp only [wX_copy_18, g, wpY_copy, not_true, not_false_iff, false_implies, true_implies, true_and, and_true, forall_eq, implies_true]
        refine yc r hr ?_
        simp only [cs_n10, not_true, not_false_iff, false_implies, true_implies, true_and, and_true, forall_eq, implies_true]
        refine yc s hs ?_
        simp only [cs_n10, vr, kr, vs, ks, not_true, not_false_iff, false_implies, true_implies, true_and, and_true, forall_eq, implies_true]
        first | exact ⟨hI.1, hY'⟩ | exact ⟨rfl, hI.1, hY'⟩
      · obtain ⟨f_reached, f_half, f_marking, a_register, a_field, a_kept, a_seen, a_queue, a_forward, a_trial, a_turn, a_partner, a_partnerBack, a_tally, a_remembered, a_shade⟩ := u
        have g : ¬ (7 : Int32) ≤ nI i := nI_ge (b := 7) hi (by omega)
        have vv : vp_in (nI (6 * i + s)) 42 := vp_in_nI (by omega) (by omega)
        have kk : (nI (6 * i + s)).toNatClampNeg = 6 * i + s := nI_clamp (by omega)
        simp only [wX_copy_18, g, cs_i6, vv, kk, not_true, not_false_iff, false_implies, true_implies, true_and, and_true, forall_eq, implies_true]
        refine cs_setReg_J (y := yr s) (yr := yr) (yf := yf) hi hr (hI.2 i (Nat.le_refl _) hi) (fun P IP => IP.2.2.2.1 s hs) (fun b hb => Or.inl ⟨s, by omega, hs, hb⟩) (fun u' F J => ?_)
        have ih' := ih u' (cs_LI_s hI F J)
        obtain ⟨f_reached', f_half', f_marking', a_register', a_field', a_kept', a_seen', a_queue', a_forward', a_trial', a_turn', a_partner', a_partnerBack', a_tally', a_remembered', a_shade'⟩ := u'
        simp only [nI_1, not_true, not_false_iff, false_implies, true_implies, true_and, and_true, forall_eq, implies_true]
        exact ih'
theorem i_vc_get {k : Nat} {u : SX} {v : SY} (I : i_Rel k u v) (hk : k + 4 ≤ 2048) (v1 : Int32) (v2 : Int32) (v3 : Int32) : wpX_get (fun r u' => wpY_get (fun r' v' => r' = r ∧ i_Rel (k + 4) u' v') v v1 v2 v3) u v1 v2 v3 := by
  obtain ⟨f_reached, f_half, f_marking, a_register, a_field, a_kept, a_seen, a_queue, a_forward, a_trial, a_turn, a_partner, a_partnerBack, a_tally, a_remembered, a_shade⟩ := u
  obtain ⟨yr, yf⟩ := v
  obtain ⟨hJ, hY⟩ := I
  dsimp only at hY hJ
  have yc : ∀ r, r < 6 → ∀ {Q : Int32 → Prop}, Q 1 → wpY_isRegister Q (yr, yf) (nI r) := fun r hr Q hq => cs_yReg (fun h => absurd rfl (h r hr)) (fun _ _ _ => hq)
  have yh0 : ∀ r, r < 6 → cs_num (yr r) → ∀ {Q : Int32 → Prop}, Q 0 → wpY_holds Q (yr, yf) (nI r) := fun r hr hn Q hq => cs_yHolds hY (fun _ => hq) (fun _ _ _ _ => hq) (fun r' a hr' ha e e2 => by
    have : r' = r := cs_nIinj (by omega) (by omega) e.symm
    subst this
    exact absurd (⟨by omega, e2⟩ : cs_w 10000 (yr r') a) (cs_num_nw (by omega) (by omega) hn))
  have yh1 : ∀ r, r < 6 → ∀ a, a < 48 → yr r = nI (10000 + a) → ∀ {Q : Int32 → Prop}, Q 1 → wpY_holds Q (yr, yf) (nI r) := fun r hr a ha ea Q hq => cs_yHolds hY (fun h => absurd rfl (h r hr)) (fun r' hr' e hn => by
    have : r' = r := cs_nIinj (by omega) (by omega) e.symm
    subst this
    exact absurd (⟨by omega, ea⟩ : cs_w 10000 (yr r') a) (cs_num_nw (by omega) (by omega) hn)) (fun _ _ _ _ _ _ => hq)
  simp only [wpX_get]
  refine cs_isReg (fun hn => ?_) (fun r hr er => ?_)
  · simp only [wpY_get, not_true, not_false_iff, false_implies, true_implies, true_and, and_true, forall_eq, implies_true]
    refine cs_yReg (fun _ => ?_) (fun r hr e => absurd e (hn r hr))
    simp only [not_true, not_false_iff, false_implies, true_implies, true_and, and_true, forall_eq, implies_true]
    first | exact ⟨hJ, hY⟩ | exact ⟨rfl, hJ, hY⟩
  · subst er
    simp only [cs_n10, not_true, not_false_iff, false_implies, true_implies, true_and, and_true, forall_eq, implies_true]
    refine cs_isReg (fun hn => ?_) (fun s hs es => ?_)
    · simp only [wpY_get, not_true, not_false_iff, false_implies, true_implies, true_and, and_true, forall_eq, implies_true]
      refine yc r hr ?_
      simp only [cs_n10, not_true, not_false_iff, false_implies, true_implies, true_and, and_true, forall_eq, implies_true]
      refine cs_yHolds hY (fun _ => ?_) (fun r hr e _ => absurd e (hn r hr)) (fun r a hr _ e _ => absurd e (hn r hr))
      simp only [not_true, not_false_iff, false_implies, true_implies, true_and, and_true, forall_eq, implies_true]
      first | exact ⟨hJ, hY⟩ | exact ⟨rfl, hJ, hY⟩
    · subst es
      simp only [cs_n10, not_true, not_false_iff, false_implies, true_implies, true_and, and_true, forall_eq, implies_true]
      refine cs_isFld (fun hn => ?_) (fun f hf ef => ?_)
      · simp only [wpY_get, not_true, not_false_iff, false_implies, true_implies, true_and, and_true, forall_eq, implies_true]
        refine yc r hr ?_
        simp only [cs_n10, not_true, not_false_iff, false_implies, true_implies, true_and, and_true, forall_eq, implies_true]
        rcases hY.1 s hs with h0 | ⟨a, ha, e⟩
        · refine yh0 s hs h0 ?_
          simp only [not_true, not_false_iff, false_implies, true_implies, true_and, and_true, forall_eq, implies_true]
          first | exact ⟨hJ, hY⟩ | exact ⟨rfl, hJ, hY⟩
        · refine yh1 s hs a ha e ?_
          simp only [cs_n10, not_true, not_false_iff, false_implies, true_implies, true_and, and_true, forall_eq, implies_true]
          refine cs_yFld (fun _ => ?_) (fun r hr e => absurd e (hn r hr))
          simp only [not_true, not_false_iff, false_implies, true_implies, true_and, and_true, forall_eq, implies_true]
          first | exact ⟨hJ, hY⟩ | exact ⟨rfl, hJ, hY⟩
      · subst ef
        simp only [cs_n10, not_true, not_false_iff, false_implies, true_implies, true_and, and_true, forall_eq, implies_true]
        refine cs_refers hs hJ (hY.1 s hs) (fun h0 => ?_) (fun a ha e => ?_)
        · simp only [wpY_get, not_true, not_false_iff, false_implies, true_implies, true_and, and_true, forall_eq, implies_true]
          refine yc r hr ?_
          simp only [cs_n10, not_true, not_false_iff, false_implies, true_implies, true_and, and_true, forall_eq, implies_true]
          refine yh0 s hs h0 ?_
          simp only [not_true, not_false_iff, false_implies, true_implies, true_and, and_true, forall_eq, implies_true]
          first | exact ⟨hJ, hY⟩ | exact ⟨rfl, hJ, hY⟩
        · simp only [cs_n10, not_true, not_false_iff, false_implies, true_implies, true_and, and_true, forall_eq, implies_true]
          have vr : vp_in (nI r) 6 := vp_in_nI hr (by omega)
          have kr : (nI r).toNatClampNeg = r := nI_clamp (by omega)
          have va : vp_in (nI (3 * a + f)) 144 := vp_in_nI (by omega) (by omega)
          have ka : (nI (3 * a + f)).toNatClampNeg = 3 * a + f := nI_clamp (by omega)
          have hY' : cs_Y (upd yr r (yf (3 * a + f))) yf := cs_Y_ch hY (fun j hj => by
            by_cases e : j = r
            · rw [e, cs_upd_s]; exact hY.2.1 _ (by omega)
            · rw [cs_upd_n e]; exact hY.1 j hj) hY.2.1 (fun a' ha' => cs_V_reg (r := r) (fun j hj => cs_upd_n hj) (fun a2 hw => by
              rw [cs_upd_s] at hw
              exact cs_R_s (x := a) (cs_R_b ⟨s, by omega, hs, by rw [Nat.zero_add]; exact ⟨by omega, e⟩⟩) ⟨f, hf, hw⟩) ha')
          refine pk_loop (σ := SX) (fun n i u => wX_get_34 (fun r_1 u' => wpY_get (fun r' v' => r' = r_1 ∧ i_Rel (k + 4) u' v') (yr, yf) (nI r) (nI s) (nI f)) (nI r) (nI s) (nI f) n (nI i) u.1 u.2.1 u.2.2.1 u.2.2.2.1 u.2.2.2.2.1 u.2.2.2.2.2.1 u.2.2.2.2.2.2.1 u.2.2.2.2.2.2.2.1 u.2.2.2.2.2.2.2.2.1 u.2.2.2.2.2.2.2.2.2.1 u.2.2.2.2.2.2.2.2.2.2.1 u.2.2.2.2.2.2.2.2.2.2.2.1 u.2.2.2.2.2.2.2.2.2.2.2.2.1 u.2.2.2.2.2.2.2.2.2.2.2.2.2.1 u.2.2.2.2.2.2.2.2.2.2.2.2.2.2.1 u.2.2.2.2.2.2.2.2.2.2.2.2.2.2.2) (fun i u => cs_LI yr yf (upd yr r (yf (3 * a + f))) yf i u) 7 0 (f_reached, f_half, f_marking, a_register, a_field, a_kept, a_seen, a_queue, a_forward, a_trial, a_turn, a_partner, a_partnerBack, a_tally, a_remembered, a_shade) (by omega) ⟨fun d h => absurd h (Nat.not_lt_zero _), fun d _ h => hJ d h⟩ (fun n u hI => ?_) (fun n i u hi hI ih => ?_)
          · obtain ⟨f_reached, f_half, f_marking, a_register, a_field, a_kept, a_seen, a_queue, a_forward, a_trial, a_turn, a_partner, a_partnerBack, a_tally, a_remembered, a_shade⟩ := u
            have g : (7 : Int32) ≤ nI 7 := nI_le (a := 7) (by omega) (by omega)
            simp only [wX_get_34, g, wpY_get, not_true, not_false_iff, false_implies, true_implies, true_and, and_true, forall_eq, implies_true]
            refine yc r hr ?_
            simp only [cs_n10, not_true, not_false_iff, false_implies, true_implies, true_and, and_true, forall_eq, implies_true]
            refine yh1 s hs a ha e ?_
            simp only [cs_n10, not_true, not_false_iff, false_implies, true_implies, true_and, and_true, forall_eq, implies_true]
            refine cs_yFld (fun h => absurd rfl (h f hf)) (fun _ _ _ => ?_)
            simp only [cs_n10, not_true, not_false_iff, false_implies, true_implies, true_and, and_true, forall_eq, implies_true]
            refine cs_yPlace hs e ?_
            simp only [va, ka, vr, kr, not_true, not_false_iff, false_implies, true_implies, true_and, and_true, forall_eq, implies_true]
            first | exact ⟨hI.1, hY'⟩ | exact ⟨rfl, hI.1, hY'⟩
          · obtain ⟨f_reached, f_half, f_marking, a_register, a_field, a_kept, a_seen, a_queue, a_forward, a_trial, a_turn, a_partner, a_partnerBack, a_tally, a_remembered, a_shade⟩ := u
            have g : ¬ (7 : Int32) ≤ nI i := nI_ge (b := 7) hi (by omega)
            have Ji : cs_J i f_half f_marking a_register a_field a_kept a_tally a_remembered a_shade yr yf := hI.2 i (Nat.le_refl _) hi
            obtain ⟨b, b1, b2, b3⟩ := cs_J_at hi Ji hs ha e
            have b2' := b2
            unfold cs_sg at b2'
            have vv : vp_in (nI (3 * b + f)) 1008 := vp_in_nI (by omega) (by omega)
            have kk : (nI (3 * b + f)).toNatClampNeg = 3 * b + f := nI_clamp (by omega)
            simp only [wX_get_34, g, not_true, not_false_iff, false_implies, true_implies, true_and, and_true, forall_eq, implies_true]
            refine cs_cellOf_ref hi hs (by omega) b1 ?_
            simp only [cs_i3, vv, kk, not_true, not_false_iff, false_implies, true_implies, true_and, and_true, forall_eq, implies_true]
            refine cs_setReg_J (y := yf (3 * a + f)) (yr := yr) (yf := yf) hi hr (hI.2 i (Nat.le_refl _) hi) (fun P IP => ?_) (fun b' hb' => Or.inr ⟨b, ⟨s, by omega, hs, by omega, b1⟩, ⟨f, hf, hb'⟩⟩) (fun u' F J => ?_)
            · obtain ⟨b', p1, p2, p3, p4⟩ := cs_I_at hi IP hs ha e
              unfold cs_sg at p3
              have : b = b' := by
                have := cs_nIinj (by omega) (by omega) (b1.symm.trans p2)
                omega
              rw [this]
              exact IP.2.2.2.2 a b' p1 f hf
            · have ih' := ih u' (cs_LI_s hI F J)
              obtain ⟨f_reached', f_half', f_marking', a_register', a_field', a_kept', a_seen', a_queue', a_forward', a_trial', a_turn', a_partner', a_partnerBack', a_tally', a_remembered', a_shade'⟩ := u'
              simp only [nI_1, not_true, not_false_iff, false_implies, true_implies, true_and, and_true, forall_eq, implies_true]
              exact ih'
theorem i_vc_put {k : Nat} {u : SX} {v : SY} (I : i_Rel k u v) (hk : k + 4 ≤ 2048) (v1 : Int32) (v2 : Int32) (v3 : Int32) : wpX_put (fun r u' => wpY_put (fun r' v' => r' = r ∧ i_Rel (k + 4) u' v') v v1 v2 v3) u v1 v2 v3 := by
  obtain ⟨f_reached, f_half, f_marking, a_register, a_field, a_kept, a_seen, a_queue, a_forward, a_trial, a_turn, a_partner, a_partnerBack, a_tally, a_remembered, a_shade⟩ := u
  obtain ⟨yr, yf⟩ := v
  obtain ⟨hJ, hY⟩ := I
  dsimp only at hY hJ
  have yh0 : ∀ r, r < 6 → cs_num (yr r) → ∀ {Q : Int32 → Prop}, Q 0 → wpY_holds Q (yr, yf) (nI r) := fun r hr hn Q hq => cs_yHolds hY (fun _ => hq) (fun _ _ _ _ => hq) (fun r' a hr' ha e e2 => by
    have : r' = r := cs_nIinj (by omega) (by omega) e.symm
    subst this
    exact absurd (⟨by omega, e2⟩ : cs_w 10000 (yr r') a) (cs_num_nw (by omega) (by omega) hn))
  have yh1 : ∀ r, r < 6 → ∀ a, a < 48 → yr r = nI (10000 + a) → ∀ {Q : Int32 → Prop}, Q 1 → wpY_holds Q (yr, yf) (nI r) := fun r hr a ha ea Q hq => cs_yHolds hY (fun h => absurd rfl (h r hr)) (fun r' hr' e hn => by
    have : r' = r := cs_nIinj (by omega) (by omega) e.symm
    subst this
    exact absurd (⟨by omega, ea⟩ : cs_w 10000 (yr r') a) (cs_num_nw (by omega) (by omega) hn)) (fun _ _ _ _ _ _ => hq)
  have yf1 : ∀ f, f < 3 → ∀ {Q : Int32 → Prop}, Q 1 → wpY_isField Q (yr, yf) (nI f) := fun f hf Q hq => cs_yFld (fun h => absurd rfl (h f hf)) (fun _ _ _ => hq)
  simp only [wpX_put]
  refine cs_isReg (fun hn => ?_) (fun r hr er => ?_)
  · simp only [wpY_put, not_true, not_false_iff, false_implies, true_implies, true_and, and_true, forall_eq, implies_true]
    refine cs_yHolds hY (fun _ => ?_) (fun r hr e _ => absurd e (hn r hr)) (fun r a hr _ e _ => absurd e (hn r hr))
    simp only [not_true, not_false_iff, false_implies, true_implies, true_and, and_true, forall_eq, implies_true]
    first | exact ⟨hJ, hY⟩ | exact ⟨rfl, hJ, hY⟩
  · subst er
    simp only [cs_n10, not_true, not_false_iff, false_implies, true_implies, true_and, and_true, forall_eq, implies_true]
    refine cs_isFld (fun hn => ?_) (fun f hf ef => ?_)
    · simp only [wpY_put, not_true, not_false_iff, false_implies, true_implies, true_and, and_true, forall_eq, implies_true]
      rcases hY.1 r hr with h0 | ⟨a, ha, e⟩
      · refine yh0 r hr h0 ?_
        simp only [not_true, not_false_iff, false_implies, true_implies, true_and, and_true, forall_eq, implies_true]
        first | exact ⟨hJ, hY⟩ | exact ⟨rfl, hJ, hY⟩
      · refine yh1 r hr a ha e ?_
        simp only [cs_n10, not_true, not_false_iff, false_implies, true_implies, true_and, and_true, forall_eq, implies_true]
        refine cs_yFld (fun _ => ?_) (fun r hr e => absurd e (hn r hr))
        simp only [not_true, not_false_iff, false_implies, true_implies, true_and, and_true, forall_eq, implies_true]
        first | exact ⟨hJ, hY⟩ | exact ⟨rfl, hJ, hY⟩
    · subst ef
      simp only [cs_n10, not_true, not_false_iff, false_implies, true_implies, true_and, and_true, forall_eq, implies_true]
      refine cs_isReg (fun hn => ?_) (fun s hs es => ?_)
      · simp only [wpY_put, not_true, not_false_iff, false_implies, true_implies, true_and, and_true, forall_eq, implies_true]
        rcases hY.1 r hr with h0 | ⟨a, ha, e⟩
        · refine yh0 r hr h0 ?_
          simp only [not_true, not_false_iff, false_implies, true_implies, true_and, and_true, forall_eq, implies_true]
          first | exact ⟨hJ, hY⟩ | exact ⟨rfl, hJ, hY⟩
        · refine yh1 r hr a ha e ?_
          simp only [cs_n10, not_true, not_false_iff, false_implies, true_implies, true_and, and_true, forall_eq, implies_true]
          refine yf1 f hf ?_
          simp only [cs_n10, not_true, not_false_iff, false_implies, true_implies, true_and, and_true, forall_eq, implies_true]
          refine cs_yReg (fun _ => ?_) (fun r hr e => absurd e (hn r hr))
          simp only [not_true, not_false_iff, false_implies, true_implies, true_and, and_true, forall_eq, implies_true]
          first | exact ⟨hJ, hY⟩ | exact ⟨rfl, hJ, hY⟩
      · subst es
        simp only [cs_n10, not_true, not_false_iff, false_implies, true_implies, true_and, and_true, forall_eq, implies_true]
        refine cs_refers hr hJ (hY.1 r hr) (fun h0 => ?_) (fun a ha e => ?_)
        · simp only [wpY_put, not_true, not_false_iff, false_implies, true_implies, true_and, and_true, forall_eq, implies_true]
          refine yh0 r hr h0 ?_
          simp only [not_true, not_false_iff, false_implies, true_implies, true_and, and_true, forall_eq, implies_true]
          first | exact ⟨hJ, hY⟩ | exact ⟨rfl, hJ, hY⟩
        · simp only [cs_n10, not_true, not_false_iff, false_implies, true_implies, true_and, and_true, forall_eq, implies_true]
          have vs : vp_in (nI s) 6 := vp_in_nI hs (by omega)
          have ks : (nI s).toNatClampNeg = s := nI_clamp (by omega)
          have va : vp_in (nI (3 * a + f)) 144 := vp_in_nI (by omega) (by omega)
          have ka : (nI (3 * a + f)).toNatClampNeg = 3 * a + f := nI_clamp (by omega)
          have hY' : cs_Y yr (upd yf (3 * a + f) (yr s)) := cs_Y_ch hY hY.1 (fun j hj => by
            by_cases e : j = 3 * a + f
            · rw [e, cs_upd_s]; exact hY.1 s hs
            · rw [cs_upd_n e]; exact hY.2.1 j hj) (fun a' ha' => cs_V_fld (k := 3 * a + f) (fun j hj => cs_upd_n hj) (fun a2 hw => by
              rw [cs_upd_s] at hw
              exact cs_R_b ⟨s, by omega, hs, by rw [Nat.zero_add]; exact hw⟩) ha')
          refine pk_loop (σ := SX) (fun n i u => wX_put_34 (fun r_1 u' => wpY_put (fun r' v' => r' = r_1 ∧ i_Rel (k + 4) u' v') (yr, yf) (nI r) (nI f) (nI s)) (nI r) (nI f) (nI s) n (nI i) u.1 u.2.1 u.2.2.1 u.2.2.2.1 u.2.2.2.2.1 u.2.2.2.2.2.1 u.2.2.2.2.2.2.1 u.2.2.2.2.2.2.2.1 u.2.2.2.2.2.2.2.2.1 u.2.2.2.2.2.2.2.2.2.1 u.2.2.2.2.2.2.2.2.2.2.1 u.2.2.2.2.2.2.2.2.2.2.2.1 u.2.2.2.2.2.2.2.2.2.2.2.2.1 u.2.2.2.2.2.2.2.2.2.2.2.2.2.1 u.2.2.2.2.2.2.2.2.2.2.2.2.2.2.1 u.2.2.2.2.2.2.2.2.2.2.2.2.2.2.2) (fun i u => cs_LI yr yf yr (upd yf (3 * a + f) (yr s)) i u) 7 0 (f_reached, f_half, f_marking, a_register, a_field, a_kept, a_seen, a_queue, a_forward, a_trial, a_turn, a_partner, a_partnerBack, a_tally, a_remembered, a_shade) (by omega) ⟨fun d h => absurd h (Nat.not_lt_zero _), fun d _ h => hJ d h⟩ (fun n u hI => ?_) (fun n i u hi hI ih => ?_)
          · obtain ⟨f_reached, f_half, f_marking, a_register, a_field, a_kept, a_seen, a_queue, a_forward, a_trial, a_turn, a_partner, a_partnerBack, a_tally, a_remembered, a_shade⟩ := u
            have g : (7 : Int32) ≤ nI 7 := nI_le (a := 7) (by omega) (by omega)
            simp only [wX_put_34, g, wpY_put, not_true, not_false_iff, false_implies, true_implies, true_and, and_true, forall_eq, implies_true]
            refine yh1 r hr a ha e ?_
            simp only [cs_n10, not_true, not_false_iff, false_implies, true_implies, true_and, and_true, forall_eq, implies_true]
            refine yf1 f hf ?_
            simp only [cs_n10, not_true, not_false_iff, false_implies, true_implies, true_and, and_true, forall_eq, implies_true]
            refine cs_yReg (fun h => absurd rfl (h s hs)) (fun _ _ _ => ?_)
            simp only [cs_n10, not_true, not_false_iff, false_implies, true_implies, true_and, and_true, forall_eq, implies_true]
            refine cs_yPlace hr e ?_
            simp only [va, ka, vs, ks, not_true, not_false_iff, false_implies, true_implies, true_and, and_true, forall_eq, implies_true]
            first | exact ⟨hI.1, hY'⟩ | exact ⟨rfl, hI.1, hY'⟩
          · obtain ⟨f_reached, f_half, f_marking, a_register, a_field, a_kept, a_seen, a_queue, a_forward, a_trial, a_turn, a_partner, a_partnerBack, a_tally, a_remembered, a_shade⟩ := u
            have g : ¬ (7 : Int32) ≤ nI i := nI_ge (b := 7) hi (by omega)
            have Ji : cs_J i f_half f_marking a_register a_field a_kept a_tally a_remembered a_shade yr yf := hI.2 i (Nat.le_refl _) hi
            obtain ⟨b, b1, b2, b3⟩ := cs_J_at hi Ji hr ha e
            unfold cs_sg at b2
            have vv : vp_in (nI (6 * i + s)) 42 := vp_in_nI (by omega) (by omega)
            have kk : (nI (6 * i + s)).toNatClampNeg = 6 * i + s := nI_clamp (by omega)
            simp only [wX_put_34, g, not_true, not_false_iff, false_implies, true_implies, true_and, and_true, forall_eq, implies_true]
            refine cs_cellOf_ref hi hr (by omega) b1 ?_
            simp only [cs_i6, vv, kk, not_true, not_false_iff, false_implies, true_implies, true_and, and_true, forall_eq, implies_true]
            refine cs_setFld_J (u := (f_reached, f_half, f_marking, a_register, a_field, a_kept, a_seen, a_queue, a_forward, a_trial, a_turn, a_partner, a_partnerBack, a_tally, a_remembered, a_shade)) (yr := yr) (yf := yf) hi hr hs hf ha (by omega) Ji e b1 (fun u' F J => ?_)
            have ih' := ih u' (cs_LI_s hI F J)
            obtain ⟨f_reached', f_half', f_marking', a_register', a_field', a_kept', a_seen', a_queue', a_forward', a_trial', a_turn', a_partner', a_partnerBack', a_tally', a_remembered', a_shade'⟩ := u'
            simp only [nI_1, not_true, not_false_iff, false_implies, true_implies, true_and, and_true, forall_eq, implies_true]
            exact ih'
