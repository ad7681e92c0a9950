/-! what asks: the reference's side, and the owed rows -/
theorem cs_y3 (a f : Nat) : (3 : Int32) * nI a + nI f = nI (3 * a + f) := by
  rw [show (3 : Int32) = nI 3 from rfl, pk_mul, nI_add]
theorem cs_yHolds {post : Int32 → Prop} {yr yf : Nat → Int32} (hY : cs_Y yr yf) {p : Int32} (K1 : (∀ r, r < 6 → ¬ p = nI r) → post 0) (K2 : ∀ r, r < 6 → p = nI r → cs_num (yr r) → post 0) (K3 : ∀ r a, r < 6 → a < 48 → p = nI r → yr r = nI (10000 + a) → post 1) : wpY_holds post (yr, yf) p := by
  simp only [wpY_holds]
  refine cs_yReg (fun hn => ?_) (fun r hr e => ?_)
  · simp only [not_true, not_false_iff, false_implies, true_implies, true_and, and_true, forall_eq, implies_true]; exact K1 hn
  · subst e
    have v : vp_in (nI r) 6 := vp_in_nI hr (by omega)
    have k : (nI r).toNatClampNeg = r := nI_clamp (by omega)
    simp only [cs_n10, v, k, not_true, not_false_iff, false_implies, true_implies, true_and, and_true, forall_eq, implies_true]
    refine cs_yRefers (hY.1 r hr) (fun hn => ?_) (fun a ha e => ?_)
    · simp only [not_true, not_false_iff, false_implies, true_implies, true_and, and_true, forall_eq, implies_true]; exact K2 r hr rfl hn
    · simp only [cs_n10, not_true, not_false_iff, false_implies, true_implies, true_and, and_true, forall_eq, implies_true]; exact K3 r a hr ha rfl e
theorem cs_yPlace {post : Int32 → Prop} {yr yf : Nat → Int32} {r f a : Nat} (hr : r < 6) (hy : yr r = nI (10000 + a)) (K : post (nI (3 * a + f))) : wpY_place post (yr, yf) (nI r) (nI f) := by
  have v : vp_in (nI r) 6 := vp_in_nI hr (by omega)
  have k : (nI r).toNatClampNeg = r := nI_clamp (by omega)
  simp only [wpY_place, v, k, hy, cs_yw_sub, cs_y3, not_true, not_false_iff, false_implies, true_implies, true_and, and_true, forall_eq, implies_true]
  exact K
theorem cs_yShown {post : Int32 → Prop} {v : SY} {y : Int32} (h : cs_yw y) (K1 : cs_num y → post y) (K2 : ∀ a, a < 48 → y = nI (10000 + a) → post (-3000)) : wpY_shown post v y := by
  obtain ⟨yr, yf⟩ := v
  simp only [wpY_shown]
  refine cs_yRefers h (fun hn => ?_) (fun a ha e => ?_)
  · simp only [not_true, not_false_iff, false_implies, true_implies, true_and, and_true, forall_eq, implies_true]; exact K1 hn
  · simp only [cs_n10, not_true, not_false_iff, false_implies, true_implies, true_and, and_true, forall_eq, implies_true]; exact K2 a ha e
theorem cs_rel_upd {u u' : SX} {yr yf : Nat → Int32} {c : Nat} (h : ∀ d, d < 7 → cs_JU d u yr yf) (F : cs_FU c u u') (J : cs_JU c u' yr yf) : ∀ d, d < 7 → cs_JU d u' yr yf := fun d hd => by
  by_cases e : d = c
  · rw [e]; exact J
  · exact cs_J_fr e F (h d hd)
theorem i_vc0 : wpX_init (fun u => wpY_init (fun v => i_Rel 0 u v)) := by
  simp only [wpX_init, wpY_init]
  exact ⟨fun d _ => cs_J_init d, cs_Y_init⟩
theorem i_vc_value {k : Nat} {u : SX} {v : SY} (I : i_Rel k u v) (hk : k + 4 ≤ 2048) (v1 : Int32) (v2 : Int32) : wpX_value (fun r => wpY_value (fun r' => r' = r ∧ i_Rel (k + 4) u v) v v1 v2) u v1 v2 := by
  obtain ⟨f_reached, f_half, f_marking, a_register, a_field, a_kept, a_seen, a_queue, a_forward, a_trial, a_turn, a_partner, a_partnerBack, a_tally, a_remembered, a_shade⟩ := u
  obtain ⟨yr, yf⟩ := v
  obtain ⟨hJ, hY⟩ := I
  dsimp only at hY
  have I' : i_Rel (k + 4) (f_reached, f_half, f_marking, a_register, a_field, a_kept, a_seen, a_queue, a_forward, a_trial, a_turn, a_partner, a_partnerBack, a_tally, a_remembered, a_shade) (yr, yf) := ⟨hJ, hY⟩
  simp only [wpX_value, wpY_value]
  refine cs_isCol (fun hn => ?_) (fun c hc ec => ?_)
  · simp only [not_true, not_false_iff, false_implies, true_implies, true_and, and_true, forall_eq, implies_true]
    refine cs_yCol (fun _ => ?_) (fun r hr e => absurd e (hn r hr))
    simp only [not_true, not_false_iff, false_implies, true_implies, true_and, and_true, forall_eq, implies_true]
    first | exact I' | exact ⟨rfl, I'⟩
  · subst ec
    simp only [cs_n10, not_true, not_false_iff, false_implies, true_implies, true_and, and_true, forall_eq, implies_true]
    refine cs_isReg (fun hn => ?_) (fun r hr er => ?_)
    · simp only [not_true, not_false_iff, false_implies, true_implies, true_and, and_true, forall_eq, implies_true]
      refine cs_yCol (fun hc2 => absurd rfl (hc2 c hc)) (fun _ _ _ => ?_)
      simp only [cs_n10, not_true, not_false_iff, false_implies, true_implies, true_and, and_true, forall_eq, implies_true]
      refine cs_yReg (fun _ => ?_) (fun r hr e => absurd e (hn r hr))
      simp only [not_true, not_false_iff, false_implies, true_implies, true_and, and_true, forall_eq, implies_true]
      first | exact I' | exact ⟨rfl, I'⟩
    · subst er
      have J : cs_J c f_half f_marking a_register a_field a_kept a_tally a_remembered a_shade yr yf := hJ c hc
      have vv : vp_in (nI (6 * c + r)) 42 := vp_in_nI (by omega) (by omega)
      have kk : (nI (6 * c + r)).toNatClampNeg = 6 * c + r := nI_clamp (by omega)
      have v2 : vp_in (nI r) 6 := vp_in_nI hr (by omega)
      have k2 : (nI r).toNatClampNeg = r := nI_clamp (by omega)
      simp only [cs_n10, cs_i6, vv, kk, not_true, not_false_iff, false_implies, true_implies, true_and, and_true, forall_eq, implies_true]
      rcases hY.1 r hr with hn | ⟨a, ha, e⟩
      · have ex : a_register (6 * c + r) = yr r := cs_J_num hc J hr hn
        have g := cs_nge1000 (cs_num_lt hn)
        simp only [ex, g, not_true, not_false_iff, false_implies, true_implies, true_and, and_true, forall_eq, implies_true]
        refine cs_yCol (fun hc2 => absurd rfl (hc2 c hc)) (fun _ _ _ => ?_)
        simp only [cs_n10, not_true, not_false_iff, false_implies, true_implies, true_and, and_true, forall_eq, implies_true]
        refine cs_yReg (fun h2 => absurd rfl (h2 r hr)) (fun _ _ _ => ?_)
        simp only [cs_n10, v2, k2, not_true, not_false_iff, false_implies, true_implies, true_and, and_true, forall_eq, implies_true]
        refine cs_yShown (Or.inl hn) (fun _ => ?_) (fun a ha e => absurd (⟨by omega, e⟩ : cs_w 10000 (yr r) a) (cs_num_nw (by omega) (by omega) hn))
        exact ⟨rfl, I'⟩
      · obtain ⟨b, b1, b2, b3⟩ := cs_J_at hc J hr ha e
        unfold cs_sg at b2
        have g := cs_ge1000 (b := b) (by omega)
        simp only [b1, g, not_true, not_false_iff, false_implies, true_implies, true_and, and_true, forall_eq, implies_true]
        refine cs_yCol (fun hc2 => absurd rfl (hc2 c hc)) (fun _ _ _ => ?_)
        simp only [cs_n10, not_true, not_false_iff, false_implies, true_implies, true_and, and_true, forall_eq, implies_true]
        refine cs_yReg (fun h2 => absurd rfl (h2 r hr)) (fun _ _ _ => ?_)
        simp only [cs_n10, v2, k2, not_true, not_false_iff, false_implies, true_implies, true_and, and_true, forall_eq, implies_true]
        refine cs_yShown (Or.inr ⟨a, ha, e⟩) (fun hn => absurd (⟨by omega, e⟩ : cs_w 10000 (yr r) a) (cs_num_nw (by omega) (by omega) hn)) (fun _ _ _ => ?_)
        exact ⟨rfl, I'⟩
theorem i_vc_look {k : Nat} {u : SX} {v : SY} (I : i_Rel k u v) (hk : k + 4 ≤ 2048) (v1 : Int32) (v2 : Int32) (v3 : Int32) : wpX_look (fun r => wpY_look (fun r' => r' = r ∧ i_Rel (k + 4) u v) v v1 v2 v3) u v1 v2 v3 := by
  obtain ⟨f_reached, f_half, f_marking, a_register, a_field, a_kept, a_seen, a_queue, a_forward, a_trial, a_turn, a_partner, a_partnerBack, a_tally, a_remembered, a_shade⟩ := u
  obtain ⟨yr, yf⟩ := v
  obtain ⟨hJ, hY⟩ := I
  dsimp only at hY
  have I' : i_Rel (k + 4) (f_reached, f_half, f_marking, a_register, a_field, a_kept, a_seen, a_queue, a_forward, a_trial, a_turn, a_partner, a_partnerBack, a_tally, a_remembered, a_shade) (yr, yf) := ⟨hJ, hY⟩
  simp only [wpX_look, wpY_look]
  refine cs_isCol (fun hn => ?_) (fun c hc ec => ?_)
  · simp only [not_true, not_false_iff, false_implies, true_implies, true_and, and_true, forall_eq, implies_true]
    refine cs_yCol (fun _ => ?_) (fun r hr e => absurd e (hn r hr))
    simp only [not_true, not_false_iff, false_implies, true_implies, true_and, and_true, forall_eq, implies_true]
    first | exact I' | exact ⟨rfl, I'⟩
  · subst ec
    simp only [cs_n10, not_true, not_false_iff, false_implies, true_implies, true_and, and_true, forall_eq, implies_true]
    have yc : ∀ {Q : Int32 → Prop}, Q 1 → wpY_isCollector Q (yr, yf) (nI c) := fun hq => cs_yCol (fun hc2 => absurd rfl (hc2 c hc)) (fun _ _ _ => hq)
    refine cs_isReg (fun hn => ?_) (fun r hr er => ?_)
    · simp only [not_true, not_false_iff, false_implies, true_implies, true_and, and_true, forall_eq, implies_true]
      refine yc ?_
      simp only [cs_n10, not_true, not_false_iff, false_implies, true_implies, true_and, and_true, forall_eq, implies_true]
      refine cs_yHolds hY (fun _ => ?_) (fun r hr e _ => absurd e (hn r hr)) (fun r a hr _ e _ => absurd e (hn r hr))
      simp only [not_true, not_false_iff, false_implies, true_implies, true_and, and_true, forall_eq, implies_true]
      first | exact I' | exact ⟨rfl, I'⟩
    · subst er
      simp only [cs_n10, not_true, not_false_iff, false_implies, true_implies, true_and, and_true, forall_eq, implies_true]
      have J : cs_J c f_half f_marking a_register a_field a_kept a_tally a_remembered a_shade yr yf := hJ c hc
      have yh0 : cs_num (yr r) → ∀ {Q : Int32 → Prop}, Q 0 → wpY_holds Q (yr, yf) (nI r) := fun hn Q hq => cs_yHolds hY (fun _ => hq) (fun _ _ _ _ => hq) (fun r' a hr' ha e e2 => by
        have : r' = r := cs_nIinj (by omega) (by omega) e.symm
        subst this
        exact absurd (⟨by omega, e2⟩ : cs_w 10000 (yr r') a) (cs_num_nw (by omega) (by omega) hn))
      have yh1 : ∀ a, a < 48 → yr r = nI (10000 + a) → ∀ {Q : Int32 → Prop}, Q 1 → wpY_holds Q (yr, yf) (nI r) := fun a ha ea Q hq => cs_yHolds hY (fun h => absurd rfl (h r hr)) (fun r' hr' e hn => by
        have : r' = r := cs_nIinj (by omega) (by omega) e.symm
        subst this
        exact absurd (⟨by omega, ea⟩ : cs_w 10000 (yr r') a) (cs_num_nw (by omega) (by omega) hn)) (fun _ _ _ _ _ _ => hq)
      refine cs_isFld (fun hn => ?_) (fun f hf ef => ?_)
      · simp only [not_true, not_false_iff, false_implies, true_implies, true_and, and_true, forall_eq, implies_true]
        refine yc ?_
        simp only [cs_n10, not_true, not_false_iff, false_implies, true_implies, true_and, and_true, forall_eq, implies_true]
        rcases hY.1 r hr with h0 | ⟨a, ha, e⟩
        · refine yh0 h0 ?_
          simp only [not_true, not_false_iff, false_implies, true_implies, true_and, and_true, forall_eq, implies_true]
          first | exact I' | exact ⟨rfl, I'⟩
        · refine yh1 a ha e ?_
          simp only [cs_n10, not_true, not_false_iff, false_implies, true_implies, true_and, and_true, forall_eq, implies_true]
          refine cs_yFld (fun _ => ?_) (fun r hr e => absurd e (hn r hr))
          simp only [not_true, not_false_iff, false_implies, true_implies, true_and, and_true, forall_eq, implies_true]
          first | exact I' | exact ⟨rfl, I'⟩
      · subst ef
        simp only [cs_n10, not_true, not_false_iff, false_implies, true_implies, true_and, and_true, forall_eq, implies_true]
        rcases hY.1 r hr with h0 | ⟨a, ha, e⟩
        · refine cs_cellOf_num hc hr (by rw [cs_J_num hc J hr h0]; exact h0) ?_
          simp only [not_true, not_false_iff, false_implies, true_implies, true_and, and_true, forall_eq, implies_true]
          refine yc ?_
          simp only [cs_n10, not_true, not_false_iff, false_implies, true_implies, true_and, and_true, forall_eq, implies_true]
          refine yh0 h0 ?_
          simp only [not_true, not_false_iff, false_implies, true_implies, true_and, and_true, forall_eq, implies_true]
          first | exact I' | exact ⟨rfl, I'⟩
        · obtain ⟨⟨P, IP⟩, _⟩ := J
          obtain ⟨b, p1, p2, p3, p4⟩ := cs_I_at hc IP hr ha e
          unfold cs_sg at p3
          refine cs_cellOf_ref hc hr (by omega) p2 ?_
          have g4 : ¬ nI b = -1 := cs_nIm1 (by omega)
          have vv : vp_in (nI (3 * b + f)) 1008 := vp_in_nI (by omega) (by omega)
          have kk : (nI (3 * b + f)).toNatClampNeg = 3 * b + f := nI_clamp (by omega)
          have v2 : vp_in (nI (3 * a + f)) 144 := vp_in_nI (by omega) (by omega)
          have k2 : (nI (3 * a + f)).toNatClampNeg = 3 * a + f := nI_clamp (by omega)
          simp only [g4, cs_i3, vv, kk, not_true, not_false_iff, false_implies, true_implies, true_and, and_true, forall_eq, implies_true]
          rcases IP.2.2.2.2 a b p1 f hf with ⟨m1, m2⟩ | ⟨a', b', m1, m2, m3⟩
          · have g := cs_nge1000 (cs_num_lt m1)
            simp only [m2, g, not_true, not_false_iff, false_implies, true_implies, true_and, and_true, forall_eq, implies_true]
            refine yc ?_
            simp only [cs_n10, not_true, not_false_iff, false_implies, true_implies, true_and, and_true, forall_eq, implies_true]
            refine yh1 a ha e ?_
            simp only [cs_n10, not_true, not_false_iff, false_implies, true_implies, true_and, and_true, forall_eq, implies_true]
            refine cs_yFld (fun h => absurd rfl (h f hf)) (fun _ _ _ => ?_)
            simp only [cs_n10, not_true, not_false_iff, false_implies, true_implies, true_and, and_true, forall_eq, implies_true]
            refine cs_yPlace hr e ?_
            simp only [v2, k2, not_true, not_false_iff, false_implies, true_implies, true_and, and_true, forall_eq, implies_true]
            refine cs_yShown (Or.inl m1) (fun _ => ⟨rfl, I'⟩) (fun a ha e => absurd (⟨by omega, e⟩ : cs_w 10000 _ a) (cs_num_nw (by omega) (by omega) m1))
          · have q := IP.2.2.1 a' b' m1
            have g := cs_ge1000 (b := b') (by omega)
            simp only [m3, g, not_true, not_false_iff, false_implies, true_implies, true_and, and_true, forall_eq, implies_true]
            refine yc ?_
            simp only [cs_n10, not_true, not_false_iff, false_implies, true_implies, true_and, and_true, forall_eq, implies_true]
            refine yh1 a ha e ?_
            simp only [cs_n10, not_true, not_false_iff, false_implies, true_implies, true_and, and_true, forall_eq, implies_true]
            refine cs_yFld (fun h => absurd rfl (h f hf)) (fun _ _ _ => ?_)
            simp only [cs_n10, not_true, not_false_iff, false_implies, true_implies, true_and, and_true, forall_eq, implies_true]
            refine cs_yPlace hr e ?_
            simp only [v2, k2, not_true, not_false_iff, false_implies, true_implies, true_and, and_true, forall_eq, implies_true]
            refine cs_yShown (Or.inr ⟨a', q.1, m2⟩) (fun hn => absurd (⟨by omega, m2⟩ : cs_w 10000 _ a') (cs_num_nw (by omega) (by omega) hn)) (fun _ _ _ => ⟨rfl, I'⟩)
