/-! same, count, reach, sum, collect -/
theorem i_vc_same {k : Nat} {u : SX} {v : SY} (I : i_Rel k u v) (hk : k + 4 ≤ 2048) (v1 : Int32) (v2 : Int32) (v3 : Int32) : wpX_same (fun r => wpY_same (fun r' => r' = r ∧ i_Rel (k + 4) u v) v v1 v2 v3) u v1 v2 v3 := by
  obtain ⟨f_reached, f_half, f_marking, a_register, a_field, a_kept, a_seen, a_queue, a_forward, a_trial, a_turn, a_partner, a_partnerBack, a_tally, a_remembered, a_shade⟩ := u
  obtain ⟨yr, yf⟩ := v
  obtain ⟨hJ, hY⟩ := I
  dsimp only at hY
  have I' : i_Rel (k + 4) (f_reached, f_half, f_marking, a_register, a_field, a_kept, a_seen, a_queue, a_forward, a_trial, a_turn, a_partner, a_partnerBack, a_tally, a_remembered, a_shade) (yr, yf) := ⟨hJ, hY⟩
  have yh0 : ∀ r, r < 6 → cs_num (yr r) → ∀ {Q : Int32 → Prop}, Q 0 → wpY_holds Q (yr, yf) (nI r) := fun r hr hn Q hq => cs_yHolds hY (fun _ => hq) (fun _ _ _ _ => hq) (fun r' a hr' ha e e2 => by
    have : r' = r := cs_nIinj (by omega) (by omega) e.symm
    subst this
    exact absurd (⟨by omega, e2⟩ : cs_w 10000 (yr r') a) (cs_num_nw (by omega) (by omega) hn))
  have yh1 : ∀ r, r < 6 → ∀ a, a < 48 → yr r = nI (10000 + a) → ∀ {Q : Int32 → Prop}, Q 1 → wpY_holds Q (yr, yf) (nI r) := fun r hr a ha ea Q hq => cs_yHolds hY (fun h => absurd rfl (h r hr)) (fun r' hr' e hn => by
    have : r' = r := cs_nIinj (by omega) (by omega) e.symm
    subst this
    exact absurd (⟨by omega, ea⟩ : cs_w 10000 (yr r') a) (cs_num_nw (by omega) (by omega) hn)) (fun _ _ _ _ _ _ => hq)
  have yhn : ∀ p, (∀ r, r < 6 → ¬ p = nI r) → ∀ {Q : Int32 → Prop}, Q 0 → wpY_holds Q (yr, yf) p := fun p hn Q hq => cs_yHolds hY (fun _ => hq) (fun r hr e _ => absurd e (hn r hr)) (fun r a hr _ e _ => absurd e (hn r hr))
  simp only [wpX_same, wpY_same]
  refine cs_isCol (fun hn => ?_) (fun c hc ec => ?_)
  · simp only [not_true, not_false_iff, false_implies, true_implies, true_and, and_true, forall_eq, implies_true]
    refine cs_yCol (fun _ => ?_) (fun r hr e => absurd e (hn r hr))
    simp only [not_true, not_false_iff, false_implies, true_implies, true_and, and_true, forall_eq, implies_true]
    first | exact I' | exact ⟨rfl, I'⟩
  · subst ec
    simp only [cs_n10, not_true, not_false_iff, false_implies, true_implies, true_and, and_true, forall_eq, implies_true]
    have yc : ∀ {Q : Int32 → Prop}, Q 1 → wpY_isCollector Q (yr, yf) (nI c) := fun hq => cs_yCol (fun hc2 => absurd rfl (hc2 c hc)) (fun _ _ _ => hq)
    refine cs_isReg (fun hn => ?_) (fun r hr er => ?_)
    · simp only [not_true, not_false_iff, false_implies, true_implies, true_and, and_true, forall_eq, implies_true]
      refine yc ?_
      simp only [cs_n10, not_true, not_false_iff, false_implies, true_implies, true_and, and_true, forall_eq, implies_true]
      refine yhn _ hn ?_
      simp only [not_true, not_false_iff, false_implies, true_implies, true_and, and_true, forall_eq, implies_true]
      first | exact I' | exact ⟨rfl, I'⟩
    · subst er
      simp only [cs_n10, not_true, not_false_iff, false_implies, true_implies, true_and, and_true, forall_eq, implies_true]
      have J : cs_J c f_half f_marking a_register a_field a_kept a_tally a_remembered a_shade yr yf := hJ c hc
      refine cs_isReg (fun hn => ?_) (fun s hs es => ?_)
      · simp only [not_true, not_false_iff, false_implies, true_implies, true_and, and_true, forall_eq, implies_true]
        refine yc ?_
        simp only [cs_n10, not_true, not_false_iff, false_implies, true_implies, true_and, and_true, forall_eq, implies_true]
        rcases hY.1 r hr with h0 | ⟨a, ha, e⟩
        · refine yh0 r hr h0 ?_
          simp only [not_true, not_false_iff, false_implies, true_implies, true_and, and_true, forall_eq, implies_true]
          first | exact I' | exact ⟨rfl, I'⟩
        · refine yh1 r hr a ha e ?_
          simp only [cs_n10, not_true, not_false_iff, false_implies, true_implies, true_and, and_true, forall_eq, implies_true]
          refine yhn _ hn ?_
          simp only [not_true, not_false_iff, false_implies, true_implies, true_and, and_true, forall_eq, implies_true]
          first | exact I' | exact ⟨rfl, I'⟩
      · subst es
        simp only [cs_n10, not_true, not_false_iff, false_implies, true_implies, true_and, and_true, forall_eq, implies_true]
        rcases hY.1 r hr with h0 | ⟨a, ha, e⟩
        · refine cs_cellOf_num hc hr (by rw [cs_J_num hc J hr h0]; exact h0) ?_
          simp only [not_true, not_false_iff, false_implies, true_implies, true_and, and_true, forall_eq, implies_true]
          refine yc ?_
          simp only [cs_n10, not_true, not_false_iff, false_implies, true_implies, true_and, and_true, forall_eq, implies_true]
          refine yh0 r hr h0 ?_
          simp only [not_true, not_false_iff, false_implies, true_implies, true_and, and_true, forall_eq, implies_true]
          first | exact I' | exact ⟨rfl, I'⟩
        · have J0 := J
          obtain ⟨⟨P, IP⟩, _⟩ := J
          obtain ⟨b, p1, p2, p3, p4⟩ := cs_I_at hc IP hr ha e
          unfold cs_sg at p3
          refine cs_cellOf_ref hc hr (by omega) p2 ?_
          have g4 : ¬ nI b = -1 := cs_nIm1 (by omega)
          simp only [g4, not_true, not_false_iff, false_implies, true_implies, true_and, and_true, forall_eq, implies_true]
          rcases hY.1 s hs with h0 | ⟨a', ha', e'⟩
          · refine cs_cellOf_num hc hs (by rw [cs_J_num hc J0 hs h0]; exact h0) ?_
            simp only [g4, not_true, not_false_iff, false_implies, true_implies, true_and, and_true, forall_eq, implies_true]
            refine yc ?_
            simp only [cs_n10, not_true, not_false_iff, false_implies, true_implies, true_and, and_true, forall_eq, implies_true]
            refine yh1 r hr a ha e ?_
            simp only [cs_n10, not_true, not_false_iff, false_implies, true_implies, true_and, and_true, forall_eq, implies_true]
            refine yh0 s hs h0 ?_
            simp only [not_true, not_false_iff, false_implies, true_implies, true_and, and_true, forall_eq, implies_true]
            first | exact I' | exact ⟨rfl, I'⟩
          · obtain ⟨b', q1, q2, q3, q4⟩ := cs_I_at hc IP hs ha' e'
            unfold cs_sg at q3
            refine cs_cellOf_ref hc hs (by omega) q2 ?_
            have v1 : vp_in (nI r) 6 := vp_in_nI hr (by omega)
            have k1 : (nI r).toNatClampNeg = r := nI_clamp (by omega)
            have v2 : vp_in (nI s) 6 := vp_in_nI hs (by omega)
            have k2 : (nI s).toNatClampNeg = s := nI_clamp (by omega)
            by_cases z : b = b'
            · have za : a = a' := IP.2.1 a a' b p1 (z ▸ q1)
              have g : nI b = nI b' := by rw [z]
              have ey : yr r = yr s := by rw [e, e', za]
              simp only [g, not_true, not_false_iff, false_implies, true_implies, true_and, and_true, forall_eq, implies_true]
              refine yc ?_
              simp only [cs_n10, not_true, not_false_iff, false_implies, true_implies, true_and, and_true, forall_eq, implies_true]
              refine yh1 r hr a ha e ?_
              simp only [cs_n10, not_true, not_false_iff, false_implies, true_implies, true_and, and_true, forall_eq, implies_true]
              refine yh1 s hs a' ha' e' ?_
              simp only [cs_n10, v1, k1, v2, k2, ey, not_true, not_false_iff, false_implies, true_implies, true_and, and_true, forall_eq, implies_true]
              first | exact I' | exact ⟨rfl, I'⟩
            · have g : ¬ nI b = nI b' := fun y => z (cs_nIinj (by omega) (by omega) y)
              have ey : ¬ yr r = yr s := fun h => by
                rw [e, e'] at h
                have za := cs_nIinj (by omega) (by omega) h
                have za' : a = a' := by omega
                subst za'
                exact z (IP.1 a b b' p1 q1)
              simp only [g, not_true, not_false_iff, false_implies, true_implies, true_and, and_true, forall_eq, implies_true]
              refine yc ?_
              simp only [cs_n10, not_true, not_false_iff, false_implies, true_implies, true_and, and_true, forall_eq, implies_true]
              refine yh1 r hr a ha e ?_
              simp only [cs_n10, not_true, not_false_iff, false_implies, true_implies, true_and, and_true, forall_eq, implies_true]
              refine yh1 s hs a' ha' e' ?_
              simp only [cs_n10, v1, k1, v2, k2, ey, not_true, not_false_iff, false_implies, true_implies, true_and, and_true, forall_eq, implies_true]
              first | exact I' | exact ⟨rfl, I'⟩
theorem i_vc_count {k : Nat} {u : SX} {v : SY} (I : i_Rel k u v) (hk : k + 4 ≤ 2048) (v1 : Int32) : wpX_count (fun r u' => wpY_count (fun r' => r' = r ∧ i_Rel (k + 4) u' v) v v1) u v1 := by
  obtain ⟨f_reached, f_half, f_marking, a_register, a_field, a_kept, a_seen, a_queue, a_forward, a_trial, a_turn, a_partner, a_partnerBack, a_tally, a_remembered, a_shade⟩ := u
  obtain ⟨yr, yf⟩ := v
  obtain ⟨hJ, hY⟩ := I
  dsimp only at hY
  simp only [wpX_count, wpY_count]
  refine cs_isCol (fun hn => ?_) (fun c hc ec => ?_)
  · simp only [not_true, not_false_iff, false_implies, true_implies, true_and, and_true, forall_eq, implies_true]
    refine cs_yCol (fun _ => ?_) (fun r hr e => absurd e (hn r hr))
    simp only [not_true, not_false_iff, false_implies, true_implies, true_and, and_true, forall_eq, implies_true]
    first | exact ⟨hJ, hY⟩ | exact ⟨rfl, hJ, hY⟩
  · subst ec
    simp only [cs_n10, not_true, not_false_iff, false_implies, true_implies, true_and, and_true, forall_eq, implies_true]
    have J : cs_J c f_half f_marking a_register a_field a_kept a_tally a_remembered a_shade yr yf := hJ c hc
    obtain ⟨P, IP⟩ := J.1
    refine cs_trace (p := 0) (q := 6) hc (by omega) (by omega) IP (fun L s q a1 a2 a3 => ?_)
    simp only []
    refine cs_yCol (fun hc2 => absurd rfl (hc2 c hc)) (fun _ _ _ => ?_)
    simp only [cs_n10, not_true, not_false_iff, false_implies, true_implies, true_and, and_true, forall_eq, implies_true]
    refine cs_ycount (post := fun r => r = nI L ∧ i_Rel (k + 4) (nI L, f_half, f_marking, a_register, a_field, a_kept, s, q, a_forward, a_trial, a_turn, a_partner, a_partnerBack, a_tally, a_remembered, a_shade) (yr, yf)) hY ⟨by rw [a3], hJ, hY⟩
theorem i_vc_reach {k : Nat} {u : SX} {v : SY} (I : i_Rel k u v) (hk : k + 4 ≤ 2048) (v1 : Int32) (v2 : Int32) : wpX_reach (fun r u' => wpY_reach (fun r' => r' = r ∧ i_Rel (k + 4) u' v) v v1 v2) u v1 v2 := by
  obtain ⟨f_reached, f_half, f_marking, a_register, a_field, a_kept, a_seen, a_queue, a_forward, a_trial, a_turn, a_partner, a_partnerBack, a_tally, a_remembered, a_shade⟩ := u
  obtain ⟨yr, yf⟩ := v
  obtain ⟨hJ, hY⟩ := I
  dsimp only at hY
  simp only [wpX_reach, wpY_reach]
  refine cs_isCol (fun hn => ?_) (fun c hc ec => ?_)
  · simp only [not_true, not_false_iff, false_implies, true_implies, true_and, and_true, forall_eq, implies_true]
    refine cs_yCol (fun _ => ?_) (fun r hr e => absurd e (hn r hr))
    simp only [not_true, not_false_iff, false_implies, true_implies, true_and, and_true, forall_eq, implies_true]
    first | exact ⟨hJ, hY⟩ | exact ⟨rfl, hJ, hY⟩
  · subst ec
    simp only [cs_n10, not_true, not_false_iff, false_implies, true_implies, true_and, and_true, forall_eq, implies_true]
    have yc : ∀ {Q : Int32 → Prop}, Q 1 → wpY_isCollector Q (yr, yf) (nI c) := fun hq => cs_yCol (fun hc2 => absurd rfl (hc2 c hc)) (fun _ _ _ => hq)
    have J : cs_J c f_half f_marking a_register a_field a_kept a_tally a_remembered a_shade yr yf := hJ c hc
    obtain ⟨P, IP⟩ := J.1
    refine cs_isReg (fun hn => ?_) (fun r hr er => ?_)
    · simp only [not_true, not_false_iff, false_implies, true_implies, true_and, and_true, forall_eq, implies_true]
      refine yc ?_
      simp only [cs_n10, not_true, not_false_iff, false_implies, true_implies, true_and, and_true, forall_eq, implies_true]
      refine cs_yReg (fun _ => ?_) (fun r hr e => absurd e (hn r hr))
      simp only [not_true, not_false_iff, false_implies, true_implies, true_and, and_true, forall_eq, implies_true]
      first | exact ⟨hJ, hY⟩ | exact ⟨rfl, hJ, hY⟩
    · subst er
      have v1 : vp_in (nI r) 6 := vp_in_nI hr (by omega)
      have k1 : (nI r).toNatClampNeg = r := nI_clamp (by omega)
      simp only [cs_n10, nI_1, not_true, not_false_iff, false_implies, true_implies, true_and, and_true, forall_eq, implies_true]
      refine cs_trace (p := r) (q := r + 1) hc (by omega) (by omega) IP (fun L s q a1 a2 a3 => ?_)
      simp only []
      refine yc ?_
      simp only [cs_n10, not_true, not_false_iff, false_implies, true_implies, true_and, and_true, forall_eq, implies_true]
      refine cs_yReg (fun h2 => absurd rfl (h2 r hr)) (fun _ _ _ => ?_)
      simp only [cs_n10, v1, k1, not_true, not_false_iff, false_implies, true_implies, true_and, and_true, forall_eq, implies_true]
      refine cs_from (N := 0) (R0 := cs_Q 10000 yr 0 r (r + 1)) hY.2.1 (by omega) (hY.1 r hr) (fun a => ⟨fun ⟨j, j1, j2, j3⟩ => ?_, fun h => ?_⟩) (fun M m1 m2 => ?_)
      · have : j = r := by omega
        rw [Nat.zero_add, this] at j3
        exact Or.inr j3
      · rcases h with h | h
        · exact absurd h (cs_B_0 a)
        · exact ⟨r, by omega, by omega, by rw [Nat.zero_add]; exact h⟩
      · refine cs_ones m1 ⟨?_, hJ, hY⟩
        rw [a3]
        exact congrArg nI (cs_n_eq (fun a _ => m2 a))
/-- the reference's sum -/
theorem cs_ysum {post : Int32 → Prop} {yr yf : Nat → Int32} (hY : cs_Y yr yf) {p : Int32} (K1 : (∀ c, c < 7 → ¬ p = nI c) → post (-1000)) (K2 : ∀ c, c < 7 → p = nI c → post (cs_s (cs_V 10000 yr 0 0 6 yf) (cs_g yf) 48)) : wpY_sum post (yr, yf) p := by
  simp only [wpY_sum]
  refine cs_all hY (fun M m1 m2 => ?_)
  refine pk_loop (σ := Int32) (fun n j t => wY_sum_11 post p (lN M) yr yf n t (nI j)) (fun j t => t = cs_s (fun j => cs_V 10000 yr 0 0 6 yf (j / 3)) (fun j => cs_nv (yf j)) j) 144 0 0 (by omega) rfl (fun n t hI => ?_) (fun n j t hj hI ih => ?_)
  · have g : (144 : Int32) ≤ nI 144 := nI_le (a := 144) (by omega) (by omega)
    simp only [wY_sum_11, g, not_true, not_false_iff, false_implies, true_implies, true_and, and_true, forall_eq, implies_true]
    have e := cs_s_3 (cs_V 10000 yr 0 0 6 yf) (fun j => cs_nv (yf j)) 48
    have e2 : (fun a => (fun j => cs_nv (yf j)) (3 * a + 0) + (fun j => cs_nv (yf j)) (3 * a + 1) + (fun j => cs_nv (yf j)) (3 * a + 2)) = cs_g yf := rfl
    rw [e2] at e
    have e3 : t = cs_s (cs_V 10000 yr 0 0 6 yf) (cs_g yf) 48 := hI.trans e
    refine cs_yCol (fun hn => ?_) (fun c hc ec => ?_)
    · simp only [not_true, not_false_iff, false_implies, true_implies, true_and, and_true, forall_eq, implies_true]; exact K1 hn
    · simp only [cs_n10, not_true, not_false_iff, false_implies, true_implies, true_and, and_true, forall_eq, implies_true]; rw [e3]; exact K2 c hc ec
  · have g : ¬ (144 : Int32) ≤ nI j := nI_ge (b := 144) hj (by omega)
    have v : vp_in (nI j) 144 := vp_in_nI hj (by omega)
    have kk : (nI j).toNatClampNeg = j := nI_clamp (by omega)
    have hb := cs_bit (N := M) (k := j / 3) m1 (by omega)
    have stp : ∀ w, t + w = cs_s (fun j => cs_V 10000 yr 0 0 6 yf (j / 3)) (fun j => cs_nv (yf j)) (j + 1) ↔ t + w = t + cs_t (cs_V 10000 yr 0 0 6 yf (j / 3)) (cs_nv (yf j)) := fun w => by
      rw [hI]; exact Iff.rfl
    by_cases z : cs_B M (j / 3)
    · have z' := hb.mpr z
      have zv := (m2 _).mp z
      simp only [wY_sum_11, g, cs_div3 j hj, z', v, kk, cs_n30, not_true, not_false_iff, false_implies, true_implies, true_and, and_true, forall_eq, implies_true]
      refine cs_yRefers (hY.2.1 j hj) (fun hn => ?_) (fun a ha e => ?_)
      · simp only [nI_1, not_true, not_false_iff, false_implies, true_implies, true_and, and_true, forall_eq, implies_true]
        exact ih _ ((stp _).mpr (by rw [cs_tt zv, cs_nv_num hn]))
      · simp only [cs_n10, nI_1, not_true, not_false_iff, false_implies, true_implies, true_and, and_true, forall_eq, implies_true]
        have := (stp 0).mpr (by rw [cs_tt zv, e, cs_nv_ref (by omega) (by omega) (by omega)])
        rw [Int32.add_zero] at this
        exact ih t this
    · have z' : ¬ ((lN M >>> ((nI (j / 3)).toInt64 &&& 63)) &&& 1) = 1 := fun y => z (hb.mp y)
      simp only [wY_sum_11, g, cs_div3 j hj, z', cs_n30, nI_1, not_true, not_false_iff, false_implies, true_implies, true_and, and_true, forall_eq, implies_true]
      have := (stp 0).mpr (by rw [cs_tf (fun y => z ((m2 _).mpr y))])
      rw [Int32.add_zero] at this
      exact ih t this
def cs_pg (fl : Nat → Int32) (b : Nat) : Nat → Int32
  | 0 => 0
  | f + 1 => cs_pg fl b f + cs_nv (fl (3 * b + f))
theorem cs_pg_3 (fl : Nat → Int32) (b : Nat) : cs_pg fl b 3 = cs_g fl b := by
  show ((0 + cs_nv (fl (3 * b + 0))) + cs_nv (fl (3 * b + 1))) + cs_nv (fl (3 * b + 2)) = cs_nv (fl (3 * b + 0)) + cs_nv (fl (3 * b + 1)) + cs_nv (fl (3 * b + 2))
  rw [Int32.zero_add]
theorem i_vc_sum {k : Nat} {u : SX} {v : SY} (I : i_Rel k u v) (hk : k + 4 ≤ 2048) (v1 : Int32) : wpX_sum (fun r u' => wpY_sum (fun r' => r' = r ∧ i_Rel (k + 4) u' v) v v1) u v1 := by
  obtain ⟨f_reached, f_half, f_marking, a_register, a_field, a_kept, a_seen, a_queue, a_forward, a_trial, a_turn, a_partner, a_partnerBack, a_tally, a_remembered, a_shade⟩ := u
  obtain ⟨yr, yf⟩ := v
  obtain ⟨hJ, hY⟩ := I
  dsimp only at hY
  simp only [wpX_sum]
  refine cs_isCol (fun hn => ?_) (fun c hc ec => ?_)
  · simp only [not_true, not_false_iff, false_implies, true_implies, true_and, and_true, forall_eq, implies_true]
    exact cs_ysum hY (fun _ => ⟨rfl, hJ, hY⟩) (fun c hc e => absurd e (hn c hc))
  · subst ec
    simp only [cs_n10, not_true, not_false_iff, false_implies, true_implies, true_and, and_true, forall_eq, implies_true]
    have J : cs_J c f_half f_marking a_register a_field a_kept a_tally a_remembered a_shade yr yf := hJ c hc
    obtain ⟨P, IP⟩ := J.1
    have hZ := cs_Z_V (p := 0) (q := 6) hc IP (by omega)
    refine cs_trace (p := 0) (q := 6) hc (by omega) (by omega) IP (fun L s q a1 a2 a3 => ?_)
    simp only []
    have hL := a1.1
    refine pk_loop (σ := Int32) (fun n i t => wX_sum_25 (fun r u' => wpY_sum (fun r' => r' = r ∧ i_Rel (k + 4) u' (yr, yf)) (yr, yf) (nI c)) (nI L) (nI L) f_half f_marking a_register a_field a_kept s q a_forward a_trial a_turn a_partner a_partnerBack a_tally a_remembered a_shade n t (nI i)) (fun i t => t = cs_s (fun _ => True) (fun i => cs_g a_field (q i).toNatClampNeg) i) L 0 0 (by omega) rfl (fun n t hI => ?_) (fun n i t hi hI ih => ?_)
    · have fin : wpY_sum (fun r' => r' = t ∧ i_Rel (k + 4) (nI L, f_half, f_marking, a_register, a_field, a_kept, s, q, a_forward, a_trial, a_turn, a_partner, a_partnerBack, a_tally, a_remembered, a_shade) (yr, yf)) (yr, yf) (nI c) := by
        refine cs_ysum hY (fun h => absurd rfl (h c hc)) (fun _ _ _ => ⟨?_, hJ, hY⟩)
        rw [hI, cs_sum_q hc hZ a1 a2 (cs_g a_field), cs_iso_s hc IP (by omega)]
      have g2 : nI L ≤ nI L := nI_le (Nat.le_refl _) (by omega)
      by_cases g : (48 : Int32) ≤ nI L
      · simp only [wX_sum_25, g, not_true, not_false_iff, false_implies, true_implies, true_and, and_true, forall_eq, implies_true]; exact fin
      · simp only [wX_sum_25, g, g2, not_true, not_false_iff, false_implies, true_implies, true_and, and_true, forall_eq, implies_true]; exact fin
    · have g : ¬ (48 : Int32) ≤ nI i := nI_ge (b := 48) (by omega) (by omega)
      have g2 : ¬ nI L ≤ nI i := nI_ge hi (by omega)
      obtain ⟨b, b1, b2, b3, b4⟩ := cs_F_q hc hZ a1 hi
      have v1 : vp_in (nI i) 48 := vp_in_nI (by omega) (by omega)
      have k1 : (nI i).toNatClampNeg = i := nI_clamp (by omega)
      have qb : (q i).toNatClampNeg = b := by rw [b2]; exact nI_clamp (by omega)
      simp only [wX_sum_25, g, g2, not_true, not_false_iff, false_implies, true_implies, true_and, and_true, forall_eq, implies_true]
      refine pk_loop (σ := Int32) (fun m f t2 => wX_sum_41 (fun r u' => wpY_sum (fun r' => r' = r ∧ i_Rel (k + 4) u' (yr, yf)) (yr, yf) (nI c)) (wX_sum_25 (fun r u' => wpY_sum (fun r' => r' = r ∧ i_Rel (k + 4) u' (yr, yf)) (yr, yf) (nI c)) (nI L) (nI L) f_half f_marking a_register a_field a_kept s q a_forward a_trial a_turn a_partner a_partnerBack a_tally a_remembered a_shade n) (nI L) (nI i) (nI L) f_half f_marking a_register a_field a_kept s q a_forward a_trial a_turn a_partner a_partnerBack a_tally a_remembered a_shade m t2 (nI f)) (fun f t2 => t2 = t + cs_pg a_field b f) 3 0 t (by omega) (Int32.add_zero t).symm (fun m t2 hI2 => ?_) (fun m f t2 hf hI2 ih2 => ?_)
      · have g3 : (3 : Int32) ≤ nI 3 := nI_le (a := 3) (by omega) (by omega)
        simp only [wX_sum_41, g3, nI_1, not_true, not_false_iff, false_implies, true_implies, true_and, and_true, forall_eq, implies_true]
        refine ih t2 ?_
        rw [hI2, hI, cs_pg_3]
        show _ = cs_s (fun _ => True) (fun i => cs_g a_field (q i).toNatClampNeg) i + cs_t True (cs_g a_field (q i).toNatClampNeg)
        rw [cs_tt trivial, qb]
      · have g3 : ¬ (3 : Int32) ≤ nI f := nI_ge (b := 3) hf (by omega)
        have v2 : vp_in (nI (3 * b + f)) 1008 := vp_in_nI (by omega) (by omega)
        have k2 : (nI (3 * b + f)).toNatClampNeg = 3 * b + f := nI_clamp (by omega)
        have pgs : cs_pg a_field b (f + 1) = cs_pg a_field b f + cs_nv (a_field (3 * b + f)) := rfl
        rcases (hZ b b1).2 f hf with o | ⟨b', o1, o2⟩
        · have g4 := cs_nge1000 (cs_num_lt o)
          simp only [wX_sum_41, g3, v1, k1, b2, cs_i3, v2, k2, g4, nI_1, not_true, not_false_iff, false_implies, true_implies, true_and, and_true, forall_eq, implies_true]
          refine ih2 _ ?_
          rw [hI2, pgs, cs_nv_num o, Int32.add_assoc]
        · have q' := (hZ b' o1).1
          unfold cs_sg at q'
          have g4 := cs_ge1000 (b := b') (by omega)
          simp only [wX_sum_41, g3, v1, k1, b2, cs_i3, v2, k2, o2, g4, nI_1, not_true, not_false_iff, false_implies, true_implies, true_and, and_true, forall_eq, implies_true]
          refine ih2 _ ?_
          rw [hI2, pgs, o2, cs_nv_ref (by omega) (by omega) (by omega), Int32.add_assoc]
theorem i_vc_collect {k : Nat} {u : SX} {v : SY} (I : i_Rel k u v) (hk : k + 4 ≤ 2048) (v1 : Int32) : wpX_collect (fun r u' => wpY_collect (fun r' => r' = r ∧ i_Rel (k + 4) u' v) v v1) u v1 := by
  obtain ⟨f_reached, f_half, f_marking, a_register, a_field, a_kept, a_seen, a_queue, a_forward, a_trial, a_turn, a_partner, a_partnerBack, a_tally, a_remembered, a_shade⟩ := u
  obtain ⟨yr, yf⟩ := v
  obtain ⟨hJ, hY⟩ := I
  dsimp only at hY hJ
  simp only [wpX_collect, wpY_collect, wpY_count]
  refine cs_isCol (fun hn => ?_) (fun c hc ec => ?_)
  · simp only [not_true, not_false_iff, false_implies, true_implies, true_and, and_true, forall_eq, implies_true]
    refine cs_yCol (fun _ => ?_) (fun r hr e => absurd e (hn r hr))
    simp only [not_true, not_false_iff, false_implies, true_implies, true_and, and_true, forall_eq, implies_true]
    first | exact ⟨hJ, hY⟩ | exact ⟨rfl, hJ, hY⟩
  · subst ec
    simp only [cs_n10, not_true, not_false_iff, false_implies, true_implies, true_and, and_true, forall_eq, implies_true]
    refine cs_run hc hY.2.2 (hJ c hc) (fun u' F' J' X' _ => ?_)
    have hJ' := cs_rel_upd hJ F' J'
    obtain ⟨f_reached', f_half', f_marking', a_register', a_field', a_kept', a_seen', a_queue', a_forward', a_trial', a_turn', a_partner', a_partnerBack', a_tally', a_remembered', a_shade'⟩ := u'
    have e1 : nI (48 * c) + 48 = nI (48 * c + 48) := nI_add _ 48
    simp only [cs_i48, e1, not_true, not_false_iff, false_implies, true_implies, true_and, and_true, forall_eq, implies_true]
    refine cs_freeCells (by omega) (by omega) ?_
    refine cs_yCol (fun hc2 => absurd rfl (hc2 c hc)) (fun _ _ _ => ?_)
    simp only [cs_n10, not_true, not_false_iff, false_implies, true_implies, true_and, and_true, forall_eq, implies_true]
    have X2 : cs_X c a_register' a_field' a_kept' yr yf := X'
    have cnt := cs_X_n hc X2
    have cm := cs_n_compl (P := fun i => a_kept' (48 * c + i) = 0) (N := 48)
    refine cs_ycount (post := fun r => r = 48 - nI (cs_n (fun i => a_kept' (48 * c + i) = 0) (48 * c + 48 - 48 * c)) ∧ i_Rel (k + 4) (f_reached', f_half', f_marking', a_register', a_field', a_kept', a_seen', a_queue', a_forward', a_trial', a_turn', a_partner', a_partnerBack', a_tally', a_remembered', a_shade') (yr, yf)) hY ⟨?_, hJ', hY⟩
    rw [show 48 * c + 48 - 48 * c = 48 by omega, show (48 : Int32) = nI 48 from rfl, pk_sub (by omega)]
    exact congrArg nI (by omega)
