/-! counting: trial counts and cycles -/
theorem cs_addF {f_reached f_half f_marking : Int32} {a_register a_field a_kept a_seen a_queue a_forward a_trial a_turn a_partner a_partnerBack a_tally a_remembered a_shade : Nat → Int32} {post : SX → Prop} {w : Int32} (W : cs_W 3 a_field a_kept) (K : ∀ tr', cs_tr a_trial w a_field a_kept tr' 144 → post (f_reached, f_half, f_marking, a_register, a_field, a_kept, a_seen, a_queue, a_forward, tr', a_turn, a_partner, a_partnerBack, a_tally, a_remembered, a_shade)) : wpX_addFieldReferences post (f_reached, f_half, f_marking, a_register, a_field, a_kept, a_seen, a_queue, a_forward, a_trial, a_turn, a_partner, a_partnerBack, a_tally, a_remembered, a_shade) w := by
  simp only [wpX_addFieldReferences]
  refine pk_loop (σ := Nat → Int32) (fun n x t => wX_addFieldReferences_4 post w f_reached f_half f_marking n (nI (144 + x)) a_register a_field a_kept a_seen a_queue a_forward t a_turn a_partner a_partnerBack a_tally a_remembered a_shade) (fun x t => cs_tr a_trial w a_field a_kept t (3 * x)) 48 0 a_trial (by omega) cs_tr_0 (fun n t hI => ?_) (fun n x t hx hI ih => ?_)
  · have g : (192 : Int32) ≤ nI (144 + 48) := nI_le (a := 192) (by omega) (by omega)
    simp only [wX_addFieldReferences_4, g, not_true, not_false_iff, false_implies, true_implies, true_and, and_true, forall_eq, implies_true]
    exact K t hI
  · have g : ¬ (192 : Int32) ≤ nI (144 + x) := nI_ge (b := 192) (by omega) (by omega)
    have v : vp_in (nI (144 + x)) 336 := vp_in_nI (by omega) (by omega)
    have k : (nI (144 + x)).toNatClampNeg = 144 + x := nI_clamp (by omega)
    simp only [wX_addFieldReferences_4, g, not_true, not_false_iff, false_implies, true_implies, true_and, and_true, forall_eq, implies_true]
    by_cases z : a_kept (144 + x) = 0
    · refine ⟨1, ?_⟩
      have g5 : ¬ (3 : Int32) ≤ 0 := by decide
      simp only [wX_addFieldReferences_13, g5, v, k, z, nI_1, not_true, not_false_iff, false_implies, true_implies, true_and, and_true, forall_eq, implies_true]
      exact ih t (cs_tr_skip hI z)
    · refine pk_loop (σ := Nat → Int32) (fun m f t => wX_addFieldReferences_13 post (wX_addFieldReferences_4 post w f_reached f_half f_marking n) w (nI (144 + x)) f_reached f_half f_marking m (nI f) a_register a_field a_kept a_seen a_queue a_forward t a_turn a_partner a_partnerBack a_tally a_remembered a_shade) (fun f t => cs_tr a_trial w a_field a_kept t (3 * x + f)) 3 0 t (by omega) hI (fun m t hI2 => ?_) (fun m f t hf hI2 ih2 => ?_)
      · have g6 : (3 : Int32) ≤ nI 3 := nI_le (a := 3) (by omega) (by omega)
        simp only [wX_addFieldReferences_13, g6, nI_1, not_true, not_false_iff, false_implies, true_implies, true_and, and_true, forall_eq, implies_true]
        exact ih t hI2
      · have g6 : ¬ (3 : Int32) ≤ nI f := nI_ge (b := 3) hf (by omega)
        have v2 : vp_in (nI (3 * (144 + x) + f)) 1008 := vp_in_nI (by omega) (by omega)
        have k2 : (nI (3 * (144 + x) + f)).toNatClampNeg = 3 * (144 + x) + f := nI_clamp (by omega)
        rcases cs_W_word (c := 3) (by omega) W (b := 144 + x) ⟨by omega, by omega⟩ z hf with ⟨o1, o2⟩ | ⟨b', o1, o2, o3, o4⟩
        · simp only [wX_addFieldReferences_13, g6, v, k, z, cs_i3, v2, k2, o2, nI_1, not_true, not_false_iff, false_implies, true_implies, true_and, and_true, forall_eq, implies_true]
          exact ih2 t (cs_tr_num hI2 hf o1)
        · have g7 := cs_ref_ge (b := b') (by omega)
          have v3 : vp_in (nI b') 336 := vp_in_nI (by omega) (by omega)
          have k3 : (nI b').toNatClampNeg = b' := nI_clamp (by omega)
          simp only [wX_addFieldReferences_13, g6, v, k, z, cs_i3, v2, k2, o4, g7, cs_ref_sub, v3, k3, nI_1, not_true, not_false_iff, false_implies, true_implies, true_and, and_true, forall_eq, implies_true]
          exact ih2 _ (cs_tr_ref hI2 hf z (by omega) o4)
theorem cs_rc_pos {xr : Nat → Int32} {b : Nat} (h : 0 < cs_rc xr 6 b) : ∃ r, r < 6 ∧ xr (18 + r) = nI (1000 + b) := cs_n_pos h
theorem cs_rc_of {xr : Nat → Int32} {r b : Nat} (hr : r < 6) (h : xr (18 + r) = nI (1000 + b)) : 0 < cs_rc xr 6 b := by
  have := cs_n_rem (P := fun r => xr (18 + r) = nI (1000 + b)) (a := r) (N := 6) h hr
  unfold cs_rc; omega
theorem cs_cycles {f_reached f_half f_marking : Int32} {a_register a_field a_kept a_seen a_queue a_forward a_trial a_turn a_partner a_partnerBack a_tally a_remembered a_shade : Nat → Int32} {post : SX → Prop} {yr yf : Nat → Int32} (J : cs_J 3 f_half f_marking a_register a_field a_kept a_tally a_remembered a_shade yr yf)
    (K : ∀ (L : Nat) (s q tr tl' xk' : Nat → Int32), (∀ b, ¬ cs_sg 3 b → xk' b = a_kept b ∧ tl' b = a_tally b) → cs_J 3 f_half f_marking a_register a_field xk' tl' a_remembered a_shade yr yf → cs_X 3 a_register a_field xk' yr yf → post (nI L, f_half, f_marking, a_register, a_field, xk', s, q, a_forward, tr, a_turn, a_partner, a_partnerBack, tl', a_remembered, a_shade)) : wpX_dropCycles post (f_reached, f_half, f_marking, a_register, a_field, a_kept, a_seen, a_queue, a_forward, a_trial, a_turn, a_partner, a_partnerBack, a_tally, a_remembered, a_shade) := by
  have J0 := J
  obtain ⟨⟨P, I⟩, W, _, _, k3, _⟩ := J0
  have K3 := k3 rfl
  have hZ := cs_Z_V (c := 3) (p := 0) (q := 6) (by omega) I (by omega)
  have e192 : (144 : Int32) + 48 = nI 192 := by decide
  simp only [wpX_dropCycles, e192, not_true, not_false_iff, false_implies, true_implies, true_and, and_true, forall_eq, implies_true]
  refine pk_loop (σ := Nat → Int32) (fun n i t => wX_dropCycles_11 post 144 (nI 192) f_reached f_half f_marking n (nI i) a_register a_field a_kept a_seen a_queue a_forward t a_turn a_partner a_partnerBack a_tally a_remembered a_shade) (fun i t => 144 ≤ i ∧ cs_st 144 i a_tally a_trial t) 192 144 a_trial (by omega) ⟨Nat.le_refl _, cs_st_0⟩ (fun n t0 hI => ?_) (fun n i t hi hI ih => ?_)
  · have g : nI 192 ≤ nI 192 := nI_le (Nat.le_refl _) (by omega)
    simp only [wX_dropCycles_11, g, not_true, not_false_iff, false_implies, true_implies, true_and, and_true, forall_eq, implies_true]
    refine cs_addF W (fun tr htr => ?_)
    simp only []
    have trv : ∀ b, cs_sg 3 b → ¬ a_kept b = 0 → tr b = nI (cs_rc a_register 6 b) := fun b hb hk => by
      rw [htr b hb, hI.2.1 b hb.1 hb.2, (K3 b hb hk).2, cs_c_eq, ← nI_add]
      grind
    refine cs_forget (c := 3) (by omega) (fun s0 hs0 => ?_)
    simp only []
    refine pk_loop (σ := Nat × (Nat → Int32) × (Nat → Int32)) (fun n i t => wX_dropCycles_46 post 144 (nI 192) n (nI i) (nI t.1) f_half f_marking a_register a_field a_kept t.2.1 t.2.2 a_forward tr a_turn a_partner a_partnerBack a_tally a_remembered a_shade) (fun i t => 144 ≤ i ∧ cs_F 3 (cs_V 1000 a_register 18 0 6 a_field) (fun _ => False) t.2.1 t.2.2 t.1 ∧ (∀ b, 144 ≤ b → b < i → ¬ a_kept b = 0 → 0 < cs_rc a_register 6 b → ¬ t.2.1 b = 0)) 192 144 (0, s0, a_queue) (by omega)
      ⟨Nat.le_refl _, cs_F_nil hs0, fun b h1 h2 => by omega⟩ (fun n t hI2 => ?_) (fun n i t hi hI2 ih => ?_)
    · obtain ⟨L1, s1, q1⟩ := t
      obtain ⟨_, j1, j2⟩ := hI2
      dsimp only at j1 j2 ⊢
      simp only [wX_dropCycles_46, g, not_true, not_false_iff, false_implies, true_implies, true_and, and_true, forall_eq, implies_true]
      refine cs_follow (c := 3) (by omega) hZ j1 rfl (fun L s q a1 a2 a3 => ?_)
      simp only []
      obtain ⟨sv, _⟩ := cs_F_end (c := 3) (by omega) hZ a1 a2 (fun b hb => by
        have hv := cs_X_in (c := 3) (p := 0) (q := 6) (by omega) I (by omega) (cs_R_b hb)
        obtain ⟨r, _, r2, r3⟩ := hb
        exact a3 b (j2 b (by omega) (by omega) hv.2.2 (cs_rc_of r2 r3.2)))
      have Zlt : ∀ b, (cs_sg 3 b ∧ ¬ a_kept b = 0) → b < 1000 := fun b hb => by
        have := hb.1
        unfold cs_sg at this; omega
      refine pk_loop (σ := Nat → Int32) (fun n x t => wX_dropCycles_90 post (nI 192) (nI L) f_half f_marking n (nI (144 + x)) a_register a_field a_kept s q a_forward tr a_turn a_partner a_partnerBack t a_remembered a_shade)
        (fun x t => (∀ b, (cs_sg 3 b ∧ ¬ a_kept b = 0) → t b = nI (cs_c a_register a_field (cs_kv s a_kept (144 + x)) b)) ∧ (∀ b, ¬ cs_sg 3 b → t b = a_tally b)) 48 0 a_tally (by omega) ⟨fun b hb => ?_, fun _ _ => rfl⟩ (fun n t hI3 => ?_) (fun n x t hx hI3 ih => ?_)
      · rw [(K3 b hb.1 hb.2).2]
        refine congrArg nI (cs_c_cg (fun _ _ => rfl) (fun _ _ _ => rfl) (fun b' hb' => ?_) b).symm
        unfold cs_sg at hb'
        rw [cs_kv_f (fun y => by omega)]
      · have g2 : nI 192 ≤ nI (144 + 48) := nI_le (by omega) (by omega)
        simp only [wX_dropCycles_90, g2, not_true, not_false_iff, false_implies, true_implies, true_and, and_true, forall_eq, implies_true]
        refine cs_sweepU (c := 3) (by omega) (fun xk' k1 k2 => ?_)
        simp only []
        obtain ⟨r1, r2⟩ := cs_cyc_end (tl' := t) J sv hI3.1 k1
        exact K L s q tr t xk' (fun b hb => ⟨k2 b hb, hI3.2 b hb⟩) r1 r2
      · obtain ⟨y1, y2⟩ := hI3
        have g2 : ¬ nI 192 ≤ nI (144 + x) := nI_ge (by omega) (by omega)
        have v : vp_in (nI (144 + x)) 336 := vp_in_nI (by omega) (by omega)
        have k : (nI (144 + x)).toNatClampNeg = 144 + x := nI_clamp (by omega)
        have g5 : ¬ (3 : Int32) ≤ 0 := by decide
        simp only [wX_dropCycles_90, g2, not_true, not_false_iff, false_implies, true_implies, true_and, and_true, forall_eq, implies_true]
        by_cases z : a_kept (144 + x) = 0
        · refine ⟨1, ?_⟩
          simp only [wX_dropCycles_98, g5, v, k, z, nI_1, not_true, not_false_iff, false_implies, true_implies, true_and, and_true, forall_eq, implies_true]
          exact ih t ⟨fun b hb => by rw [← Nat.add_assoc, cs_kv_keep (Or.inr z)]; exact y1 b hb, y2⟩
        · by_cases z2 : s (144 + x) = 0
          · have sgx : cs_sg 3 (144 + x) := ⟨by omega, by omega⟩
            have kvx : ¬ cs_kv s a_kept (144 + x) (144 + x) = 0 := by
              rw [cs_kv_f (fun y => by omega)]; exact z
            refine pk_loop (σ := Nat → Int32) (fun m f t => wX_dropCycles_98 post (wX_dropCycles_90 post (nI 192) (nI L) f_half f_marking n) (nI 192) (nI (144 + x)) (nI L) f_half f_marking m (nI f) a_register a_field a_kept s q a_forward tr a_turn a_partner a_partnerBack t a_remembered a_shade)
              (fun f t => (∀ b, (cs_sg 3 b ∧ ¬ a_kept b = 0) → t b = nI (cs_c a_register a_field (cs_kv s a_kept (144 + x + 1)) b + cs_x a_field (144 + x) f b)) ∧ (∀ b, ¬ cs_sg 3 b → t b = a_tally b)) 3 0 t (by omega) ⟨fun b hb => ?_, y2⟩ (fun m t hI4 => ?_) (fun m f t hf hI4 ih2 => ?_)
            · rw [y1 b hb, cs_c_drop sgx kvx b, cs_kv_drop z2]
            · have g6 : (3 : Int32) ≤ nI 3 := nI_le (a := 3) (by omega) (by omega)
              simp only [wX_dropCycles_98, g6, nI_1, not_true, not_false_iff, false_implies, true_implies, true_and, and_true, forall_eq, implies_true]
              refine ih t ⟨fun b hb => ?_, hI4.2⟩
              rw [hI4.1 b hb, cs_x_3, Nat.add_zero, Nat.add_assoc]
            · have g6 : ¬ (3 : Int32) ≤ nI f := nI_ge (b := 3) hf (by omega)
              have v2 : vp_in (nI (3 * (144 + x) + f)) 1008 := vp_in_nI (by omega) (by omega)
              have k2 : (nI (3 * (144 + x) + f)).toNatClampNeg = 3 * (144 + x) + f := nI_clamp (by omega)
              rcases cs_W_word (c := 3) (by omega) W sgx z hf with ⟨o1, o2⟩ | ⟨b', o1, o2, o3, o4⟩
              · simp only [wX_dropCycles_98, g6, v, k, z, z2, cs_i3, v2, k2, o2, nI_1, not_true, not_false_iff, false_implies, true_implies, true_and, and_true, forall_eq, implies_true]
                exact ih2 t ⟨cs_low0 (Z := fun b => cs_sg 3 b ∧ ¬ a_kept b = 0) Zlt hf hI4.1 o1, hI4.2⟩
              · have g7 := cs_ref_ge (b := b') (by omega)
                have v3 : vp_in (nI b') 336 := vp_in_nI (by omega) (by omega)
                have k3 : (nI b').toNatClampNeg = b' := nI_clamp (by omega)
                simp only [wX_dropCycles_98, g6, v, k, z, z2, cs_i3, v2, k2, o4, g7, cs_ref_sub, v3, k3, nI_1, not_true, not_false_iff, false_implies, true_implies, true_and, and_true, forall_eq, implies_true]
                refine ih2 _ ⟨cs_low (Z := fun b => cs_sg 3 b ∧ ¬ a_kept b = 0) Zlt hf hI4.1 (by omega) o4, fun b hb => ?_⟩
                rw [cs_upd_n (fun e : b = b' => hb (by rw [e]; exact o1))]; exact hI4.2 b hb
          · refine ⟨1, ?_⟩
            simp only [wX_dropCycles_98, g5, v, k, z, z2, nI_1, not_true, not_false_iff, false_implies, true_implies, true_and, and_true, forall_eq, implies_true]
            exact ih t ⟨fun b hb => by rw [← Nat.add_assoc, cs_kv_keep (Or.inl z2)]; exact y1 b hb, y2⟩
    · obtain ⟨L1, s1, q1⟩ := t
      obtain ⟨j0, j1, j2⟩ := hI2
      dsimp only at j1 j2 ih ⊢
      have g2 : ¬ nI 192 ≤ nI i := nI_ge hi (by omega)
      have v : vp_in (nI i) 336 := vp_in_nI (by omega) (by omega)
      have k : (nI i).toNatClampNeg = i := nI_clamp (by omega)
      have sgi : cs_sg 3 i := ⟨by omega, by omega⟩
      by_cases z : a_kept i = 0
      · simp only [wX_dropCycles_46, g2, v, k, z, nI_1, not_true, not_false_iff, false_implies, true_implies, true_and, and_true, forall_eq, implies_true]
        refine ih (L1, s1, q1) ⟨by omega, j1, fun b b1 b2 b3 b4 => j2 b b1 ?_ b3 b4⟩
        have : b ≠ i := fun e => b3 (e ▸ z)
        omega
      · have tri := trv i sgi z
        by_cases z2 : cs_rc a_register 6 i = 0
        · have g3 : tr i ≤ 0 := by rw [tri, z2]; decide
          simp only [wX_dropCycles_46, g2, v, k, z, g3, nI_1, not_true, not_false_iff, false_implies, true_implies, true_and, and_true, forall_eq, implies_true]
          refine ih (L1, s1, q1) ⟨by omega, j1, fun b b1 b2 b3 b4 => j2 b b1 ?_ b3 b4⟩
          have : b ≠ i := fun e => by rw [e] at b4; omega
          omega
        · have hrc : cs_rc a_register 6 i ≤ 6 := cs_n_le _ 6
          have g3 : ¬ tr i ≤ 0 := by rw [tri]; exact nI_nle (by omega) (by omega)
          simp only [wX_dropCycles_46, g2, v, k, z, g3, cs_ref_add, not_true, not_false_iff, false_implies, true_implies, true_and, and_true, forall_eq, implies_true]
          obtain ⟨r, r1, r2⟩ := cs_rc_pos (Nat.pos_of_ne_zero z2)
          refine cs_visit (c := 3) (by omega) hZ j1 rfl (Or.inr ⟨i, cs_R_b ⟨r, by omega, r1, by omega, r2⟩, rfl⟩) (fun L3 s3 q3 a1 a2 a3 a4 a5 => ?_)
          simp only [nI_1, not_true, not_false_iff, false_implies, true_implies, true_and, and_true, forall_eq, implies_true]
          refine ih (L3, s3, q3) ⟨by omega, a1, fun b b1 b2 b3 b4 => ?_⟩
          by_cases e : b = i
          · rw [e]; exact a5 i (by omega) rfl
          · exact a3 b (j2 b b1 (by omega) b3 b4)
  · have g : ¬ nI 192 ≤ nI i := nI_ge hi (by omega)
    have v : vp_in (nI i) 336 := vp_in_nI (by omega) (by omega)
    have k : (nI i).toNatClampNeg = i := nI_clamp (by omega)
    simp only [wX_dropCycles_11, g, v, k, nI_1, not_true, not_false_iff, false_implies, true_implies, true_and, and_true, forall_eq, implies_true]
    exact ih _ ⟨by have := hI.1; omega, cs_st_s hI.2 hI.1 rfl⟩
