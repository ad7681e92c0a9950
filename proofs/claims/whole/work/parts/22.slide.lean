/-! sliding -/
theorem cs_slid {f_reached f_half f_marking : Int32} {a_register a_field a_kept a_seen a_queue a_forward a_trial a_turn a_partner a_partnerBack a_tally a_remembered a_shade : Nat → Int32} {post : Int32 → Prop} {w : Int32} {s : Nat → Int32} (fw : ∀ b, cs_sg 2 b → ¬ s b = 0 → a_forward b = nI (cs_rk s b)) (hw : cs_num w ∨ ∃ b, cs_sg 2 b ∧ ¬ s b = 0 ∧ w = nI (1000 + b)) (K : ∀ w', cs_l (cs_sl s) w w' → post w') : wpX_slid post (f_reached, f_half, f_marking, a_register, a_field, a_kept, a_seen, a_queue, a_forward, a_trial, a_turn, a_partner, a_partnerBack, a_tally, a_remembered, a_shade) w := by
  rcases hw with h | ⟨b, b1, b2, b3⟩
  · have g := cs_nge1000 (cs_num_lt h)
    simp only [wpX_slid, g, not_true, not_false_iff, false_implies, true_implies, true_and, and_true, forall_eq, implies_true]
    exact K w (Or.inl ⟨h, rfl⟩)
  · have b1' := b1
    unfold cs_sg at b1'
    have g := cs_ge1000 (b := b) (by omega)
    have v : vp_in (nI b) 336 := vp_in_nI (by omega) (by omega)
    have k : (nI b).toNatClampNeg = b := nI_clamp (by omega)
    have K' := K (nI (1000 + cs_rk s b)) (Or.inr ⟨b, cs_rk s b, ⟨b1, b2, rfl⟩, b3, rfl⟩)
    subst b3
    simp only [wpX_slid, g, cs_ref_sub, v, k, fw b b1 b2, cs_ref_add, not_true, not_false_iff, false_implies, true_implies, true_and, and_true, forall_eq, implies_true]
    exact K'
theorem cs_slide {f_reached f_half f_marking : Int32} {a_register a_field a_kept a_seen a_queue a_forward a_trial a_turn a_partner a_partnerBack a_tally a_remembered a_shade : Nat → Int32} {post : SX → Prop} {yr yf : Nat → Int32} (J : cs_J 2 f_half f_marking a_register a_field a_kept a_tally a_remembered a_shade yr yf) (hs : ∀ b, cs_sg 2 b → (¬ a_seen b = 0 ↔ cs_V 1000 a_register 12 0 6 a_field b))
    (K : ∀ xr' xf' xk' fw', (∀ j, ¬ (12 ≤ j ∧ j < 18) → xr' j = a_register j) → (∀ j, ¬ (288 ≤ j ∧ j < 432) → xf' j = a_field j) → (∀ b, ¬ cs_sg 2 b → xk' b = a_kept b) → cs_J 2 f_half f_marking xr' xf' xk' a_tally a_remembered a_shade yr yf → cs_X 2 xr' xf' xk' yr yf → post (f_reached, f_half, f_marking, xr', xf', xk', a_seen, a_queue, fw', a_trial, a_turn, a_partner, a_partnerBack, a_tally, a_remembered, a_shade)) : wpX_slideTogether post (f_reached, f_half, f_marking, a_register, a_field, a_kept, a_seen, a_queue, a_forward, a_trial, a_turn, a_partner, a_partnerBack, a_tally, a_remembered, a_shade) := by
  have e96 : cs_rk a_seen 96 = 96 := Nat.le_antisymm (cs_rk_le a_seen (by omega)) (cs_rk_ge a_seen 96)
  have e144 : (96 : Int32) + 48 = nI 144 := by decide
  have lt144 : cs_rk a_seen 144 ≤ 144 := cs_rk_le a_seen (by omega)
  have ge96 : ∀ b, 96 ≤ cs_rk a_seen b := cs_rk_ge a_seen
  obtain ⟨P, I⟩ := J.1
  have hZ := cs_Z_V (c := 2) (p := 0) (q := 6) (by omega) I (by omega)
  simp only [wpX_slideTogether, e144, not_true, not_false_iff, false_implies, true_implies, true_and, and_true, forall_eq, implies_true]
  have L1 := pk_loop (σ := Nat → Int32) (fun n i t => wX_slideTogether_13 post 96 (nI 144) f_reached f_half f_marking n (nI (cs_rk a_seen i)) (nI i) a_register a_field a_kept a_seen a_queue t a_trial a_turn a_partner a_partnerBack a_tally a_remembered a_shade) (fun i t => 96 ≤ i ∧ ∀ b, 96 ≤ b → b < i → ¬ a_seen b = 0 → t b = nI (cs_rk a_seen b)) 144 96 a_forward (by omega) ⟨Nat.le_refl _, fun b h1 h2 => by omega⟩ (fun n t hI => ?_) (fun n i t hi hI ih => ?_)
  · rw [e96] at L1
    exact L1
  · have g : nI 144 ≤ nI 144 := nI_le (Nat.le_refl _) (by omega)
    simp only [wX_slideTogether_13, g, not_true, not_false_iff, false_implies, true_implies, true_and, and_true, forall_eq, implies_true]
    have fwd : ∀ b, cs_sg 2 b → ¬ a_seen b = 0 → t b = nI (cs_rk a_seen b) := fun b hb hz => hI.2 b hb.1 hb.2 hz
    refine pk_loop (σ := Nat → Int32) (fun n r x => wX_slideTogether_49 post 96 (nI 144) (nI (cs_rk a_seen 144)) f_reached f_half f_marking n (nI r) x a_field a_kept a_seen a_queue t a_trial a_turn a_partner a_partnerBack a_tally a_remembered a_shade) (fun r x => (∀ r', r' < r → cs_l (cs_sl a_seen) (a_register (12 + r')) (x (12 + r'))) ∧ (∀ j, ¬ (12 ≤ j ∧ j < 12 + r) → x j = a_register j)) 6 0 a_register (by omega) ⟨fun r' h => by omega, fun _ _ => rfl⟩ (fun n xr' hI2 => ?_) (fun n r x hr hI2 ih => ?_)
    · have g3 : (6 : Int32) ≤ nI 6 := nI_le (a := 6) (by omega) (by omega)
      simp only [wX_slideTogether_49, g3, not_true, not_false_iff, false_implies, true_implies, true_and, and_true, forall_eq, implies_true]
      obtain ⟨xr1, xr2⟩ := hI2
      refine pk_loop (σ := Nat → Int32) (fun n i x => wX_slideTogether_90 post 96 (nI 144) (nI (cs_rk a_seen 144)) f_reached f_half f_marking n (nI i) xr' x a_kept a_seen a_queue t a_trial a_turn a_partner a_partnerBack a_tally a_remembered a_shade) (fun i x => 96 ≤ i ∧ cs_Sl a_seen a_field x i 0 ∧ (∀ j, ¬ (288 ≤ j ∧ j < 432) → x j = a_field j)) 144 96 a_field (by omega) ⟨Nat.le_refl _, cs_Sl_0, fun _ _ => rfl⟩ (fun n xf' hI3 => ?_) (fun n i x hi hI3 ih => ?_)
      · simp only [wX_slideTogether_90, g, not_true, not_false_iff, false_implies, true_implies, true_and, and_true, forall_eq, implies_true]
        obtain ⟨_, xf1, xf2⟩ := hI3
        refine pk_loop (σ := Nat → Int32) (fun n i x => wX_slideTogether_163 post (nI 144) (nI (cs_rk a_seen 144)) f_reached f_half f_marking n (nI i) xr' xf' x a_seen a_queue t a_trial a_turn a_partner a_partnerBack a_tally a_remembered a_shade) (fun i x => 96 ≤ i ∧ cs_up 96 i (fun b => b < cs_rk a_seen 144) a_kept x) 144 96 a_kept (by omega) ⟨Nat.le_refl _, cs_up_0⟩ (fun n xk' hI4 => ?_) (fun n i x hi hI4 ih => ?_)
        · simp only [wX_slideTogether_163, g, not_true, not_false_iff, false_implies, true_implies, true_and, and_true, forall_eq, implies_true]
          obtain ⟨_, k1, k2⟩ := hI4
          obtain ⟨r1, r2⟩ := cs_slide_end (h' := f_half) (m' := f_marking) (tl' := a_tally) (rm' := a_remembered) (sh' := a_shade) J hs xf1 (fun r hr => xr1 r hr) (fun b hb => k1 b hb.1 hb.2)
          exact K xr' xf' xk' t (fun j hj => xr2 j (by omega)) xf2 (fun b hb => k2 b hb) r1 r2
        · have g4 : ¬ nI 144 ≤ nI i := nI_ge hi (by omega)
          have v : vp_in (nI i) 336 := vp_in_nI (by omega) (by omega)
          have k : (nI i).toNatClampNeg = i := nI_clamp (by omega)
          have hi0 := hI4.1
          by_cases z : cs_rk a_seen 144 ≤ i
          · have g5 : nI (cs_rk a_seen 144) ≤ nI i := nI_le z (by omega)
            simp only [wX_slideTogether_163, g4, g5, v, k, cs_nb0, nI_1, not_true, not_false_iff, false_implies, true_implies, true_and, and_true, forall_eq, implies_true]
            exact ih _ ⟨by omega, cs_up_s hI4.2 hI4.1 (cs_n00 (by omega))⟩
          · have g5 : ¬ nI (cs_rk a_seen 144) ≤ nI i := nI_ge (by omega) (by omega)
            simp only [wX_slideTogether_163, g4, g5, v, k, cs_nb1, nI_1, not_true, not_false_iff, false_implies, true_implies, true_and, and_true, forall_eq, implies_true]
            exact ih _ ⟨by omega, cs_up_s hI4.2 hI4.1 (cs_n11 (by omega))⟩
      · obtain ⟨hi0, y1, y2⟩ := hI3
        have g4 : ¬ nI 144 ≤ nI i := nI_ge hi (by omega)
        have v : vp_in (nI i) 336 := vp_in_nI (by omega) (by omega)
        have k : (nI i).toNatClampNeg = i := nI_clamp (by omega)
        simp only [wX_slideTogether_90, g4, not_true, not_false_iff, false_implies, true_implies, true_and, and_true, forall_eq, implies_true]
        by_cases z : a_seen i = 0
        · refine ⟨1, ?_⟩
          have g5 : ¬ (3 : Int32) ≤ 0 := by decide
          simp only [wX_slideTogether_99, g5, v, k, z, nI_1, not_true, not_false_iff, false_implies, true_implies, true_and, and_true, forall_eq, implies_true]
          exact ih _ ⟨by omega, cs_Sl_k0 y1 z, y2⟩
        · have sgi : cs_sg 2 i := ⟨by omega, by omega⟩
          have vi := (hs i sgi).mp z
          have ri := fwd i sgi z
          have rlt := cs_rk_lt (s := a_seen) (a := i) (b := 144) (by omega) z (by omega)
          have rge := ge96 i
          refine pk_loop (σ := Nat → Int32) (fun m f x => wX_slideTogether_99 post (wX_slideTogether_90 post 96 (nI 144) (nI (cs_rk a_seen 144)) f_reached f_half f_marking n) 96 (nI 144) (nI (cs_rk a_seen 144)) (nI i) f_reached f_half f_marking m (nI f) xr' x a_kept a_seen a_queue t a_trial a_turn a_partner a_partnerBack a_tally a_remembered a_shade) (fun f x => cs_Sl a_seen a_field x i f ∧ (∀ j, ¬ (288 ≤ j ∧ j < 432) → x j = a_field j)) 3 0 x (by omega) ⟨y1, y2⟩ (fun m x hI5 => ?_) (fun m f x hf hI5 ih2 => ?_)
          · have g6 : (3 : Int32) ≤ nI 3 := nI_le (a := 3) (by omega) (by omega)
            simp only [wX_slideTogether_99, g6, nI_1, not_true, not_false_iff, false_implies, true_implies, true_and, and_true, forall_eq, implies_true]
            exact ih _ ⟨by omega, cs_Sl_k hI5.1, hI5.2⟩
          · have g6 : ¬ (3 : Int32) ≤ nI f := nI_ge (b := 3) hf (by omega)
            have v2 : vp_in (nI (3 * i + f)) 1008 := vp_in_nI (by omega) (by omega)
            have k2 : (nI (3 * i + f)).toNatClampNeg = 3 * i + f := nI_clamp (by omega)
            have v3 : vp_in (nI (3 * cs_rk a_seen i + f)) 1008 := vp_in_nI (by omega) (by omega)
            have k3 : (nI (3 * cs_rk a_seen i + f)).toNatClampNeg = 3 * cs_rk a_seen i + f := nI_clamp (by omega)
            have ew := cs_Sl_w hI5.1
            simp only [wX_slideTogether_99, g6, v, k, z, cs_i3, v2, k2, not_true, not_false_iff, false_implies, true_implies, true_and, and_true, forall_eq, implies_true]
            refine cs_slid (s := a_seen) fwd ?_ (fun w' l => ?_)
            · rw [ew]
              rcases (hZ i vi).2 f hf with o | ⟨b', o1, o2⟩
              · exact Or.inl o
              · have g := (hZ b' o1).1
                exact Or.inr ⟨b', g, (hs b' g).mpr o1, o2⟩
            · simp only [ri, cs_i3, v3, k3, nI_1, not_true, not_false_iff, false_implies, true_implies, true_and, and_true, forall_eq, implies_true]
              rw [ew] at l
              refine ih2 _ ⟨cs_Sl_f hI5.1 sgi z hf l, fun j hj => ?_⟩
              rw [cs_upd_n (by omega)]; exact hI5.2 j hj
    · obtain ⟨x1, x2⟩ := hI2
      have g3 : ¬ (6 : Int32) ≤ nI r := nI_ge (b := 6) hr (by omega)
      have e : (12 : Int32) + nI r = nI (12 + r) := nI_add 12 r
      have v : vp_in (nI (12 + r)) 42 := vp_in_nI (by omega) (by omega)
      have k : (nI (12 + r)).toNatClampNeg = 12 + r := nI_clamp (by omega)
      have ex : x (12 + r) = a_register (12 + r) := x2 _ (by omega)
      simp only [wX_slideTogether_49, g3, e, v, k, not_true, not_false_iff, false_implies, true_implies, true_and, and_true, forall_eq, implies_true]
      refine cs_slid (s := a_seen) fwd ?_ (fun w' l => ?_)
      · rw [ex]
        rcases I.2.2.2.1 r hr with ⟨m1, m2⟩ | ⟨a, b, m1, m2, m3⟩
        · exact Or.inl (m2 ▸ m1)
        · have q := I.2.2.1 a b m1
          have sg : cs_sg 2 b := ⟨q.2.1, q.2.2.1⟩
          exact Or.inr ⟨b, sg, (hs b sg).mpr (cs_R_b ⟨r, by omega, hr, by omega, m3⟩), m3⟩
      · simp only [nI_1, not_true, not_false_iff, false_implies, true_implies, true_and, and_true, forall_eq, implies_true]
        rw [ex] at l
        refine ih _ ⟨fun r' hr' => ?_, fun j hj => ?_⟩
        · by_cases er : r' = r
          · rw [er, cs_upd_s]; exact l
          · rw [cs_upd_n (by omega)]; exact x1 r' (by omega)
        · rw [cs_upd_n (by omega)]; exact x2 j (by omega)
  · obtain ⟨hi0, h2⟩ := hI
    have g : ¬ nI 144 ≤ nI i := nI_ge hi (by omega)
    have v : vp_in (nI i) 336 := vp_in_nI (by omega) (by omega)
    have k : (nI i).toNatClampNeg = i := nI_clamp (by omega)
    by_cases z : a_seen i = 0
    · simp only [wX_slideTogether_13, g, v, k, z, nI_1, not_true, not_false_iff, false_implies, true_implies, true_and, and_true, forall_eq, implies_true]
      have := ih t ⟨by omega, fun b h1 h3 hz => h2 b h1 (by
        have : b ≠ i := fun e => hz (e ▸ z)
        omega) hz⟩
      rw [cs_rk_suc0 (by omega) z] at this
      exact this
    · simp only [wX_slideTogether_13, g, v, k, z, nI_1, not_true, not_false_iff, false_implies, true_implies, true_and, and_true, forall_eq, implies_true]
      have := ih (upd t i (nI (cs_rk a_seen i))) ⟨by omega, fun b h1 h3 hz => by
        by_cases e : b = i
        · rw [e, cs_upd_s]
        · rw [cs_upd_n e]; exact h2 b h1 (by omega) hz⟩
      rw [cs_rk_suc (by omega) z] at this
      exact this
