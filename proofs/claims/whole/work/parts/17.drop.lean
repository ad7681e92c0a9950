/-! lowering counts; setting registers and fields -/
theorem cs_dropRef {f_reached f_half f_marking : Int32} {a_register a_field a_kept a_seen a_queue a_forward a_trial a_turn a_partner a_partnerBack a_tally a_remembered a_shade : Nat → Int32} {post : SX → Prop} {w : Int32} (h : ∀ q, cs_D a_register a_field a_kept a_tally q (fun b => cs_b (w = nI (1000 + b))) 0 0) (ok : cs_ok 3 a_kept w)
    (K : ∀ xk' tl' q' L, cs_D a_register a_field xk' tl' q' (fun _ => 0) L L → (∀ b, ¬ cs_sg 3 b → xk' b = a_kept b ∧ tl' b = a_tally b) → post (nI L, f_half, f_marking, a_register, a_field, xk', a_seen, q', a_forward, a_trial, a_turn, a_partner, a_partnerBack, tl', a_remembered, a_shade)) : wpX_dropReference post (f_reached, f_half, f_marking, a_register, a_field, a_kept, a_seen, a_queue, a_forward, a_trial, a_turn, a_partner, a_partnerBack, a_tally, a_remembered, a_shade) w := by
  simp only [wpX_dropReference]
  refine cs_lower (ex' := fun _ => 0) (n := 0) (L := 0) (h a_queue) rfl (by omega) ok (fun b _ => by (try dsimp only); omega) (fun _ => by omega) (fun tl1 q1 L1 d1 _ d3 _ d4 => ?_)
  simp only []
  refine loop_m (σ := Nat × Nat × (Nat → Int32) × (Nat → Int32) × (Nat → Int32)) (fun n t => wX_dropReference_12 post n (nI t.1) (nI t.2.1) f_half f_marking a_register a_field t.2.2.1 a_seen t.2.2.2.2 a_forward a_trial a_turn a_partner a_partnerBack t.2.2.2.1 a_remembered a_shade)
    (fun t => t.2.1 ≤ 48 ∧ cs_D a_register a_field t.2.2.1 t.2.2.2.1 t.2.2.2.2 (fun _ => 0) t.1 t.2.1 ∧ (∀ b, ¬ cs_sg 3 b → t.2.2.1 b = a_kept b ∧ t.2.2.2.1 b = a_tally b)) (fun t => 48 - t.1) (fun n t hI ih => ?_) (0, L1, a_kept, tl1, q1) ⟨d3, d1, fun b hb => ⟨rfl, d4 b hb⟩⟩
  obtain ⟨i, L, xk, tl, q⟩ := t
  obtain ⟨i1, i2, i3⟩ := hI
  try dsimp only at i1 i2 i3 ih ⊢
  have hn := i2.1
  by_cases e : i = L
  · subst e
    have fin := K xk tl q i i2 i3
    have g2 : nI i ≤ nI i := nI_le (Nat.le_refl _) (by omega)
    by_cases e2 : i = 48
    · have g : (48 : Int32) ≤ nI i := nI_le (a := 48) (by omega) (by omega)
      simp only [wX_dropReference_12, g, not_true, not_false_iff, false_implies, true_implies, true_and, and_true, forall_eq, implies_true]
      exact fin
    · have g : ¬ (48 : Int32) ≤ nI i := nI_ge (b := 48) (by omega) (by omega)
      simp only [wX_dropReference_12, g, g2, not_true, not_false_iff, false_implies, true_implies, true_and, and_true, forall_eq, implies_true]
      exact fin
  · have g : ¬ (48 : Int32) ≤ nI i := nI_ge (b := 48) (by omega) (by omega)
    have g2 : ¬ nI L ≤ nI i := nI_ge (by omega) (by omega)
    obtain ⟨x, x1, x2, x3, x4, x5⟩ := cs_D_take i2 (by omega)
    have x1' := x1
    unfold cs_sg at x1'
    have v1 : vp_in (nI i) 48 := vp_in_nI (by omega) (by omega)
    have k1 : (nI i).toNatClampNeg = i := nI_clamp (by omega)
    have v2 : vp_in (nI x) 336 := vp_in_nI (by omega) (by omega)
    have k2 : (nI x).toNatClampNeg = x := nI_clamp (by omega)
    simp only [wX_dropReference_12, g, g2, v1, k1, x2, v2, k2, cs_nb0, not_true, not_false_iff, false_implies, true_implies, true_and, and_true, forall_eq, implies_true]
    refine pk_loop (σ := Nat × (Nat → Int32) × (Nat → Int32)) (fun m f t => wX_dropReference_43 post (wX_dropReference_12 post n) (nI i) (nI x) m (nI f) (nI t.1) f_half f_marking a_register a_field (upd xk x 0) a_seen t.2.2 a_forward a_trial a_turn a_partner a_partnerBack t.2.1 a_remembered a_shade)
      (fun f t => t.1 ≤ 48 ∧ cs_D a_register a_field (upd xk x 0) t.2.1 t.2.2 (cs_x a_field x f) (i + 1) t.1 ∧ (∀ b, ¬ cs_sg 3 b → t.2.1 b = a_tally b)) 3 0 (L, tl, q) (by omega) ⟨i1, x4, fun b hb => (i3 b hb).2⟩ (fun m t hI => ?_) (fun m f t hf hI ih2 => ?_)
    · obtain ⟨L2, t2, q2⟩ := t
      obtain ⟨j1, j2, j3⟩ := hI
      try dsimp only at j1 j2 j3 ⊢
      have g3 : (3 : Int32) ≤ nI 3 := nI_le (a := 3) (by omega) (by omega)
      simp only [wX_dropReference_43, g3, nI_1, not_true, not_false_iff, false_implies, true_implies, true_and, and_true, forall_eq, implies_true]
      have j0 := j2.1
      refine ih (i + 1, L2, upd xk x 0, t2, q2) ⟨j1, cs_D_ex j2 (fun b _ => (cs_x_3 a_field x b).symm), fun b hb => ⟨?_, j3 b hb⟩⟩ (by (try dsimp only); omega)
      show upd xk x 0 b = a_kept b
      rw [cs_upd_n (fun e : b = x => hb (by rw [e]; exact x1))]; exact (i3 b hb).1
    · obtain ⟨L2, t2, q2⟩ := t
      obtain ⟨j1, j2, j3⟩ := hI
      try dsimp only at j1 j2 j3 ⊢
      have g3 : ¬ (3 : Int32) ≤ nI f := nI_ge (b := 3) hf (by omega)
      have v3 : vp_in (nI (3 * x + f)) 1008 := vp_in_nI (by omega) (by omega)
      have k3 : (nI (3 * x + f)).toNatClampNeg = 3 * x + f := nI_clamp (by omega)
      simp only [wX_dropReference_43, g3, cs_i3, v3, k3, not_true, not_false_iff, false_implies, true_implies, true_and, and_true, forall_eq, implies_true]
      refine cs_lower (ex' := cs_x a_field x (f + 1)) j2 rfl j1 (x5 f hf) (fun b _ => cs_x_s a_field hf b) (fun b => cs_x_le a_field x (f + 1) b) (fun t3 q3 L3 e1 e2 e3 e4 e5 => ?_)
      simp only [nI_1, not_true, not_false_iff, false_implies, true_implies, true_and, and_true, forall_eq, implies_true]
      exact ih2 (L3, t3, q3) ⟨e3, e1, fun b hb => (e5 b hb).trans (j3 b hb)⟩
theorem cs_setReg_ne {f_reached f_half f_marking : Int32} {a_register a_field a_kept a_seen a_queue a_forward a_trial a_turn a_partner a_partnerBack a_tally a_remembered a_shade : Nat → Int32} {post : SX → Prop} {c r : Nat} {w : Int32} (hc : c < 7) (h3 : c ≠ 3) (hr : r < 6) (K : post (f_reached, f_half, f_marking, upd a_register (6 * c + r) w, a_field, a_kept, a_seen, a_queue, a_forward, a_trial, a_turn, a_partner, a_partnerBack, a_tally, a_remembered, a_shade)) : wpX_setRegister post (f_reached, f_half, f_marking, a_register, a_field, a_kept, a_seen, a_queue, a_forward, a_trial, a_turn, a_partner, a_partnerBack, a_tally, a_remembered, a_shade) (nI c) (nI r) w := by
  have g : ¬ nI c = 3 := cs_ceq (k := 3) (by omega) (by omega) h3
  have v : vp_in (nI (6 * c + r)) 42 := vp_in_nI (by omega) (by omega)
  have k : (nI (6 * c + r)).toNatClampNeg = 6 * c + r := nI_clamp (by omega)
  simp only [wpX_setRegister, wX_setRegister_27, g, cs_i6, v, k, not_true, not_false_iff, false_implies, true_implies, true_and, and_true, forall_eq, implies_true]
  exact K
theorem cs_setReg_3 {f_reached f_half f_marking : Int32} {a_register a_field a_kept a_seen a_queue a_forward a_trial a_turn a_partner a_partnerBack a_tally a_remembered a_shade : Nat → Int32} {post : SX → Prop} {r : Nat} {w : Int32} (hr : r < 6) (W : cs_W 3 a_field a_kept) (ok : ∀ r, r < 6 → cs_ok 3 a_kept (a_register (18 + r))) (okw : cs_ok 3 a_kept w) (H : ∀ b, cs_sg 3 b → ¬ a_kept b = 0 → a_tally b = nI (cs_c a_register a_field a_kept b) ∧ (0 < cs_c a_register a_field a_kept b ∨ w = nI (1000 + b)))
    (K : ∀ xk' tl' q' L, cs_D (upd a_register (18 + r) w) a_field xk' tl' q' (fun _ => 0) L L → (∀ b, ¬ cs_sg 3 b → xk' b = a_kept b ∧ tl' b = a_tally b) → post (nI L, f_half, f_marking, upd a_register (18 + r) w, a_field, xk', a_seen, q', a_forward, a_trial, a_turn, a_partner, a_partnerBack, tl', a_remembered, a_shade)) : wpX_setRegister post (f_reached, f_half, f_marking, a_register, a_field, a_kept, a_seen, a_queue, a_forward, a_trial, a_turn, a_partner, a_partnerBack, a_tally, a_remembered, a_shade) 3 (nI r) w := by
  have e : (3 : Int32) * 6 + nI r = nI (18 + r) := cs_i6 3 r
  have v : vp_in (nI (18 + r)) 42 := vp_in_nI (by omega) (by omega)
  have k : (nI (18 + r)).toNatClampNeg = 18 + r := nI_clamp (by omega)
  simp only [wpX_setRegister, e, v, k, not_true, not_false_iff, false_implies, true_implies, true_and, and_true, forall_eq, implies_true]
  refine cs_addRef okw (fun tl1 t1 t2 => ?_)
  simp only [wX_setRegister_27, v, k, not_true, not_false_iff, false_implies, true_implies, true_and, and_true, forall_eq, implies_true]
  refine cs_dropRef (fun q => cs_D_reg W ok hr okw H t1) (ok r hr) (fun xk' tl' q' L d1 d2 => ?_)
  exact K xk' tl' q' L d1 (fun b hb => ⟨(d2 b hb).1, (d2 b hb).2.trans (t2 b hb)⟩)
/-- a register is set, in any collector -/
theorem cs_setReg_J {u : SX} {post : SX → Prop} {c r : Nat} {y w : Int32} {yr yf : Nat → Int32} (hc : c < 7) (hr : r < 6) (J : cs_JU c u yr yf) (hm : ∀ P, cs_I c P u.2.2.2.1 u.2.2.2.2.1 u.2.2.2.2.2.1 yr yf → cs_m P y w)
    (hq : ∀ b, cs_w 1000 w b → cs_Q 1000 u.2.2.2.1 (6 * c) 0 6 b ∨ ∃ a, cs_Q 1000 u.2.2.2.1 (6 * c) 0 6 a ∧ cs_E 1000 u.2.2.2.2.1 a b) (K : ∀ u', cs_FU c u u' → cs_JU c u' (upd yr r y) yf → post u') : wpX_setRegister post u (nI c) (nI r) w := by
  obtain ⟨f_reached, f_half, f_marking, a_register, a_field, a_kept, a_seen, a_queue, a_forward, a_trial, a_turn, a_partner, a_partnerBack, a_tally, a_remembered, a_shade⟩ := u
  try dsimp only at hm hq
  have J' : cs_J c f_half f_marking a_register a_field a_kept a_tally a_remembered a_shade yr yf := J
  by_cases e : c = 3
  · subst e
    obtain ⟨⟨P, I⟩, W, _, _, k3, _⟩ := J'
    have m := hm P I
    have okw := cs_m_ok I.2.2.1 m
    refine cs_setReg_3 hr W (fun r hr => cs_m_ok I.2.2.1 (I.2.2.2.1 r hr)) okw (fun b hb hk => ⟨(k3 rfl b hb hk).2, Or.inl (k3 rfl b hb hk).1⟩) (fun xk' tl' q' L d1 d2 => ?_)
    refine K _ ⟨fun _ => rfl, fun _ => rfl, fun j hj => cs_upd_n (by omega), fun _ _ => rfl, fun b hb => ⟨(d2 b hb).1, (d2 b hb).2, rfl, rfl⟩⟩ ?_
    have I' : cs_I 3 P (upd a_register (18 + r) w) a_field a_kept (upd yr r y) yf := cs_I_reg I (r := r) (fun j hj => cs_upd_n hj) (fun j hj e => cs_upd_n (by omega)) (by
      show cs_m P (upd yr r y r) (upd a_register (18 + r) w (18 + r))
      rw [cs_upd_s, cs_upd_s]; exact m)
    exact cs_J3_fin I' d1
  · refine cs_setReg_ne hc e hr (K _ ⟨fun _ => rfl, fun _ => rfl, fun j hj => cs_upd_n (by omega), fun _ _ => rfl, fun b hb => ⟨rfl, rfl, rfl, rfl⟩⟩ ?_)
    exact cs_J_reg hc e J' hr hm hq
