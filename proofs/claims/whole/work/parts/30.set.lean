/-! number, copy, get, put -/
theorem cs_young {post : Int32 → Prop} {w : Int32} (hw : cs_num w ∨ ∃ b, b < 336 ∧ w = nI (1000 + b)) (K1 : (∀ b, b < 336 → w = nI (1000 + b) → ¬ (192 ≤ b ∧ b < 208)) → post 0) (K2 : ∀ b, b < 336 → w = nI (1000 + b) → 192 ≤ b → b < 208 → post 1) : wpX_isYoung post w := by
  rcases hw with h | ⟨b, b1, b2⟩
  · have g : w - 1000 < 192 := cs_num_sub h (o := 192) (by omega)
    simp only [wpX_isYoung, g, not_true, not_false_iff, false_implies, true_implies, true_and, and_true, forall_eq, implies_true]
    exact K1 (fun b hb e => absurd (⟨by omega, e⟩ : cs_w 1000 w b) (cs_num_nw (by omega) (by omega) h))
  · have uq : ∀ b', b' < 336 → w = nI (1000 + b') → b' = b := fun b' h e => by
      have := cs_nIinj (by omega) (by omega) (e.symm.trans b2)
      omega
    by_cases z1 : b < 192
    · have g : nI b < 192 := nI_lt (b := 192) z1 (by omega)
      have K' := K1 (fun b' h e => by rw [uq b' h e]; omega)
      subst b2
      simp only [wpX_isYoung, cs_ref_sub, g, not_true, not_false_iff, false_implies, true_implies, true_and, and_true, forall_eq, implies_true]
      exact K'
    · have g : ¬ nI b < 192 := nI_nlt (b := 192) (by omega) (by omega)
      by_cases z2 : 208 ≤ b
      · have g2 : (208 : Int32) ≤ nI b := nI_le (a := 208) z2 (by omega)
        have K' := K1 (fun b' h e => by rw [uq b' h e]; omega)
        subst b2
        simp only [wpX_isYoung, cs_ref_sub, g, g2, not_true, not_false_iff, false_implies, true_implies, true_and, and_true, forall_eq, implies_true]
        exact K'
      · have g2 : ¬ (208 : Int32) ≤ nI b := nI_ge (b := 208) (by omega) (by omega)
        have K' := K2 b b1 b2 (by omega) (by omega)
        subst b2
        simp only [wpX_isYoung, cs_ref_sub, g, g2, not_true, not_false_iff, false_implies, true_implies, true_and, and_true, forall_eq, implies_true]
        exact K'
theorem cs_setFld_J {u : SX} {post : SX → Prop} {c r s f a b : Nat} {yr yf : Nat → Int32} (hc : c < 7) (hr : r < 6) (hs : s < 6) (hf : f < 3) (ha : a < 48) (hb : b < 336) (J : cs_JU c u yr yf) (hy : yr r = nI (10000 + a)) (hx : u.2.2.2.1 (6 * c + r) = nI (1000 + b))
    (K : ∀ u', cs_FU c u u' → cs_JU c u' yr (upd yf (3 * a + f) (yr s)) → post u') : wpX_setField post u (nI c) (nI b) (nI f) (u.2.2.2.1 (6 * c + s)) := by
  obtain ⟨f_reached, f_half, f_marking, a_register, a_field, a_kept, a_seen, a_queue, a_forward, a_trial, a_turn, a_partner, a_partnerBack, a_tally, a_remembered, a_shade⟩ := u
  dsimp only at hx ⊢
  have J' : cs_J c f_half f_marking a_register a_field a_kept a_tally a_remembered a_shade yr yf := J
  have J0 := J'
  obtain ⟨⟨P, I⟩, W, _, _, k3, k4, k5⟩ := J'
  obtain ⟨b', p1, p2, p3, p4⟩ := cs_I_at hc I hr ha hy
  have eb : b = b' := by
    have h1 := p3
    unfold cs_sg at h1
    have := cs_nIinj (by omega) (by omega) (hx.symm.trans p2)
    omega
  subst eb
  have okw := cs_m_ok I.2.2.1 (I.2.2.2.1 s hs)
  have oko := W b p3.1 p3.2 p4 f hf
  have v : vp_in (nI (3 * b + f)) 1008 := vp_in_nI (by omega) (by omega)
  have k : (nI (3 * b + f)).toNatClampNeg = 3 * b + f := nI_clamp (by omega)
  have inF : 144 * c ≤ 3 * b + f ∧ 3 * b + f < 144 * c + 144 := by
    unfold cs_sg at p3; omega
  by_cases e3 : c = 3
  · subst e3
    have g3 : nI 3 = 3 := rfl
    have n4 : ¬ (3 : Int32) = 4 := by decide
    have n5 : ¬ (3 : Int32) = 5 := by decide
    simp only [wpX_setField, g3, cs_i3, v, k, not_true, not_false_iff, false_implies, true_implies, true_and, and_true, forall_eq, implies_true]
    refine cs_addRef okw (fun tl1 t1 t2 => ?_)
    simp only [wX_setField_27, v, k, not_true, not_false_iff, false_implies, true_implies, true_and, and_true, forall_eq, implies_true]
    refine cs_dropRef (fun q => cs_D_fld W (fun r hr => cs_m_ok I.2.2.1 (I.2.2.2.1 r hr)) p3 p4 hf okw (k3 rfl) t1) oko (fun xk' tl' q' L d1 d2 => ?_)
    simp only [wX_setField_47, wX_setField_78, n4, n5, not_true, not_false_iff, false_implies, true_implies, true_and, and_true, forall_eq, implies_true]
    refine K _ ⟨fun _ => rfl, fun _ => rfl, fun _ _ => rfl, fun j hj => cs_upd_n (by omega), fun b hb => ⟨(d2 b hb).1, (d2 b hb).2.trans (t2 b hb), rfl, rfl⟩⟩ ?_
    have I' := cs_I_fld I p1 hf (xf' := upd a_field (3 * b + f) (a_register (6 * 3 + s))) (yf' := upd yf (3 * a + f) (yr s)) (fun j hj => cs_upd_n hj) (fun j hj => cs_upd_n hj) (by rw [cs_upd_s, cs_upd_s]; exact I.2.2.2.1 s hs)
    exact cs_J3_fin I' d1
  · have g3 : ¬ nI c = 3 := cs_ceq (k := 3) (by omega) (by omega) e3
    simp only [wpX_setField, wX_setField_27, g3, cs_i3, v, k, not_true, not_false_iff, false_implies, true_implies, true_and, and_true, forall_eq, implies_true]
    by_cases e4 : c = 4
    · subst e4
      have g4 : nI 4 = 4 := rfl
      have n5 : ¬ (4 : Int32) = 5 := by decide
      have fin : ∀ rm', (∀ x, x ≠ b → rm' x = a_remembered x) → (rm' b = 0 → a_remembered b = 0) → (208 ≤ b → b < 240 → ∀ b', b' < 1000 → a_register (6 * 4 + s) = nI (1000 + b') → 192 ≤ b' → b' < 208 → ¬ rm' b = 0) → post (f_reached, f_half, f_marking, a_register, upd a_field (3 * b + f) (a_register (6 * 4 + s)), a_kept, a_seen, a_queue, a_forward, a_trial, a_turn, a_partner, a_partnerBack, a_tally, rm', a_shade) := fun rm' q1 q2 q3 => by
        refine K (f_reached, f_half, f_marking, a_register, upd a_field (3 * b + f) (a_register (6 * 4 + s)), a_kept, a_seen, a_queue, a_forward, a_trial, a_turn, a_partner, a_partnerBack, a_tally, rm', a_shade) ⟨fun _ => rfl, fun _ => rfl, fun _ _ => rfl, fun j hj => cs_upd_n (by omega), fun x hx => ⟨rfl, rfl, q1 x (fun e => hx (by rw [e]; exact p3)), rfl⟩⟩ ?_
        exact cs_J_fld (by omega) e3 J0 hr hs hf ha hy (by omega) hx q1 q2 (fun _ => q3) (fun e => by omega) (fun e => by omega) (fun _ _ => rfl) (fun _ h => h) (fun x h1 h2 => absurd h2 h1)
      have keep : (208 ≤ b → b < 240 → ∀ b', b' < 1000 → a_register (6 * 4 + s) = nI (1000 + b') → 192 ≤ b' → b' < 208 → ¬ a_remembered b = 0) → post (f_reached, f_half, f_marking, a_register, upd a_field (3 * b + f) (a_register (6 * 4 + s)), a_kept, a_seen, a_queue, a_forward, a_trial, a_turn, a_partner, a_partnerBack, a_tally, a_remembered, a_shade) := fin a_remembered (fun _ _ => rfl) id
      simp only [wX_setField_47, g4, cs_ref_add, not_true, not_false_iff, false_implies, true_implies, true_and, and_true, forall_eq, implies_true]
      refine cs_young (Or.inr ⟨b, hb, rfl⟩) (fun y1 => ?_) (fun x x1 x2 x3 x4 => ?_)
      · simp only [not_true, not_false_iff, false_implies, true_implies, true_and, and_true, forall_eq, implies_true]
        refine cs_young (cs_ok_lt (c := 4) (by omega) okw) (fun y2 => ?_) (fun x x1 x2 x3 x4 => ?_)
        · simp only [wX_setField_78, n5, not_true, not_false_iff, false_implies, true_implies, true_and, and_true, forall_eq, implies_true]
          refine keep (fun _ _ b' h1 h2 h3 h4 => absurd ⟨h3, h4⟩ (y2 b' (by omega) h2))
        · have vb : vp_in (nI b) 336 := vp_in_nI hb (by omega)
          have kb : (nI b).toNatClampNeg = b := nI_clamp (by omega)
          simp only [wX_setField_78, n5, cs_n10, vb, kb, cs_nb1, not_true, not_false_iff, false_implies, true_implies, true_and, and_true, forall_eq, implies_true]
          exact fin (upd a_remembered b 1) (fun x hx => cs_upd_n hx) (fun h => absurd h (by rw [cs_upd_s]; exact cs_n10)) (fun _ _ _ _ _ _ _ => by rw [cs_upd_s]; exact cs_n10)
      · have : x = b := by
          have := cs_nIinj (by omega) (by omega) x2
          omega
        simp only [wX_setField_78, n5, cs_n10, not_true, not_false_iff, false_implies, true_implies, true_and, and_true, forall_eq, implies_true]
        refine keep (fun h1 _ => by omega)
    · have g4 : ¬ nI c = 4 := cs_ceq (k := 4) (by omega) (by omega) e4
      have fin : ∀ sh', (∀ x, ¬ cs_sg c x → sh' x = a_shade x) → (c = 5 → ¬ f_marking = 0 → ∀ x, cs_sg 5 x → sh' x = 0 ∨ sh' x = 1 ∨ sh' x = 2) → (c = 5 → ¬ f_marking = 0 → ∀ x, cs_w 1000 (a_field (3 * b + f)) x → ¬ sh' x = 0) → (∀ x, ¬ a_shade x = 0 → sh' x = a_shade x) → (∀ x, sh' x = 2 → a_shade x = 2) → (∀ x, ¬ sh' x = 0 → a_shade x = 0 → cs_w 1000 (a_field (3 * b + f)) x) → post (f_reached, f_half, f_marking, a_register, upd a_field (3 * b + f) (a_register (6 * c + s)), a_kept, a_seen, a_queue, a_forward, a_trial, a_turn, a_partner, a_partnerBack, a_tally, a_remembered, sh') := fun sh' q0 q1 q2 q3 q4 q5 => by
        refine K (f_reached, f_half, f_marking, a_register, upd a_field (3 * b + f) (a_register (6 * c + s)), a_kept, a_seen, a_queue, a_forward, a_trial, a_turn, a_partner, a_partnerBack, a_tally, a_remembered, sh') ⟨fun _ => rfl, fun _ => rfl, fun _ _ => rfl, fun j hj => cs_upd_n (by omega), fun x hx => ⟨rfl, rfl, rfl, q0 x hx⟩⟩ ?_
        exact cs_J_fld hc e3 J0 hr hs hf ha hy (by omega) hx (fun _ _ => rfl) id (fun e => absurd e e4) q1 q2 q3 q4 q5
      by_cases e5 : c = 5 ∧ ¬ f_marking = 0
      · obtain ⟨e5, hm⟩ := e5
        subst e5
        have g5 : nI 5 = 5 := rfl
        have n4 : ¬ (5 : Int32) = 4 := by decide
        have S := (k5 rfl hm).1
        simp only [wX_setField_47, wX_setField_78, g5, n4, hm, not_true, not_false_iff, false_implies, true_implies, true_and, and_true, forall_eq, implies_true]
        refine cs_shade (cs_ok_lt (c := 5) (by omega) oko) (fun hn => ?_) (fun x x1 x2 x3 => ?_) (fun x x1 x2 x3 => ?_)
        · refine fin a_shade (fun _ _ => rfl) (fun _ _ => S.2) (fun _ _ x hx => absurd hx (cs_num_nw (by omega) (by omega) hn)) (fun _ _ => rfl) (fun _ h => h) (fun _ h1 h2 => absurd h2 h1)
        · refine fin a_shade (fun _ _ => rfl) (fun _ _ => S.2) (fun _ _ y hy => ?_) (fun _ _ => rfl) (fun _ h => h) (fun _ h1 h2 => absurd h2 h1)
          have : y = x := cs_w_inj (B := 1000) (by omega) hy ⟨by omega, x2⟩
          rw [this]; exact x3
        · have sgx : cs_sg 5 x := by
            rcases oko with o | ⟨b', o1, o2, o3, o4⟩
            · exact absurd (⟨by omega, x2⟩ : cs_w 1000 _ x) (cs_num_nw (by omega) (by omega) o)
            · have e2 : x = b' := cs_w_inj (B := 1000) (w := a_field (3 * b + f)) (by omega) ⟨by omega, x2⟩ ⟨by omega, o4⟩
              rw [e2]; exact ⟨o1, o2⟩
          refine fin (upd a_shade x 1) (fun y hy => cs_upd_n (fun e => hy (by rw [e]; exact sgx))) (fun _ _ y hy => ?_) (fun _ _ y hy => ?_) (fun y hy => ?_) (fun y hy => ?_) (fun y h1 h2 => ?_)
          · by_cases e : y = x
            · rw [e, cs_upd_s]; exact Or.inr (Or.inl rfl)
            · rw [cs_upd_n e]; exact S.2 y hy
          · have : y = x := cs_w_inj (B := 1000) (by omega) hy ⟨by omega, x2⟩
            rw [this, cs_upd_s]; exact cs_n10
          · exact cs_upd_n (fun e => hy (e ▸ x3))
          · by_cases e : y = x
            · rw [e, cs_upd_s] at hy
              exact absurd hy (by decide)
            · rw [cs_upd_n e] at hy; exact hy
          · by_cases e : y = x
            · rw [e]; exact ⟨by omega, x2⟩
            · rw [cs_upd_n e] at h1; exact absurd h2 h1
      · have fin' := fin a_shade (fun _ _ => rfl) (fun h1 h2 => absurd ⟨h1, h2⟩ e5) (fun h1 h2 => absurd ⟨h1, h2⟩ e5) (fun _ _ => rfl) (fun _ h => h) (fun _ h1 h2 => absurd h2 h1)
        by_cases e6 : c = 5
        · have hm : f_marking = 0 := Classical.byContradiction fun z => e5 ⟨e6, z⟩
          subst e6 hm
          have g5 : nI 5 = 5 := rfl
          have n4 : ¬ (5 : Int32) = 4 := by decide
          simp only [wX_setField_47, wX_setField_78, g5, n4, not_true, not_false_iff, false_implies, true_implies, true_and, and_true, forall_eq, implies_true]
          exact fin'
        · have g5 : ¬ nI c = 5 := cs_ceq (k := 5) (by omega) (by omega) e6
          simp only [wX_setField_47, wX_setField_78, g4, g5, not_true, not_false_iff, false_implies, true_implies, true_and, and_true, forall_eq, implies_true]
          exact fin'
theorem cs_refers {f_reached f_half f_marking : Int32} {a_register a_field a_kept a_seen a_queue a_forward a_trial a_turn a_partner a_partnerBack a_tally a_remembered a_shade : Nat → Int32} {post : Int32 → Prop} {yr yf : Nat → Int32} {s : Nat} (hs : s < 6) (hJ : ∀ d, d < 7 → cs_J d f_half f_marking a_register a_field a_kept a_tally a_remembered a_shade yr yf) (hy : cs_yw (yr s)) (K1 : cs_num (yr s) → post 0) (K2 : ∀ a, a < 48 → yr s = nI (10000 + a) → post 1) : wpX_refersEverywhere post (f_reached, f_half, f_marking, a_register, a_field, a_kept, a_seen, a_queue, a_forward, a_trial, a_turn, a_partner, a_partnerBack, a_tally, a_remembered, a_shade) (nI s) := by
  simp only [wpX_refersEverywhere]
  rcases hy with h | ⟨a, ha, e⟩
  · refine ⟨1, ?_⟩
    have g : ¬ (7 : Int32) ≤ 0 := by decide
    simp only [wX_refersEverywhere_2, g, not_true, not_false_iff, false_implies, true_implies, true_and, and_true, forall_eq, implies_true]
    refine cs_cellOf_num (c := 0) (by omega) hs (by rw [cs_J_num (c := 0) (by omega) (hJ 0 (by omega)) hs h]; exact h) ?_
    simp only [not_true, not_false_iff, false_implies, true_implies, true_and, and_true, forall_eq, implies_true]
    exact K1 h
  · refine pk_loop (σ := Unit) (fun n c _ => wX_refersEverywhere_2 post (nI s) f_reached f_half f_marking a_register a_field a_kept a_seen a_queue a_forward a_trial a_turn a_partner a_partnerBack a_tally a_remembered a_shade n (nI c)) (fun _ _ => True) 7 0 () (by omega) trivial (fun n t _ => ?_) (fun n c t hc _ ih => ?_)
    · have g : (7 : Int32) ≤ nI 7 := nI_le (a := 7) (by omega) (by omega)
      simp only [wX_refersEverywhere_2, g, not_true, not_false_iff, false_implies, true_implies, true_and, and_true, forall_eq, implies_true]
      exact K2 a ha e
    · have g : ¬ (7 : Int32) ≤ nI c := nI_ge (b := 7) hc (by omega)
      obtain ⟨b, b1, b2, b3⟩ := cs_J_at hc (hJ c hc) hs ha e
      unfold cs_sg at b2
      have g4 : ¬ nI b = -1 := cs_nIm1 (by omega)
      simp only [wX_refersEverywhere_2, g, not_true, not_false_iff, false_implies, true_implies, true_and, and_true, forall_eq, implies_true]
      refine cs_cellOf_ref hc hs (by omega) b1 ?_
      simp only [g4, nI_1, not_true, not_false_iff, false_implies, true_implies, true_and, and_true, forall_eq, implies_true]
      exact ih () trivial
