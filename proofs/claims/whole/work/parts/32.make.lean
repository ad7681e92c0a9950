/-! make -/
def cs_roomU (c : Nat) (u : SX) : Prop := ∃ lo hi b, cs_re c u.2.1 lo hi ∧ lo ≤ b ∧ b < hi ∧ u.2.2.2.2.2.1 b = 0
theorem cs_roomU_fr {c d : Nat} {u u' : SX} (hd : d < 7) (hdc : d ≠ c) (F : cs_FU c u u') (h : cs_roomU d u) : cs_roomU d u' := by
  obtain ⟨f1, f2, f3, f4, f5⟩ := F
  obtain ⟨lo, hi, b, r, b1, b2, b3⟩ := h
  have rin := cs_re_in hd r
  refine ⟨lo, hi, b, ⟨fun e => ?_, r.2.1, r.2.2⟩, b1, b2, ?_⟩
  · have := r.1 e
    exact ⟨by rw [f1 (by omega)]; exact this.1, this.2⟩
  · rw [(f5 b (fun z => by unfold cs_sg at z; omega)).1]; exact b3
theorem cs_re_ex {c : Nat} {h m : Int32} {xr xf xk tl rm sh yr yf : Nat → Int32} (J : cs_J c h m xr xf xk tl rm sh yr yf) : ∃ lo hi, cs_re c h lo hi := by
  by_cases e1 : c = 1
  · obtain ⟨H, a1, a2, _⟩ := J.2.2.1 e1
    exact ⟨H, H + 24, fun _ => ⟨a1, a2, rfl⟩, fun e => by omega, fun e => absurd e1 e⟩
  · by_cases e4 : c = 4
    · exact ⟨192, 208, fun e => absurd e e1, fun _ => ⟨rfl, rfl⟩, fun _ e => absurd e4 e⟩
    · exact ⟨48 * c, 48 * c + 48, fun e => absurd e e1, fun e => absurd e e4, fun _ _ => ⟨rfl, rfl⟩⟩
theorem cs_room_X {c : Nat} {h : Int32} {xr xf xk yr yf : Nat → Int32} (hc : c < 7) (hY : cs_n (cs_V 10000 yr 0 0 6 yf) 48 < 24) (X : cs_X c xr xf xk yr yf) (h4 : c = 4 → ∀ b, 192 ≤ b → b < 208 → xk b = 0) {lo hi : Nat} (R : cs_re c h lo hi) : ∃ b, lo ≤ b ∧ b < hi ∧ xk b = 0 := by
  have cnt := cs_X_n hc X
  have rin := cs_re_in hc R
  by_cases e4 : c = 4
  · have := R.2.1 e4
    exact ⟨192, by omega, by omega, h4 e4 192 (by omega) (by omega)⟩
  · have len : 24 ≤ hi - lo := by
      by_cases e1 : c = 1
      · have := R.1 e1; omega
      · have := R.2.2 e1 e4; omega
    refine Classical.byContradiction fun hn => ?_
    have k := cs_q_le (A := fun i => ¬ xk (48 * c + i) = 0) (q := fun i => lo - 48 * c + i) (L := 24) (m := 48) (fun i hi' => ⟨by omega, fun z => hn ⟨lo + i, by omega, by omega, by
      rw [show 48 * c + (lo - 48 * c + i) = lo + i by omega] at z; exact z⟩⟩) (fun i j _ _ e => by omega)
    omega
theorem cs_mk63 {post : Int32 → SX → Prop} {c : Nat} {u : SX} (hc : c < 7) (R : cs_roomU c u) (K : post 1 u) : wX_makeRoom_63 post (nI c) u.1 u.2.1 u.2.2.1 u.2.2.2.1 u.2.2.2.2.1 u.2.2.2.2.2.1 u.2.2.2.2.2.2.1 u.2.2.2.2.2.2.2.1 u.2.2.2.2.2.2.2.2.1 u.2.2.2.2.2.2.2.2.2.1 u.2.2.2.2.2.2.2.2.2.2.1 u.2.2.2.2.2.2.2.2.2.2.2.1 u.2.2.2.2.2.2.2.2.2.2.2.2.1 u.2.2.2.2.2.2.2.2.2.2.2.2.2.1 u.2.2.2.2.2.2.2.2.2.2.2.2.2.2.1 u.2.2.2.2.2.2.2.2.2.2.2.2.2.2.2 := by
  obtain ⟨f_reached, f_half, f_marking, a_register, a_field, a_kept, a_seen, a_queue, a_forward, a_trial, a_turn, a_partner, a_partnerBack, a_tally, a_remembered, a_shade⟩ := u
  obtain ⟨lo, hi, b, r, b1, b2, b3⟩ := R
  dsimp only at r b3 ⊢
  have rin := cs_re_in hc r
  simp only [wX_makeRoom_63]
  refine cs_freeCell hc r (fun h => absurd b3 (h b b1 b2)) (fun b' h1 h2 h3 h4 => ?_)
  have g : ¬ nI b' = -1 := cs_nIm1 (by omega)
  simp only [g, not_true, not_false_iff, false_implies, true_implies, true_and, and_true, forall_eq, implies_true]
  exact K
theorem cs_mk9 {post : Int32 → SX → Prop} {c : Nat} {u : SX} {yr yf : Nat → Int32} (hc : c < 7) (hY : cs_n (cs_V 10000 yr 0 0 6 yf) 48 < 24) (J : cs_JU c u yr yf) (K : ∀ u', cs_FU c u u' → cs_JU c u' yr yf → cs_roomU c u' → post 1 u') : wX_makeRoom_9 post (nI c) u.1 u.2.1 u.2.2.1 u.2.2.2.1 u.2.2.2.2.1 u.2.2.2.2.2.1 u.2.2.2.2.2.2.1 u.2.2.2.2.2.2.2.1 u.2.2.2.2.2.2.2.2.1 u.2.2.2.2.2.2.2.2.2.1 u.2.2.2.2.2.2.2.2.2.2.1 u.2.2.2.2.2.2.2.2.2.2.2.1 u.2.2.2.2.2.2.2.2.2.2.2.2.1 u.2.2.2.2.2.2.2.2.2.2.2.2.2.1 u.2.2.2.2.2.2.2.2.2.2.2.2.2.2.1 u.2.2.2.2.2.2.2.2.2.2.2.2.2.2.2 := by
  obtain ⟨f_reached, f_half, f_marking, a_register, a_field, a_kept, a_seen, a_queue, a_forward, a_trial, a_turn, a_partner, a_partnerBack, a_tally, a_remembered, a_shade⟩ := u
  dsimp only
  have J' : cs_J c f_half f_marking a_register a_field a_kept a_tally a_remembered a_shade yr yf := J
  obtain ⟨lo, hi, R⟩ := cs_re_ex J'
  have rin := cs_re_in hc R
  simp only [wX_makeRoom_9]
  have run : wX_makeRoom_58 post (nI c) f_reached f_half f_marking a_register a_field a_kept a_seen a_queue a_forward a_trial a_turn a_partner a_partnerBack a_tally a_remembered a_shade := by
    simp only [wX_makeRoom_58]
    refine cs_run hc (by omega) J (fun u' F' J'' X' N' => ?_)
    have rm : cs_roomU c u' := by
      obtain ⟨lo, hi, R'⟩ := cs_re_ex (show cs_J c u'.2.1 u'.2.2.1 u'.2.2.2.1 u'.2.2.2.2.1 u'.2.2.2.2.2.1 u'.2.2.2.2.2.2.2.2.2.2.2.2.2.1 u'.2.2.2.2.2.2.2.2.2.2.2.2.2.2.1 u'.2.2.2.2.2.2.2.2.2.2.2.2.2.2.2 yr yf from J'')
      obtain ⟨b, b1, b2, b3⟩ := cs_room_X hc hY X' N' R'
      exact ⟨lo, hi, b, R', b1, b2, b3⟩
    have h := cs_mk63 hc rm (K u' F' J'' rm)
    obtain ⟨f_reached', f_half', f_marking', a_register', a_field', a_kept', a_seen', a_queue', a_forward', a_trial', a_turn', a_partner', a_partnerBack', a_tally', a_remembered', a_shade'⟩ := u'
    exact h
  refine cs_freeCell hc R (fun full => ?_) (fun b b1 b2 b3 b4 => ?_)
  · by_cases e4 : c = 4
    · subst e4
      have g4 : nI 4 = 4 := rfl
      have run' : wX_makeRoom_58 post 4 f_reached f_half f_marking a_register a_field a_kept a_seen a_queue a_forward a_trial a_turn a_partner a_partnerBack a_tally a_remembered a_shade := run
      simp only [g4, not_true, not_false_iff, false_implies, true_implies, true_and, and_true, forall_eq, implies_true]
      refine cs_freeCells (p := 208) (q := 240) (by omega) (by omega) ?_
      rw [show (240 - 208 : Nat) = 32 from rfl]
      by_cases g : nI (cs_n (fun i => a_kept (208 + i) = 0) 32) < 16
      · simp only [g, not_true, not_false_iff, false_implies, true_implies, true_and, and_true, forall_eq, implies_true]
        exact run'
      · simp only [g, not_true, not_false_iff, false_implies, true_implies, true_and, and_true, forall_eq, implies_true]
        have l32 := cs_n_le (fun i => a_kept (208 + i) = 0) 32
        have ge16 : 16 ≤ cs_n (fun i => a_kept (208 + i) = 0) 32 := Nat.le_of_not_lt fun z => g (nI_lt (b := 16) z (by omega))
        refine cs_age J' (Nat.le_trans (cs_n_le _ 16) ge16) (fun u' F' J'' _ N' => ?_)
        have rm : cs_roomU 4 u' := ⟨192, 208, 192, ⟨fun e => by omega, fun _ => ⟨rfl, rfl⟩, fun _ e => absurd rfl e⟩, by omega, by omega, N' 192 (by omega) (by omega)⟩
        have h := cs_mk63 (c := 4) (by omega) rm (K u' F' J'' rm)
        obtain ⟨f_reached', f_half', f_marking', a_register', a_field', a_kept', a_seen', a_queue', a_forward', a_trial', a_turn', a_partner', a_partnerBack', a_tally', a_remembered', a_shade'⟩ := u'
        exact h
    · have g4 : ¬ nI c = 4 := cs_ceq (k := 4) (by omega) (by omega) e4
      simp only [g4, not_true, not_false_iff, false_implies, true_implies, true_and, and_true, forall_eq, implies_true]
      exact run
  · have g : ¬ nI b = -1 := cs_nIm1 (by omega)
    simp only [g, not_true, not_false_iff, false_implies, true_implies, true_and, and_true, forall_eq, implies_true]
    exact K (f_reached, f_half, f_marking, a_register, a_field, a_kept, a_seen, a_queue, a_forward, a_trial, a_turn, a_partner, a_partnerBack, a_tally, a_remembered, a_shade) cs_Fr_rfl J ⟨lo, hi, b, R, b1, b2, b3⟩
theorem cs_mk {post : Int32 → SX → Prop} {c : Nat} {u : SX} {yr yf : Nat → Int32} (hc : c < 7) (hY : cs_n (cs_V 10000 yr 0 0 6 yf) 48 < 24) (J : cs_JU c u yr yf) (K : ∀ u', cs_FU c u u' → cs_JU c u' yr yf → cs_roomU c u' → post 1 u') : wpX_makeRoom post u (nI c) := by
  obtain ⟨f_reached, f_half, f_marking, a_register, a_field, a_kept, a_seen, a_queue, a_forward, a_trial, a_turn, a_partner, a_partnerBack, a_tally, a_remembered, a_shade⟩ := u
  by_cases e5 : c = 5
  · subst e5
    have g5 : nI 5 = 5 := rfl
    simp only [wpX_makeRoom, g5, not_true, not_false_iff, false_implies, true_implies, true_and, and_true, forall_eq, implies_true]
    refine cs_pace J (fun u' F' J'' => ?_)
    have h := cs_mk9 (post := post) (c := 5) (by omega) hY J'' (fun u2 F2 J2 R2 => K u2 (cs_FU_tr F' F2) J2 R2)
    obtain ⟨f_reached', f_half', f_marking', a_register', a_field', a_kept', a_seen', a_queue', a_forward', a_trial', a_turn', a_partner', a_partnerBack', a_tally', a_remembered', a_shade'⟩ := u'
    exact h
  · have g5 : ¬ nI c = 5 := cs_ceq (k := 5) (by omega) (by omega) e5
    simp only [wpX_makeRoom, g5, not_true, not_false_iff, false_implies, true_implies, true_and, and_true, forall_eq, implies_true]
    exact cs_mk9 (u := (f_reached, f_half, f_marking, a_register, a_field, a_kept, a_seen, a_queue, a_forward, a_trial, a_turn, a_partner, a_partnerBack, a_tally, a_remembered, a_shade)) hc hY J K
/-- a cell is taken and a register refers to it -/
theorem cs_mkTake {post : SX → Prop} {c r a0 : Nat} {u : SX} {yr yf yf' : Nat → Int32} (hc : c < 7) (hr : r < 6) (ha : a0 < 48) (hn : ¬ cs_V 10000 yr 0 0 6 yf a0) (y3 : ∀ f, f < 3 → yf' (3 * a0 + f) = 0) (y4 : ∀ j, j < 3 * a0 ∨ 3 * a0 + 3 ≤ j → yf' j = yf j) (J : cs_JU c u yr yf) (Rm : cs_roomU c u)
    (K : ∀ u', cs_FU c u u' → cs_JU c u' (upd yr r (nI (10000 + a0))) yf' → post u') : wpX_freeCell (fun b => wpX_takeCell (fun u' => wpX_setRegister post u' (nI c) (nI r) (1000 + b)) u b) u (nI c) := by
  obtain ⟨f_reached, f_half, f_marking, a_register, a_field, a_kept, a_seen, a_queue, a_forward, a_trial, a_turn, a_partner, a_partnerBack, a_tally, a_remembered, a_shade⟩ := u
  have J' : cs_J c f_half f_marking a_register a_field a_kept a_tally a_remembered a_shade yr yf := J
  obtain ⟨lo, hi, b9, R, q1, q2, q3⟩ := Rm
  dsimp only at R q3
  have rin := cs_re_in hc R
  refine cs_freeCell hc R (fun h => absurd q3 (h b9 q1 q2)) (fun b0 b1 b2 b3 b4 => ?_)
  refine cs_takeCell (by omega) (fun xf' sv x3 x4 s1 s2 => ?_)
  rw [cs_ref_add]
  have sg : cs_sg c b0 := ⟨by omega, by omega⟩
  have x4' : ∀ b f, b ≠ b0 → f < 3 → xf' (3 * b + f) = a_field (3 * b + f) := fun b f hb hf => x4 _ (by omega)
  have off : ∀ b, ¬ cs_sg c b → b ≠ b0 := fun b hb e => hb (by rw [e]; exact sg)
  have kk : ¬ upd a_kept b0 1 b0 = 0 := by rw [cs_upd_s]; exact cs_n10
  have ss : ¬ f_marking = 0 → upd a_shade b0 sv b0 = 2 := fun hm => by rw [cs_upd_s]; exact s2 hm
  by_cases e3 : c = 3
  · subst e3
    obtain ⟨⟨P, I⟩, W, ok, okw, H⟩ := cs_new3 (xf' := xf') (xk' := upd a_kept b0 1) (tl1 := upd a_tally b0 0) (yf' := yf') J' hr ha hn sg b3 y3 y4 x3 x4' (by rw [cs_upd_s]; exact cs_n10) (fun b hb => cs_upd_n hb) (cs_upd_s _ _ _) (fun b hb => cs_upd_n hb)
    refine cs_setReg_3 hr W ok okw H (fun xk' tl' q' L d1 d2 => ?_)
    refine K _ ⟨fun _ => rfl, fun _ => rfl, fun j hj => cs_upd_n (by omega), fun j hj => x4 j (by omega), fun b hb => ⟨(d2 b hb).1.trans (cs_upd_n (off b hb)), (d2 b hb).2.trans (cs_upd_n (off b hb)), cs_upd_n (off b hb), cs_upd_n (off b hb)⟩⟩ ?_
    exact cs_J3_fin I d1
  · refine cs_setReg_ne hc e3 hr ?_
    refine K _ ⟨fun _ => rfl, fun _ => rfl, fun j hj => cs_upd_n (by omega), fun j hj => x4 j (by omega), fun b hb => ⟨cs_upd_n (off b hb), cs_upd_n (off b hb), cs_upd_n (off b hb), cs_upd_n (off b hb)⟩⟩ ?_
    exact cs_J_new hc e3 J' hr ha hn sg b3 (fun e H hH hl => by
      obtain ⟨r1, r2, r3⟩ := R.1 e
      have : H = lo := cs_nIinj (by omega) (by omega) (hH.symm.trans r1)
      omega) (fun e b h1 h2 => by
      have := R.2.2 (by omega) (by omega)
      exact b4 b (by omega) h2) (fun e => by have := R.2.1 e; omega) y3 y4 rfl x3 x4' kk (fun b hb => cs_upd_n hb) (fun b hb => cs_upd_n hb) ss (fun b hb => cs_upd_n hb)
def cs_z (yf : Nat → Int32) (a : Nat) : Nat → Nat → Int32
  | 0 => yf
  | f + 1 => upd (cs_z yf a f) (3 * a + f) 0
theorem cs_z_in (yf : Nat → Int32) (a : Nat) : ∀ n f, f < n → cs_z yf a n (3 * a + f) = 0
  | 0, f, h => by omega
  | n + 1, f, h => by
    show upd (cs_z yf a n) (3 * a + n) 0 (3 * a + f) = 0
    by_cases e : f = n
    · rw [e, cs_upd_s]
    · rw [cs_upd_n (by omega)]; exact cs_z_in yf a n f (by omega)
theorem cs_z_out (yf : Nat → Int32) (a : Nat) : ∀ n j, ¬ (3 * a ≤ j ∧ j < 3 * a + n) → cs_z yf a n j = yf j
  | 0, j, h => rfl
  | n + 1, j, h => by
    show upd (cs_z yf a n) (3 * a + n) 0 j = yf j
    rw [cs_upd_n (by omega)]; exact cs_z_out yf a n j (by omega)
/-- the reference makes a cell -/
theorem cs_ymake {post : Int32 → SY → Prop} {yr yf : Nat → Int32} {r a0 : Nat} (hY : cs_Y yr yf) (hr : r < 6) (hn : cs_n (cs_V 10000 yr 0 0 6 yf) 48 < 24) (ha : a0 < 48) (h0 : ¬ cs_V 10000 yr 0 0 6 yf a0) (h1 : ∀ a, a < a0 → cs_V 10000 yr 0 0 6 yf a) (hY' : cs_Y (upd yr r (nI (10000 + a0))) (cs_z yf a0 3))
    (K : post (nI (cs_n (cs_V 10000 (upd yr r (nI (10000 + a0))) 0 0 6 (cs_z yf a0 3)) 48)) (upd yr r (nI (10000 + a0)), cs_z yf a0 3)) : wpY_make post (yr, yf) (nI r) := by
  have vr : vp_in (nI r) 6 := vp_in_nI hr (by omega)
  have kr : (nI r).toNatClampNeg = r := nI_clamp (by omega)
  simp only [wpY_make]
  refine cs_yReg (fun h => absurd rfl (h r hr)) (fun _ _ _ => ?_)
  simp only [cs_n10, not_true, not_false_iff, false_implies, true_implies, true_and, and_true, forall_eq, implies_true]
  refine cs_all hY (fun M m1 m2 => ?_)
  refine cs_ones m1 ?_
  have cn : cs_n (cs_B M) 48 = cs_n (cs_V 10000 yr 0 0 6 yf) 48 := cs_n_eq (fun a _ => m2 a)
  have g : nI (cs_n (cs_B M) 48) < 24 := nI_lt (b := 24) (by omega) (by omega)
  simp only [g, not_true, not_false_iff, false_implies, true_implies, true_and, and_true, forall_eq, implies_true]
  refine pk_loop (σ := Unit) (fun n i _ => wY_make_34 post (nI r) (lN M) yr yf n (nI i)) (fun _ _ => True) a0 0 () (by omega) trivial (fun n _ _ => ?_) (fun n i _ hi _ ih => ?_)
  · have z' : ¬ ((lN M >>> ((nI a0).toInt64 &&& 63)) &&& 1) = 1 := fun y => h0 ((m2 a0).mp ((cs_bit m1 ha).mp y))
    simp only [wY_make_34, z', not_true, not_false_iff, false_implies, true_implies, true_and, and_true, forall_eq, implies_true]
    refine pk_loop (σ := Nat → Int32) (fun n f t => wY_make_54 post (nI r) (nI a0) n (nI f) yr t) (fun f t => t = cs_z yf a0 f) 3 0 yf (by omega) rfl (fun n t hI => ?_) (fun n f t hf hI ih => ?_)
    · have g3 : (3 : Int32) ≤ nI 3 := nI_le (a := 3) (by omega) (by omega)
      have e : (10000 : Int32) + nI a0 = nI (10000 + a0) := nI_add 10000 a0
      simp only [wY_make_54, g3, vr, kr, e, hI, not_true, not_false_iff, false_implies, true_implies, true_and, and_true, forall_eq, implies_true]
      exact cs_ycount (post := fun r' => post r' (upd yr r (nI (10000 + a0)), cs_z yf a0 3)) hY' K
    · have g3 : ¬ (3 : Int32) ≤ nI f := nI_ge (b := 3) hf (by omega)
      have va : vp_in (nI (3 * a0 + f)) 144 := vp_in_nI (by omega) (by omega)
      have ka : (nI (3 * a0 + f)).toNatClampNeg = 3 * a0 + f := nI_clamp (by omega)
      simp only [wY_make_54, g3, cs_y3, va, ka, nI_1, not_true, not_false_iff, false_implies, true_implies, true_and, and_true, forall_eq, implies_true]
      exact ih _ (by rw [hI]; rfl)
  · have z' := (cs_bit (N := M) (k := i) m1 (by omega)).mpr ((m2 i).mpr (h1 i hi))
    simp only [wY_make_34, z', nI_1, not_true, not_false_iff, false_implies, true_implies, true_and, and_true, forall_eq, implies_true]
    exact ih () trivial
theorem i_vc_make {k : Nat} {u : SX} {v : SY} (I : i_Rel k u v) (hk : k + 4 ≤ 2048) (v1 : Int32) : wpX_make (fun r u' => wpY_make (fun r' v' => r' = r ∧ i_Rel (k + 4) u' v') v v1) u v1 := by
  obtain ⟨f_reached, f_half, f_marking, a_register, a_field, a_kept, a_seen, a_queue, a_forward, a_trial, a_turn, a_partner, a_partnerBack, a_tally, a_remembered, a_shade⟩ := u
  obtain ⟨yr, yf⟩ := v
  obtain ⟨hJ, hY⟩ := I
  dsimp only at hY hJ
  simp only [wpX_make]
  refine cs_isReg (fun hn => ?_) (fun r hr er => ?_)
  · simp only [wpY_make, not_true, not_false_iff, false_implies, true_implies, true_and, and_true, forall_eq, implies_true]
    refine cs_yReg (fun _ => ?_) (fun r hr e => absurd e (hn r hr))
    simp only [not_true, not_false_iff, false_implies, true_implies, true_and, and_true, forall_eq, implies_true]
    first | exact ⟨hJ, hY⟩ | exact ⟨rfl, hJ, hY⟩
  · subst er
    simp only [cs_n10, not_true, not_false_iff, false_implies, true_implies, true_and, and_true, forall_eq, implies_true]
    have J0 : cs_J 0 f_half f_marking a_register a_field a_kept a_tally a_remembered a_shade yr yf := hJ 0 (by omega)
    obtain ⟨P, IP⟩ := J0.1
    refine cs_trace (c := 0) (p := 0) (q := 6) (by omega) (by omega) (by omega) IP (fun L s q a1 a2 a3 => ?_)
    have hL := a1.1
    by_cases hlt : L < 24
    · have g : nI L < 24 := nI_lt (b := 24) hlt (by omega)
      simp only [g, not_true, not_false_iff, false_implies, true_implies, true_and, and_true, forall_eq, implies_true]
      have hn : cs_n (cs_V 10000 yr 0 0 6 yf) 48 < 24 := by omega
      obtain ⟨a0, ⟨ha, h0⟩, h1⟩ := pk_least (fun a => a < 48 ∧ ¬ cs_V 10000 yr 0 0 6 yf a) (by
        obtain ⟨a, b1, b2⟩ := cs_n_ex (P := cs_V 10000 yr 0 0 6 yf) (N := 48) (by omega)
        exact ⟨a, b1, b2⟩)
      have h1' : ∀ a, a < a0 → cs_V 10000 yr 0 0 6 yf a := fun a h => Classical.byContradiction fun z => h1 a h ⟨by omega, z⟩
      have y3 : ∀ f, f < 3 → cs_z yf a0 3 (3 * a0 + f) = 0 := fun f hf => cs_z_in yf a0 3 f hf
      have y4 : ∀ j, j < 3 * a0 ∨ 3 * a0 + 3 ≤ j → cs_z yf a0 3 j = yf j := fun j hj => cs_z_out yf a0 3 j (by omega)
      have hY' : cs_Y (upd yr r (nI (10000 + a0))) (cs_z yf a0 3) := cs_Y_new hY hn ha (fun j hj => cs_upd_n hj) (cs_upd_s _ _ _) y3 y4
      refine pk_loop (σ := SX) (fun n i u => wX_make_35 (fun r_1 u' => wpY_make (fun r' v' => r' = r_1 ∧ i_Rel (k + 4) u' v') (yr, yf) (nI r)) (nI r) n 1 (nI i) u.1 u.2.1 u.2.2.1 u.2.2.2.1 u.2.2.2.2.1 u.2.2.2.2.2.1 u.2.2.2.2.2.2.1 u.2.2.2.2.2.2.2.1 u.2.2.2.2.2.2.2.2.1 u.2.2.2.2.2.2.2.2.2.1 u.2.2.2.2.2.2.2.2.2.2.1 u.2.2.2.2.2.2.2.2.2.2.2.1 u.2.2.2.2.2.2.2.2.2.2.2.2.1 u.2.2.2.2.2.2.2.2.2.2.2.2.2.1 u.2.2.2.2.2.2.2.2.2.2.2.2.2.2.1 u.2.2.2.2.2.2.2.2.2.2.2.2.2.2.2) (fun i u => (∀ d, d < 7 → cs_JU d u yr yf) ∧ (∀ d, d < i → d < 7 → cs_roomU d u)) 7 0 (nI L, f_half, f_marking, a_register, a_field, a_kept, s, q, a_forward, a_trial, a_turn, a_partner, a_partnerBack, a_tally, a_remembered, a_shade) (by omega) ⟨hJ, fun d h => absurd h (Nat.not_lt_zero _)⟩ (fun n u hI => ?_) (fun n i u hi hI ih => ?_)
      · have LI0 : cs_LI yr yf (upd yr r (nI (10000 + a0))) (cs_z yf a0 3) 0 u := ⟨fun d h => absurd h (Nat.not_lt_zero _), fun d _ h => hI.1 d h⟩
        have lp := pk_loop (σ := SX) (fun n i u => wX_make_82 (fun r_1 u' => wpY_make (fun r' v' => r' = r_1 ∧ i_Rel (k + 4) u' v') (yr, yf) (nI r)) (nI r) n (nI i) u.1 u.2.1 u.2.2.1 u.2.2.2.1 u.2.2.2.2.1 u.2.2.2.2.2.1 u.2.2.2.2.2.2.1 u.2.2.2.2.2.2.2.1 u.2.2.2.2.2.2.2.2.1 u.2.2.2.2.2.2.2.2.2.1 u.2.2.2.2.2.2.2.2.2.2.1 u.2.2.2.2.2.2.2.2.2.2.2.1 u.2.2.2.2.2.2.2.2.2.2.2.2.1 u.2.2.2.2.2.2.2.2.2.2.2.2.2.1 u.2.2.2.2.2.2.2.2.2.2.2.2.2.2.1 u.2.2.2.2.2.2.2.2.2.2.2.2.2.2.2) (fun i u => cs_LI yr yf (upd yr r (nI (10000 + a0))) (cs_z yf a0 3) i u ∧ (∀ d, i ≤ d → d < 7 → cs_roomU d u)) 7 0 u (by omega) ⟨LI0, fun d _ h => hI.2 d h h⟩ (fun n u hI2 => ?_) (fun n i u hi hI2 ih => ?_)
        · obtain ⟨f_reached, f_half, f_marking, a_register, a_field, a_kept, a_seen, a_queue, a_forward, a_trial, a_turn, a_partner, a_partnerBack, a_tally, a_remembered, a_shade⟩ := u
          have g7 : (7 : Int32) ≤ nI 7 := nI_le (a := 7) (by omega) (by omega)
          simp only [wX_make_35, g7, cs_n10, not_true, not_false_iff, false_implies, true_implies, true_and, and_true, forall_eq, implies_true]
          exact lp
        · obtain ⟨f_reached, f_half, f_marking, a_register, a_field, a_kept, a_seen, a_queue, a_forward, a_trial, a_turn, a_partner, a_partnerBack, a_tally, a_remembered, a_shade⟩ := u
          have g7 : (7 : Int32) ≤ nI 7 := nI_le (a := 7) (by omega) (by omega)
          simp only [wX_make_82, g7, not_true, not_false_iff, false_implies, true_implies, true_and, and_true, forall_eq, implies_true]
          have J0 : cs_J 0 f_half f_marking a_register a_field a_kept a_tally a_remembered a_shade (upd yr r (nI (10000 + a0))) (cs_z yf a0 3) := hI2.1.1 0 (by omega)
          obtain ⟨P, IP⟩ := J0.1
          refine cs_trace (c := 0) (p := 0) (q := 6) (by omega) (by omega) (by omega) IP (fun L2 s2 q2 c1 c2 c3 => ?_)
          simp only []
          refine cs_ymake hY hr hn ha h0 h1' hY' ⟨by rw [c3], hI2.1.1, hY'⟩
        · obtain ⟨f_reached, f_half, f_marking, a_register, a_field, a_kept, a_seen, a_queue, a_forward, a_trial, a_turn, a_partner, a_partnerBack, a_tally, a_remembered, a_shade⟩ := u
          have g7 : ¬ (7 : Int32) ≤ nI i := nI_ge (b := 7) hi (by omega)
          simp only [wX_make_82, g7, not_true, not_false_iff, false_implies, true_implies, true_and, and_true, forall_eq, implies_true]
          refine cs_mkTake hi hr ha h0 y3 y4 (hI2.1.2 i (Nat.le_refl _) hi) (hI2.2 i (Nat.le_refl _) hi) (fun u' F' J' => ?_)
          have ih' := ih u' ⟨cs_LI_s hI2.1 F' J', fun d h1 h2 => cs_roomU_fr h2 (by omega) F' (hI2.2 d (by omega) h2)⟩
          obtain ⟨f_reached', f_half', f_marking', a_register', a_field', a_kept', a_seen', a_queue', a_forward', a_trial', a_turn', a_partner', a_partnerBack', a_tally', a_remembered', a_shade'⟩ := u'
          simp only [nI_1, not_true, not_false_iff, false_implies, true_implies, true_and, and_true, forall_eq, implies_true]
          exact ih'
      · obtain ⟨f_reached, f_half, f_marking, a_register, a_field, a_kept, a_seen, a_queue, a_forward, a_trial, a_turn, a_partner, a_partnerBack, a_tally, a_remembered, a_shade⟩ := u
        have g7 : ¬ (7 : Int32) ≤ nI i := nI_ge (b := 7) hi (by omega)
        simp only [wX_make_35, g7, cs_n10, not_true, not_false_iff, false_implies, true_implies, true_and, and_true, forall_eq, implies_true]
        refine cs_mk (yr := yr) (yf := yf) hi hn (hI.1 i hi) (fun u' F' J' R' => ?_)
        have ih' := ih u' ⟨cs_rel_upd hI.1 F' J', fun d h1 h2 => by
          by_cases e : d = i
          · rw [e]; exact R'
          · exact cs_roomU_fr h2 e F' (hI.2 d (by omega) h2)⟩
        obtain ⟨f_reached', f_half', f_marking', a_register', a_field', a_kept', a_seen', a_queue', a_forward', a_trial', a_turn', a_partner', a_partnerBack', a_tally', a_remembered', a_shade'⟩ := u'
        simp only [cs_n10, nI_1, not_true, not_false_iff, false_implies, true_implies, true_and, and_true, forall_eq, implies_true]
        exact ih'
    · have g : ¬ nI L < 24 := nI_nlt (b := 24) (by omega) (by omega)
      simp only [g, wpY_make, not_true, not_false_iff, false_implies, true_implies, true_and, and_true, forall_eq, implies_true]
      refine cs_yReg (fun h => absurd rfl (h r hr)) (fun _ _ _ => ?_)
      simp only [cs_n10, not_true, not_false_iff, false_implies, true_implies, true_and, and_true, forall_eq, implies_true]
      refine cs_all hY (fun M m1 m2 => ?_)
      refine cs_ones m1 ?_
      have cn : cs_n (cs_B M) 48 = L := by rw [a3]; exact cs_n_eq (fun a _ => m2 a)
      rw [cn]
      simp only [g, not_true, not_false_iff, false_implies, true_implies, true_and, and_true, forall_eq, implies_true]
      first | exact ⟨hJ, hY⟩ | exact ⟨rfl, hJ, hY⟩
