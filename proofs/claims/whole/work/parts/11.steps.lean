/-! indices -/
theorem cs_i3 (b f : Nat) : nI b * 3 + nI f = nI (3 * b + f) := by
  rw [show (3 : Int32) = nI 3 from rfl, pk_mul, nI_add, Nat.mul_comm]
theorem cs_i6 (c r : Nat) : nI c * 6 + nI r = nI (6 * c + r) := by
  rw [show (6 : Int32) = nI 6 from rfl, pk_mul, nI_add, Nat.mul_comm]
theorem cs_i48 (c : Nat) : nI c * 48 = nI (48 * c) := by
  rw [show (48 : Int32) = nI 48 from rfl, pk_mul, Nat.mul_comm]
theorem cs_i48s (c : Nat) : (nI c + 1) * 48 = nI (48 * c + 48) := by
  rw [nI_1, cs_i48, Nat.mul_add]
theorem cs_nb0 : vp_nar .boolean 0 = 0 := by decide
theorem cs_nb1 : vp_nar .boolean 1 = 1 := by decide
theorem cs_n10 : ¬ (1 : Int32) = 0 := by decide
theorem cs_nIm1 {z : Nat} (hz : z < 2 ^ 31) : ¬ nI z = -1 := fun e => by
  have h : (nI z).toInt = (-1 : Int32).toInt := by rw [e]
  rw [nI_toInt hz] at h
  have e : (-1 : Int32).toInt = -1 := by decide
  omega
/-- a number less REFERENCE is below every cell -/
theorem cs_num_sub {w : Int32} (h : cs_num w) {o : Nat} (ho : o < 1000) : w - 1000 < nI o := by
  rw [Int32.lt_iff_toInt_lt, nI_toInt (by omega), Int32.toInt_sub]
  have e : (1000 : Int32).toInt = 1000 := by decide
  rw [e]
  unfold cs_num at h
  have : (w.toInt - 1000).bmod (2 ^ 32) = w.toInt - 1000 := Int.bmod_eq_of_le (by omega) (by omega)
  rw [this]; omega
/-! steps of the queue -/
section
variable {c : Nat} {Z S0 : Nat → Prop} {s q xf : Nat → Int32} {L : Nat}
theorem cs_F_S0 {S1 : Nat → Prop} (h : cs_F c Z S0 s q L) (h1 : ∀ b, S0 b → S1 b) (h2 : ∀ b, S1 b → ¬ s b = 0) : cs_F c Z S1 s q L := by
  obtain ⟨a1, a2, a3, a4, a5⟩ := h
  exact ⟨a1, a2, a3, h2, fun b hb hs => (a5 b hb hs).imp (h1 b) id⟩
theorem cs_F_mark (h : cs_F c Z S0 s q L) (x : Nat) : cs_F c Z (fun b => S0 b ∨ b = x) (upd s x 1) q L := by
  obtain ⟨a1, a2, a3, a4, a5⟩ := h
  have up : ∀ b, ¬ s b = 0 → ¬ upd s x 1 b = 0 := fun b hb => by
    by_cases e : b = x
    · rw [e, cs_upd_s]; exact cs_n10
    · rw [cs_upd_n e]; exact hb
  refine ⟨a1, fun i hi => ?_, a3, fun b hb => ?_, fun b hb hs => ?_⟩
  · obtain ⟨b, b1, b2, b3⟩ := a2 i hi
    exact ⟨b, b1, b2, up b b3⟩
  · rcases hb with hb | hb
    · exact up b (a4 b hb)
    · rw [hb, cs_upd_s]; exact cs_n10
  · by_cases e : b = x
    · exact Or.inl (Or.inr e)
    · rw [cs_upd_n e] at hs
      exact (a5 b hb hs).imp Or.inl id
theorem cs_F_nil {s : Nat → Int32} (h : ∀ b, cs_sg c b → s b = 0) : cs_F c Z (fun _ => False) s q 0 :=
  ⟨by omega, fun i hi => by omega, fun i j hi => by omega, fun b hb => hb.elim, fun b hb hs => absurd (h b hb) hs⟩
theorem cs_F_q (hc : c < 7) (hZ : cs_Z c Z xf) (h : cs_F c Z S0 s q L) {i : Nat} (hi : i < L) : ∃ b, Z b ∧ q i = nI b ∧ cs_sg c b ∧ b < 336 := by
  obtain ⟨b, b1, b2, _⟩ := h.2.1 i hi
  have g := (hZ b b1).1
  have g2 := g
  unfold cs_sg at g2
  exact ⟨b, b1, b2, g, by omega⟩
theorem cs_Z_w (hc : c < 7) (hZ : cs_Z c Z xf) {w : Int32} (hw : cs_num w ∨ ∃ b, Z b ∧ w = nI (1000 + b)) : (w < 1000 ∧ cs_num w) ∨ ∃ b, Z b ∧ w = nI (1000 + b) ∧ cs_sg c b ∧ b < 336 := by
  rcases hw with hw | ⟨b, b1, b2⟩
  · exact Or.inl ⟨cs_num_lt hw, hw⟩
  · have g := (hZ b b1).1
    have g2 := g
    unfold cs_sg at g2
    exact Or.inr ⟨b, b1, b2, g, by omega⟩
/-- the sum over the queue is the sum over the set -/
theorem cs_sum_q (hc : c < 7) (hZ : cs_Z c Z xf) (h : cs_F c Z (fun _ => False) s q L) (hs : ∀ b, cs_sg c b → (¬ s b = 0 ↔ Z b)) (g : Nat → Int32) : cs_s (fun _ => True) (fun i => g (q i).toNatClampNeg) L = cs_s (fun i => Z (48 * c + i)) (fun i => g (48 * c + i)) 48 := by
  refine cs_s_bij (Q := fun i k => i < L ∧ k < 48 ∧ q i = nI (48 * c + k)) (fun a a' b h1 h2 => h.2.2.1 a a' h1.1 h2.1 (h1.2.2.trans h2.2.2.symm)) (fun a b b' h1 h2 => ?_) (fun a b h1 => ?_) L _ (fun a ha _ => ?_) (fun k hk hZk => ?_)
  · have := cs_nIinj (by omega) (by omega) (h1.2.2.symm.trans h2.2.2)
    omega
  · try dsimp only
    rw [h1.2.2, nI_clamp (by omega)]
  · obtain ⟨b, b1, b2, b3, b4⟩ := cs_F_q hc hZ h ha
    unfold cs_sg at b3
    have e : 48 * c + (b - 48 * c) = b := by omega
    exact ⟨b - 48 * c, by omega, by rw [e]; exact b1, ha, by omega, by rw [e]; exact b2⟩
  · have hb : cs_sg c (48 * c + k) := ⟨by omega, by omega⟩
    rcases h.2.2.2.2 _ hb ((hs _ hb).mpr hZk) with z | ⟨i, i1, i2⟩
    · exact z.elim
    · exact ⟨i, i1, trivial, i1, hk, i2⟩
end
/-! a word is moved -/
section
variable {c o oe d de L0 : Nat} {Z : Nat → Prop} {F0 K0 F K fw q : Nat → Int32} {sr tq : Nat → Nat} {n f L : Nat}
theorem cs_Ev_out (hZ : ∀ b, Z b → cs_sg c b ∧ ¬ K0 b = 0) {b : Nat} (hb : Z b) (ho : ¬ (o ≤ b ∧ b < oe)) : cs_l (cs_mv c o oe L0 L K0 sr tq) (nI (1000 + b)) (nI (1000 + b)) :=
  Or.inr ⟨b, b, Or.inl ⟨ho, rfl, (hZ b hb).2, (hZ b hb).1⟩, rfl, rfl⟩
theorem cs_Ev_old (R : cs_rg c o oe d de) (h : cs_Ev c o oe d de L0 Z F0 K0 F K fw q sr tq n f L) {b : Nat} (b1 : o ≤ b) (b2 : b < oe) (hf : ¬ fw b = -1) : ∃ t, fw b = nI t ∧ t < 336 ∧ cs_l (cs_mv c o oe L0 L K0 sr tq) (nI (1000 + b)) (nI (1000 + t)) := by
  obtain ⟨h0, h1, h2, h3, h4, h5, h6, h7, h8, h9⟩ := h
  obtain ⟨r0, r1, r2, r3, r4, r5, r6, r7, r8⟩ := R
  rcases h4 b b1 b2 with y | ⟨i, i1, i2, i3, i4⟩
  · exact absurd y.1 hf
  · have a := h1 i i2
    exact ⟨tq i, i4, by omega, Or.inr ⟨b, tq i, Or.inr ⟨i, i1, i2, i3, rfl⟩, rfl, rfl⟩⟩
theorem cs_Ev_fresh {b t : Nat} (h0 : L0 ≤ L) : cs_l (cs_mv c o oe L0 (L + 1) K0 (cs_un sr L b) (cs_un tq L t)) (nI (1000 + b)) (nI (1000 + t)) :=
  Or.inr ⟨b, t, Or.inr ⟨L, h0, by omega, cs_un_s _ _ _, cs_un_s _ _ _⟩, rfl, rfl⟩
theorem cs_mv_mono {b t : Nat} {x x' : Nat} (m : cs_mv c o oe L0 L K0 sr tq x x') : cs_mv c o oe L0 (L + 1) K0 (cs_un sr L b) (cs_un tq L t) x x' := by
  rcases m with m | ⟨i, i1, i2, i3, i4⟩
  · exact Or.inl m
  · exact Or.inr ⟨i, i1, by omega, by rw [cs_un_n (by omega)]; exact i3, by rw [cs_un_n (by omega)]; exact i4⟩
/-- the moving begins: cells of d .. de - 1 that are kept and remembered wait in the queue -/
theorem cs_Ev_begin (R : cs_rg c o oe d de) {tq : Nat → Nat} (hf : ∀ b, o ≤ b → b < oe → fw b = -1) (hq : ∀ i, i < L0 → q i = nI (tq i) ∧ Z (tq i) ∧ d ≤ tq i ∧ tq i < de ∧ ¬ K0 (tq i) = 0) (hi : ∀ i j, i < L0 → j < L0 → tq i = tq j → i = j) :
    cs_Ev c o oe d de L0 Z F0 K0 F0 K0 fw q tq tq 0 0 L0 := by
  refine ⟨⟨Nat.le_refl _, by omega, Or.inr rfl⟩, fun i i1 => ?_, hi, fun i j i1 i2 => by omega, fun b b1 b2 => Or.inl ⟨hf b b1 b2, fun i i1 i2 => by omega⟩, fun i i1 i2 => by omega, fun b _ => rfl, fun i g _ _ hs => by omega, fun i g _ _ _ => rfl, fun b g _ _ => rfl⟩
  obtain ⟨a1, a2, a3, a4, a5⟩ := hq i i1
  exact ⟨a1, a2, a3, a4, fun _ => ⟨rfl, a5⟩, fun y => by omega⟩
end
/-! one grey cell becomes black -/
def cs_bl (xf sh : Nat → Int32) (x f : Nat) (sh' : Nat → Int32) : Prop :=
  sh' x = 2 ∧ (∀ b, b ≠ x → sh' b = sh b ∨ (sh b = 0 ∧ sh' b = 1 ∧ ∃ g, g < f ∧ cs_w 1000 (xf (3 * x + g)) b)) ∧ (∀ g b, g < f → cs_w 1000 (xf (3 * x + g)) b → ¬ sh' b = 0)
section
variable {xr xf xk sh sh' : Nat → Int32} {x f : Nat}
theorem cs_bl_0 : cs_bl xf sh x 0 (upd sh x 2) :=
  ⟨cs_upd_s _ _ _, fun b hb => Or.inl (cs_upd_n hb), fun g b hg => by omega⟩
theorem cs_bl_num (h : cs_bl xf sh x f sh') (hw : cs_num (xf (3 * x + f))) : cs_bl xf sh x (f + 1) sh' := by
  obtain ⟨h1, h2, h3⟩ := h
  refine ⟨h1, fun b hb => (h2 b hb).imp id (fun ⟨a1, a2, g, a3, a4⟩ => ⟨a1, a2, g, by omega, a4⟩), fun g b hg hw' => ?_⟩
  by_cases e : g = f
  · rw [e] at hw'; exact absurd hw' (cs_num_nw (by omega) (by omega) hw)
  · exact h3 g b (by omega) hw'
theorem cs_bl_seen (h : cs_bl xf sh x f sh') {b0 : Nat} (hb0 : b0 < 1000) (hw : xf (3 * x + f) = nI (1000 + b0)) (hs : ¬ sh' b0 = 0) : cs_bl xf sh x (f + 1) sh' := by
  obtain ⟨h1, h2, h3⟩ := h
  refine ⟨h1, fun b hb => (h2 b hb).imp id (fun ⟨a1, a2, g, a3, a4⟩ => ⟨a1, a2, g, by omega, a4⟩), fun g b hg hw' => ?_⟩
  by_cases e : g = f
  · rw [e] at hw'
    have : b = b0 := cs_w_inj (B := 1000) (by omega) hw' ⟨hb0, hw⟩
    rw [this]; exact hs
  · exact h3 g b (by omega) hw'
theorem cs_bl_new (h : cs_bl xf sh x f sh') {b0 : Nat} (hb0 : b0 < 1000) (hw : xf (3 * x + f) = nI (1000 + b0)) (hs : sh' b0 = 0) : cs_bl xf sh x (f + 1) (upd sh' b0 1) := by
  obtain ⟨h1, h2, h3⟩ := h
  have two : ¬ (2 : Int32) = 0 := by decide
  have nx : b0 ≠ x := fun e => by rw [e, h1] at hs; exact two hs
  refine ⟨by rw [cs_upd_n (fun e => nx e.symm)]; exact h1, fun b hb => ?_, fun g b hg hw' => ?_⟩
  · by_cases e : b = b0
    · rw [e, cs_upd_s]
      rcases h2 b0 nx with y | ⟨y1, y2, _⟩
      · exact Or.inr ⟨by rw [← y]; exact hs, rfl, f, by omega, hb0, hw⟩
      · rw [y2] at hs; exact absurd hs cs_n10
    · rw [cs_upd_n e]
      exact (h2 b hb).imp id (fun ⟨a1, a2, g, a3, a4⟩ => ⟨a1, a2, g, by omega, a4⟩)
  · by_cases e : b = b0
    · rw [e, cs_upd_s]; exact cs_n10
    · rw [cs_upd_n e]
      by_cases eg : g = f
      · rw [eg] at hw'
        exact absurd (cs_w_inj (B := 1000) (by omega) hw' ⟨hb0, hw⟩) e
      · exact h3 g b (by omega) hw'
/-- what comes of it -/
theorem cs_bl_end (h : cs_bl xf sh x 3 sh') (W : cs_W 5 xf xk) (S : cs_S5 xk sh) (hx : cs_sg 5 x) (hg : sh x = 1) : cs_S5 xk sh' ∧ (∀ xr, cs_TC xr xf xk sh → cs_TC xr xf xk sh') ∧ cs_n (fun i => ¬ sh' (240 + i) = 2) 48 < cs_n (fun i => ¬ sh (240 + i) = 2) 48 ∧
    (∀ V : Nat → Prop, (∀ b, cs_sg 5 b → ¬ sh b = 0 → V b) → (∀ a b, V a → cs_E 1000 xf a b → V b) → ∀ b, cs_sg 5 b → ¬ sh' b = 0 → V b) ∧ (∀ b, ¬ cs_sg 5 b → sh' b = sh b) := by
  obtain ⟨h1, h2, h3⟩ := h
  have kx : ¬ xk x = 0 := S.1 x hx (by rw [hg]; exact cs_n10)
  have two : ¬ (2 : Int32) = 0 := by decide
  have t12 : ¬ (1 : Int32) = 2 := by decide
  have tgt : ∀ g b, g < 3 → cs_w 1000 (xf (3 * x + g)) b → cs_sg 5 b ∧ ¬ xk b = 0 := fun g b hg' hw => by
    rcases W x hx.1 hx.2 kx g hg' with o | ⟨b', o1, o2, o3, o4⟩
    · exact absurd hw (cs_num_nw (by omega) (by omega) o)
    · have e : b = b' := cs_w_inj (B := 1000) (by omega) hw ⟨by omega, o4⟩
      rw [e]; exact ⟨⟨o1, o2⟩, o3⟩
  have up : ∀ b, ¬ sh b = 0 → ¬ sh' b = 0 := fun b hb => by
    by_cases e : b = x
    · rw [e, h1]; exact two
    · rcases h2 b e with y | ⟨y1, _⟩
      · rw [y]; exact hb
      · exact absurd y1 hb
  refine ⟨⟨fun b hb hs => ?_, fun b hb => ?_⟩, fun xr T => cs_TC_black T (x := x) hg (by rw [h1]; exact two) (fun b ⟨g, hg', hw⟩ => ⟨(tgt g b hg' hw).1, h3 g b hg' hw⟩) up (fun b hb hs => ?_), ?_, fun V v1 v2 b hb hs => ?_, fun b hb => ?_⟩
  · by_cases e : b = x
    · rw [e]; exact kx
    · rcases h2 b e with y | ⟨y1, y2, g, y3, y4⟩
      · exact S.1 b hb (by rw [← y]; exact hs)
      · exact (tgt g b y3 y4).2
  · by_cases e : b = x
    · rw [e]; exact Or.inr (Or.inr h1)
    · rcases h2 b e with y | ⟨y1, y2, _⟩
      · rw [y]; exact S.2 b hb
      · exact Or.inr (Or.inl y2)
  · rcases h2 b hb with y | ⟨y1, y2, _⟩
    · rw [← y]; exact hs
    · rw [y2] at hs; exact absurd hs t12
  · unfold cs_sg at hx
    have ex : 240 + (x - 240) = x := by omega
    refine cs_n_lt (P := fun i => ¬ sh' (240 + i) = 2) (Q := fun i => ¬ sh (240 + i) = 2) (a := x - 240) (by rw [ex]; exact fun z => z h1) (by rw [ex, hg]; exact t12) (fun k hk hp hq => hp ?_) (by omega)
    by_cases e : 240 + k = x
    · rw [e]; exact h1
    · rcases h2 _ e with y | ⟨y1, y2, _⟩
      · rw [y]; exact hq
      · rw [y1] at hq; exact absurd hq.symm two
  · by_cases e : b = x
    · rw [e]; exact v1 x hx (by rw [hg]; exact cs_n10)
    · rcases h2 b e with y | ⟨y1, y2, g, y3, y4⟩
      · exact v1 b hb (by rw [← y]; exact hs)
      · exact v2 x b (v1 x hx (by rw [hg]; exact cs_n10)) ⟨g, y3, y4⟩
  · by_cases e : b = x
    · exact absurd (e ▸ hx) hb
    · rcases h2 b e with y | ⟨y1, y2, g, y3, y4⟩
      · exact y
      · exact absurd (tgt g b y3 y4).1 hb
end
/-! walking with the way back in the fields: begin -/
theorem cs_SW_begin {c : Nat} {F0 s0 ta : Nat → Int32} {Z : Nat → Prop} (hc : c < 7) (hZ : cs_Z c Z F0) {x : Nat} (hx : Z x) (hs : s0 x = 0) : cs_SW c F0 s0 Z F0 (upd s0 x 1) (upd ta x 0) (fun _ => 0) [] x 0 := by
  have g := (hZ x hx).1
  unfold cs_sg at g
  refine ⟨rfl, trivial, List.nodup_cons.mpr ⟨List.not_mem_nil, List.nodup_nil⟩, fun p hp => ?_, Nat.zero_le _, fun b hb => ?_, fun b hb h0 => ?_, fun p g' b q1 q2 q3 q4 => ?_, ?_⟩
  · rcases List.mem_cons.mp hp with e | e
    · rw [e, cs_upd_s, cs_upd_s]; exact ⟨hx, cs_n10, hs, rfl⟩
    · exact absurd e List.not_mem_nil
  · by_cases e : b = x
    · rw [e, cs_upd_s]; exact cs_n10
    · rw [cs_upd_n e]; exact hb
  · by_cases e : b = x
    · rw [e]; exact hx
    · rw [cs_upd_n e] at hb; exact absurd h0 hb
  · by_cases e : p = x
    · exact absurd (q4 (by rw [e]; exact List.mem_cons_self)) (Nat.not_lt_zero _)
    · rw [cs_upd_n e] at q1; exact absurd q2 q1
  · have k := cs_n_lt (P := fun i => upd s0 x 1 (48 * c + i) = 0) (Q := fun _ => True) (a := x - 48 * c) (fun z => by
      rw [show 48 * c + (x - 48 * c) = x by omega, cs_upd_s] at z
      exact cs_n10 z) trivial (N := 48) (fun _ _ _ => trivial) (by omega)
    have k2 := cs_n_le (fun _ => True) 48
    show 5 * _ + (4 - 0 + 0) + 0 ≤ 240
    omega
/-- closed, with the roots, and no more: what can be come to -/
theorem cs_seen_V {c : Nat} {P : Nat → Nat → Prop} {xr xf xk yr yf s : Nat → Int32} (hc : c < 7) (I : cs_I c P xr xf xk yr yf) (h1 : ∀ b, cs_Q 1000 xr (6 * c) 0 6 b → ¬ s b = 0) (h2 : ∀ p g b, cs_sg c p → ¬ s p = 0 → g < 3 → b < 1000 → xf (3 * p + g) = nI (1000 + b) → ¬ s b = 0) (h3 : ∀ b, cs_sg c b → ¬ s b = 0 → cs_V 1000 xr (6 * c) 0 6 xf b) :
    ∀ b, cs_sg c b → (¬ s b = 0 ↔ cs_V 1000 xr (6 * c) 0 6 xf b) := fun b hb => ⟨h3 b hb, fun hv => by
  refine cs_R_i (fun b => ¬ s b = 0) h1 (fun a b' hR ha ⟨g, hg, hw⟩ => ?_) hv
  have k := cs_X_in hc I (p := 0) (q := 6) (by omega) hR
  exact h2 a g b' ⟨k.1, k.2.1⟩ ha hg hw.1 hw.2⟩
