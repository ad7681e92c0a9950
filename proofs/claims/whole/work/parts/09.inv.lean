/-! what holds of one collector between calls -/
def cs_K1 (h : Int32) (xk : Nat → Int32) : Prop := ∃ H, h = nI H ∧ (H = 48 ∨ H = 72) ∧ ∀ b, cs_sg 1 b → ¬ xk b = 0 → H ≤ b ∧ b < H + 24
def cs_K2 (xk : Nat → Int32) : Prop := ∀ b b', 96 ≤ b' → b' < b → b < 144 → ¬ xk b = 0 → ¬ xk b' = 0
def cs_K3 (xr xf xk tl : Nat → Int32) : Prop := ∀ b, cs_sg 3 b → ¬ xk b = 0 → 0 < cs_c xr xf xk b ∧ tl b = nI (cs_c xr xf xk b)
def cs_K4 (xf xk rm : Nat → Int32) : Prop := ∀ b f b', 208 ≤ b → b < 240 → ¬ xk b = 0 → rm b = 0 → f < 3 → xf (3 * b + f) = nI (1000 + b') → b' < 1000 → ¬ (192 ≤ b' ∧ b' < 208)
def cs_K5 (m : Int32) (xr xf xk sh : Nat → Int32) : Prop := ¬ m = 0 → cs_S5 xk sh ∧ cs_TC xr xf xk sh
def cs_J (c : Nat) (h m : Int32) (xr xf xk tl rm sh yr yf : Nat → Int32) : Prop :=
  (∃ P, cs_I c P xr xf xk yr yf) ∧ cs_W c xf xk ∧ (c = 1 → cs_K1 h xk) ∧ (c = 2 → cs_K2 xk) ∧ (c = 3 → cs_K3 xr xf xk tl) ∧ (c = 4 → cs_K4 xf xk rm) ∧ (c = 5 → cs_K5 m xr xf xk sh)
/-- exact: no cell is kept that can't be come to -/
def cs_X (c : Nat) (xr xf xk yr yf : Nat → Int32) : Prop := ∃ P, cs_I c P xr xf xk yr yf ∧ ∀ b, cs_sg c b → ¬ xk b = 0 → ∃ a, cs_V 10000 yr 0 0 6 yf a ∧ P a b
def cs_Fr (c : Nat) (h m : Int32) (xr xf xk tl rm sh : Nat → Int32) (h' m' : Int32) (xr' xf' xk' tl' rm' sh' : Nat → Int32) : Prop :=
  (c ≠ 1 → h' = h) ∧ (c ≠ 5 → m' = m) ∧ (∀ j, ¬ (6 * c ≤ j ∧ j < 6 * c + 6) → xr' j = xr j) ∧ (∀ j, ¬ (144 * c ≤ j ∧ j < 144 * c + 144) → xf' j = xf j) ∧
  (∀ b, ¬ cs_sg c b → xk' b = xk b ∧ tl' b = tl b ∧ rm' b = rm b ∧ sh' b = sh b)
theorem cs_c_cg {xr xf xk xr' xf' xk' : Nat → Int32} (h1 : ∀ r, r < 6 → xr' (18 + r) = xr (18 + r)) (h2 : ∀ j, 432 ≤ j → j < 576 → xf' j = xf j) (h3 : ∀ b, cs_sg 3 b → (xk' b = 0 ↔ xk b = 0)) (b : Nat) : cs_c xr' xf' xk' b = cs_c xr xf xk b := by
  unfold cs_c
  have e1 := cs_n_eq (P := fun r => xr' (18 + r) = nI (1000 + b)) (Q := fun r => xr (18 + r) = nI (1000 + b)) (N := 6) (fun r hr => by rw [h1 r hr])
  have e2 := cs_n_eq (P := fun j => ¬ xk' (144 + j / 3) = 0 ∧ xf' (432 + j) = nI (1000 + b)) (Q := fun j => ¬ xk (144 + j / 3) = 0 ∧ xf (432 + j) = nI (1000 + b)) (N := 144) (fun j hj => by
    rw [h2 (432 + j) (by omega) (by omega), h3 (144 + j / 3) ⟨by omega, by omega⟩])
  omega
theorem cs_TC_cg {xr xf xk sh xr' xf' xk' sh' : Nat → Int32} (h : cs_TC xr xf xk sh) (h1 : ∀ r, r < 6 → xr' (30 + r) = xr (30 + r)) (h2 : ∀ j, 720 ≤ j → j < 864 → xf' j = xf j) (h3 : ∀ b, cs_sg 5 b → (xk' b = xk b)) (h4 : ∀ b, cs_sg 5 b → sh' b = sh b) : cs_TC xr' xf' xk' sh' := by
  have eE : ∀ a b, cs_sg 5 a → (cs_E 1000 xf' a b ↔ cs_E 1000 xf a b) := fun a b ha => by
    unfold cs_sg at ha
    constructor
    · intro ⟨f, hf, hw⟩
      exact ⟨f, hf, by rw [h2 _ (by omega) (by omega)] at hw; exact hw⟩
    · intro ⟨f, hf, hw⟩
      exact ⟨f, hf, by rw [h2 _ (by omega) (by omega)]; exact hw⟩
  have eQ : ∀ b, cs_Q 1000 xr' 30 0 6 b → cs_Q 1000 xr 30 0 6 b := fun b ⟨r, a1, a2, a3⟩ => ⟨r, a1, a2, by rw [h1 r a2] at a3; exact a3⟩
  intro T t1 t2
  obtain ⟨g1, g2⟩ := h T (fun b hb hs => t1 b hb (by rw [h4 b hb]; exact hs)) (fun a b ha hk hT hs hE => t2 a b ha (by rw [h3 a ha]; exact hk) hT (by rw [h4 a ha]; exact hs) ((eE a b ha).mpr hE))
  exact ⟨fun b hb => g1 b (eQ b hb), fun a b ha hk hs hE => g2 a b ha (by rw [← h3 a ha]; exact hk) (by rw [← h4 a ha]; exact hs) ((eE a b ha).mp hE)⟩
theorem cs_J_fr {c d : Nat} {h m h' m' : Int32} {xr xf xk tl rm sh xr' xf' xk' tl' rm' sh' yr yf : Nat → Int32} (hd : d ≠ c) (F : cs_Fr c h m xr xf xk tl rm sh h' m' xr' xf' xk' tl' rm' sh') (J : cs_J d h m xr xf xk tl rm sh yr yf) : cs_J d h' m' xr' xf' xk' tl' rm' sh' yr yf := by
  obtain ⟨f1, f2, f3, f4, f5⟩ := F
  obtain ⟨⟨P, I⟩, W, k1, k2, k3, k4, k5⟩ := J
  have er : ∀ r, r < 6 → xr' (6 * d + r) = xr (6 * d + r) := fun r hr => f3 _ (by omega)
  have ef : ∀ j, 144 * d ≤ j → j < 144 * d + 144 → xf' j = xf j := fun j j1 j2 => f4 _ (by omega)
  have es : ∀ b, cs_sg d b → ¬ cs_sg c b := fun b hb hc => by unfold cs_sg at hb hc; omega
  have ek : ∀ b, 48 * d ≤ b → b < 48 * d + 48 → xk' b = xk b := fun b b1 b2 => (f5 b (es b ⟨b1, b2⟩)).1
  refine ⟨⟨P, cs_I_cg I er ef ek⟩, cs_W_cg W ef ek, fun e => ?_, fun e => ?_, fun e => ?_, fun e => ?_, fun e => ?_⟩
  · obtain ⟨H, a1, a2, a3⟩ := k1 e
    exact ⟨H, by rw [f1 (by omega)]; exact a1, a2, fun b hb hk => a3 b hb (by
      subst e
      rw [← (f5 b (es b hb)).1]; exact hk)⟩
  · intro b b' h1 h2 h3 h4
    subst e
    rw [ek b' (by omega) (by omega)]
    rw [ek b (by omega) (by omega)] at h4
    exact k2 rfl b b' h1 h2 h3 h4
  · subst e
    intro b hb hk
    rw [ek b hb.1 hb.2] at hk
    have e2 := cs_c_cg (xr := xr) (xf := xf) (xk := xk) (xr' := xr') (xf' := xf') (xk' := xk') (fun r hr => er r hr) (fun j j1 j2 => ef j (by omega) (by omega)) (fun b hb => by rw [ek b hb.1 hb.2]) b
    rw [e2, (f5 b (es b hb)).2.1]
    exact k3 rfl b hb hk
  · subst e
    intro b f b' h1 h2 h3 h4 h5 h6 h7
    rw [ek b (by omega) (by omega)] at h3
    rw [(f5 b (es b ⟨by omega, by omega⟩)).2.2.1] at h4
    rw [ef _ (by omega) (by omega)] at h6
    exact k4 rfl b f b' h1 h2 h3 h4 h5 h6 h7
  · subst e
    intro hm
    rw [f2 (by omega)] at hm
    obtain ⟨a1, a2⟩ := k5 rfl hm
    refine ⟨⟨fun b hb hs => ?_, fun b hb => ?_⟩, cs_TC_cg a2 (fun r hr => er r hr) (fun j j1 j2 => ef j (by omega) (by omega)) (fun b hb => ek b hb.1 hb.2) (fun b hb => (f5 b (es b hb)).2.2.2)⟩
    · rw [(f5 b (es b hb)).2.2.2] at hs
      rw [ek b hb.1 hb.2]; exact a1.1 b hb hs
    · rw [(f5 b (es b hb)).2.2.2]; exact a1.2 b hb
theorem cs_X_n {c : Nat} {xr xf xk yr yf : Nat → Int32} (hc : c < 7) (h : cs_X c xr xf xk yr yf) : cs_n (fun i => ¬ xk (48 * c + i) = 0) 48 = cs_n (cs_V 10000 yr 0 0 6 yf) 48 := by
  obtain ⟨P, I, hx⟩ := h
  exact cs_kept_n hc I (fun b b1 b2 => hx b ⟨b1, b2⟩)
theorem cs_Fr_rfl {c : Nat} {h m : Int32} {xr xf xk tl rm sh : Nat → Int32} : cs_Fr c h m xr xf xk tl rm sh h m xr xf xk tl rm sh :=
  ⟨fun _ => rfl, fun _ => rfl, fun _ _ => rfl, fun _ _ => rfl, fun _ _ => ⟨rfl, rfl, rfl, rfl⟩⟩
theorem cs_Fr_tr {c : Nat} {h m h1 m1 h2 m2 : Int32} {xr xf xk tl rm sh xr1 xf1 xk1 tl1 rm1 sh1 xr2 xf2 xk2 tl2 rm2 sh2 : Nat → Int32} (A : cs_Fr c h m xr xf xk tl rm sh h1 m1 xr1 xf1 xk1 tl1 rm1 sh1) (B : cs_Fr c h1 m1 xr1 xf1 xk1 tl1 rm1 sh1 h2 m2 xr2 xf2 xk2 tl2 rm2 sh2) : cs_Fr c h m xr xf xk tl rm sh h2 m2 xr2 xf2 xk2 tl2 rm2 sh2 := by
  obtain ⟨a1, a2, a3, a4, a5⟩ := A
  obtain ⟨b1, b2, b3, b4, b5⟩ := B
  refine ⟨fun z => (b1 z).trans (a1 z), fun z => (b2 z).trans (a2 z), fun j z => (b3 j z).trans (a3 j z), fun j z => (b4 j z).trans (a4 j z), fun b z => ?_⟩
  have x := a5 b z
  have y := b5 b z
  exact ⟨y.1.trans x.1, y.2.1.trans x.2.1, y.2.2.1.trans x.2.2.1, y.2.2.2.trans x.2.2.2⟩
/-- the reference's words, and how many of its cells can be come to -/
def cs_Y (yr yf : Nat → Int32) : Prop := (∀ r, r < 6 → cs_yw (yr r)) ∧ (∀ j, j < 144 → cs_yw (yf j)) ∧ cs_n (cs_V 10000 yr 0 0 6 yf) 48 ≤ 24
theorem cs_Y_ch {yr yf yr' yf' : Nat → Int32} (h : cs_Y yr yf) (h1 : ∀ r, r < 6 → cs_yw (yr' r)) (h2 : ∀ j, j < 144 → cs_yw (yf' j)) (h3 : ∀ a, cs_V 10000 yr' 0 0 6 yf' a → cs_V 10000 yr 0 0 6 yf a) : cs_Y yr' yf' :=
  ⟨h1, h2, Nat.le_trans (cs_n_mono fun k _ => h3 k) h.2.2⟩
/-- a register is set to what can be come to, or to a number -/
theorem cs_V_reg {yr yf yr' : Nat → Int32} {r : Nat} (h : ∀ j, j ≠ r → yr' j = yr j) (hw : ∀ a, cs_w 10000 (yr' r) a → cs_V 10000 yr 0 0 6 yf a) {a : Nat} (ha : cs_V 10000 yr' 0 0 6 yf a) : cs_V 10000 yr 0 0 6 yf a := by
  refine cs_R_cg (fun a ⟨j, h1, h2, h3⟩ => ?_) (fun a b ha he => cs_R_s ha he) ha
  rw [Nat.zero_add] at h3
  by_cases e : j = r
  · exact hw a (e ▸ h3)
  · exact cs_R_b ⟨j, h1, h2, by rw [Nat.zero_add]; rw [h j e] at h3; exact h3⟩
theorem cs_V_fld {yr yf yf' : Nat → Int32} {k : Nat} (h : ∀ j, j ≠ k → yf' j = yf j) (hw : ∀ a, cs_w 10000 (yf' k) a → cs_V 10000 yr 0 0 6 yf a) {a : Nat} (ha : cs_V 10000 yr 0 0 6 yf' a) : cs_V 10000 yr 0 0 6 yf a := by
  refine cs_R_cg (fun a hq => cs_R_b hq) (fun a b ha ⟨f, hf, he⟩ => ?_) ha
  by_cases e : 3 * a + f = k
  · exact hw b (e ▸ he)
  · exact cs_R_s ha ⟨f, hf, by rw [h _ e] at he; exact he⟩
/-- a new cell: at most one more can be come to -/
theorem cs_V_new {yr yf yr' yf' : Nat → Int32} {r x : Nat} (hx : x < 48) (h1 : ∀ j, j ≠ r → yr' j = yr j) (h2 : yr' r = nI (10000 + x)) (h3 : ∀ f, f < 3 → yf' (3 * x + f) = 0) (h4 : ∀ j, j < 3 * x ∨ 3 * x + 3 ≤ j → yf' j = yf j) {a : Nat} (ha : cs_V 10000 yr' 0 0 6 yf' a) : cs_V 10000 yr 0 0 6 yf a ∨ a = x := by
  refine cs_R_i (fun a => cs_V 10000 yr 0 0 6 yf a ∨ a = x) (fun a ⟨j, j1, j2, j3⟩ => ?_) (fun a b _ ha ⟨f, hf, he⟩ => ?_) ha
  · rw [Nat.zero_add] at j3
    by_cases e : j = r
    · rw [e, h2] at j3
      exact Or.inr (cs_w_inj (B := 10000) (by omega) j3 ⟨by omega, rfl⟩)
    · exact Or.inl (cs_R_b ⟨j, j1, j2, by rw [Nat.zero_add]; rw [h1 j e] at j3; exact j3⟩)
  · by_cases e : a = x
    · rw [e, h3 f hf] at he
      exact absurd he (cs_num_nw (by omega) (by omega) ⟨by decide, by decide⟩)
    · rw [h4 _ (by omega)] at he
      rcases ha with ha | ha
      · exact Or.inl (cs_R_s ha ⟨f, hf, he⟩)
      · exact absurd ha e
theorem cs_Y_new {yr yf yr' yf' : Nat → Int32} {r x : Nat} (h : cs_Y yr yf) (hn : cs_n (cs_V 10000 yr 0 0 6 yf) 48 < 24) (hx : x < 48) (h1 : ∀ j, j ≠ r → yr' j = yr j) (h2 : yr' r = nI (10000 + x)) (h3 : ∀ f, f < 3 → yf' (3 * x + f) = 0) (h4 : ∀ j, j < 3 * x ∨ 3 * x + 3 ≤ j → yf' j = yf j) : cs_Y yr' yf' := by
  refine ⟨fun j hj => ?_, fun j hj => ?_, ?_⟩
  · by_cases e : j = r
    · rw [e, h2]; exact Or.inr ⟨x, hx, rfl⟩
    · rw [h1 j e]; exact h.1 j hj
  · by_cases e : 3 * x ≤ j ∧ j < 3 * x + 3
    · have := h3 (j - 3 * x) (by omega)
      rw [show 3 * x + (j - 3 * x) = j by omega] at this
      rw [this]; exact Or.inl ⟨by decide, by decide⟩
    · rw [h4 j (by omega)]; exact h.2.1 j hj
  · have k1 := cs_n_mono (P := cs_V 10000 yr' 0 0 6 yf') (Q := fun a => cs_V 10000 yr 0 0 6 yf a ∨ a = x) (N := 48) (fun a _ ha => cs_V_new hx h1 h2 h3 h4 ha)
    by_cases z : cs_V 10000 yr 0 0 6 yf x
    · have k2 := cs_n_mono (P := fun a => cs_V 10000 yr 0 0 6 yf a ∨ a = x) (Q := cs_V 10000 yr 0 0 6 yf) (N := 48) (fun a _ ha => ha.elim id (fun e => e ▸ z))
      omega
    · have k2 := cs_n_add (P := cs_V 10000 yr 0 0 6 yf) (a := x) z (N := 48) hx
      omega
/-! counting's cycles -/
def cs_kv (s K : Nat → Int32) (k b : Nat) : Int32 := if b < k ∧ s b = 0 then 0 else K b
theorem cs_kv_t {s K : Nat → Int32} {k b : Nat} (h : b < k ∧ s b = 0) : cs_kv s K k b = 0 := if_pos h
theorem cs_kv_f {s K : Nat → Int32} {k b : Nat} (h : ¬ (b < k ∧ s b = 0)) : cs_kv s K k b = K b := if_neg h
theorem cs_kv_drop {s K : Nat → Int32} {k : Nat} (h : s k = 0) : cs_kv s K (k + 1) = upd (cs_kv s K k) k 0 := by
  funext b
  by_cases e : b = k
  · rw [e, cs_upd_s]; exact cs_kv_t ⟨by omega, h⟩
  · rw [cs_upd_n e]
    by_cases z : b < k ∧ s b = 0
    · rw [cs_kv_t z, cs_kv_t ⟨by omega, z.2⟩]
    · rw [cs_kv_f z, cs_kv_f (fun y => z ⟨by omega, y.2⟩)]
theorem cs_kv_keep {s K : Nat → Int32} {k : Nat} (h : ¬ s k = 0 ∨ K k = 0) : cs_kv s K (k + 1) = cs_kv s K k := by
  funext b
  by_cases e : b = k
  · rw [cs_kv_f (b := b) (k := k) (fun y => by omega), e]
    rcases h with h | h
    · exact cs_kv_f (fun y => h y.2)
    · rw [h]
      by_cases z : k < k + 1 ∧ s k = 0
      · exact cs_kv_t z
      · rw [cs_kv_f z]; exact h
  · by_cases z : b < k ∧ s b = 0
    · rw [cs_kv_t z, cs_kv_t ⟨by omega, z.2⟩]
    · rw [cs_kv_f z, cs_kv_f (fun y => z ⟨by omega, y.2⟩)]
/-- one lowering of a count -/
theorem cs_low {xf T : Nat → Int32} {A : Nat → Nat} {Z : Nat → Prop} {x f : Nat} (hZ : ∀ b, Z b → b < 1000) (hf : f < 3) (h : ∀ b, Z b → T b = nI (A b + cs_x xf x f b)) {b0 : Nat} (hb : b0 < 1000) (hw : xf (3 * x + f) = nI (1000 + b0)) : ∀ b, Z b → upd T b0 (T b0 - 1) b = nI (A b + cs_x xf x (f + 1) b) := by
  intro b hs
  have k := cs_x_s xf (x := x) (f := f) hf b
  by_cases e : b = b0
  · have k2 : cs_b (xf (3 * x + f) = nI (1000 + b)) = 1 := cs_bt (by rw [hw, e])
    rw [k2] at k
    rw [e, cs_upd_s, ← e, h b hs, k, ← Nat.add_assoc]
    exact nI_pred _
  · have k2 : cs_b (xf (3 * x + f) = nI (1000 + b)) = 0 := cs_bf (fun z => by
      rw [hw] at z
      have := hZ b hs
      have := cs_nIinj (by omega) (by omega) z
      omega)
    rw [k2] at k
    rw [cs_upd_n e, h b hs, k, Nat.add_zero]
theorem cs_low0 {xf T : Nat → Int32} {A : Nat → Nat} {Z : Nat → Prop} {x f : Nat} (hZ : ∀ b, Z b → b < 1000) (hf : f < 3) (h : ∀ b, Z b → T b = nI (A b + cs_x xf x f b)) (hw : cs_num (xf (3 * x + f))) : ∀ b, Z b → T b = nI (A b + cs_x xf x (f + 1) b) := by
  intro b hs
  have k := cs_x_s xf (x := x) (f := f) hf b
  have k2 : cs_b (xf (3 * x + f) = nI (1000 + b)) = 0 := cs_bf (fun z => cs_num_nw (B := 1000) (b := b) (by omega) (by omega) hw ⟨hZ b hs, z⟩)
  rw [k2] at k
  rw [h b hs, k, Nat.add_zero]
/-! what calls do to one collector's invariant -/
section
variable {c : Nat} {h m : Int32} {xr xf xk tl rm sh yr yf : Nat → Int32}
/-- a register is set, in any collector but the counting one -/
theorem cs_J_reg (hc : c < 7) (h3 : c ≠ 3) (J : cs_J c h m xr xf xk tl rm sh yr yf) {r : Nat} (hr : r < 6) {y w : Int32} (hm : ∀ P, cs_I c P xr xf xk yr yf → cs_m P y w)
    (hq : ∀ b, cs_w 1000 w b → cs_Q 1000 xr (6 * c) 0 6 b ∨ ∃ a, cs_Q 1000 xr (6 * c) 0 6 a ∧ cs_E 1000 xf a b) : cs_J c h m (upd xr (6 * c + r) w) xf xk tl rm sh (upd yr r y) yf := by
  obtain ⟨⟨P, I⟩, W, k1, k2, k3, k4, k5⟩ := J
  refine ⟨⟨P, cs_I_reg I (r := r) (fun j hj => cs_upd_n hj) (fun j hj e => cs_upd_n (by omega)) (by rw [cs_upd_s, cs_upd_s]; exact hm P I)⟩, W, k1, k2, fun e => absurd e h3, k4, fun e hm' => ?_⟩
  subst e
  obtain ⟨a1, a2⟩ := k5 rfl hm'
  refine ⟨a1, cs_TC_reg a2 (fun b ⟨j, j1, j2, j3⟩ => ?_)⟩
  by_cases e : j = r
  · rw [e, show 30 + r = 6 * 5 + r by omega, cs_upd_s] at j3
    rcases hq b j3 with y | ⟨a, y1, y2⟩
    · exact Or.inl y
    · refine Or.inr (Or.inr ⟨a, y1, ?_⟩)
      obtain ⟨q, q1, q2, q3⟩ := y1
      have ok := cs_m_ok I.2.2.1 (I.2.2.2.1 q q2)
      rcases ok with o | ⟨b', o1, o2, o3, o4⟩
      · exact absurd q3 (cs_num_nw (by omega) (by omega) o)
      · have e2 : a = b' := cs_w_inj (B := 1000) (by omega) q3 ⟨by omega, o4⟩
        rw [e2] at y2 ⊢
        exact ⟨⟨o1, o2⟩, o3, y2⟩
  · exact Or.inl ⟨j, j1, j2, by rw [show 30 + j = 6 * 5 + j by omega, cs_upd_n (by omega)] at j3; exact j3⟩
end
