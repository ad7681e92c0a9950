/-! marking a little at a time: the pure part. Shades: 0 white, 1 grey, 2 black -/
def cs_TC (xr xf xk sh : Nat → Int32) : Prop := ∀ T : Nat → Prop, (∀ b, cs_sg 5 b → ¬ sh b = 0 → T b) → (∀ a b, cs_sg 5 a → ¬ xk a = 0 → T a → ¬ sh a = 2 → cs_E 1000 xf a b → T b) →
  (∀ b, cs_Q 1000 xr 30 0 6 b → T b) ∧ (∀ a b, cs_sg 5 a → ¬ xk a = 0 → sh a = 2 → cs_E 1000 xf a b → T b)
def cs_S5 (xk sh : Nat → Int32) : Prop := (∀ b, cs_sg 5 b → ¬ sh b = 0 → ¬ xk b = 0) ∧ (∀ b, cs_sg 5 b → sh b = 0 ∨ sh b = 1 ∨ sh b = 2)
section
variable {xr xf xk sh : Nat → Int32}
theorem cs_TC_reg (h : cs_TC xr xf xk sh) {xr' : Nat → Int32} (hr : ∀ b, cs_Q 1000 xr' 30 0 6 b → cs_Q 1000 xr 30 0 6 b ∨ (cs_sg 5 b ∧ ¬ sh b = 0) ∨ ∃ a, cs_Q 1000 xr 30 0 6 a ∧ cs_sg 5 a ∧ ¬ xk a = 0 ∧ cs_E 1000 xf a b) : cs_TC xr' xf xk sh := by
  intro T h1 h2
  obtain ⟨g1, g2⟩ := h T h1 h2
  refine ⟨fun b hb => ?_, g2⟩
  rcases hr b hb with y | ⟨y1, y2⟩ | ⟨a, y1, y2, y3, y4⟩
  · exact g1 b y
  · exact h1 b y1 y2
  · by_cases e : sh a = 2
    · exact g2 a b y2 y3 e y4
    · exact h2 a b y2 y3 (g1 a y1) e y4
/-- a field is changed: what it held is shaded, what it holds now a register refers to -/
theorem cs_TC_fld (h : cs_TC xr xf xk sh) {x f : Nat} {xf' sh' : Nat → Int32} (hf : f < 3) (h1 : ∀ j, j ≠ 3 * x + f → xf' j = xf j) (h2 : ∀ b, cs_w 1000 (xf' (3 * x + f)) b → cs_Q 1000 xr 30 0 6 b)
    (s1 : ∀ b, cs_w 1000 (xf (3 * x + f)) b → cs_sg 5 x → ¬ xk x = 0 → cs_sg 5 b ∧ ¬ sh' b = 0) (s2 : ∀ b, ¬ sh b = 0 → sh' b = sh b) (s3 : ∀ b, sh' b = 2 → sh b = 2) : cs_TC xr xf' xk sh' := by
  intro T t1 t2
  have eE : ∀ a b, cs_E 1000 xf a b → cs_E 1000 xf' a b ∨ (a = x ∧ cs_w 1000 (xf (3 * x + f)) b) := fun a b ⟨g, hg, hw⟩ => by
    by_cases e : 3 * a + g = 3 * x + f
    · exact Or.inr ⟨by omega, e ▸ hw⟩
    · exact Or.inl ⟨g, hg, by rw [h1 _ e]; exact hw⟩
  have eE' : ∀ a b, cs_E 1000 xf' a b → cs_E 1000 xf a b ∨ cs_w 1000 (xf' (3 * x + f)) b := fun a b ⟨g, hg, hw⟩ => by
    by_cases e : 3 * a + g = 3 * x + f
    · exact Or.inr (e ▸ hw)
    · exact Or.inl ⟨g, hg, by rw [h1 _ e] at hw; exact hw⟩
  obtain ⟨g1, g2⟩ := h T (fun b hb hs => t1 b hb (by rw [s2 b hs]; exact hs)) (fun a b ha hk hT hs hE => by
    rcases eE a b hE with y | ⟨y1, y2⟩
    · exact t2 a b ha hk hT (fun z => hs (s3 a z)) y
    · rw [y1] at ha hk
      have z := s1 b y2 ha hk
      exact t1 b z.1 z.2)
  refine ⟨g1, fun a b ha hk hs hE => ?_⟩
  rcases eE' a b hE with y | y
  · exact g2 a b ha hk (s3 a hs) y
  · exact g1 b (h2 b y)
/-- a grey cell becomes black and what it refers to is shaded -/
theorem cs_TC_black (h : cs_TC xr xf xk sh) {x : Nat} {sh' : Nat → Int32} (hx : sh x = 1) (s0 : ¬ sh' x = 0) (s1 : ∀ b, cs_E 1000 xf x b → cs_sg 5 b ∧ ¬ sh' b = 0) (s2 : ∀ b, ¬ sh b = 0 → ¬ sh' b = 0) (s3 : ∀ b, b ≠ x → sh' b = 2 → sh b = 2) : cs_TC xr xf xk sh' := by
  intro T t1 t2
  obtain ⟨g1, g2⟩ := h T (fun b hb hs => t1 b hb (s2 b hs)) (fun a b ha hk hT hs hE => by
    by_cases e : a = x
    · have z := s1 b (e ▸ hE)
      exact t1 b z.1 z.2
    · exact t2 a b ha hk hT (fun z => hs (s3 a e z)) hE)
  refine ⟨g1, fun a b ha hk hs hE => ?_⟩
  by_cases e : a = x
  · have z := s1 b (e ▸ hE)
    exact t1 b z.1 z.2
  · exact g2 a b ha hk (s3 a e hs) hE
theorem cs_TC_begin (h1 : ∀ b, cs_Q 1000 xr 30 0 6 b → cs_sg 5 b ∧ ¬ sh b = 0) (h2 : ∀ b, cs_sg 5 b → ¬ sh b = 2) : cs_TC xr xf xk sh := by
  intro T t1 _
  exact ⟨fun b hb => t1 b (h1 b hb).1 (h1 b hb).2, fun a b ha _ hs _ => absurd hs (h2 a ha)⟩
/-- nothing is grey: what is shaded holds all that can be come to -/
theorem cs_TC_end (h : cs_TC xr xf xk sh) (hs : cs_S5 xk sh) (hg : ∀ b, cs_sg 5 b → ¬ sh b = 1) : (∀ b, cs_Q 1000 xr 30 0 6 b → cs_sg 5 b → ¬ sh b = 0) ∧ (∀ a b, cs_sg 5 a → ¬ sh a = 0 → cs_E 1000 xf a b → cs_sg 5 b → ¬ sh b = 0) := by
  obtain ⟨g1, g2⟩ := h (fun b => cs_sg 5 b → ¬ sh b = 0) (fun b _ y _ => y) (fun a b ha _ hT hn _ _ => by
    rcases hs.2 a ha with y | y | y
    · exact absurd y (hT ha)
    · exact absurd y (hg a ha)
    · exact absurd y hn)
  refine ⟨g1, fun a b ha h0 hE => ?_⟩
  rcases hs.2 a ha with y | y | y
  · exact absurd y h0
  · exact absurd y (hg a ha)
  · exact g2 a b ha (hs.1 a ha h0) y hE
/-- a new cell, black, without references; kept cells refer to kept cells alone -/
theorem cs_TC_new (h : cs_TC xr xf xk sh) {x : Nat} {xr' xf' xk' sh' : Nat → Int32} (hx : cs_sg 5 x) (hk : xk x = 0) (hsx : sh x = 0) (hW : cs_W 5 xf xk)
    (q1 : ∀ b, cs_Q 1000 xr' 30 0 6 b → b = x ∨ (cs_Q 1000 xr 30 0 6 b)) (q0 : ∀ b, cs_Q 1000 xr 30 0 6 b → ¬ b = x)
    (f1 : ∀ b, ¬ cs_E 1000 xf' x b) (f2 : ∀ a b, cs_sg 5 a → a ≠ x → (cs_E 1000 xf' a b ↔ cs_E 1000 xf a b)) (k2 : ∀ b, cs_sg 5 b → b ≠ x → xk' b = xk b) (s1 : ¬ sh' x = 0) (s2 : ∀ b, b ≠ x → sh' b = sh b) : cs_TC xr' xf' xk' sh' := by
  intro T t1 t2
  have nE : ∀ a b, cs_sg 5 a → ¬ xk a = 0 → cs_E 1000 xf a b → b ≠ x := fun a b ha hka ⟨g, hg, hw⟩ e => by
    rcases hW a ha.1 ha.2 hka g hg with o | ⟨b', o1, o2, o3, o4⟩
    · exact cs_num_nw (by omega) (by omega) o hw
    · have eb : b = b' := cs_w_inj (B := 1000) (by omega) hw ⟨by omega, o4⟩
      exact o3 (by rw [← eb, e]; exact hk)
  obtain ⟨g1, g2⟩ := h (fun b => T b ∧ b ≠ x) (fun b hb hs => by
    have e : b ≠ x := fun e => hs (e ▸ hsx)
    exact ⟨t1 b hb (by rw [s2 b e]; exact hs), e⟩) (fun a b ha hka hT hs hE => by
    refine ⟨t2 a b ha (by rw [k2 a ha hT.2]; exact hka) hT.1 (by rw [s2 a hT.2]; exact hs) ((f2 a b ha hT.2).mpr hE), nE a b ha hka hE⟩)
  refine ⟨fun b hb => ?_, fun a b ha hka hs hE => ?_⟩
  · rcases q1 b hb with e | y
    · rw [e]; exact t1 x hx s1
    · exact (g1 b y).1
  · by_cases e : a = x
    · rw [e] at hE; exact absurd hE (f1 b)
    · rw [k2 a ha e] at hka
      rw [s2 a e] at hs
      exact (g2 a b ha hka hs ((f2 a b ha e).mp hE)).1
end
/-! marking by turning references round: the pure part -/
def cs_bk : List Nat → Int32
  | [] => 0
  | p :: _ => nI (1000 + p)
/-- the fields while the way back st stands in them -/
def cs_ov (F0 : Nat → Int32) (t : Nat → Nat) : List Nat → Nat → Int32
  | [] => F0
  | p :: st => upd (cs_ov F0 t st) (3 * p + t p) (cs_bk st)
def cs_ch (F0 : Nat → Int32) (t : Nat → Nat) : List Nat → Nat → Prop
  | [], _ => True
  | p :: st, x => t p < 3 ∧ F0 (3 * p + t p) = nI (1000 + x) ∧ cs_ch F0 t st p
def cs_sm (t : Nat → Nat) : List Nat → Nat
  | [] => 0
  | p :: st => (4 - t p) + cs_sm t st
section
variable {F0 : Nat → Int32} {t : Nat → Nat}
theorem cs_ov_t {t' : Nat → Nat} : ∀ (st : List Nat), (∀ p, p ∈ st → t' p = t p) → cs_ov F0 t' st = cs_ov F0 t st
  | [], _ => rfl
  | p :: st, h => by
    simp only [cs_ov]
    rw [cs_ov_t st (fun z hz => h z (List.mem_cons_of_mem _ hz)), h p List.mem_cons_self]
theorem cs_ch_t {t' : Nat → Nat} : ∀ (st : List Nat) (x : Nat), (∀ p, p ∈ st → t' p = t p) → cs_ch F0 t st x → cs_ch F0 t' st x
  | [], _, _, _ => trivial
  | p :: st, x, h, hc => by
    have e := h p List.mem_cons_self
    refine ⟨by rw [e]; exact hc.1, by rw [e]; exact hc.2.1, cs_ch_t st p (fun z hz => h z (List.mem_cons_of_mem _ hz)) hc.2.2⟩
theorem cs_sm_t {t' : Nat → Nat} : ∀ (st : List Nat), (∀ p, p ∈ st → t' p = t p) → cs_sm t' st = cs_sm t st
  | [], _ => rfl
  | p :: st, h => by
    simp only [cs_sm]
    rw [cs_sm_t st (fun z hz => h z (List.mem_cons_of_mem _ hz)), h p List.mem_cons_self]
theorem cs_ov_off : ∀ (st : List Nat) (x : Nat), cs_ch F0 t st x → ∀ p g, p ∉ st → g < 3 → cs_ov F0 t st (3 * p + g) = F0 (3 * p + g)
  | [], _, _, _, _, _, _ => rfl
  | z :: st, x, hc, p, g, hp, hg => by
    simp only [cs_ov]
    have n1 : p ≠ z := fun e => hp (e ▸ List.mem_cons_self)
    have h3 := hc.1
    rw [cs_upd_n (by omega)]
    exact cs_ov_off st z hc.2.2 p g (fun e => hp (List.mem_cons_of_mem _ e)) hg
end
def cs_SW (c : Nat) (F0 s0 : Nat → Int32) (Z : Nat → Prop) (F s ta : Nat → Int32) (t : Nat → Nat) (st : List Nat) (x m : Nat) : Prop :=
  F = cs_ov F0 t st ∧ cs_ch F0 t st x ∧ (x :: st).Nodup ∧ (∀ p, p ∈ x :: st → Z p ∧ ¬ s p = 0 ∧ s0 p = 0 ∧ ta p = nI (t p)) ∧ t x ≤ 3 ∧
  (∀ b, ¬ s0 b = 0 → ¬ s b = 0) ∧ (∀ b, ¬ s b = 0 → s0 b = 0 → Z b) ∧
  (∀ p g b, ¬ s p = 0 → s0 p = 0 → g < 3 → (p ∈ x :: st → g < t p) → b < 1000 → F0 (3 * p + g) = nI (1000 + b) → ¬ s b = 0) ∧
  5 * cs_n (fun i => s (48 * c + i) = 0) 48 + cs_sm t (x :: st) + m ≤ 240
section
variable {c : Nat} {F0 s0 F s ta : Nat → Int32} {Z : Nat → Prop} {t : Nat → Nat} {st : List Nat} {x m : Nat}
/-- the word that is looked at is the first one's own -/
theorem cs_SW_w (h : cs_SW c F0 s0 Z F s ta t st x m) (ht : t x < 3) : F (3 * x + t x) = F0 (3 * x + t x) := by
  obtain ⟨h1, h2, h3, _⟩ := h
  rw [h1]
  exact cs_ov_off st x h2 x (t x) (List.nodup_cons.mp h3).1 ht
theorem cs_SW_adv (h : cs_SW c F0 s0 Z F s ta t st x m) (ht : t x < 3) (hw : ∀ b, b < 1000 → F0 (3 * x + t x) = nI (1000 + b) → ¬ s b = 0) : cs_SW c F0 s0 Z F s (upd ta x (nI (t x + 1))) (cs_un t x (t x + 1)) st x (m + 1) := by
  obtain ⟨h1, h2, h3, h4, h5, h6, h7, h8, h9⟩ := h
  have nx := (List.nodup_cons.mp h3).1
  have ag : ∀ p, p ∈ st → cs_un t x (t x + 1) p = t p := fun p hp => cs_un_n (fun e => nx (e ▸ hp))
  refine ⟨by rw [cs_ov_t st ag]; exact h1, cs_ch_t st x ag h2, h3, fun p hp => ?_, by rw [cs_un_s]; omega, h6, h7, fun p g b q1 q2 q3 q4 q5 q6 => ?_, ?_⟩
  · obtain ⟨z1, z2, z3, z4⟩ := h4 p hp
    refine ⟨z1, z2, z3, ?_⟩
    by_cases e : p = x
    · rw [e, cs_upd_s, cs_un_s]
    · rw [cs_upd_n e, cs_un_n e]; exact z4
  · by_cases e : p = x
    · have g1 := q4 (by rw [e]; exact List.mem_cons_self)
      rw [e, cs_un_s] at g1
      by_cases e2 : g = t x
      · rw [e, e2] at q6; exact hw b q5 q6
      · exact h8 p g b q1 q2 q3 (fun _ => by rw [e]; omega) q5 q6
    · exact h8 p g b q1 q2 q3 (fun z => by have := q4 z; rw [cs_un_n e] at this; exact this) q5 q6
  · simp only [cs_sm] at h9 ⊢
    rw [cs_un_s, cs_sm_t st ag]
    omega
theorem cs_SW_push (hc : c < 7) (hZ : cs_Z c Z F0) (h : cs_SW c F0 s0 Z F s ta t st x m) (ht : t x < 3) {y : Nat} (hy : y < 1000) (hw : F0 (3 * x + t x) = nI (1000 + y)) (hs : s y = 0) :
    cs_SW c F0 s0 Z (upd F (3 * x + t x) (cs_bk st)) (upd s y 1) (upd ta y 0) (cs_un t y 0) (x :: st) y (m + 1) := by
  obtain ⟨h1, h2, h3, h4, h5, h6, h7, h8, h9⟩ := h
  have n1 : ¬ (1 : Int32) = 0 := by decide
  have ny : y ∉ x :: st := fun z => (h4 y z).2.1 hs
  have ag : ∀ p, p ∈ x :: st → cs_un t y 0 p = t p := fun p hp => cs_un_n (fun e => ny (e ▸ hp))
  have up : ∀ b, ¬ s b = 0 → ¬ upd s y 1 b = 0 := fun b hb => by
    by_cases e : b = y
    · rw [e, cs_upd_s]; exact n1
    · rw [cs_upd_n e]; exact hb
  have zy : Z y := by
    have zx := (h4 x List.mem_cons_self).1
    rcases (hZ x zx).2 (t x) ht with o | ⟨b', o1, o2⟩
    · exact absurd (⟨hy, hw⟩ : cs_w 1000 _ y) (cs_num_nw (by omega) (by omega) o)
    · have g := (hZ b' o1).1
      unfold cs_sg at g
      have e : y = b' := cs_w_inj (B := 1000) (w := F0 (3 * x + t x)) (by omega) ⟨hy, hw⟩ ⟨by omega, o2⟩
      rw [e]; exact o1
  have s0y : s0 y = 0 := Classical.byContradiction fun z => h6 y z hs
  have gy := (hZ y zy).1
  unfold cs_sg at gy
  refine ⟨?_, ⟨by rw [ag x List.mem_cons_self]; exact ht, by rw [ag x List.mem_cons_self]; exact hw, cs_ch_t st x (fun p hp => ag p (List.mem_cons_of_mem _ hp)) h2⟩, List.nodup_cons.mpr ⟨ny, h3⟩, fun p hp => ?_, by rw [cs_un_s]; omega, fun b hb => up b (h6 b hb), fun b hb hb0 => ?_, fun p g b q1 q2 q3 q4 q5 q6 => ?_, ?_⟩
  · simp only [cs_ov]
    rw [cs_ov_t st (fun p hp => ag p (List.mem_cons_of_mem _ hp)), ag x List.mem_cons_self, h1]
  · rcases List.mem_cons.mp hp with e | hp'
    · rw [e]; exact ⟨zy, by rw [cs_upd_s]; exact n1, s0y, by rw [cs_upd_s, cs_un_s]; rfl⟩
    · obtain ⟨z1, z2, z3, z4⟩ := h4 p hp'
      have e : p ≠ y := fun e => ny (e ▸ hp')
      exact ⟨z1, up p z2, z3, by rw [cs_upd_n e, cs_un_n e]; exact z4⟩
  · by_cases e : b = y
    · rw [e]; exact zy
    · rw [cs_upd_n e] at hb; exact h7 b hb hb0
  · by_cases e : p = y
    · have := q4 (by rw [e]; exact List.mem_cons_self)
      rw [e, cs_un_s] at this
      omega
    · rw [cs_upd_n e] at q1
      exact up b (h8 p g b q1 q2 q3 (fun z => by have := q4 (List.mem_cons_of_mem _ z); rw [cs_un_n e] at this; exact this) q5 q6)
  · have k := cs_n_rem (P := fun i => s (48 * c + i) = 0) (a := y - 48 * c) (N := 48) (by (try dsimp only); rw [show 48 * c + (y - 48 * c) = y by omega]; exact hs) (by omega)
    have k2 : cs_n (fun i => upd s y 1 (48 * c + i) = 0) 48 = cs_n (fun i => s (48 * c + i) = 0 ∧ i ≠ y - 48 * c) 48 := cs_n_eq (fun i hi => by
      by_cases e : 48 * c + i = y
      · rw [e, cs_upd_s]
        exact ⟨fun z => absurd z n1, fun z => absurd (by omega) z.2⟩
      · rw [cs_upd_n e]
        exact ⟨fun z => ⟨z, by omega⟩, fun z => z.1⟩)
    rw [k2]
    have k3 : cs_sm (cs_un t y 0) (y :: x :: st) = 4 + cs_sm t (x :: st) := by
      have := cs_sm_t (t := t) (t' := cs_un t y 0) (x :: st) ag
      show (4 - cs_un t y 0 y) + cs_sm (cs_un t y 0) (x :: st) = _
      rw [this, cs_un_s]
    rw [k3]
    omega
theorem cs_SW_pop (hc : c < 7) (hZ : cs_Z c Z F0) {p : Nat} (h : cs_SW c F0 s0 Z F s ta t (p :: st) x m) (ht : t x = 3) : F (3 * p + t p) = cs_bk st ∧ t p < 3 ∧ ta p = nI (t p) ∧ cs_SW c F0 s0 Z (upd F (3 * p + t p) (nI (1000 + x))) s (upd ta p (nI (t p + 1))) (cs_un t p (t p + 1)) st p (m + 1) := by
  obtain ⟨h1, h2, h3, h4, h5, h6, h7, h8, h9⟩ := h
  have nd := List.nodup_cons.mp h3
  have nd2 := List.nodup_cons.mp nd.2
  have pm : p ∈ x :: p :: st := List.mem_cons_of_mem _ List.mem_cons_self
  have xp : x ≠ p := fun e => nd.1 (e ▸ List.mem_cons_self)
  have ag : ∀ z, z ∈ st → cs_un t p (t p + 1) z = t z := fun z hz => cs_un_n (fun e => nd2.1 (e ▸ hz))
  have off := cs_ov_off st p h2.2.2 p (t p) nd2.1 h2.1
  refine ⟨by rw [h1]; exact cs_upd_s _ _ _, h2.1, (h4 p pm).2.2.2, ?_, cs_ch_t st p ag h2.2.2, nd.2, fun z hz => ?_, by rw [cs_un_s]; have := h2.1; omega, h6, h7, fun z g b q1 q2 q3 q4 q5 q6 => ?_, ?_⟩
  · rw [cs_ov_t st ag, h1]
    funext j
    simp only [cs_ov]
    by_cases e : j = 3 * p + t p
    · rw [e, cs_upd_s, off]; exact h2.2.1.symm
    · rw [cs_upd_n e, cs_upd_n e]
  · obtain ⟨z1, z2, z3, z4⟩ := h4 z (List.mem_cons_of_mem _ hz)
    refine ⟨z1, z2, z3, ?_⟩
    by_cases e : z = p
    · rw [e, cs_upd_s, cs_un_s]
    · rw [cs_upd_n e, cs_un_n e]; exact z4
  · by_cases e : z = p
    · have g1 := q4 (by rw [e]; exact List.mem_cons_self)
      rw [e, cs_un_s] at g1
      by_cases e2 : g = t p
      · rw [e, e2] at q6
        have e3 : 1000 + b = 1000 + x := by
          have zx := (h4 x List.mem_cons_self).1
          exact cs_nIinj (by omega) (by have g := (hZ x zx).1; unfold cs_sg at g; omega) (q6.symm.trans h2.2.1)
        have e4 : b = x := by omega
        rw [e4]; exact (h4 x List.mem_cons_self).2.1
      · exact h8 z g b q1 q2 q3 (fun _ => by rw [e]; omega) q5 q6
    · refine h8 z g b q1 q2 q3 (fun y => ?_) q5 q6
      rcases List.mem_cons.mp y with e2 | y
      · rw [e2, ht]; exact q3
      · have := q4 y
        rw [cs_un_n e] at this
        exact this
  · simp only [cs_sm] at h9 ⊢
    rw [cs_un_s, cs_sm_t st ag]
    have := h2.1
    omega
theorem cs_SW_end (h : cs_SW c F0 s0 Z F s ta t [] x m) (ht : t x = 3) : F = F0 ∧ (∀ p g b, ¬ s p = 0 → s0 p = 0 → g < 3 → b < 1000 → F0 (3 * p + g) = nI (1000 + b) → ¬ s b = 0) := by
  obtain ⟨h1, h2, h3, h4, h5, h6, h7, h8, h9⟩ := h
  refine ⟨h1, fun p g b q1 q2 q3 q4 q5 => h8 p g b q1 q2 q3 (fun z => ?_) q4 q5⟩
  rcases List.mem_cons.mp z with e | z
  · rw [e, ht]; exact q3
  · exact absurd z List.not_mem_nil
end
