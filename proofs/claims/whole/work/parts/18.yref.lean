/-! the reference's walks -/
theorem cs_yl {y : Int32} (h : cs_num y) : y < 10000 := by
  rw [Int32.lt_iff_toInt_lt]
  have e : (10000 : Int32).toInt = 10000 := by decide
  unfold cs_num at h; omega
theorem cs_yg {a : Nat} (h : a < 1000) : ¬ nI (10000 + a) < 10000 := nI_nlt (b := 10000) (by omega) (by omega)
theorem cs_yRefers {post : Int32 → Prop} {v : SY} {y : Int32} (h : cs_yw y) (K1 : cs_num y → post 0) (K2 : ∀ a, a < 48 → y = nI (10000 + a) → post 1) : wpY_refers post v y := by
  obtain ⟨yr, yf⟩ := v
  rcases h with h | ⟨a, h1, h2⟩
  · have g := cs_yl h
    simp only [wpY_refers, g, not_true, not_false_iff, false_implies, true_implies, true_and, and_true, forall_eq, implies_true]
    exact K1 h
  · have g := cs_yg (a := a) (by omega)
    rw [← h2] at g
    simp only [wpY_refers, g, not_true, not_false_iff, false_implies, true_implies, true_and, and_true, forall_eq, implies_true]
    exact K2 a h1 h2
theorem cs_yReg {post : Int32 → Prop} {v : SY} {p : Int32} (K1 : (∀ r, r < 6 → ¬ p = nI r) → post 0) (K2 : ∀ r, r < 6 → p = nI r → post 1) : wpY_isRegister post v p := by
  obtain ⟨yr, yf⟩ := v
  rcases pk_ix p (n := 6) (by omega) with h | h | ⟨r, h1, h2⟩
  · simp only [wpY_isRegister, h, not_true, not_false_iff, false_implies, true_implies, true_and, and_true, forall_eq, implies_true]
    exact K1 (fun r hr e => by rw [e] at h; exact nI_pos (by omega) h)
  · have h' : (6 : Int32) ≤ p := h
    rw [Int32.le_iff_toInt_le] at h'
    have e1 : (0 : Int32).toInt = 0 := by decide
    have e2 : (6 : Int32).toInt = 6 := by decide
    have e3 : (5 : Int32).toInt = 5 := by decide
    have g : ¬ p < 0 := by rw [Int32.lt_iff_toInt_lt]; omega
    have g2 : 5 < p := by rw [Int32.lt_iff_toInt_lt]; omega
    simp only [wpY_isRegister, g2, g, not_true, not_false_iff, false_implies, true_implies, true_and, and_true, forall_eq, implies_true]
    exact K1 (fun r hr e => by rw [e] at h; exact nI_ge hr (by omega) h)
  · have g : ¬ p < 0 := by rw [h2]; exact nI_pos (by omega)
    have g2 : ¬ (5 : Int32) < p := by rw [h2]; exact nI_nlt (a := 5) (by omega) (by omega)
    simp only [wpY_isRegister, g, g2, not_true, not_false_iff, false_implies, true_implies, true_and, and_true, forall_eq, implies_true]
    exact K2 r h1 h2
theorem cs_yFld {post : Int32 → Prop} {v : SY} {p : Int32} (K1 : (∀ r, r < 3 → ¬ p = nI r) → post 0) (K2 : ∀ r, r < 3 → p = nI r → post 1) : wpY_isField post v p := by
  obtain ⟨yr, yf⟩ := v
  rcases pk_ix p (n := 3) (by omega) with h | h | ⟨r, h1, h2⟩
  · simp only [wpY_isField, h, not_true, not_false_iff, false_implies, true_implies, true_and, and_true, forall_eq, implies_true]
    exact K1 (fun r hr e => by rw [e] at h; exact nI_pos (by omega) h)
  · have h' : (3 : Int32) ≤ p := h
    rw [Int32.le_iff_toInt_le] at h'
    have e1 : (0 : Int32).toInt = 0 := by decide
    have e2 : (3 : Int32).toInt = 3 := by decide
    have e3 : (2 : Int32).toInt = 2 := by decide
    have g : ¬ p < 0 := by rw [Int32.lt_iff_toInt_lt]; omega
    have g2 : 2 < p := by rw [Int32.lt_iff_toInt_lt]; omega
    simp only [wpY_isField, g2, g, not_true, not_false_iff, false_implies, true_implies, true_and, and_true, forall_eq, implies_true]
    exact K1 (fun r hr e => by rw [e] at h; exact nI_ge hr (by omega) h)
  · have g : ¬ p < 0 := by rw [h2]; exact nI_pos (by omega)
    have g2 : ¬ (2 : Int32) < p := by rw [h2]; exact nI_nlt (a := 2) (by omega) (by omega)
    simp only [wpY_isField, g, g2, not_true, not_false_iff, false_implies, true_implies, true_and, and_true, forall_eq, implies_true]
    exact K2 r h1 h2
theorem cs_yCol {post : Int32 → Prop} {v : SY} {p : Int32} (K1 : (∀ r, r < 7 → ¬ p = nI r) → post 0) (K2 : ∀ r, r < 7 → p = nI r → post 1) : wpY_isCollector post v p := by
  obtain ⟨yr, yf⟩ := v
  rcases pk_ix p (n := 7) (by omega) with h | h | ⟨r, h1, h2⟩
  · simp only [wpY_isCollector, h, not_true, not_false_iff, false_implies, true_implies, true_and, and_true, forall_eq, implies_true]
    exact K1 (fun r hr e => by rw [e] at h; exact nI_pos (by omega) h)
  · have h' : (7 : Int32) ≤ p := h
    rw [Int32.le_iff_toInt_le] at h'
    have e1 : (0 : Int32).toInt = 0 := by decide
    have e2 : (7 : Int32).toInt = 7 := by decide
    have e3 : (6 : Int32).toInt = 6 := by decide
    have g : ¬ p < 0 := by rw [Int32.lt_iff_toInt_lt]; omega
    have g2 : 6 < p := by rw [Int32.lt_iff_toInt_lt]; omega
    simp only [wpY_isCollector, g2, g, not_true, not_false_iff, false_implies, true_implies, true_and, and_true, forall_eq, implies_true]
    exact K1 (fun r hr e => by rw [e] at h; exact nI_ge hr (by omega) h)
  · have g : ¬ p < 0 := by rw [h2]; exact nI_pos (by omega)
    have g2 : ¬ (6 : Int32) < p := by rw [h2]; exact nI_nlt (a := 6) (by omega) (by omega)
    simp only [wpY_isCollector, g, g2, not_true, not_false_iff, false_implies, true_implies, true_and, and_true, forall_eq, implies_true]
    exact K2 r h1 h2
theorem cs_div3 (c : Nat) (h : c < 144) : nI c / 3 = nI (c / 3) := pk_div (d := 3) (by omega) (by omega) (by omega)
theorem cs_n30 : ¬ (3 : Int32) = 0 := by decide
/-! from -/
section
variable {post : Int64 → Prop} {yr yf : Nat → Int32} {R0 : Nat → Prop}
theorem cs_pass {n N : Nat} (hf : ∀ j, j < 144 → cs_yw (yf j)) (h : cs_fI R0 yf N) (K : ∀ t, cs_ps R0 yf N t 144 → wY_from_28 post yr yf n (lN t) (lN N)) : ∃ m, wY_from_43 post (wY_from_28 post yr yf n) (lN N) yr yf m (lN N) 0 := by
  refine pk_loop (σ := Nat) (fun m c t => wY_from_43 post (wY_from_28 post yr yf n) (lN N) yr yf m (lN t) (nI c)) (fun c t => cs_ps R0 yf N t c) 144 0 N (by omega) (cs_ps_0 h) (fun m t hI => ?_) (fun m c t hc hI ih2 => ?_)
  · have g3 : (144 : Int32) ≤ nI 144 := nI_le (a := 144) (by omega) (by omega)
    simp only [wY_from_43, g3, not_true, not_false_iff, false_implies, true_implies, true_and, and_true, forall_eq, implies_true]
    exact K t hI
  · have g3 : ¬ (144 : Int32) ≤ nI c := nI_ge (b := 144) hc (by omega)
    have v : vp_in (nI c) 144 := vp_in_nI hc (by omega)
    have k : (nI c).toNatClampNeg = c := nI_clamp (by omega)
    have hb := cs_bit (N := t) (k := c / 3) hI.1.1 (by omega)
    by_cases z : cs_B t (c / 3)
    · have z' := hb.mpr z
      simp only [wY_from_43, g3, cs_div3 c hc, z', v, k, cs_n30, not_true, not_false_iff, false_implies, true_implies, true_and, and_true, forall_eq, implies_true]
      refine cs_yRefers (hf c hc) (fun hn => ?_) (fun a ha e => ?_)
      · simp only [wY_from_83, wY_from_84, nI_1, not_true, not_false_iff, false_implies, true_implies, true_and, and_true, forall_eq, implies_true]
        exact ih2 t (cs_ps_off hI (fun _ => hn))
      · simp only [wY_from_84, v, k, e, cs_yw_sub, cs_set hI.1.1 ha, nI_1, cs_n10, not_true, not_false_iff, false_implies, true_implies, true_and, and_true, forall_eq, implies_true]
        exact ih2 _ (cs_ps_on hI hc z ha e)
    · have z' : ¬ ((lN t >>> ((nI (c / 3)).toInt64 &&& 63)) &&& 1) = 1 := fun y => z (hb.mp y)
      simp only [wY_from_43, g3, cs_div3 c hc, z', cs_n30, not_true, not_false_iff, false_implies, true_implies, true_and, and_true, forall_eq, implies_true]
      simp only [wY_from_83, wY_from_84, nI_1, not_true, not_false_iff, false_implies, true_implies, true_and, and_true, forall_eq, implies_true]
      exact ih2 t (cs_ps_off hI (fun y => absurd y z))
theorem cs_passes (hf : ∀ j, j < 144 → cs_yw (yf j)) (K : ∀ M, M < 2 ^ 48 → (∀ a, cs_B M a ↔ cs_R R0 (cs_E 10000 yf) a) → post (lN M)) : ∀ (d n M N : Nat), d < n → cs_ps R0 yf M N 144 → M < 2 ^ 48 → 2 * cs_n (fun a => ¬ cs_B N a) 48 + cs_b (N ≠ M) ≤ d → wY_from_28 post yr yf n (lN N) (lN M) := by
  intro d
  induction d with
  | zero =>
    intro n M N hn hp hM hd
    have e : N = M := Classical.byContradiction fun z => by rw [cs_bt z] at hd; omega
    subst e
    obtain ⟨n, rfl⟩ : ∃ k, n = k + 1 := ⟨n - 1, by omega⟩
    simp only [wY_from_28, not_true, not_false_iff, false_implies, true_implies, true_and, and_true, forall_eq, implies_true]
    exact K N hM (cs_ps_end hp)
  | succ d ih =>
    intro n M N hn hp hM hd
    obtain ⟨n, rfl⟩ : ∃ k, n = k + 1 := ⟨n - 1, by omega⟩
    by_cases e : N = M
    · subst e
      simp only [wY_from_28, not_true, not_false_iff, false_implies, true_implies, true_and, and_true, forall_eq, implies_true]
      exact K N hM (cs_ps_end hp)
    · have hNl := hp.1.1
      have g : ¬ lN N = lN M := fun z => e ((pk_lEQ (by omega) (by omega)).mp z)
      simp only [wY_from_28, g, not_true, not_false_iff, false_implies, true_implies, true_and, and_true, forall_eq, implies_true]
      refine cs_pass hf hp.1 (fun t hI => ?_)
      refine ih n N t (by omega) hI hNl ?_
      rw [cs_bt e] at hd
      by_cases e2 : t = N
      · subst e2
        rw [cs_bf (fun z => z rfl)]
        omega
      · have := cs_B_ne hNl hI.1.1 hI.2.1 e2
        have := cs_ble (t ≠ N)
        omega
theorem cs_from {N : Nat} {y : Int32} (hf : ∀ j, j < 144 → cs_yw (yf j)) (hN : N < 2 ^ 48) (hy : cs_yw y) (h0 : ∀ a, R0 a ↔ cs_B N a ∨ cs_w 10000 y a)
    (K : ∀ M, M < 2 ^ 48 → (∀ a, cs_B M a ↔ cs_R R0 (cs_E 10000 yf) a) → post (lN M)) : wpY_from post (yr, yf) y (lN N) := by
  have key : ∀ M0, cs_fI R0 yf M0 → ∃ n, wY_from_28 post yr yf n (lN M0) (-1) := by
    intro M0 hM0
    refine ⟨201, ?_⟩
    have g : ¬ lN M0 = -1 := fun e => by
      have h : (lN M0).toInt = (-1 : Int64).toInt := by rw [e]
      have := hM0.1
      rw [pk_lT (by omega)] at h
      have e : (-1 : Int64).toInt = -1 := by decide
      omega
    simp only [wY_from_28, g, not_true, not_false_iff, false_implies, true_implies, true_and, and_true, forall_eq, implies_true]
    refine cs_pass hf hM0 (fun t ht => cs_passes hf K 100 200 M0 t (by omega) ht hM0.1 ?_)
    have a := cs_n_le (fun a => ¬ cs_B t a) 48
    have b := cs_ble (t ≠ M0)
    omega
  simp only [wpY_from]
  refine cs_yRefers hy (fun hn => ?_) (fun a ha e => ?_)
  · simp only [not_true, not_false_iff, false_implies, true_implies, true_and, and_true, forall_eq, implies_true]
    refine key N ⟨hN, fun a ha => ?_, fun a ha => cs_R_b ((h0 a).mpr (Or.inl ha))⟩
    rcases (h0 a).mp ha with z | z
    · exact z
    · exact absurd z (cs_num_nw (by omega) (by omega) hn)
  · simp only [e, cs_yw_sub, cs_set hN ha, cs_n10, not_true, not_false_iff, false_implies, true_implies, true_and, and_true, forall_eq, implies_true]
    refine key _ ⟨cs_or_lt hN ha, fun a' ha' => ?_, fun a' ha' => cs_R_b ((h0 a').mpr ?_)⟩
    · rcases (h0 a').mp ha' with z | z
      · exact cs_B_or.mpr (Or.inl z)
      · exact cs_B_or.mpr (Or.inr (cs_w_inj (B := 10000) (by omega) z ⟨by omega, e⟩))
    · rcases cs_B_or.mp ha' with z | z
      · exact Or.inl z
      · rw [z]; exact Or.inr ⟨by omega, e⟩
end
theorem cs_all {post : Int64 → Prop} {yr yf : Nat → Int32} (hY : cs_Y yr yf) (K : ∀ M, M < 2 ^ 48 → (∀ a, cs_B M a ↔ cs_V 10000 yr 0 0 6 yf a) → post (lN M)) : wpY_all post (yr, yf) := by
  simp only [wpY_all]
  refine pk_loop (σ := Nat) (fun m r t => wY_all_4 post yr yf m (lN t) (nI r)) (fun r t => t < 2 ^ 48 ∧ ∀ a, cs_B t a ↔ cs_V 10000 yr 0 0 r yf a) 6 0 0 (by omega) ⟨by omega, fun a => ⟨fun z => absurd z (cs_B_0 a), fun z => absurd z cs_V_0⟩⟩ (fun m t hI => ?_) (fun m r t hr hI ih => ?_)
  · have g3 : (6 : Int32) ≤ nI 6 := nI_le (a := 6) (by omega) (by omega)
    simp only [wY_all_4, g3, not_true, not_false_iff, false_implies, true_implies, true_and, and_true, forall_eq, implies_true]
    exact K t hI.1 hI.2
  · have g3 : ¬ (6 : Int32) ≤ nI r := nI_ge (b := 6) hr (by omega)
    have v : vp_in (nI r) 6 := vp_in_nI hr (by omega)
    have k : (nI r).toNatClampNeg = r := nI_clamp (by omega)
    simp only [wY_all_4, g3, v, k, nI_1, not_true, not_false_iff, false_implies, true_implies, true_and, and_true, forall_eq, implies_true]
    refine cs_from (R0 := fun a => cs_V 10000 yr 0 0 r yf a ∨ cs_w 10000 (yr r) a) hY.2.1 hI.1 (hY.1 r hr) (fun a => or_congr (hI.2 a).symm Iff.rfl) (fun M h1 h2 => ?_)
    exact ih M ⟨h1, fun a => (h2 a).trans cs_V_s⟩
theorem cs_ones {post : Int32 → Prop} {v : SY} {N : Nat} (hN : N < 2 ^ 48) (K : post (nI (cs_n (cs_B N) 48))) : wpY_ones post v (lN N) := by
  obtain ⟨yr, yf⟩ := v
  simp only [wpY_ones]
  refine pk_loop (σ := Nat) (fun m i t => wY_ones_5 post (lN N) yr yf m (nI t) (nI i)) (fun i t => t = cs_n (cs_B N) i) 48 0 0 (by omega) rfl (fun m t hI => ?_) (fun m i t hi hI ih => ?_)
  · have g3 : (48 : Int32) ≤ nI 48 := nI_le (a := 48) (by omega) (by omega)
    simp only [wY_ones_5, g3, not_true, not_false_iff, false_implies, true_implies, true_and, and_true, forall_eq, implies_true]
    rw [hI]; exact K
  · have g3 : ¬ (48 : Int32) ≤ nI i := nI_ge (b := 48) hi (by omega)
    have hb := cs_bit (N := N) (k := i) hN hi
    by_cases z : cs_B N i
    · have z' := hb.mpr z
      simp only [wY_ones_5, g3, z', nI_1, not_true, not_false_iff, false_implies, true_implies, true_and, and_true, forall_eq, implies_true]
      exact ih (t + 1) (by rw [cs_n_suc, cs_bt z, hI])
    · have z' : ¬ ((lN N >>> ((nI i).toInt64 &&& 63)) &&& 1) = 1 := fun y => z (hb.mp y)
      simp only [wY_ones_5, g3, z', nI_1, not_true, not_false_iff, false_implies, true_implies, true_and, and_true, forall_eq, implies_true]
      exact ih t (by rw [cs_n_suc, cs_bf z, hI, Nat.add_zero])
/-- how many the reference can come to -/
theorem cs_ycount {post : Int32 → Prop} {yr yf : Nat → Int32} {v : SY} (hY : cs_Y yr yf) (K : post (nI (cs_n (cs_V 10000 yr 0 0 6 yf) 48))) : wpY_all (fun r => wpY_ones (fun r' => post r') v r) (yr, yf) := by
  refine cs_all hY (fun M h1 h2 => cs_ones h1 ?_)
  rw [cs_n_eq (fun a _ => h2 a)]; exact K
