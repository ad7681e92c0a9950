/-! the invariant over the states; frames -/
def cs_JU (c : Nat) (u : SX) (yr yf : Nat → Int32) : Prop := cs_J c u.2.1 u.2.2.1 u.2.2.2.1 u.2.2.2.2.1 u.2.2.2.2.2.1 u.2.2.2.2.2.2.2.2.2.2.2.2.2.1 u.2.2.2.2.2.2.2.2.2.2.2.2.2.2.1 u.2.2.2.2.2.2.2.2.2.2.2.2.2.2.2 yr yf
def cs_FU (c : Nat) (u u' : SX) : Prop := cs_Fr c u.2.1 u.2.2.1 u.2.2.2.1 u.2.2.2.2.1 u.2.2.2.2.2.1 u.2.2.2.2.2.2.2.2.2.2.2.2.2.1 u.2.2.2.2.2.2.2.2.2.2.2.2.2.2.1 u.2.2.2.2.2.2.2.2.2.2.2.2.2.2.2 u'.2.1 u'.2.2.1 u'.2.2.2.1 u'.2.2.2.2.1 u'.2.2.2.2.2.1 u'.2.2.2.2.2.2.2.2.2.2.2.2.2.1 u'.2.2.2.2.2.2.2.2.2.2.2.2.2.2.1 u'.2.2.2.2.2.2.2.2.2.2.2.2.2.2.2
def cs_XU (c : Nat) (u : SX) (yr yf : Nat → Int32) : Prop := cs_X c u.2.2.2.1 u.2.2.2.2.1 u.2.2.2.2.2.1 yr yf
/-- collectors below i have been brought to (yr', yf'), the others still stand at (yr, yf) -/
def cs_LI (yr yf yr' yf' : Nat → Int32) (i : Nat) (u : SX) : Prop := (∀ d, d < i → cs_JU d u yr' yf') ∧ ∀ d, i ≤ d → d < 7 → cs_JU d u yr yf
theorem cs_LI_s {yr yf yr' yf' : Nat → Int32} {i : Nat} {u u' : SX} (h : cs_LI yr yf yr' yf' i u) (F : cs_FU i u u') (J : cs_JU i u' yr' yf') : cs_LI yr yf yr' yf' (i + 1) u' := by
  refine ⟨fun d hd => ?_, fun d h1 h2 => cs_J_fr (by omega) F (h.2 d (by omega) h2)⟩
  by_cases e : d = i
  · rw [e]; exact J
  · exact cs_J_fr e F (h.1 d (by omega))
theorem cs_FU_tr {c : Nat} {u u' u'' : SX} (A : cs_FU c u u') (B : cs_FU c u' u'') : cs_FU c u u'' := cs_Fr_tr A B
def i_Rel (k : Nat) (u : SX) (v : SY) : Prop := (∀ d, d < 7 → cs_JU d u v.1 v.2) ∧ cs_Y v.1 v.2
theorem i_up {k : Nat} {u : SX} {v : SY} (h : i_Rel k u v) : i_Rel (k + 4) u v := h
theorem cs_J_init (c : Nat) : cs_J c 48 0 (fun _ => 0) (fun _ => 0) (fun _ => 0) (fun _ => 0) (fun _ => 0) (fun _ => 0) (fun _ => 0) (fun _ => 0) := by
  refine ⟨⟨fun _ _ => False, fun _ _ _ z => z.elim, fun _ _ _ z => z.elim, fun _ _ z => z.elim, fun _ _ => Or.inl ⟨cs_zero_num, rfl⟩, fun _ _ z => z.elim⟩, fun b _ _ z => absurd rfl z, fun _ => ⟨48, rfl, Or.inl rfl, fun b _ z => absurd rfl z⟩, fun _ b b' _ _ _ z => absurd rfl z, fun _ b _ z => absurd rfl z, fun _ b f b' _ _ z => absurd rfl z, fun _ z => absurd rfl z⟩
theorem cs_Y_init : cs_Y (fun _ => 0) (fun _ => 0) := by
  refine ⟨fun _ _ => Or.inl cs_zero_num, fun _ _ => Or.inl cs_zero_num, ?_⟩
  rw [cs_n_0 (fun k _ h => ?_)]
  · omega
  · exact cs_R_i (fun _ => False) (fun a ⟨r, _, _, h3⟩ => cs_num_nw (B := 10000) (b := a) (by omega) (by omega) cs_zero_num h3) (fun _ _ _ z _ => z) h
