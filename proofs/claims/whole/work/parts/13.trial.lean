/-! trial counts -/
noncomputable def cs_fc (xf xk : Nat → Int32) (k b : Nat) : Nat := cs_n (fun j => ¬ xk (144 + j / 3) = 0 ∧ xf (432 + j) = nI (1000 + b)) k
noncomputable def cs_rc (xr : Nat → Int32) (k b : Nat) : Nat := cs_n (fun r => xr (18 + r) = nI (1000 + b)) k
theorem cs_c_eq (xr xf xk : Nat → Int32) (b : Nat) : cs_c xr xf xk b = cs_rc xr 6 b + cs_fc xf xk 144 b := rfl
def cs_tr (base : Nat → Int32) (w : Int32) (xf xk tr : Nat → Int32) (k : Nat) : Prop := ∀ b, cs_sg 3 b → tr b = base b + w * nI (cs_fc xf xk k b)
section
variable {base xr xf xk tr : Nat → Int32} {w : Int32} {x f : Nat}
theorem cs_tr_0 : cs_tr base w xf xk base 0 := fun b _ => by
  show base b = base b + w * nI 0
  rw [nI_0]; grind
theorem cs_fc_s (k b : Nat) : cs_fc xf xk (k + 1) b = cs_fc xf xk k b + cs_b (¬ xk (144 + k / 3) = 0 ∧ xf (432 + k) = nI (1000 + b)) := rfl
theorem cs_tr_ref (h : cs_tr base w xf xk tr (3 * x + f)) (hf : f < 3) (hk : ¬ xk (144 + x) = 0) {b0 : Nat} (hb0 : b0 < 1000) (hw : xf (3 * (144 + x) + f) = nI (1000 + b0)) : cs_tr base w xf xk (upd tr b0 (tr b0 + w)) (3 * x + (f + 1)) := by
  intro b hb
  rw [show 3 * x + (f + 1) = 3 * x + f + 1 by omega, cs_fc_s]
  rw [show 3 * (144 + x) + f = 432 + (3 * x + f) by omega] at hw
  by_cases e : b = b0
  · subst e
    rw [cs_upd_s, cs_bt ⟨by rw [show (3 * x + f) / 3 = x by omega]; exact hk, hw⟩, h b hb, ← nI_1]
    grind
  · rw [cs_upd_n e, cs_bf (fun z => ?_), h b hb]
    · rfl
    · unfold cs_sg at hb
      have := cs_nIinj (by omega) (by omega) (z.2.symm.trans hw)
      omega
theorem cs_tr_num (h : cs_tr base w xf xk tr (3 * x + f)) (hf : f < 3) (hw : cs_num (xf (3 * (144 + x) + f))) : cs_tr base w xf xk tr (3 * x + (f + 1)) := by
  intro b hb
  rw [show 3 * x + (f + 1) = 3 * x + f + 1 by omega, cs_fc_s, cs_bf (fun z => ?_), h b hb]
  · rfl
  · rw [show 3 * (144 + x) + f = 432 + (3 * x + f) by omega] at hw
    unfold cs_sg at hb
    exact cs_num_nw (B := 1000) (b := b) (by omega) (by omega) hw ⟨by omega, z.2⟩
theorem cs_tr_skip (h : cs_tr base w xf xk tr (3 * x)) (hk : xk (144 + x) = 0) : cs_tr base w xf xk tr (3 * (x + 1)) := by
  intro b hb
  have e : ∀ g, g < 3 → cs_b (¬ xk (144 + (3 * x + g) / 3) = 0 ∧ xf (432 + (3 * x + g)) = nI (1000 + b)) = 0 := fun g hg => cs_bf (fun z => by
    rw [show (3 * x + g) / 3 = x by omega] at z
    exact z.1 hk)
  have e0 := e 0 (by omega)
  have e1 := e 1 (by omega)
  have e2 := e 2 (by omega)
  have f0 := cs_fc_s (xf := xf) (xk := xk) (3 * x + 0) b
  have f1 := cs_fc_s (xf := xf) (xk := xk) (3 * x + 1) b
  have f2 := cs_fc_s (xf := xf) (xk := xk) (3 * x + 2) b
  rw [e0] at f0
  rw [e1] at f1
  rw [e2] at f2
  have ee : cs_fc xf xk (3 * (x + 1)) b = cs_fc xf xk (3 * x) b := by
    rw [show 3 * (x + 1) = 3 * x + 2 + 1 by omega, f2, show 3 * x + 2 = 3 * x + 1 + 1 by omega, f1]
    exact f0
  rw [ee]; exact h b hb
/-- a word of a kept cell -/
theorem cs_W_word {c : Nat} (hc : c < 7) (W : cs_W c xf xk) {b f : Nat} (hb : cs_sg c b) (hk : ¬ xk b = 0) (hf : f < 3) : (cs_num (xf (3 * b + f)) ∧ xf (3 * b + f) < 1000) ∨ ∃ b', cs_sg c b' ∧ b' < 336 ∧ ¬ xk b' = 0 ∧ xf (3 * b + f) = nI (1000 + b') := by
  rcases W b hb.1 hb.2 hk f hf with o | ⟨b', o1, o2, o3, o4⟩
  · exact Or.inl ⟨o, cs_num_lt o⟩
  · exact Or.inr ⟨b', ⟨o1, o2⟩, by omega, o3, o4⟩
theorem cs_ok_word {c : Nat} (hc : c < 7) {v : Int32} (h : cs_ok c xk v) : (cs_num v ∧ v < 1000) ∨ ∃ b', cs_sg c b' ∧ b' < 336 ∧ ¬ xk b' = 0 ∧ v = nI (1000 + b') := by
  rcases h with o | ⟨b', o1, o2, o3, o4⟩
  · exact Or.inl ⟨o, cs_num_lt o⟩
  · exact Or.inr ⟨b', ⟨o1, o2⟩, by omega, o3, o4⟩
theorem cs_rc_s (k b : Nat) : cs_rc xr (k + 1) b = cs_rc xr k b + cs_b (xr (18 + k) = nI (1000 + b)) := rfl
theorem cs_rc_ref {r : Nat} (h : ∀ b, cs_sg 3 b → tr b = nI (cs_rc xr r b)) {b0 : Nat} (hb0 : b0 < 1000) (hw : xr (18 + r) = nI (1000 + b0)) : ∀ b, cs_sg 3 b → upd tr b0 (tr b0 + 1) b = nI (cs_rc xr (r + 1) b) := by
  intro b hb
  rw [cs_rc_s]
  by_cases e : b = b0
  · subst e
    rw [cs_upd_s, cs_bt hw, h b hb, nI_1]
  · rw [cs_upd_n e, cs_bf (fun z => ?_), h b hb, Nat.add_zero]
    unfold cs_sg at hb
    have := cs_nIinj (by omega) (by omega) (z.symm.trans hw)
    omega
theorem cs_rc_num {r : Nat} (h : ∀ b, cs_sg 3 b → tr b = nI (cs_rc xr r b)) (hw : cs_num (xr (18 + r))) : ∀ b, cs_sg 3 b → tr b = nI (cs_rc xr (r + 1) b) := by
  intro b hb
  rw [cs_rc_s, cs_bf (fun z => ?_), h b hb, Nat.add_zero]
  unfold cs_sg at hb
  exact cs_num_nw (B := 1000) (b := b) (by omega) (by omega) hw ⟨by omega, z⟩
end
