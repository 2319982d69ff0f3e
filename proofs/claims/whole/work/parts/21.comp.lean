/-! THE CLASS'S LIGHT does what the spec says. -/
def LC (σ : Mem) (c : Nat) (L : Nat → Nat) : Prop := σ c 3 = nI (L 2) ∧ σ c 4 = nI (L 3) ∧ σ c 5 = nI (L 4) ∧ σ c 6 = nI (L 5) ∧ σ c 7 = nI (L 1) ∧ σ c 8 = nI (L 0) ∧ (∀ f, f < L 1 → σ (c + 1) f = nI (L (6 + f))) ∧ (∀ s, s < L 0 → σ (c + 2) s = nI (L (12 + 2 * s)) ∧ σ (c + 3) s = nI (L (13 + 2 * s)))
def Fr (c : Nat) (σ σ' : Mem) : Prop := ∀ x, (x < c ∨ c + 4 ≤ x) → σ' x = σ x
theorem Fr.rf {c : Nat} {σ : Mem} : Fr c σ σ := fun _ _ => rfl
theorem Fr.tr {c : Nat} {σ σ1 σ2 : Mem} (h1 : Fr c σ σ1) (h2 : Fr c σ1 σ2) : Fr c σ σ2 := fun x hx => (h2 x hx).trans (h1 x hx)
theorem Fr.up {c d k : Nat} {v : Int32} {σ : Mem} (h : c ≤ d ∧ d < c + 4) : Fr c σ (up σ d k v) := fun x hx => up_x (by omega)
theorem LC.fr {c d : Nat} {σ σ' : Mem} {L : Nat → Nat} (h : LC σ d L) (hf : Fr c σ σ') (hd : d + 4 ≤ c ∨ c + 4 ≤ d) : LC σ' d L := by
  have e0 : σ' d = σ d := hf d (by omega)
  have e1 : σ' (d + 1) = σ (d + 1) := hf _ (by omega)
  have e2 : σ' (d + 2) = σ (d + 2) := hf _ (by omega)
  have e3 : σ' (d + 3) = σ (d + 3) := hf _ (by omega)
  unfold LC at h ⊢
  rw [e0, e1, e2, e3]
  exact h
section COMP
variable {σ : Mem} {c : Nat} {L : Nat → Nat}
theorem s_isLit (h : LC σ c L) (ho : Ok L) : f_X1_isLit c σ = some 1 := by
  obtain ⟨-, -, -, -, h7, -⟩ := h
  unfold f_X1_isLit
  rw [h7, if_neg (nI_nle ho.2.1.1 (by have := ho.2.1.2; omega))]
theorem s_thickOf (h : LC σ c L) (ho : Ok L) {w : Nat} (hw : w < 2 ^ 31) : f_X1_thickOf c σ (nI w) = some (nI (thk L w)) := by
  obtain ⟨-, -, -, -, h7, -, hth, -⟩ := h
  have h1 := ho.2.1.1
  have h2 := ho.2.1.2
  have h3 : w % L 1 < L 1 := Nat.mod_lt w h1
  unfold f_X1_thickOf
  rw [h7, if_neg (nI_nle h1 (by omega)), if_neg (nI_pos hw), lm_nz_n h1 (by omega), lm_ck_s, pk_rem hw h1 (by omega), lm_in_n (by omega) (by decide), lm_ck_s, nI_clamp (by omega), hth _ h3]
  rfl
set_option maxHeartbeats 4000000 in
theorem s_loggedOf (h : LC σ c L) (ho : Ok L) (hw : L 5 < 2 ^ 31) {s : Nat} (hs : s < L 0) : f_X1_loggedOf c σ (nI s) = some (nI (lgd L s)) := by
  have ht := s_thickOf h ho hw
  have ht9 := thk_le ho (L 5)
  obtain ⟨-, h4, h5, h6, -, -, -, hsh⟩ := h
  obtain ⟨hk, hp⟩ := hsh s hs
  obtain ⟨⟨-, o0⟩, -, ⟨-, o2⟩, o3, o4, -, o7⟩ := ho
  obtain ⟨k1, k5, p1⟩ := o7 s hs
  have hi : lm_in (nI s) 6 = true := lm_in_n (by omega) (by decide)
  have hc : (nI s).toNatClampNeg = s := nI_clamp (by omega)
  unfold f_X1_loggedOf f_X1_loggedOf_32 f_X1_loggedOf_60 f_X1_loggedOf_86
  unfold lgd
  generalize hT : thk L (L 5) = T at *
  generalize hP : L (13 + 2 * s) = P at *
  generalize hK : L (12 + 2 * s) = K at *
  simp only [hi, lm_ck_s, hc, hk, hp, lm_nm_s, h6, ht, lm_bd_s, h4, h5]
  have e4 : nI K = 4 ↔ K = 4 := by rw [lit_4, nI_eq (by omega) (by omega)]
  have e5 : nI K = 5 ↔ K = 5 := by rw [lit_5, nI_eq (by omega) (by omega)]
  have e0 : nI P = 0 ↔ P = 0 := by rw [lit_0, nI_eq (by omega) (by omega)]
  have e2 : nI P ≤ 2 ↔ P ≤ 2 := by rw [lit_2, nI_leI (by omega) (by omega)]
  have eo : nI (L 4) ≤ 0 ↔ L 4 = 0 := by rw [lit_0, nI_leI (by omega) (by omega)]; omega
  have ee : nI (L 3) - nI T < nI P ↔ L 3 < P + T := sI_lt (by omega) (by omega) (by omega)
  have el : (4 : Int32) + nI (L 4) / 10 - nI T / 2 < nI P ↔ 4 + L 4 / 10 < P + T / 2 := by
    rw [lit_10, lit_2, lit_4, pk_div (by omega) (by decide) (by decide), pk_div (by omega) (by decide) (by decide), nI_add, sI_lt (by omega) (by omega) (by omega)]
  simp only [e4, e5, e0, e2, eo, ee, el]
  have n10 : ((1 : Int32) = 0) = False := by decide
  simp only [n10, if_true, if_false]
  repeat' split
  all_goals first | rfl | (exfalso; omega)
end COMP
