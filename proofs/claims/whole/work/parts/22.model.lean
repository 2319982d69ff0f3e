/-! THE REFERENCE'S ROWS do what the spec says. -/
def LM (τ : Mem) (a : Nat) (L : Nat → Nat) : Prop := ∀ k, k < 24 → τ a k = nI (L k)
def FrM (a : Nat) (τ τ' : Mem) : Prop := ∀ x, x ≠ a → τ' x = τ x
theorem FrM.rf {a : Nat} {τ : Mem} : FrM a τ τ := fun _ _ => rfl
theorem FrM.tr {a : Nat} {τ τ1 τ2 : Mem} (h1 : FrM a τ τ1) (h2 : FrM a τ1 τ2) : FrM a τ τ2 := fun x hx => (h2 x hx).trans (h1 x hx)
theorem FrM.up {a k : Nat} {v : Int32} {τ : Mem} : FrM a τ (up τ a k v) := fun _ hx => up_x hx
theorem LM.fr {a b : Nat} {τ τ' : Mem} {L : Nat → Nat} (h : LM τ b L) (hf : FrM a τ τ') (hd : b ≠ a) : LM τ' b L := fun k hk => by rw [hf b hd]; exact h k hk
theorem LM.set {a k v : Nat} {τ : Mem} {L : Nat → Nat} (h : LM τ a L) : LM (up τ a k (nI v)) a (setL L k v) := fun i hi => by
  by_cases q : i = k
  · subst q
    rw [up_eq, setL_eq]
  · rw [up_ne (by omega), setL_ne q]
    exact h i hi
theorem nx_xor (a b : Nat) : nI a ^^^ nI b = nI (a ^^^ b) := by
  apply Int32.toBitVec_inj.1
  show BitVec.ofNat 32 a ^^^ BitVec.ofNat 32 b = BitVec.ofNat 32 (a ^^^ b)
  apply BitVec.eq_of_getLsbD_eq
  intro i hi
  simp [hi]
theorem nx_or (a b : Nat) : nI a ||| nI b = nI (a ||| b) := by
  apply Int32.toBitVec_inj.1
  show BitVec.ofNat 32 a ||| BitVec.ofNat 32 b = BitVec.ofNat 32 (a ||| b)
  apply BitVec.eq_of_getLsbD_eq
  intro i hi
  simp [hi]
theorem cl_0 : (0 : Int32).toNatClampNeg = 0 := rfl
theorem cl_1 : (1 : Int32).toNatClampNeg = 1 := rfl
theorem cl_2 : (2 : Int32).toNatClampNeg = 2 := rfl
theorem cl_3 : (3 : Int32).toNatClampNeg = 3 := rfl
theorem cl_4 : (4 : Int32).toNatClampNeg = 4 := rfl
theorem cl_5 : (5 : Int32).toNatClampNeg = 5 := rfl
theorem in_0 : lm_in (0 : Int32) 24 = true := rfl
theorem in_1 : lm_in (1 : Int32) 24 = true := rfl
theorem in_2 : lm_in (2 : Int32) 24 = true := rfl
theorem in_3 : lm_in (3 : Int32) 24 = true := rfl
theorem in_4 : lm_in (4 : Int32) 24 = true := rfl
theorem in_5 : lm_in (5 : Int32) 24 = true := rfl
theorem m_has : ∀ a, a < 64 → ∀ k, k < 32 → f_X5_has (nI a) (nI k) = some (if a.testBit k then 1 else 0) := by decide
def cnt (a : Nat) : Nat := a % 2 + a / 2 % 2 + a / 4 % 2 + a / 8 % 2 + a / 16 % 2 + a / 32 % 2
def low (a : Nat) : Nat := if a % 2 = 1 then 0 else if a / 2 % 2 = 1 then 1 else if a / 4 % 2 = 1 then 2 else if a / 8 % 2 = 1 then 3 else if a / 16 % 2 = 1 then 4 else 5
theorem m_bits : ∀ a, a < 64 → f_X5_bits (nI a) = some (nI (cnt a)) := by decide
theorem s_bitCount : ∀ a, a < 64 → f_J6_bitCount_0f7a4 (nI a) = some (nI (cnt a)) := by decide
theorem s_ntz : ∀ a, a < 64 → 0 < a → f_J6_numberOfTrailingZeros_0f7a4 (nI a) = some (nI (low a)) := by decide
theorem cnt_le (a : Nat) : cnt a ≤ 6 := by unfold cnt; omega
theorem seenN_bit {L : Nat → Nat} {who : Nat} : ∀ (n s : Nat), (seenN L who n).testBit s = (decide (s < n) && vis (lgd L s) who)
  | 0, s => by simp [seenN]
  | n + 1, s => by
    have hlt := seenN_lt (L := L) (who := who) n
    have ih := seenN_bit (L := L) (who := who) n s
    unfold seenN
    by_cases hv : vis (lgd L n) who = true
    · rw [if_pos hv, Nat.add_comm]
      rcases Nat.lt_trichotomy s n with h | h | h
      · rw [Nat.testBit_two_pow_add_gt h, ih]
        simp [h, show s < n + 1 by omega]
      · subst h
        rw [Nat.testBit_two_pow_add_eq, Nat.testBit_lt_two_pow hlt]
        simp [hv]
      · rw [Nat.testBit_lt_two_pow]
        · simp [show ¬ s < n + 1 by omega]
        · have : 2 ^ (n + 1) ≤ 2 ^ s := Nat.pow_le_pow_right (by decide) (by omega)
          rw [Nat.pow_succ] at this
          omega
    · rw [if_neg hv, Nat.add_zero, ih]
      by_cases h : s = n
      · subst h
        simp [hv]
      · by_cases h2 : s < n
        · simp [h2, show s < n + 1 by omega]
        · simp [h2, show ¬ s < n + 1 by omega]
theorem vis_x : ∀ g, g < 4 → vis g 2 = (vis g 0 ^^ vis g 1) := by decide
theorem seen_x {L : Nat → Nat} : seen L 0 ^^^ seen L 1 = seen L 2 := by
  apply Nat.eq_of_testBit_eq
  intro s
  unfold seen
  rw [Nat.testBit_xor, seenN_bit, seenN_bit, seenN_bit, vis_x _ (by have := @lgd_le L s; omega)]
  cases decide (s < L 0) <;> simp
section MODEL
variable {τ : Mem} {a : Nat} {L : Nat → Nat}
theorem m_of1 (h : LM τ a L) {s : Nat} (hs : s < 6) : f_X5_of a τ (nI s) 1 = some (nI (L (13 + 2 * s))) := by
  unfold f_X5_of
  have e : (12 : Int32) + 2 * nI s + 1 = nI (13 + 2 * s) := by
    rw [lit_12, lit_2, lit_1, pk_mul, nI_add, nI_add]; congr 1; omega
  rw [e, lm_in_n (by omega) (by decide), lm_ck_s, nI_clamp (by omega), h _ (by omega)]
theorem m_of0 (h : LM τ a L) {s : Nat} (hs : s < 6) : f_X5_of a τ (nI s) 0 = some (nI (L (12 + 2 * s))) := by
  unfold f_X5_of
  have e : (12 : Int32) + 2 * nI s + 0 = nI (12 + 2 * s) := by
    rw [lit_12, lit_2, lit_0, pk_mul, nI_add, nI_add]; congr 1
  rw [e, lm_in_n (by omega) (by decide), lm_ck_s, nI_clamp (by omega), h _ (by omega)]
theorem m_thickOf (h : LM τ a L) (ho : Ok L) {w : Nat} (hw : w < 2 ^ 31) : f_X5_thickOf a τ (nI w) = some (nI (thk L w)) := by
  have h1 := ho.2.1.1
  have h2 := ho.2.1.2
  have h3 : w % L 1 < L 1 := Nat.mod_lt w h1
  unfold f_X5_thickOf
  rw [in_1, lm_ck_s, cl_1, h 1 (by decide), lm_nz_n h1 (by omega), lm_ck_s, pk_rem hw h1 (by omega), lit_6, nI_add, lm_in_n (by omega) (by decide), lm_ck_s, nI_clamp (by omega), h _ (by omega)]
  rfl
set_option maxHeartbeats 4000000 in
theorem m_loggedOf (h : LM τ a L) (ho : Ok L) (hw : L 5 < 2 ^ 31) {s : Nat} (hs : s < L 0) : f_X5_loggedOf a τ (nI s) = some (nI (lgd L s)) := by
  have ht := m_thickOf h ho hw
  have ht9 := thk_le ho (L 5)
  obtain ⟨⟨-, o0⟩, -, ⟨-, o2⟩, o3, o4, -, o7⟩ := ho
  obtain ⟨k1, k5, p1⟩ := o7 s hs
  have hk := m_of0 h (show s < 6 by omega)
  have hp := m_of1 h (show s < 6 by omega)
  unfold f_X5_loggedOf f_X5_loggedOf_46 f_X5_loggedOf_61
  unfold lgd
  generalize hT : thk L (L 5) = T at *
  generalize hP : L (13 + 2 * s) = P at *
  generalize hK : L (12 + 2 * s) = K at *
  simp only [hk, hp, lm_bd_s, in_5, in_4, in_3, lm_ck_s, cl_5, cl_4, cl_3, h 5 (by decide), h 4 (by decide), h 3 (by decide), ht]
  have e4 : (4 : Int32) ≤ nI K ↔ 4 ≤ K := by rw [lit_4, nI_leI (by omega) (by omega)]
  have e5 : nI K = 5 ↔ K = 5 := by rw [lit_5, nI_eq (by omega) (by omega)]
  have e0 : nI P = 0 ↔ P = 0 := by rw [lit_0, nI_eq (by omega) (by omega)]
  have e2 : nI P ≤ 2 ↔ P ≤ 2 := by rw [lit_2, nI_leI (by omega) (by omega)]
  have eo : nI (L 4) ≤ 0 ↔ L 4 = 0 := by rw [lit_0, nI_leI (by omega) (by omega)]; omega
  have ee : nI (L 3) - nI T < nI P ↔ L 3 < P + T := sI_lt (by omega) (by omega) (by omega)
  have el : (4 : Int32) + nI (L 4) / 10 - nI T / 2 < nI P ↔ 4 + L 4 / 10 < P + T / 2 := by
    rw [lit_10, lit_2, lit_4, pk_div (by omega) (by decide) (by decide), pk_div (by omega) (by decide) (by decide), nI_add, sI_lt (by omega) (by omega) (by omega)]
  simp only [e4, e5, e0, e2, eo, ee, el]
  repeat' split
  all_goals first | rfl | (exfalso; omega)
theorem m_seenL (h : LM τ a L) (ho : Ok L) (hw : L 5 < 2 ^ 31) {who : Nat} (hwho : who < 2) : ∀ (n k : Nat), k ≤ L 0 → L 0 - k < n → f_X5_seenBy_4 a τ n (nI who) (nI (seenN L who k)) (nI k) = some (nI (seen L who)) := by
  intro n
  induction n with
  | zero => intro k h1 h2; omega
  | succ n ih =>
    intro k hk hn
    have h0 := ho.1.2
    rw [f_X5_seenBy_4, in_0, lm_ck_s, cl_0, h 0 (by decide)]
    by_cases hkN : k = L 0
    · subst hkN
      rw [if_pos (nI_le (Nat.le_refl _) (by omega))]
      rfl
    · have hg := @lgd_le L k
      have hb : ∀ g, g < 4 → ∀ w, w < 2 → (if g.testBit w then (1 : Int32) else 0) = (if vis g w then 1 else 0) := by decide
      rw [if_neg (nI_ge (by omega) (by omega)), m_loggedOf h ho hw (by omega), lm_bd_s, m_has _ (by omega) _ (by omega), lm_bd_s, hb _ (by omega) _ hwho]
      have hlt := seenN_lt (L := L) (who := who) k
      have h64 : 2 ^ k ≤ 2 ^ 5 := Nat.pow_le_pow_right (by decide) (by omega)
      have hsh : ∀ k, k < 6 → (1 : Int32) <<< (nI k &&& 31) = nI (2 ^ k) := by decide
      by_cases hv : vis (lgd L k) who = true
      · rw [if_pos hv, if_neg (by decide), lm_nm_s, lm_nm_s, hsh k (by omega), or_6 k (by omega) _ (by omega) hlt, nI_1]
        have e : seenN L who k + 2 ^ k = seenN L who (k + 1) := by
          show _ = seenN L who k + _
          rw [if_pos hv]
        rw [e]
        exact ih (k + 1) (by omega) (by omega)
      · rw [if_neg hv, if_pos rfl, lm_nm_s, lm_nm_s, lit_0, or_0 _ (by omega), nI_1]
        have e : seenN L who k + 0 = seenN L who (k + 1) := by
          show _ = seenN L who k + _
          rw [if_neg hv]
        rw [e]
        exact ih (k + 1) (by omega) (by omega)
theorem m_seenBy (h : LM τ a L) (ho : Ok L) (hw : L 5 < 2 ^ 31) {who : Nat} (hwho : who < 2) : f_X5_seenBy a τ (nI who) = some (nI (seen L who)) := by
  have h0 := ho.1.2
  exact m_seenL h ho hw hwho lm_fu 0 (Nat.zero_le _) (by show L 0 - 0 < 1000; omega)
theorem m_differ (h : LM τ a L) (ho : Ok L) (hw : L 5 < 2 ^ 31) : f_X5_differ a τ = some (nI (seen L 2)) := by
  unfold f_X5_differ
  rw [lit_0, m_seenBy h ho hw (by decide), lm_bd_s, lit_1, m_seenBy h ho hw (by decide), lm_bd_s, nx_xor, seen_x]
set_option maxHeartbeats 4000000 in
theorem m_nextCell (h : LM τ a L) (ho : Ok L) (hw : L 5 < 2 ^ 31) {s : Nat} (hs : s < L 0) : f_X5_nextCell a τ (nI s) = some (nI (nxt L s)) := by
  obtain ⟨⟨-, o0⟩, -, ⟨o2a, o2⟩, o3, o4, -, o7⟩ := ho
  obtain ⟨k1, k5, p1⟩ := o7 s hs
  have hk := m_of0 h (show s < 6 by omega)
  have hp := m_of1 h (show s < 6 by omega)
  have hev : nI (L 5) - nI (L 5) / 2 * 2 = nI (L 5 % 2) := by
    rw [lit_2]; exact pk_rem hw (by decide) (by decide)
  unfold f_X5_nextCell f_X5_nextCell_20 f_X5_nextCell_125
  unfold nxt
  simp only [hk, hp, lm_bd_s, in_5, in_2, lm_ck_s, cl_5, cl_2, h 5 (by decide), h 2 (by decide), hev, lm_nm_s]
  generalize hP : L (13 + 2 * s) = P at *
  generalize hK : L (12 + 2 * s) = K at *
  generalize hC : L 2 = C at *
  have ev : nI (L 5 % 2) = 0 ↔ L 5 % 2 = 0 := by rw [lit_0, nI_eq (by omega) (by omega)]
  have e1 : nI K = 1 ↔ K = 1 := by rw [lit_1, nI_eq (by omega) (by omega)]
  have e2 : nI K = 2 ↔ K = 2 := by rw [lit_2, nI_eq (by omega) (by omega)]
  have e3 : nI K = 3 ↔ K = 3 := by rw [lit_3, nI_eq (by omega) (by omega)]
  have e4 : nI K = 4 ↔ K = 4 := by rw [lit_4, nI_eq (by omega) (by omega)]
  have mm : ∀ d, d ≤ 2 → (if (0 : Int32) ≤ nI P - nI d then (if nI P - nI d < nI C then some (nI P - nI d) else some (nI C - 1)) else some 0) = some (nI (P - d)) := by
    intro d hd
    by_cases q : d ≤ P
    · rw [lit_0, if_pos (by rw [leI_s (by omega) (by omega) (by omega)]; omega), if_pos (by rw [sI_lt (by omega) (by omega) (by omega)]; omega), pk_sub q]
    · rw [lit_0, if_neg (by rw [leI_s (by omega) (by omega) (by omega)]; omega), show P - d = 0 by omega]
  have m0 : (if (0 : Int32) ≤ nI P then (if nI P < nI C then some (nI P) else some (nI C - 1)) else some 0) = some (nI P) := by
    rw [if_pos (nI_pos' (by omega)), if_pos (nI_lt p1 (by omega))]
  have m1 := mm 1 (by decide)
  have m2 := mm 2 (by decide)
  have xx : ∀ d, d ≤ 2 → (if (0 : Int32) ≤ nI P + nI d then (if nI P + nI d < nI C then some (nI P + nI d) else some (nI C - 1)) else some 0) = some (nI (if P + d < C then P + d else C - 1)) := by
    intro d hd
    rw [nI_add, if_pos (nI_pos' (by omega))]
    by_cases q : P + d < C
    · rw [if_pos (nI_lt q (by omega)), if_pos q]
    · rw [if_neg (nI_nlt (by omega) (by omega)), if_neg q, lit_1, pk_sub (by omega)]
  have x1 := xx 1 (by decide)
  have x2 := xx 2 (by decide)
  rw [← lit_1] at m1 x1
  rw [← lit_2] at m2 x2
  have n10 : ((1 : Int32) = 0) = False := by decide
  simp only [ev, e1, e2, e3, e4, m0, m1, m2, x1, x2, n10, if_true, if_false]
  rcases (show K = 1 ∨ K = 2 ∨ K = 3 ∨ K = 4 ∨ K = 5 by omega) with q | q | q | q | q <;> subst q <;> by_cases hq : L 5 % 2 = 0 <;> simp [hq]
theorem m_watchL (ho : Ok L) (hw : L 5 < 2 ^ 30) : ∀ (n k : Nat) (τ : Mem), LM τ a (prt L k) → k ≤ L 0 → L 0 - k < n → ∃ τ', f_X5_watchOf_2 a n (nI k) τ = some τ' ∧ LM τ' a (step L) ∧ FrM a τ τ' := by
  intro n
  induction n with
  | zero => intro k τ _ h1 h2; omega
  | succ n ih =>
    intro k τ h hk hn
    have h0 := ho.1.2
    have hok := prt_Ok ho hk
    have h00 : τ a 0 = nI (L 0) := h 0 (by decide)
    have h5 : τ a 5 = nI (L 5) := h 5 (by decide)
    have h4 : τ a 4 = nI (L 4) := h 4 (by decide)
    rw [f_X5_watchOf_2, in_0, lm_ck_s, cl_0, h00]
    by_cases hkN : k = L 0
    · subst hkN
      rw [if_pos (nI_le (Nat.le_refl _) (by omega)), in_5, lm_ck_s, cl_5, h5, m_thickOf h hok (by omega), lm_bd_s, prt_thk ho]
      have h9 := thk_le ho (L 5)
      have o4 := ho.2.2.2.2.1
      have key : ∀ y, y = 1 ∨ y = 2 → y = (if 5 ≤ thk L (L 5) then 2 else 1) → ∃ τ', f_X5_watchOf_46 a (nI y) τ = some τ' ∧ LM τ' a (step L) ∧ FrM a τ τ' := by
        intro y hy hyy
        unfold f_X5_watchOf_46
        simp only [in_4, in_5, lm_ck_s, cl_4, cl_5, lm_nm_s, h4]
        by_cases q : L 4 ≤ y
        · rw [if_pos (nI_le q (by omega)), up_ne (by omega), h5, nI_1]
          refine ⟨_, rfl, ?_, FrM.up.tr FrM.up⟩
          rw [step_eq, ← hyy, show L 4 - y = 0 by omega]
          exact LM.set (LM.set h)
        · rw [if_neg (nI_ge (by omega) (by omega)), up_ne (by omega), h5, nI_1, pk_sub (by omega)]
          refine ⟨_, rfl, ?_, FrM.up.tr FrM.up⟩
          rw [step_eq, ← hyy]
          exact LM.set (LM.set h)
      by_cases q : thk L (L 5) < 5
      · rw [if_pos (by rw [lit_5, nI_ltI (by omega) (by omega)]; exact q)]
        exact key 1 (Or.inl rfl) (by rw [if_neg (by omega)])
      · rw [if_neg (by rw [lit_5, nI_ltI (by omega) (by omega)]; exact q)]
        exact key 2 (Or.inr rfl) (by rw [if_pos (by omega)])
    · have e : (12 : Int32) + 2 * nI k + 1 = nI (13 + 2 * k) := by
        rw [lit_12, lit_2, lit_1, pk_mul, nI_add, nI_add]; congr 1; omega
      rw [if_neg (nI_ge (by omega) (by omega)), m_nextCell h hok (by rw [prt_lo (by decide)]; omega) (by rw [prt_lo (by decide)]; omega), lm_bd_s, e, lm_in_n (by omega) (by decide), lm_ck_s, lm_nm_s, lm_nm_s, nI_1, nI_clamp (by omega), prt_nxt]
      have hn2 := LM.set h (k := 13 + 2 * k) (v := nxt L k)
      rw [← prt_succ] at hn2
      obtain ⟨τ', g1, g2, g3⟩ := ih (k + 1) _ hn2 (by omega) (by omega)
      exact ⟨τ', g1, g2, FrM.up.tr g3⟩
theorem m_watchOf (h : LM τ a L) (ho : Ok L) (hw : L 5 < 2 ^ 30) : ∃ τ', f_X5_watchOf a τ = some τ' ∧ LM τ' a (step L) ∧ FrM a τ τ' := by
  have h0 := ho.1.2
  exact m_watchL ho hw lm_fu 0 τ (by rw [prt_0]; exact h) (Nat.zero_le _) (by show L 0 - 0 < 1000; omega)
theorem m_watchesL (ho : Ok L) {N : Nat} (hN : N ≤ 900) (hw : L 5 + N < 2 ^ 30) : ∀ (n k : Nat) (τ : Mem), LM τ a (stepN L k) → k ≤ N → N - k < n → ∃ τ', f_X5_watchesOf_2 a n (nI N) (nI k) τ = some τ' ∧ LM τ' a (stepN L N) ∧ FrM a τ τ' := by
  intro n
  induction n with
  | zero => intro k τ _ h1 h2; omega
  | succ n ih =>
    intro k τ h hk hn
    rw [f_X5_watchesOf_2]
    by_cases hkN : k = N
    · subst hkN
      rw [if_pos (nI_le (Nat.le_refl _) (by omega))]
      exact ⟨τ, rfl, h, FrM.rf⟩
    · rw [if_neg (nI_ge (by omega) (by omega))]
      obtain ⟨τ1, g1, g2, g3⟩ := m_watchOf h (stepN_Ok ho k) (by rw [stepN_5]; omega)
      rw [g1, lm_bd_s, lm_nm_s, nI_1]
      obtain ⟨τ', e1, e2, e3⟩ := ih (k + 1) τ1 g2 (by omega) (by omega)
      exact ⟨τ', e1, e2, g3.tr e3⟩
theorem m_watchesOf (h : LM τ a L) (ho : Ok L) {N : Nat} (hN : N ≤ 900) (hw : L 5 + N < 2 ^ 30) : ∃ τ', f_X5_watchesOf a τ (nI N) = some τ' ∧ LM τ' a (stepN L N) ∧ FrM a τ τ' :=
  m_watchesL ho hN hw lm_fu 0 τ h (Nat.zero_le _) (by show N - 0 < 1000; omega)
theorem m_pourInto (h : LM τ a L) (ho : Ok L) {v : Nat} (hv : v ≤ 60) : ∃ τ', f_X5_pourInto a τ (nI v) = some τ' ∧ LM τ' a (pourL L v) ∧ FrM a τ τ' := by
  have o4 := ho.2.2.2.2.1
  unfold f_X5_pourInto
  simp only [in_4, lm_ck_s, cl_4, lm_nm_s, h 4 (by decide), nI_add]
  unfold pourL
  by_cases q : L 4 + v ≤ 60
  · rw [if_pos (by rw [lit_60]; exact nI_le q (by omega)), if_pos q]
    exact ⟨_, rfl, LM.set h, FrM.up⟩
  · rw [if_neg (by rw [lit_60]; exact nI_ge (by omega) (by omega)), if_neg q, lit_60]
    exact ⟨_, rfl, LM.set h, FrM.up⟩
theorem m_layL : ∀ (n k : Nat) (τ : Mem), k ≤ 24 → 24 - k < n → ∃ τ', f_X5_layThen_2 n (nI k) τ = some τ' ∧ FrM 146 τ τ' ∧ ∀ f, f < 24 → τ' 146 f = if k ≤ f then τ 144 f else τ 146 f := by
  intro n
  induction n with
  | zero => intro k τ h1 h2; omega
  | succ n ih =>
    intro k τ hk hn
    rw [f_X5_layThen_2]
    by_cases hkN : k = 24
    · subst hkN
      rw [if_pos (by decide)]
      exact ⟨τ, rfl, FrM.rf, fun f hf => by rw [if_neg (by omega)]⟩
    · rw [if_neg (by rw [lit_24]; exact nI_ge (by omega) (by omega)), lm_in_n (by omega) (by decide), lm_ck_s, lm_ck_s, lm_nm_s, lm_nm_s, nI_1, nI_clamp (by omega)]
      obtain ⟨τ', g1, g2, g3⟩ := ih (k + 1) (up τ 146 k (τ 144 k)) (by omega) (by omega)
      refine ⟨τ', g1, FrM.up.tr g2, fun f hf => ?_⟩
      rw [g3 f hf]
      by_cases q : k + 1 ≤ f
      · rw [if_pos q, if_pos (by omega), up_x (by decide)]
      · rw [if_neg q]
        by_cases q2 : f = k
        · subst q2
          rw [up_eq, if_pos (Nat.le_refl _)]
        · rw [up_ne (by omega), if_neg (by omega)]
theorem m_layThen (h : LM τ 144 L) : ∃ τ', f_X5_layThen τ = some τ' ∧ LM τ' 146 L ∧ FrM 146 τ τ' := by
  obtain ⟨τ', g1, g2, g3⟩ := m_layL lm_fu 0 τ (by decide) (by show 24 - 0 < 1000; decide)
  exact ⟨τ', g1, fun k hk => by rw [g3 k hk, if_pos (Nat.zero_le _)]; exact h k hk, g2⟩
end MODEL
