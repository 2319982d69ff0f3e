section OPE
variable {σ τ σ' τ' : Mem} {L : Nat → Nat}
theorem Rel.light (h : Rel σ τ) (hs : Fr 4 σ σ') (ht : FrM 144 τ τ') (hC : LC σ' 4 L) (hM : LM τ' 144 L) (ho : (∀ k, L k = 0) ∨ (Ok L ∧ L 5 ≤ 999)) : Rel σ' τ' := by
  obtain ⟨r1, r2, r3, r4, r5, r6, r7, r8⟩ := h
  have e140 := ht 140 (by decide)
  refine ⟨r1.co (fun x _ _ => hs x (by omega)) (ht _ (by decide)) (ht _ (by decide)) (ht _ (by decide)), r2.co (by rw [hs 2 (by omega)]) (hs 3 (by omega)) (by rw [e140]) (ht _ (by decide)), r3.co (by rw [hs 0 (by omega)]) (hs 115 (by omega)) (by rw [e140]) (ht _ (by decide)), ⟨L, hC, hM, ho⟩, r5.co (fun x _ _ => hs x (by omega)) (by rw [e140]) (ht _ (by decide)), r6.co (fun x _ _ => hs x (by omega)) (ht _ (by decide)) (ht _ (by decide)), ?_, ?_⟩
  · rw [hs 0 (by omega), e140]; exact r7
  · rw [hs 0 (by omega), e140]; exact r8
theorem Rel.acts (h : Rel σ τ) (hs : ∀ x, x < 16 ∨ 114 ≤ x → σ' x = σ x) (ht : ∀ x, x ≠ 140 → x ≠ 147 → τ' x = τ x) (h9 : ∀ k, k ≠ 9 → τ' 140 k = τ 140 k) (ha : RActs σ' τ') : Rel σ' τ' := by
  obtain ⟨r1, r2, r3, r4, r5, r6, r7, r8⟩ := h
  refine ⟨r1.co (fun x _ _ => hs x (by omega)) (ht _ (by decide) (by decide)) (ht _ (by decide) (by decide)) (ht _ (by decide) (by decide)), r2.co (by rw [hs 2 (by omega)]) (hs 3 (by omega)) (h9 _ (by decide)) (ht _ (by decide) (by decide)), r3.co (by rw [hs 0 (by omega)]) (hs 115 (by omega)) (h9 _ (by decide)) (ht _ (by decide) (by decide)), r4.co (fun x _ _ => hs x (by omega)) (ht _ (by decide) (by decide)), ha, r6.co (fun x _ _ => hs x (by omega)) (ht _ (by decide) (by decide)) (ht _ (by decide) (by decide)), ?_, ?_⟩
  · rw [hs 0 (by omega), h9 _ (by decide)]; exact r7
  · rw [hs 0 (by omega), h9 _ (by decide)]; exact r8
theorem m_keepL {q : Nat} (hq : q < 24) : ∀ (n k : Nat) (τ : Mem), τ 140 9 = nI q → k ≤ 24 → 24 - k < n → ∃ τ', f_X5_keep_51 n (nI k) τ = some τ' ∧ (∀ x, x ≠ 140 → x ≠ 147 → τ' x = τ x) ∧ (∀ j, j ≠ 9 → τ' 140 j = τ 140 j) ∧ τ' 140 9 = nI (q + 1) ∧ ∀ i, τ' 147 i = if 24 * q + k ≤ i ∧ i < 24 * q + 24 then τ 144 (i - 24 * q) else τ 147 i
  | 0, k, τ, h9, h1, h2 => by omega
  | n + 1, k, τ, h9, h1, h2 => by
    unfold f_X5_keep_51
    rw [lit_24, h9]
    by_cases c : k = 24
    · subst c
      rw [if_pos (nI_le (by decide) (by decide)), lm_nm_s, nI_1]
      refine ⟨_, rfl, fun x h1 _ => up_x h1, fun j hj => up_ne (by omega), up_eq, fun i => ?_⟩
      rw [if_neg (by omega), up_x (by decide)]
    · rw [if_neg (nI_ge (by omega) (by decide)), lm_in_n (by omega) (by decide), lm_ck_s, pk_mul, nI_add, lm_in_n (by omega) (by decide), lm_ck_s, lm_nm_s, lm_nm_s, nI_clamp (by omega), nI_clamp (by omega), nI_1]
      obtain ⟨τ', e1, e2, e3, e4, e5⟩ := m_keepL hq n (k + 1) (up τ 147 (24 * q + k) (τ 144 k)) (by rw [up_x (by decide)]; exact h9) (by omega) (by omega)
      refine ⟨τ', e1, fun x h1 h2 => by rw [e2 x h1 h2, up_x h2], fun j hj => by rw [e3 j hj, up_x (by decide)], e4, fun i => ?_⟩
      rw [e5 i]
      by_cases q1 : i = 24 * q + k
      · rw [if_neg (by omega), q1, up_eq, if_pos (by omega)]
        congr 1
        omega
      · rw [up_ne (j := i) (by omega), up_x (x := 144) (by decide)]
        by_cases q2 : 24 * q + k ≤ i ∧ i < 24 * q + 24
        · rw [if_pos (by omega), if_pos q2]
        · rw [if_neg (by omega), if_neg q2]
theorem m_shift : ∀ (n k : Nat) (τ : Mem), τ 140 9 = nI 24 → k ≤ 552 → 552 - k < n → ∃ τ', f_X5_keep_11 n (nI k) τ = f_X5_keep_51 lm_fu 0 τ' ∧ (∀ x, x ≠ 140 → x ≠ 147 → τ' x = τ x) ∧ (∀ j, j ≠ 9 → τ' 140 j = τ 140 j) ∧ τ' 140 9 = nI 23 ∧ ∀ i, τ' 147 i = if k ≤ i ∧ i < 552 then τ 147 (i + 24) else τ 147 i
  | 0, k, τ, h9, h1, h2 => by omega
  | n + 1, k, τ, h9, h1, h2 => by
    unfold f_X5_keep_11
    rw [lit_552, h9]
    by_cases c : k = 552
    · subst c
      rw [if_pos (nI_le (by decide) (by decide)), lm_nm_s, lit_1, pk_sub (by decide)]
      refine ⟨_, rfl, fun x h1 _ => up_x h1, fun j hj => up_ne (by omega), up_eq, fun i => ?_⟩
      rw [if_neg (by omega), up_x (by decide)]
    · rw [if_neg (nI_ge (by omega) (by decide)), lit_24, nI_add, lm_in_n (by omega) (by decide), lm_ck_s, lm_in_n (by omega) (by decide), lm_ck_s, lm_nm_s, lm_nm_s, nI_clamp (by omega), nI_clamp (by omega), nI_1]
      obtain ⟨τ', e1, e2, e3, e4, e5⟩ := m_shift n (k + 1) (up τ 147 k (τ 147 (k + 24))) (by rw [up_x (by decide)]; exact h9) (by omega) (by omega)
      refine ⟨τ', e1, fun x h1 h2 => by rw [e2 x h1 h2, up_x h2], fun j hj => by rw [e3 j hj, up_x (by decide)], e4, fun i => ?_⟩
      rw [e5 i]
      by_cases q1 : i = k
      · rw [if_neg (by omega), q1, up_eq, if_pos (by omega)]
      · rw [up_ne (j := i) (by omega)]
        by_cases q2 : k ≤ i ∧ i < 552
        · rw [if_pos (by omega), if_pos q2, up_ne (by omega)]
        · rw [if_neg (by omega), if_neg q2]
theorem k_keep (R : Rel σ τ) (hC : LC σ 4 L) (hM : LM τ 144 L) (ho : Ok L) (h5 : L 5 ≤ 999) : ∃ σ' τ', f_X0_keep 4 σ = some σ' ∧ f_X5_keep τ = some τ' ∧ Rel σ' τ' ∧ LC σ' 4 L ∧ LM τ' 144 L := by
  obtain ⟨nx, kp, Hs, g1, g2, g3, g4, g5, g6⟩ := R.2.2.2.2.1
  have h06 : L 0 ≤ 6 := ho.1.2
  have h16 : L 1 ≤ 6 := ho.2.1.2
  obtain ⟨σ4, a1, a2, a3⟩ := s_takeFrom (σ := σ) (c := 18 + 4 * nx) (o := 4) hC h06 h16 (by omega)
  have e16 : σ4 16 = σ 16 := a3 16 (by omega)
  -- the class
  have hK : f_X0_keep 4 σ = some (up (up σ4 16 1 (nI ((nx + 1) % 24))) 16 2 (nI (if kp < 23 then kp + 1 else 24))) := by
    unfold f_X0_keep
    rw [g3, lm_in_n g1 (by decide), lm_ck_s, nI_clamp (by omega), a1, lm_bd_s, lm_nm_s, lm_nm_s, e16, g3, nI_1, lit_24, pk_rem (by omega) (by decide) (by decide), up_ne (by decide), e16, g4, nI_1]
    congr 2
    by_cases q : kp < 23
    · rw [if_pos q, if_pos (nI_lt (by omega) (by decide))]
    · rw [if_neg q, if_neg (nI_nlt (by omega) (by omega))]
  -- the reference
  have hKM : ∃ τ', f_X5_keep τ = some τ' ∧ (∀ x, x ≠ 140 → x ≠ 147 → τ' x = τ x) ∧ (∀ j, j ≠ 9 → τ' 140 j = τ 140 j) ∧ τ' 140 9 = nI (if kp < 23 then kp + 1 else 24) ∧ ∀ i k, k < 24 → i < (if kp < 23 then kp + 1 else 24) → τ' 147 (24 * ((if kp < 23 then kp + 1 else 24) - 1 - i) + k) = nI ((if i = 0 then L else Hs (i - 1)) k) := by
    unfold f_X5_keep
    rw [g5]
    by_cases q : kp = 24
    · subst q
      rw [if_pos (show nI 24 = 24 from rfl)]
      obtain ⟨τ2, b1, b2, b3, b4, b5⟩ := m_shift lm_fu 0 τ g5 (by omega) (by decide)
      obtain ⟨τ', c1, c2, c3, c4, c5⟩ := m_keepL (q := 23) (by decide) lm_fu 0 τ2 b4 (by omega) (by decide)
      rw [show f_X5_keep_11 lm_fu 0 τ = _ from b1, show f_X5_keep_51 lm_fu 0 τ2 = _ from c1]
      refine ⟨τ', rfl, fun x h1 h2 => (c2 x h1 h2).trans (b2 x h1 h2), fun j hj => (c3 j hj).trans (b3 j hj), c4, fun i k hk hi => ?_⟩
      rw [if_neg (by omega)] at hi ⊢
      rw [c5]
      by_cases qi : i = 0
      · subst qi
        rw [if_pos (by omega), if_pos rfl, b2 144 (by decide) (by decide)]
        have : 24 * (24 - 1 - 0) + k - 24 * 23 = k := by omega
        rw [this]
        exact hM k hk
      · rw [if_neg (by omega), if_neg qi, b5, if_pos (by omega)]
        have := (g6 (i - 1) (by omega)).2.2.2 k hk
        rw [← this, show 24 * (24 - 1 - i) + k + 24 = 24 * (24 - 1 - (i - 1)) + k by omega]
    · rw [if_neg (by rw [lit_24, nI_eq (by omega) (by decide)]; exact q)]
      obtain ⟨τ', c1, c2, c3, c4, c5⟩ := m_keepL (q := kp) (by omega) lm_fu 0 τ g5 (by omega) (by decide)
      have e : (if kp < 23 then kp + 1 else 24) = kp + 1 := by split <;> omega
      rw [show f_X5_keep_51 lm_fu 0 τ = _ from c1, e]
      refine ⟨τ', rfl, c2, c3, c4, fun i k hk hi => ?_⟩
      rw [c5]
      by_cases qi : i = 0
      · subst qi
        rw [if_pos (by omega), if_pos rfl]
        have : 24 * (kp + 1 - 1 - 0) + k - 24 * kp = k := by omega
        rw [this]
        exact hM k hk
      · rw [if_neg (by omega), if_neg qi]
        have := (g6 (i - 1) (by omega)).2.2.2 k hk
        rw [← this]
        congr 1
        omega
  obtain ⟨τ', b1, b2, b3, b4, b5⟩ := hKM
  have e4 : ∀ x, x < 16 ∨ 114 ≤ x → up (up σ4 16 1 (nI ((nx + 1) % 24))) 16 2 (nI (if kp < 23 then kp + 1 else 24)) x = σ x := fun x hx => by rw [up_x (by omega), up_x (by omega), a3 x (by omega)]
  refine ⟨_, τ', hK, b1, ?_, hC.co (fun x _ _ => e4 x (by omega)), fun k hk => by rw [b2 144 (by decide) (by decide)]; exact hM k hk⟩
  refine R.acts e4 b2 b3 ⟨(nx + 1) % 24, if kp < 23 then kp + 1 else 24, fun i => if i = 0 then L else Hs (i - 1), by omega, by split <;> omega, ?_, up_eq, b4, fun i hi => ?_⟩
  · rw [up_ne (by decide), up_eq]
  · have eA : ∀ x, x ≠ 16 → up (up σ4 16 1 (nI ((nx + 1) % 24))) 16 2 (nI (if kp < 23 then kp + 1 else 24)) x = σ4 x := fun x hx => by rw [up_x hx, up_x hx]
    have hi24 : i < 24 := by
      have : (if kp < 23 then kp + 1 else 24) ≤ 24 := by split <;> omega
      omega
    by_cases qi : i = 0
    · subst qi
      simp only [if_true]
      refine ⟨ho, h5, ?_, fun k hk => by rw [b5 0 k hk hi, if_pos rfl]⟩
      have : ((nx + 1) % 24 + 23 - 0) % 24 = nx := by omega
      rw [this]
      exact a2.co (fun x _ _ => eA x (by omega))
    · simp only [qi, if_false]
      have hi2 : i - 1 < kp := by
        revert hi
        split <;> omega
      obtain ⟨k1, k2, k3, k4⟩ := g6 (i - 1) hi2
      refine ⟨k1, k2, ?_, fun k hk => by rw [b5 i k hk hi, if_neg qi]⟩
      have : ((nx + 1) % 24 + 23 - i) % 24 = (nx + 23 - (i - 1)) % 24 := by omega
      rw [this]
      exact k3.co (fun x _ _ => by rw [eA x (by omega), a3 x (by omega)])
-- undo
theorem m_undoL {q : Nat} (hq : q < 24) : ∀ (n k : Nat) (τ : Mem), τ 140 9 = nI q → k ≤ 24 → 24 - k < n → ∃ τ', f_X5_undo_27 n (nI k) τ = some (nI q, τ') ∧ FrM 144 τ τ' ∧ ∀ i, i < 24 → τ' 144 i = if k ≤ i then τ 147 (24 * q + i) else τ 144 i
  | 0, k, τ, h9, h1, h2 => by omega
  | n + 1, k, τ, h9, h1, h2 => by
    unfold f_X5_undo_27
    rw [lit_24, h9]
    by_cases c : k = 24
    · subst c
      rw [if_pos (nI_le (by decide) (by decide))]
      refine ⟨_, rfl, FrM.rf, fun i hi => ?_⟩
      rw [if_neg (by omega)]
    · rw [if_neg (nI_ge (by omega) (by decide)), pk_mul, nI_add, lm_in_n (by omega) (by decide), lm_ck_s, lm_in_n (by omega) (by decide), lm_ck_s, lm_nm_s, lm_nm_s, nI_clamp (by omega), nI_clamp (by omega), nI_1]
      obtain ⟨τ', e1, e2, e3⟩ := m_undoL hq n (k + 1) (up τ 144 k (τ 147 (24 * q + k))) (by rw [up_x (by decide)]; exact h9) (by omega) (by omega)
      refine ⟨τ', e1, FrM.up.tr e2, fun i hi => ?_⟩
      rw [e3 i hi, up_x (x := 147) (by decide)]
      by_cases q1 : i = k
      · subst q1
        rw [if_neg (by omega), up_eq, if_pos (by omega)]
      · rw [up_ne (j := i) (by omega)]
        by_cases q2 : k ≤ i
        · rw [if_pos (by omega), if_pos q2]
        · rw [if_neg (by omega), if_neg q2]
theorem o_undo (h : Rel σ τ) : LmOp (f_X4_undo σ) (f_X5_undo τ) := by
  unfold f_X4_undo f_X5_undo
  simp only [lm_nm_s]
  have R := h.t0
  revert R
  generalize up τ 140 0 0 = τ1
  intro R
  obtain ⟨nx, kp, Hs, g1, g2, g3, g4, g5, g6⟩ := R.2.2.2.2.1
  rw [g4, g5]
  by_cases q : kp = 0
  · subst q
    rw [if_neg (by decide), if_pos (show nI 0 = 0 from rfl)]
    exact LmOp.mk R
  · rw [lit_1, if_pos (nI_le (by omega) (by omega)), if_neg (nI_ne0 (by omega) (by omega)), pk_sub (by omega)]
    obtain ⟨k1, k2, k3, k4⟩ := g6 0 (by omega)
    have enx : (nx + 23 - 0) % 24 = (nx + 24 - 1) % 24 := by omega
    rw [enx] at k3
    have hlt : (nx + 24 - 1) % 24 < 24 := Nat.mod_lt _ (by decide)
    obtain ⟨σ5, a1, a2, a3⟩ := s_takeFrom (σ := up σ 16 1 (nI ((nx + 24 - 1) % 24))) (c := 4) (o := 18 + 4 * ((nx + 24 - 1) % 24)) (L := Hs 0) (k3.co (fun x _ _ => up_x (by omega))) k1.1.2 k1.2.1.2 (by omega)
    have e16 : σ5 16 = up σ 16 1 (nI ((nx + 24 - 1) % 24)) 16 := a3 16 (by omega)
    obtain ⟨τ', b1, b2, b3⟩ := m_undoL (q := kp - 1) (by omega) lm_fu 0 (up τ1 140 9 (nI (kp - 1))) up_eq (by omega) (by decide)
    rw [show f_X5_undo_27 lm_fu 0 _ = _ from b1]
    have hT : f_X0_takeBack 4 σ = some (nI (kp - 1), up σ5 16 2 (nI (kp - 1))) := by
      unfold f_X0_takeBack
      rw [g3, lit_24, nI_add, lit_1, pk_sub (by omega), pk_rem (by omega) (by decide) (by decide), lm_nm_s, up_eq, lm_in_n hlt (by decide), lm_ck_s, nI_clamp (by omega), a1, lm_bd_s, lm_nm_s, e16, up_ne (σ := σ) (by decide), g4, pk_sub (by omega), up_eq]
    rw [hT, lm_bd2_s]
    refine LmOp.mk ?_
    have R2 : Rel (up (up σ 16 1 (nI ((nx + 24 - 1) % 24))) 16 2 (nI (kp - 1))) (up τ1 140 9 (nI (kp - 1))) := by
      refine R.acts (fun x hx => by rw [up_x (by omega), up_x (by omega)]) (fun x h1 _ => up_x h1) (fun k hk => up_ne (by omega)) ⟨(nx + 24 - 1) % 24, kp - 1, fun i => Hs (i + 1), hlt, by omega, by rw [up_ne (by decide), up_eq], up_eq, up_eq, fun i hi => ?_⟩
      obtain ⟨m1, m2, m3, m4⟩ := g6 (i + 1) (by omega)
      refine ⟨m1, m2, ?_, fun k hk => ?_⟩
      · have : ((nx + 24 - 1) % 24 + 23 - i) % 24 = (nx + 23 - (i + 1)) % 24 := by omega
        rw [this]
        exact m3.co (fun x _ _ => by rw [up_x (by omega), up_x (by omega)])
      · rw [up_x (by decide), ← m4 k hk]
        congr 1
        omega
    refine R2.light (fun x hx => ?_) b2 (L := Hs 0) (a2.co (fun x _ _ => up_x (by omega))) (fun k hk => ?_) (Or.inr ⟨k1, k2⟩)
    · by_cases q16 : x = 16
      · subst q16
        unfold up
        rw [upA_eq, upA_eq, e16]
        rfl
      · rw [up_x q16, up_x q16, a3 x hx]
    · rw [b3 k hk, if_pos (by omega), up_x (by decide), ← k4 k hk, Nat.sub_zero]
end OPE
