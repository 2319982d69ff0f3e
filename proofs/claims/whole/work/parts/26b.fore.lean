section OPH
variable {σ τ σ' τ' : Mem} {L M : Nat → Nat}
theorem poursL {s N : Nat} (hs6 : s < 6) (hN : N ≤ 30) : ∀ (n k : Nat) (σ τ : Mem) (L : Nat → Nat), Rel σ τ → LC σ 4 L → LM τ 144 L → Ok L → L 5 ≤ 999 → s < L 0 → k ≤ 61 → 61 - k < n → LmOp (f_X4_pours_29 n (nI s) (nI N) (nI k) σ) (f_X5_pours_30 n (nI s) (nI N) (nI k) τ)
  | 0, k, σ, τ, L, R, hC, hM, ho, h5, hs, h1, h2 => by omega
  | n + 1, k, σ, τ, L, R, hC, hM, ho, h5, hs, h1, h2 => by
    unfold f_X4_pours_29 f_X5_pours_30
    rw [lit_60]
    by_cases q : k = 61
    · subst q
      rw [if_pos (nI_lt (by decide) (by decide)), if_pos (nI_lt (by decide) (by decide))]
      exact LmOp.mk R
    rw [if_neg (nI_nlt (by omega) (by decide)), if_neg (nI_nlt (by omega) (by decide))]
    have ho1 := one_Ok ho hs
    have e5 : oneL L s 5 = L 5 := one_lo (by decide) (by decide)
    obtain ⟨σ2, a1, a2, a3⟩ := s_takeOneShip (σ := σ) (c := 8) hC ho hs (by decide)
    obtain ⟨σ3, b1, b2, b3⟩ := s_addOil a2 ho1 (v := k) (by omega)
    have hoP := ok_pour (v := k) ho
    have hoP1 := ok_pour (v := k) ho1
    obtain ⟨σ4, c1, c2, c3⟩ := s_passWatches b2 hoP1 (N := N) (by omega) (by show oneL L s 5 + N < _; omega)
    obtain ⟨τ2, d1, d2, d3⟩ := m_layThen hM
    obtain ⟨τ3, f1, f2, f3⟩ := m_pourInto d2 ho (v := k) (by omega)
    obtain ⟨τ4, g1, g2, g3⟩ := m_watchesOf f2 hoP (N := N) (by omega) (by show L 5 + N < _; omega)
    rw [a1, lm_bd_s, b1, lm_bd_s, c1, lm_bd_s, d1, lm_bd_s, f1, lm_bd_s, g1, lm_bd_s]
    have R4 : Rel σ4 τ4 := R.same (((SameC.f8 a3).tr (SameC.f8 b3)).tr (SameC.f8 c3)) (((SameM.f146 d3).tr (SameM.f146 f3)).tr (SameM.f146 g3))
    have S := same_stepN (same_pour (v := k) one_same) hoP (show s < pourL L k 0 from hs) (show 0 < pourL (oneL L s) k 0 from (by decide : 0 < 1)) N
    have hoQ := stepN_Ok hoP N
    have h5Q : stepN (pourL L k) N 5 < 2 ^ 31 := by rw [stepN_5]; show L 5 + N < _; omega
    have h5R : stepN (pourL (oneL L s) k) N 5 < 2 ^ 31 := by rw [stepN_5]; show oneL L s 5 + N < _; omega
    rw [lit_0, s_loggedOf c2 (stepN_Ok hoP1 N) h5R (by rw [stepN_0]; exact (by decide : 0 < 1)), lm_bd_s, same_lgd S hoQ, lit_1, s_isSeenBy _ (by have := lgd_le (L := stepN (pourL L k) N) (s := s); omega) 1 (by decide), lm_bd_s, m_seenBy g2 hoQ h5Q (by decide), lm_bd_s, has_seen hoQ (by rw [stepN_0]; exact hs), lm_bd_s]
    cases vis (lgd (stepN (pourL L k) N) s) 1
    · have fr4 : ∀ x, x < 8 → σ4 x = σ x := fun x hx => by rw [c3 x (by omega), b3 x (by omega), a3 x (by omega)]
      have fr144 : τ4 144 = τ 144 := by rw [g3 144 (by decide), f3 144 (by decide), d3 144 (by decide)]
      show LmOp (lm_nm (nI k + nI 1) fun v26 => f_X4_pours_29 n (nI s) (nI N) v26 σ4) (lm_nm (nI k + nI 1) fun v27 => f_X5_pours_30 n (nI s) (nI N) v27 τ4)
      rw [lm_nm_s, lm_nm_s, nI_add]
      exact poursL hs6 hN n (k + 1) σ4 τ4 L R4 (hC.co (fun x _ _ => fr4 x (by omega))) (fun i hi => by rw [fr144]; exact hM i hi) ho h5 hs (by omega) (by omega)
    · exact LmOp.mk R4
theorem o_pours (h : Rel σ τ) (p q : Int32) : LmOp (f_X4_pours σ p q) (f_X5_pours τ p q) := by
  unfold f_X4_pours f_X5_pours
  simp only [lm_nm_s]
  have R := h.t0
  revert R
  generalize up τ 140 0 0 = τ1
  intro R
  obtain ⟨L, hC, hM, h0⟩ := R.2.2.2.1
  rcases ship_c hC hM h0 p with ⟨a, b⟩ | ⟨s, h1, h2, ho, h5, rfl, a, b⟩
  · rw [a, b]
    exact LmOp.mk R
  rw [a, b, lm_bd_s, lm_bd_s, if_neg n10, if_neg n10]
  rcases wit q 0 30 0 30 (m := 0) (n := 30) rfl rfl rfl rfl (by decide) (by decide) with ⟨a, b⟩ | ⟨n, h3, h4, rfl, a, b⟩
  · rw [a, b]
    exact LmOp.mk R
  rw [a, b, lm_bd_s, lm_bd_s, if_neg n10, if_neg n10]
  exact poursL h2 h4 lm_fu 0 σ τ1 L R hC hM ho h5 h1 (by omega) (by decide)
-- sent
theorem sentL {N j : Nat} (hN : N ≤ 30) (hj : j < 2) : ∀ (n k a : Nat) (σ τ : Mem) (L : Nat → Nat), Rel σ τ → LC σ 8 L → LM τ 146 L → Ok L → L 5 + (N - k) ≤ 2000 → a < 64 → k ≤ N → N - k < n → LmOp (f_X4_sent_50 n (nI N) (nI j) (nI a) (nI k) σ) (f_X5_sent_49 n (nI N) (nI j) (nI a) (nI k) τ)
  | 0, k, a, σ, τ, L, R, hC, hM, ho, h5, ha, h1, h2 => by omega
  | n + 1, k, a, σ, τ, L, R, hC, hM, ho, h5, ha, h1, h2 => by
    unfold f_X4_sent_50 f_X5_sent_49
    by_cases q : k = N
    · rw [if_pos (nI_le (by omega) (by omega)), if_pos (nI_le (by omega) (by omega)), s_bitCount a ha, m_bits a ha]
      by_cases j0 : nI j = 0
      · rw [if_pos j0, if_pos j0]
        exact LmOp.mk R
      · rw [if_neg j0, if_neg j0]
        exact LmOp.mk R
    · rw [if_neg (nI_ge (by omega) (by omega)), if_neg (nI_ge (by omega) (by omega))]
      obtain ⟨σ3, b1, b2, b3⟩ := s_passWatch hC ho (by omega)
      obtain ⟨τ3, d1, d2, d3⟩ := m_watchOf hM ho (by omega)
      have ho2 := step_Ok ho
      have h52 : step L 5 < 2 ^ 31 := by rw [step_5]; omega
      rw [b1, d1, lm_bd_s, lm_bd_s, lit_2, s_shipsSeen b2 ho2 h52 (by decide), m_differ d2 ho2 h52, lm_bd_s, lm_bd_s, lm_nm_s, lm_nm_s, lm_nm_s, lm_nm_s, nI_1, nx_or]
      exact sentL hN hj n (k + 1) _ σ3 τ3 (step L) (R.same (SameC.f8 b3) (SameM.f146 d3)) b2 d2 ho2 (by rw [step_5]; omega) (Nat.or_lt_two_pow (n := 6) ha (seen_lt ho2)) (by omega) (by omega)
theorem o_sent (h : Rel σ τ) (p q : Int32) : LmOp (f_X4_sent σ p q) (f_X5_sent τ p q) := by
  unfold f_X4_sent f_X5_sent
  simp only [lm_nm_s]
  have R := h.t0
  revert R
  generalize up τ 140 0 0 = τ1
  intro R
  obtain ⟨L, hC, hM, h0⟩ := R.2.2.2.1
  rcases lit_c hC hM h0 with ⟨a, b⟩ | ⟨ho, h5, a, b⟩
  · rw [a, b]
    exact LmOp.mk R
  rw [a, b, lm_bd_s, lm_bd_s, if_neg n10, if_neg n10]
  rcases wit p 1 30 1 30 (m := 1) (n := 30) rfl rfl rfl rfl (by decide) (by decide) with ⟨a, b⟩ | ⟨N, h3, h4, rfl, a, b⟩
  · rw [a, b]
    exact LmOp.mk R
  rw [a, b, lm_bd_s, lm_bd_s, if_neg n10, if_neg n10]
  rcases bel q 2 0 1 (n := 1) rfl rfl rfl (by decide) with ⟨a, b⟩ | ⟨j, h6, rfl, a, b⟩
  · rw [a, b]
    exact LmOp.mk R
  rw [a, b, lm_bd_s, lm_bd_s, if_neg n10, if_neg n10]
  obtain ⟨σ2, a1, a2, a3⟩ := s_takeFrom (σ := σ) (c := 8) hC ho.1.2 ho.2.1.2 (by decide)
  obtain ⟨τ2, c1, c2, c3⟩ := m_layThen hM
  rw [a1, lm_bd_s, c1, lm_bd_s]
  exact sentL h4 (by omega) lm_fu 0 0 σ2 τ2 L (R.same (SameC.f8 a3) (SameM.f146 c3)) a2 c2 ho (by omega) (by decide) (by omega) (by rw [fu_1]; omega)
-- lift
def dif (L : Nat → Nat) : Nat → Nat
  | 0 => 0
  | n + 1 => dif L n + cnt (seen (stepN L (n + 1)) 2)
theorem dif_le (L : Nat → Nat) : ∀ n, dif L n ≤ 6 * n
  | 0 => Nat.le_refl _
  | n + 1 => by
    have := dif_le L n
    have := cnt_le (seen (stepN L (n + 1)) 2)
    show dif L n + _ ≤ _
    omega
theorem s_difL {N : Nat} (hN : N ≤ 30) (ho : Ok L) (h5 : L 5 ≤ 999) : ∀ (n k : Nat) (σ : Mem), LC σ 8 (stepN L k) → k ≤ N → N - k < n → ∃ σ', f_X4_differencesIfLifted_26 n (nI N) (nI (dif L k)) (nI k) σ = some (nI (dif L N), σ') ∧ Fr 8 σ σ'
  | 0, k, σ, hC, h1, h2 => by omega
  | n + 1, k, σ, hC, h1, h2 => by
    unfold f_X4_differencesIfLifted_26
    by_cases q : k = N
    · rw [if_pos (nI_le (by omega) (by omega)), q]
      exact ⟨σ, rfl, Fr.rf⟩
    · have hk := stepN_Ok ho k
      have hk2 := step_Ok hk
      have e5 : stepN L k 5 = L 5 + k := stepN_5 k
      obtain ⟨σ3, b1, b2, b3⟩ := s_passWatch hC hk (by omega)
      have h52 : step (stepN L k) 5 < 2 ^ 31 := by rw [step_5]; omega
      rw [if_neg (nI_ge (by omega) (by omega)), b1, lm_bd_s, lit_2, s_shipsSeen b2 hk2 h52 (by decide), lm_bd_s, s_bitCount _ (seen_lt hk2), lm_bd_s, lm_nm_s, lm_nm_s, nI_add, nI_1]
      obtain ⟨σ', c1, c2⟩ := s_difL hN ho h5 n (k + 1) σ3 b2 (by omega) (by omega)
      exact ⟨σ', c1, b3.tr c2⟩
theorem s_lifted {N f : Nat} (hN : N ≤ 30) (hC : LC σ 4 L) (ho : Ok L) (h5 : L 5 ≤ 999) (hf : f < 6) : ∃ σ', f_X4_differencesIfLifted σ (nI f) (nI N) = some (nI (dif (setL L (6 + f) 0) N), σ') ∧ Fr 8 σ σ' := by
  unfold f_X4_differencesIfLifted
  obtain ⟨σ2, a1, a2, a3⟩ := s_takeFrom (σ := σ) (c := 8) hC ho.1.2 ho.2.1.2 (by decide)
  rw [a1, lm_bd_s, lm_in_n hf (by decide), lm_ck_s, lm_nm_s, nI_clamp (by omega)]
  have e5 : setL L (6 + f) 0 5 = L 5 := setL_ne (by omega)
  obtain ⟨σ', c1, c2⟩ := s_difL (L := setL L (6 + f) 0) hN (ok_thick ho hf (by omega)) (by omega) lm_fu 0 (up σ2 (8 + 1) f (nI 0)) (LC_thick a2 hf) (by omega) (by rw [fu_1]; omega)
  exact ⟨σ', c1, (a3.tr (Fr.up (by omega))).tr c2⟩
theorem m_lift82 {N : Nat} {K : Int32 → Int32 → Int32 → Int32 → Int32 → Mem → Option (Int32 × Mem)} {x2 x3 x4 x5 : Int32} (hN : N ≤ 30) (ho : Ok L) (h5 : L 5 ≤ 999) : ∀ (n k : Nat) (τ : Mem), LM τ 146 (stepN L k) → k ≤ N → N - k < n → ∃ τ', f_X5_lift_82 K n (nI N) x2 x3 x4 x5 (nI (dif L k)) (nI k) τ = (if x3 = (-1000000 : Int32) then K (nI N) x2 x5 (nI (dif L N)) (x5 + 1) τ' else if x4 ≤ nI (dif L N) then K (nI N) x2 x3 x4 (x5 + 1) τ' else K (nI N) x2 x5 (nI (dif L N)) (x5 + 1) τ') ∧ FrM 146 τ τ'
  | 0, k, τ, hM, h1, h2 => by omega
  | n + 1, k, τ, hM, h1, h2 => by
    unfold f_X5_lift_82
    by_cases q : k = N
    · rw [if_pos (nI_le (by omega) (by omega)), q]
      exact ⟨τ, rfl, FrM.rf⟩
    · have hk := stepN_Ok ho k
      have hk2 := step_Ok hk
      have e5 : stepN L k 5 = L 5 + k := stepN_5 k
      obtain ⟨τ3, b1, b2, b3⟩ := m_watchOf hM hk (by omega)
      have h52 : step (stepN L k) 5 < 2 ^ 31 := by rw [step_5]; omega
      rw [if_neg (nI_ge (by omega) (by omega)), b1, lm_bd_s, m_differ b2 hk2 h52, lm_bd_s, m_bits _ (seen_lt hk2), lm_bd_s, lm_nm_s, lm_nm_s, nI_add, nI_1]
      obtain ⟨τ', c1, c2⟩ := m_lift82 hN ho h5 n (k + 1) τ3 b2 (by omega) (by omega)
      exact ⟨τ', c1, b3.tr c2⟩
theorem liftL {N j : Nat} (hN : N ≤ 30) : ∀ (n f b v : Nat) (σ τ : Mem) (L : Nat → Nat), Rel σ τ → LC σ 4 L → LM τ 144 L → Ok L → L 5 ≤ 999 → b < 6 → v ≤ 180 → f ≤ L 1 → L 1 - f < n → LmOp (f_X4_lift_47 (n + 1) (nI N) (nI j) (nI b) (nI v) (nI f) σ) (f_X5_lift_50 n (nI N) (nI j) (nI b) (nI v) (nI f) τ)
  | 0, f, b, v, σ, τ, L, R, hC, hM, ho, h5, hb, hv, h1, h2 => by omega
  | n + 1, f, b, v, σ, τ, L, R, hC, hM, ho, h5, hb, hv, h1, h2 => by
    have h16 := ho.2.1.2
    unfold f_X4_lift_47 f_X5_lift_50
    rw [in_1, lm_ck_s, cl_1, hM 1 (by decide), hC.2.2.2.2.1]
    by_cases q : f = L 1
    · rw [if_pos (nI_le (by omega) (by omega)), if_pos (nI_le (by omega) (by omega))]
      by_cases j0 : nI j = 0
      · rw [if_pos j0, if_pos j0]
        exact LmOp.mk R
      · rw [if_neg j0, if_neg j0]
        exact LmOp.mk R
    · rw [if_neg (nI_ge (by omega) (by omega)), if_neg (nI_ge (by omega) (by omega))]
      obtain ⟨σ2, a1, a2⟩ := s_lifted hN hC ho h5 (f := f) (by omega)
      obtain ⟨τ2, d1, d2, d3⟩ := m_layThen hM
      have e5 : setL L (6 + f) 0 5 = L 5 := setL_ne (by omega)
      obtain ⟨τ3, c1, c2⟩ := m_lift82 (L := setL L (6 + f) 0) (K := f_X5_lift_50 n) (x2 := nI j) (x3 := nI b) (x4 := nI v) (x5 := nI f) hN (ok_thick ho (by omega) (by omega)) (by omega) lm_fu 0 (up τ2 146 (6 + f) (nI 0)) d2.set (by omega) (by rw [fu_1]; omega)
      rw [a1, lm_bd2_s, d1, lm_bd_s, lit_6, nI_add, lm_in_n (by omega) (by decide), lm_ck_s, lm_nm_s, lm_nm_s, lm_nm_s, nI_clamp (by omega), show f_X5_lift_82 (f_X5_lift_50 n) lm_fu (nI N) (nI j) (nI b) (nI v) (nI f) 0 0 (up τ2 146 (6 + f) 0) = _ from c1, if_neg (c := nI b = (-1000000 : Int32)) (by intro hh; have := congrArg Int32.toInt hh; rw [nI_toInt (by omega)] at this; rw [show (-1000000 : Int32).toInt = -1000000 from rfl] at this; omega)]
      have R4 : Rel σ2 τ3 := R.same (SameC.f8 a2) ((SameM.f146 d3).tr ((SameM.f146 FrM.up).tr (SameM.f146 c2)))
      have hC4 : LC σ2 4 L := hC.co (fun x _ _ => a2 x (by omega))
      have f144 : τ3 144 = τ 144 := by rw [c2 144 (by decide), up_x (by decide), d3 144 (by decide)]
      have hM4 : LM τ3 144 L := fun i hi => by rw [f144]; exact hM i hi
      have hd := dif_le (setL L (6 + f) 0) N
      rw [nI_1]
      by_cases q2 : nI v ≤ nI (dif (setL L (6 + f) 0) N)
      · rw [if_pos q2, if_pos q2]
        exact liftL hN n (f + 1) b v σ2 τ3 L R4 hC4 hM4 ho h5 hb hv (by omega) (by omega)
      · rw [if_neg q2, if_neg q2]
        exact liftL hN n (f + 1) f _ σ2 τ3 L R4 hC4 hM4 ho h5 (by omega) (by omega) (by omega) (by omega)
theorem o_lift (h : Rel σ τ) (p q : Int32) : LmOp (f_X4_lift σ p q) (f_X5_lift τ p q) := by
  unfold f_X4_lift f_X5_lift
  simp only [lm_nm_s]
  have R := h.t0
  revert R
  generalize up τ 140 0 0 = τ1
  intro R
  obtain ⟨L, hC, hM, h0⟩ := R.2.2.2.1
  rcases lit_c hC hM h0 with ⟨a, b⟩ | ⟨ho, h5, a, b⟩
  · rw [a, b]
    exact LmOp.mk R
  rw [a, b, lm_bd_s, lm_bd_s, if_neg n10, if_neg n10]
  rcases wit p 1 30 1 30 (m := 1) (n := 30) rfl rfl rfl rfl (by decide) (by decide) with ⟨a, b⟩ | ⟨N, h3, h4, rfl, a, b⟩
  · rw [a, b]
    exact LmOp.mk R
  rw [a, b, lm_bd_s, lm_bd_s, if_neg n10, if_neg n10]
  rcases bel q 2 0 1 (n := 1) rfl rfl rfl (by decide) with ⟨a, b⟩ | ⟨j, h6, rfl, a, b⟩
  · rw [a, b]
    exact LmOp.mk R
  rw [a, b, lm_bd_s, lm_bd_s, if_neg n10, if_neg n10]
  have h16 := ho.2.1
  obtain ⟨σ2, a1, a2⟩ := s_lifted h4 hC ho h5 (f := 0) (by omega)
  obtain ⟨τ2, d1, d2, d3⟩ := m_layThen hM
  have e5 : setL L (6 + 0) 0 5 = L 5 := setL_ne (by omega)
  obtain ⟨τ3, c1, c2⟩ := m_lift82 (L := setL L (6 + 0) 0) (K := f_X5_lift_50 999) (x2 := nI j) (x3 := -1000000) (x4 := -1000000) (x5 := nI 0) h4 (ok_thick ho (by omega) (by omega)) (by omega) lm_fu 0 (up τ2 146 (6 + 0) (nI 0)) d2.set (by omega) (by rw [fu_1]; omega)
  rw [show f_X4_differencesIfLifted σ 0 (nI N) = _ from a1, lm_bd2_s]
  rw [fu_1]
  unfold f_X5_lift_50
  rw [in_1, lm_ck_s, cl_1, hM 1 (by decide), lit_0, if_neg (nI_ge (by omega) (by omega)), d1, lm_bd_s, lit_6, nI_add, lm_in_n (by omega) (by decide), lm_ck_s, lm_nm_s, nI_clamp (by omega), show f_X5_lift_82 (f_X5_lift_50 999) lm_fu (nI N) (nI j) (-1000000) (-1000000) (nI 0) (nI 0) (nI 0) (up τ2 146 (6 + 0) (nI 0)) = _ from c1, if_pos rfl, nI_1]
  have R4 : Rel σ2 τ3 := R.same (SameC.f8 a2) ((SameM.f146 d3).tr ((SameM.f146 FrM.up).tr (SameM.f146 c2)))
  have f144 : τ3 144 = τ1 144 := by rw [c2 144 (by decide), up_x (by decide), d3 144 (by decide)]
  have hd := dif_le (setL L (6 + 0) 0) N
  exact liftL h4 999 1 0 _ σ2 τ3 L R4 (hC.co (fun x _ _ => a2 x (by omega))) (fun i hi => by rw [f144]; exact hM i hi) ho h5 (by omega) (by omega) (by omega) (by omega)
-- share
def tsum (L : Nat → Nat) : Nat → Nat
  | 0 => 0
  | n + 1 => tsum L n + L (6 + n)
theorem tsum_le (ho : Ok L) : ∀ n, n ≤ 6 → tsum L n ≤ 9 * n
  | 0, _ => Nat.le_refl _
  | n + 1, h => by
    have := tsum_le ho n (by omega)
    have := ho.2.2.2.2.2.1 n (by omega)
    show tsum L n + _ ≤ _
    omega
theorem s_allL (hC : LC σ 4 L) (ho : Ok L) : ∀ (n k : Nat), k ≤ L 1 → L 1 - k < n → f_X1_allThick_4 4 σ n (nI (tsum L k)) (nI k) = some (nI (tsum L (L 1)))
  | 0, k, h1, h2 => by omega
  | n + 1, k, h1, h2 => by
    have h16 := ho.2.1.2
    unfold f_X1_allThick_4
    rw [hC.2.2.2.2.1]
    by_cases q : k = L 1
    · rw [if_pos (nI_le (by omega) (by omega)), q]
    · rw [if_neg (nI_ge (by omega) (by omega)), lm_in_n (by omega) (by decide), lm_ck_s, lm_nm_s, lm_nm_s, nI_clamp (by omega), hC.2.2.2.2.2.2.1 k (by omega), nI_add, nI_1]
      exact s_allL hC ho n (k + 1) (by omega) (by omega)
theorem m_allL {x1 x2 : Int32} (hM : LM τ 144 L) (ho : Ok L) : ∀ (n k : Nat), k ≤ L 1 → L 1 - k < n → f_X5_share_33 n x1 x2 (nI (tsum L k)) (nI k) τ = if nI (tsum L (L 1)) = 0 then some (0, τ) else f_X5_share_78 lm_fu x1 x2 (nI (tsum L (L 1))) x2 0 0 τ
  | 0, k, h1, h2 => by omega
  | n + 1, k, h1, h2 => by
    have h16 := ho.2.1.2
    unfold f_X5_share_33
    rw [in_1, lm_ck_s, cl_1, hM 1 (by decide)]
    by_cases q : k = L 1
    · rw [if_pos (nI_le (by omega) (by omega)), q]
    · rw [if_neg (nI_ge (by omega) (by omega)), lit_6, nI_add, lm_in_n (by omega) (by decide), lm_ck_s, lm_nm_s, lm_nm_s, nI_clamp (by omega), hM (6 + k) (by omega), nI_add, nI_1]
      exact m_allL hM ho n (k + 1) (by omega) (by omega)
theorem shareL {f A : Nat} {x2 : Int32} (hC : LC σ 4 L) (hM : LM τ 144 L) (ho : Ok L) (hf : f < L 1) (hA : 0 < A) (hA2 : A ≤ 54) : ∀ (n k : Nat) (x4 x5 : Int32), k ≤ L 1 → L 1 - k < n → ∃ r, f_X4_share_64 σ n (nI f) x2 (nI A) x4 x5 (nI k) = some r ∧ f_X5_share_78 n (nI f) x2 (nI A) x4 x5 (nI k) τ = some (if L (6 + f) = 0 then 0 else r, τ)
  | 0, k, x4, x5, h1, h2 => by omega
  | n + 1, k, x4, x5, h1, h2 => by
    have h16 := ho.2.1.2
    have h9 := ho.2.2.2.2.2.1
    unfold f_X4_share_64 f_X5_share_78
    rw [in_1, lm_ck_s, cl_1, hM 1 (by decide), hC.2.2.2.2.1]
    by_cases q : k = L 1
    · rw [if_pos (nI_le (by omega) (by omega)), if_pos (nI_le (by omega) (by omega)), lit_6, nI_add, lm_in_n (by omega) (by decide), lm_ck_s, lm_in_n (by omega) (by decide), lm_ck_s, lm_nz_n (by omega) (by omega), lm_ck_s, lm_ck_s, lm_ck_s, lm_nm_s, nI_clamp (by omega), nI_clamp (by omega), hC.2.2.2.2.2.2.1 f hf, hM (6 + f) (by omega)]
      have := h9 f (by omega)
      by_cases q0 : L (6 + f) = 0
      · rw [q0, if_pos (c := nI 0 ≤ 0) (by decide)]
        have e0 : x2 * nI 0 / nI A + 0 = 0 := by
          rw [show (nI 0 : Int32) = 0 from rfl, Int32.mul_zero, Int32.zero_div, Int32.add_zero]
        rw [e0]
        by_cases q3 : x4 ≤ x5
        · rw [if_pos q3]; exact ⟨_, rfl, rfl⟩
        · rw [if_neg q3]; exact ⟨_, rfl, rfl⟩
      · rw [if_neg (nI_nle (by omega) (by omega)), Int32.add_zero]
        by_cases q3 : x4 ≤ x5
        · rw [if_pos q3, if_pos q3]; exact ⟨_, rfl, by rw [if_neg q0]⟩
        · rw [if_neg q3, if_neg q3]; exact ⟨_, rfl, by rw [if_neg q0]⟩
    · rw [if_neg (nI_ge (by omega) (by omega)), if_neg (nI_ge (by omega) (by omega)), lit_6, nI_add, lm_in_n (i := k) (by omega) (by decide), lm_ck_s, lm_in_n (i := 6 + k) (by omega) (by decide), lm_ck_s, lm_nz_n (by omega) (by omega), lm_ck_s, lm_ck_s, nI_clamp (by omega), nI_clamp (by omega), hC.2.2.2.2.2.2.1 k (by omega), hM (6 + k) (by omega), Int32.add_zero]
      simp only [lm_nm_s, lm_ck_s, nI_1]
      by_cases q1 : nI f ≤ nI k
      · rw [if_pos q1, if_pos q1]
        exact shareL hC hM ho hf hA hA2 n (k + 1) _ _ (by omega) (by omega)
      · rw [if_neg q1, if_neg q1]
        by_cases q2 : nI (L (6 + k)) ≤ 0
        · rw [if_pos q2, if_pos q2]
          exact shareL hC hM ho hf hA hA2 n (k + 1) _ _ (by omega) (by omega)
        · rw [if_neg q2, if_neg q2]
          exact shareL hC hM ho hf hA hA2 n (k + 1) _ _ (by omega) (by omega)
theorem o_share (h : Rel σ τ) (p q : Int32) : LmOpP σ (f_X4_share σ p q) (f_X5_share τ p q) := by
  unfold f_X4_share f_X5_share
  simp only [lm_nm_s]
  have R := h.t0
  revert R
  generalize up τ 140 0 0 = τ1
  intro R
  obtain ⟨L, hC, hM, h0⟩ := R.2.2.2.1
  rcases fog_c hC hM h0 p with ⟨a, b⟩ | ⟨f, h1, h2, ho, h5, rfl, a, b⟩
  · rw [a, b]
    exact LmOpP.mk R
  rw [a, b, lm_bd_s, lm_bd_s, if_neg n10, if_neg n10]
  rcases wit q 0 999 0 999 (m := 0) (n := 999) rfl rfl rfl rfl (by decide) (by decide) with ⟨a, b⟩ | ⟨N, h3, h4, rfl, a, b⟩
  · rw [a, b]
    exact LmOpP.mk R
  rw [a, b, lm_bd_s, lm_bd_s, if_neg n10, if_neg n10]
  have h16 := ho.2.1.2
  have ht := tsum_le ho (L 1) (by omega)
  unfold f_X1_allThick
  rw [show f_X1_allThick_4 4 σ lm_fu 0 0 = _ from s_allL hC ho lm_fu 0 (by omega) (by rw [fu_1]; omega), lm_bd_s, show f_X5_share_33 lm_fu (nI f) (nI N) 0 0 τ1 = _ from m_allL hM ho lm_fu 0 (by omega) (by rw [fu_1]; omega)]
  by_cases q0 : tsum L (L 1) = 0
  · rw [q0, if_pos (c := nI 0 < 1) (by decide), if_pos (show nI 0 = 0 from rfl)]
    exact LmOpP.mk R
  · rw [lit_1, if_neg (c := nI (tsum L (L 1)) < nI 1) (nI_nlt (by omega) (by omega)), if_neg (c := nI (tsum L (L 1)) = 0) (nI_ne0 (by omega) (by omega)), lm_in_n h2 (by decide), lm_ck_s, nI_clamp (by omega), show σ (4 + 1) f = _ from hC.2.2.2.2.2.2.1 f h1]
    obtain ⟨r, e1, e2⟩ := shareL (x2 := nI N) hC hM ho h1 (A := tsum L (L 1)) (by omega) (by omega) lm_fu 0 (nI N) 0 (by omega) (by rw [fu_1]; omega)
    rw [show f_X4_share_64 σ lm_fu (nI f) (nI N) (nI (tsum L (L 1))) (nI N) 0 0 = _ from e1, show f_X5_share_78 lm_fu (nI f) (nI N) (nI (tsum L (L 1))) (nI N) 0 0 τ1 = _ from e2]
    have := ho.2.2.2.2.2.1 f (by omega)
    by_cases q1 : L (6 + f) = 0
    · rw [q1, if_pos (show nI 0 = 0 from rfl), if_pos rfl]
      exact LmOpP.mk R
    · rw [if_neg (nI_ne0 (by omega) (by omega)), if_neg q1]
      exact LmOpP.mk R
end OPH
