section OPG
variable {σ τ σ' τ' : Mem} {L M : Nat → Nat}
theorem in6_0 : lm_in (0 : Int32) 6 = true := rfl
theorem same_set {s z k v : Nat} (h : Same L s M z) (h12 : k < 12) : Same (setL L k v) s (setL M k v) z := by
  obtain ⟨a, b, c⟩ := h
  refine ⟨fun i h1 h2 => ?_, ?_, ?_⟩
  · show (if i = k then v else M i) = (if i = k then v else L i)
    split
    · rfl
    · exact a i h1 h2
  · rw [setL_ne (by omega), setL_ne (by omega)]; exact b
  · rw [setL_ne (by omega), setL_ne (by omega)]; exact c
theorem same_pour {s z v : Nat} (h : Same L s M z) : Same (pourL L v) s (pourL M v) z := by
  have e : M 4 = L 4 := h.1 4 (by decide) (by decide)
  unfold pourL
  rw [e]
  exact same_set h (by decide)
theorem has_seen {who s : Nat} (h : Ok L) (hs : s < L 0) : f_X5_has (nI (seen L who)) (nI s) = some (if vis (lgd L s) who then 1 else 0) := by
  have h6 := h.1.2
  rw [m_has _ (seen_lt h) s (by omega)]
  unfold seen
  rw [seenN_bit, decide_eq_true hs, Bool.true_and]
theorem bi_0 (b : Bool) : ((if b then 1 else 0 : Int32) = 0) = (b = false) := by cases b <;> decide
theorem o_ahead (h : Rel σ τ) (p q w : Int32) : LmOp (f_X4_ahead σ p q w) (f_X5_ahead τ p q w) := by
  unfold f_X4_ahead f_X5_ahead
  simp only [lm_nm_s]
  have R := h.t0
  revert R
  generalize up τ 140 0 0 = τ1
  intro R
  obtain ⟨L, hC, hM, h0⟩ := R.2.2.2.1
  rcases ship_c hC hM h0 p with ⟨a, b⟩ | ⟨s, h1, h2, ho, h5, rfl, a, b⟩
  · rw [a, b]
    exact LmOp.mk R
  rw [a, b, lm_bd_s, lm_bd_s, if_neg n10, if_neg n10]
  rcases wit q 0 60 0 60 (m := 0) (n := 60) rfl rfl rfl rfl (by decide) (by decide) with ⟨a, b⟩ | ⟨n, h3, h4, rfl, a, b⟩
  · rw [a, b]
    exact LmOp.mk R
  rw [a, b, lm_bd_s, lm_bd_s, if_neg n10, if_neg n10]
  rcases bel w 2 0 1 (n := 1) rfl rfl rfl (by decide) with ⟨a, b⟩ | ⟨j, h6, rfl, a, b⟩
  · rw [a, b]
    exact LmOp.mk R
  rw [a, b, lm_bd_s, lm_bd_s, if_neg n10, if_neg n10]
  have ho1 := one_Ok ho h1
  have e5 : oneL L s 5 = L 5 := one_lo (by decide) (by decide)
  obtain ⟨σ2, a1, a2, a3⟩ := s_takeOneShip (σ := σ) (c := 8) hC ho h1 (by decide)
  obtain ⟨σ3, b1, b2, b3⟩ := s_passWatches a2 ho1 (N := n) (by omega) (by omega)
  obtain ⟨τ2, c1, c2, c3⟩ := m_layThen hM
  obtain ⟨τ3, d1, d2, d3⟩ := m_watchesOf c2 ho (N := n) (by omega) (by omega)
  rw [a1, lm_bd_s, b1, lm_bd_s, c1, lm_bd_s, d1, lm_bd_s]
  have R3 : Rel σ3 τ3 := R.same ((SameC.f8 a3).tr (SameC.f8 b3)) ((SameM.f146 c3).tr (SameM.f146 d3))
  have S := same_stepN one_same ho h1 (show 0 < oneL L s 0 from (by decide : 0 < 1)) n
  have z0 : stepN (oneL L s) n 0 = 1 := (stepN_0 n).trans rfl
  by_cases w0 : j = 0
  · subst w0
    rw [if_pos (show nI 0 = 0 from rfl), if_pos (show nI 0 = 0 from rfl), in6_0, lm_ck_s, cl_0, m_of1 d2 h2, lm_bd_s]
    refine LmOp.mk' ?_ R3
    rw [show σ3 (8 + 3) 0 = nI (stepN (oneL L s) n (13 + 2 * 0)) from (b2.2.2.2.2.2.2.2 0 (by omega)).2, S.2.2]
  · rw [if_neg (nI_ne0 (by omega) (by omega)), if_neg (nI_ne0 (by omega) (by omega)), m_loggedOf d2 (stepN_Ok ho n) (by rw [stepN_5]; omega) (by rw [stepN_0]; exact h1), lm_bd_s, lit_0, s_loggedOf b2 (stepN_Ok ho1 n) (by rw [stepN_5]; omega) (by omega), lm_bd_s, same_lgd S (stepN_Ok ho n)]
    exact LmOp.mk R3
theorem o_written (h : Rel σ τ) (p q : Int32) : LmOp (f_X4_written σ p q) (f_X5_written τ p q) := by
  unfold f_X4_written f_X5_written
  simp only [lm_nm_s]
  have R := h.t0
  revert R
  generalize up τ 140 0 0 = τ1
  intro R
  obtain ⟨L, hC, hM, h0⟩ := R.2.2.2.1
  rcases lit_c hC hM h0 with ⟨a, b⟩ | ⟨ho, h5, a, b⟩
  · rw [a, b]
    exact LmOp.mk R
  rw [a, b, lm_bd_s, lm_bd_s, if_neg n10, if_neg n10]
  rcases wit p 0 60 0 60 (m := 0) (n := 60) rfl rfl rfl rfl (by decide) (by decide) with ⟨a, b⟩ | ⟨n, h3, h4, rfl, a, b⟩
  · rw [a, b]
    exact LmOp.mk R
  rw [a, b, lm_bd_s, lm_bd_s, if_neg n10, if_neg n10]
  rcases bel q 4 0 3 (n := 3) rfl rfl rfl (by decide) with ⟨a, b⟩ | ⟨j, h6, rfl, a, b⟩
  · rw [a, b]
    exact LmOp.mk R
  rw [a, b, lm_bd_s, lm_bd_s, if_neg n10, if_neg n10]
  obtain ⟨σ2, a1, a2, a3⟩ := s_takeFrom (σ := σ) (c := 8) hC ho.1.2 ho.2.1.2 (by decide)
  obtain ⟨σ3, b1, b2, b3⟩ := s_passWatches a2 ho (N := n) (by omega) (by omega)
  obtain ⟨τ2, c1, c2, c3⟩ := m_layThen hM
  obtain ⟨τ3, d1, d2, d3⟩ := m_watchesOf c2 ho (N := n) (by omega) (by omega)
  rw [a1, lm_bd_s, b1, lm_bd_s, c1, lm_bd_s, d1, lm_bd_s]
  have R3 : Rel σ3 τ3 := R.same ((SameC.f8 a3).tr (SameC.f8 b3)) ((SameM.f146 c3).tr (SameM.f146 d3))
  have ho2 := stepN_Ok ho n
  have h52 : stepN L n 5 < 2 ^ 31 := by rw [stepN_5]; omega
  rcases j with _ | _ | _ | _ | j
  · rw [if_neg (c := nI 0 = 3) (by decide), if_neg (by decide), s_shipsSeen b2 ho2 h52 (by decide), m_seenBy d2 ho2 h52 (by decide)]
    exact LmOp.mk R3
  · rw [if_neg (c := nI (0 + 1) = 3) (by decide), if_neg (by decide), s_shipsSeen b2 ho2 h52 (by decide), m_seenBy d2 ho2 h52 (by decide)]
    exact LmOp.mk R3
  · rw [if_neg (c := nI (0 + 1 + 1) = 3) (by decide), if_pos (by decide), if_pos (by decide), s_shipsSeen b2 ho2 h52 (by decide), m_differ d2 ho2 h52]
    exact LmOp.mk R3
  · rw [if_pos (c := nI (0 + 1 + 1 + 1) = 3) (by decide), if_pos (by decide), if_neg (by decide)]
    exact LmOp.mk' (b2.2.2.1.trans (d2 4 (by decide)).symm) R3
  · omega
theorem whenL {s j : Nat} (hs : s < 6) (hj : j < 2) : ∀ (n k : Nat) (σ τ : Mem) (L M : Nat → Nat), Rel σ τ → LC σ 8 M → LM τ 146 L → Ok L → Ok M → M 0 = 1 → s < L 0 → Same L s M 0 → L 5 + (61 - k) ≤ 2000 → k ≤ 61 → 61 - k < n → LmOp (f_X4_when_39 n (nI j) (nI k) σ) (f_X5_when_32 n (nI s) (nI j) (nI k) τ)
  | 0, k, σ, τ, L, M, R, hC, hM, ho, hoM, hM0, hsL, S, h5, h1, h2 => by omega
  | n + 1, k, σ, τ, L, M, R, hC, hM, ho, hoM, hM0, hsL, S, h5, h1, h2 => by
    unfold f_X4_when_39 f_X5_when_32
    rw [lit_60]
    by_cases q : k = 61
    · subst q
      rw [if_pos (nI_lt (by decide) (by decide)), if_pos (nI_lt (by decide) (by decide))]
      exact LmOp.mk R
    rw [if_neg (nI_nlt (by omega) (by decide)), if_neg (nI_nlt (by omega) (by decide))]
    have e5 : M 5 = L 5 := S.1 5 (by decide) (by decide)
    have NX : LmOp (lm_bd (f_X1_passWatch 8 σ) fun σ22 => lm_nm (nI k + 1) fun v23 => f_X4_when_39 n (nI j) v23 σ22) (lm_bd (f_X5_watchOf 146 τ) fun τ32 => lm_nm (nI k + 1) fun v33 => f_X5_when_32 n (nI s) (nI j) v33 τ32) := by
      obtain ⟨σ3, b1, b2, b3⟩ := s_passWatch hC hoM (by omega)
      obtain ⟨τ3, d1, d2, d3⟩ := m_watchOf hM ho (by omega)
      rw [b1, d1, lm_bd_s, lm_bd_s, lm_nm_s, lm_nm_s, nI_1]
      exact whenL hs hj n (k + 1) σ3 τ3 (step L) (step M) (R.same (SameC.f8 b3) (SameM.f146 d3)) b2 d2 (step_Ok ho) (step_Ok hoM) ((step_lo (by decide) (by decide) (by decide)).trans hM0) (by rw [step_lo (by decide) (by decide) (by decide)]; exact hsL) (same_step S ho hsL (by omega)) (by rw [step_5]; omega) (by omega) (by omega)
    by_cases w0 : j = 0
    · subst w0
      rw [if_pos (show nI 0 = 0 from rfl), if_pos (show nI 0 = 0 from rfl), in6_0, lm_ck_s, cl_0, m_of1 hM hs, lm_bd_s, show σ (8 + 3) 0 = nI (M (13 + 2 * 0)) from (hC.2.2.2.2.2.2.2 0 (by omega)).2, S.2.2]
      unfold f_X4_when_77
      by_cases q2 : nI (L (13 + 2 * s)) = 0
      · rw [if_pos q2, if_pos q2, if_neg n10]
        exact LmOp.mk R
      · rw [if_neg q2, if_neg q2, if_pos rfl]
        exact NX
    · rw [if_neg (nI_ne0 (by omega) (by omega)), if_neg (nI_ne0 (by omega) (by omega)), lit_0, s_differOn hC hoM (by omega) (by omega), m_differ hM ho (by omega), lm_bd_s, lm_bd_s, has_seen ho hsL, lm_bd_s, same_lgd S ho]
      unfold f_X4_when_77
      cases vis (lgd L s) 2
      · exact NX
      · exact LmOp.mk R
theorem o_when (h : Rel σ τ) (p q : Int32) : LmOp (f_X4_when σ p q) (f_X5_when τ p q) := by
  unfold f_X4_when f_X5_when
  simp only [lm_nm_s]
  have R := h.t0
  revert R
  generalize up τ 140 0 0 = τ1
  intro R
  obtain ⟨L, hC, hM, h0⟩ := R.2.2.2.1
  rcases ship_c hC hM h0 p with ⟨a, b⟩ | ⟨s, h1, h2, ho, h5, rfl, a, b⟩
  · rw [a, b]
    exact LmOp.mk R
  rw [a, b, lm_bd_s, lm_bd_s, if_neg n10, if_neg n10]
  rcases bel q 2 0 1 (n := 1) rfl rfl rfl (by decide) with ⟨a, b⟩ | ⟨j, h6, rfl, a, b⟩
  · rw [a, b]
    exact LmOp.mk R
  rw [a, b, lm_bd_s, lm_bd_s, if_neg n10, if_neg n10]
  obtain ⟨σ2, a1, a2, a3⟩ := s_takeOneShip (σ := σ) (c := 8) hC ho h1 (by decide)
  obtain ⟨τ2, c1, c2, c3⟩ := m_layThen hM
  rw [a1, lm_bd_s, c1, lm_bd_s]
  exact whenL h2 (by omega) lm_fu 0 σ2 τ2 L (oneL L s) (R.same (SameC.f8 a3) (SameM.f146 c3)) a2 c2 ho (one_Ok ho h1) rfl h1 one_same (by omega) (by omega) (by decide)
theorem low_bit : ∀ a, a < 64 → 0 < a → low a < 6 ∧ a.testBit (low a) = true ∧ ∀ k, k < 6 → k < low a → a.testBit k = false := by decide
theorem q55 {a : Nat} (ha : a < 64) (h0 : 0 < a) {x1 x2 : Int32} : ∀ (n k : Nat), k ≤ low a → low a - k < n → f_X5_quarrel_55 n x1 x2 (nI a) (nI k) τ = some (if x1 = 0 then x2 else nI (low a), τ)
  | 0, k, h1, h2 => by omega
  | n + 1, k, h1, h2 => by
    obtain ⟨l1, l2, l3⟩ := low_bit a ha h0
    unfold f_X5_quarrel_55
    rw [m_has a ha k (by omega), lm_bd_s]
    by_cases q : k = low a
    · rw [q, l2, if_neg (by decide)]
      split <;> rfl
    · rw [l3 k (by omega) (by omega), if_pos (by decide), lm_nm_s, nI_1]
      exact q55 ha h0 n (k + 1) (by omega) (by omega)
theorem quarrelL {j : Nat} (hj : j < 2) : ∀ (n k : Nat) (σ τ : Mem) (L : Nat → Nat), Rel σ τ → LC σ 8 L → LM τ 146 L → Ok L → L 5 + (61 - k) ≤ 2000 → k ≤ 61 → 61 - k < n → LmOp (f_X4_quarrel_37 n (nI j) (nI k) σ) (f_X5_quarrel_34 n (nI j) (nI k) τ)
  | 0, k, σ, τ, L, R, hC, hM, ho, h5, h1, h2 => by omega
  | n + 1, k, σ, τ, L, R, hC, hM, ho, h5, h1, h2 => by
    unfold f_X4_quarrel_37 f_X5_quarrel_34
    rw [lit_60]
    by_cases q : k = 61
    · subst q
      rw [if_pos (nI_lt (by decide) (by decide)), if_pos (nI_lt (by decide) (by decide))]
      exact LmOp.mk R
    rw [if_neg (nI_nlt (by omega) (by decide)), if_neg (nI_nlt (by omega) (by decide)), lit_2, s_shipsSeen hC ho (by omega) (by decide), m_differ hM ho (by omega), lm_bd_s, lm_bd_s]
    have hl := seen_lt (who := 2) ho
    by_cases q0 : seen L 2 = 0
    · rw [q0, if_pos (show nI 0 = 0 from rfl), if_pos (show nI 0 = 0 from rfl)]
      obtain ⟨σ3, b1, b2, b3⟩ := s_passWatch hC ho (by omega)
      obtain ⟨τ3, d1, d2, d3⟩ := m_watchOf hM ho (by omega)
      rw [b1, d1, lm_bd_s, lm_bd_s, lm_nm_s, lm_nm_s, nI_1]
      exact quarrelL hj n (k + 1) σ3 τ3 (step L) (R.same (SameC.f8 b3) (SameM.f146 d3)) b2 d2 (step_Ok ho) (by rw [step_5]; omega) (by omega) (by omega)
    · have en : ¬ nI (seen L 2) = 0 := nI_ne0 (by omega) (by omega)
      rw [if_neg en, if_neg en, s_ntz _ hl (by omega), lm_bd_s, show f_X5_quarrel_55 lm_fu (nI j) (nI k) (nI (seen L 2)) 0 τ = _ from q55 hl (by omega) lm_fu 0 (by omega) (by rw [fu_1]; have := (low_bit _ hl (by omega)).1; omega)]
      by_cases j0 : nI j = 0
      · rw [if_pos j0, if_pos j0]
        exact LmOp.mk R
      · rw [if_neg j0, if_neg j0]
        exact LmOp.mk R
theorem o_quarrel (h : Rel σ τ) (p : Int32) : LmOp (f_X4_quarrel σ p) (f_X5_quarrel τ p) := by
  unfold f_X4_quarrel f_X5_quarrel
  simp only [lm_nm_s]
  have R := h.t0
  revert R
  generalize up τ 140 0 0 = τ1
  intro R
  obtain ⟨L, hC, hM, h0⟩ := R.2.2.2.1
  rcases lit_c hC hM h0 with ⟨a, b⟩ | ⟨ho, h5, a, b⟩
  · rw [a, b]
    exact LmOp.mk R
  rw [a, b, lm_bd_s, lm_bd_s, if_neg n10, if_neg n10]
  rcases bel p 2 0 1 (n := 1) rfl rfl rfl (by decide) with ⟨a, b⟩ | ⟨j, h6, rfl, a, b⟩
  · rw [a, b]
    exact LmOp.mk R
  rw [a, b, lm_bd_s, lm_bd_s, if_neg n10, if_neg n10]
  obtain ⟨σ2, a1, a2, a3⟩ := s_takeFrom (σ := σ) (c := 8) hC ho.1.2 ho.2.1.2 (by decide)
  obtain ⟨τ2, c1, c2, c3⟩ := m_layThen hM
  rw [a1, lm_bd_s, c1, lm_bd_s]
  exact quarrelL (by omega) lm_fu 0 σ2 τ2 L (R.same (SameC.f8 a3) (SameM.f146 c3)) a2 c2 ho (by omega) (by omega) (by decide)
end OPG
