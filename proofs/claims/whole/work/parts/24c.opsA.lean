section OPC
variable {σ τ σ' τ' : Mem} {L : Nat → Nat}
theorem RRow.at (h : RRow σ τ) {j : Nat} (hs : ∀ x, 116 ≤ x → x < 132 → x ≠ 116 + 2 * j → x ≠ 116 + 2 * j + 1 → σ' x = σ x) (h1 : ∀ r, r ≠ j → τ' 141 r = τ 141 r) (h2 : ∀ r, r ≠ j → τ' 142 r = τ 142 r) (h3 : ∀ i, i < 40 * j ∨ 40 * j + 40 ≤ i → τ' 143 i = τ 143 i)
    (hn : ((σ' (116 + 2 * j) 1 = 1 ∧ τ' 141 j = -1) ∨ (σ' (116 + 2 * j) 1 = 0 ∧ ∃ ln, ln < 3 ∧ σ' (116 + 2 * j) 2 = nI ln ∧ τ' 141 j = nI ln)) ∧ (∃ m, m ≤ 40 ∧ σ' (116 + 2 * j) 3 = nI m ∧ τ' 142 j = nI m) ∧ ∀ i, i < 40 → σ' (116 + 2 * j + 1) i = τ' 143 (40 * j + i)) : RRow σ' τ' := by
  intro r hr
  by_cases q : r = j
  · subst q; exact hn
  · have e0 : σ' (116 + 2 * r) = σ (116 + 2 * r) := hs _ (by omega) (by omega) (by omega) (by omega)
    have e1 : σ' (116 + 2 * r + 1) = σ (116 + 2 * r + 1) := hs _ (by omega) (by omega) (by omega) (by omega)
    rw [e0, e1, h1 r q, h2 r q]
    obtain ⟨a, b, c⟩ := h r hr
    exact ⟨a, b, fun i hi => by rw [h3 _ (by omega)]; exact c i hi⟩
theorem s_beg {c : Nat} : ∀ (n k : Nat) (σ : Mem), k ≤ 40 → 40 - k < n → ∃ σ', f_X2_begin_17 c n (nI k) σ = some σ' ∧ (∀ x, x ≠ c + 1 → σ' x = σ x) ∧ ∀ i, i < 40 → σ' (c + 1) i = if k ≤ i then 0 else σ (c + 1) i
  | 0, k, σ, h1, h2 => by omega
  | n + 1, k, σ, h1, h2 => by
    unfold f_X2_begin_17
    rw [lit_40]
    by_cases q : k = 40
    · subst q
      refine ⟨σ, rfl, fun _ _ => rfl, fun i hi => ?_⟩
      rw [if_neg (by omega)]
    · rw [if_neg (nI_ge (by omega) (by decide)), lm_in_n (by omega) (by decide), lm_ck_s, lm_nm_s, lm_nm_s, nI_clamp (by omega), nI_1]
      obtain ⟨σ', e1, e2, e3⟩ := s_beg n (k + 1) (up σ (c + 1) k 0) (by omega) (by omega)
      refine ⟨σ', e1, fun x hx => by rw [e2 x hx, up_x hx], fun i hi => ?_⟩
      rw [e3 i hi, up_ap]
      by_cases q1 : i = k
      · rw [if_neg (by omega), if_pos ⟨rfl, q1⟩, if_pos (by omega)]
      · rw [if_neg (c := c + 1 = c + 1 ∧ i = k) (by omega)]
        by_cases q2 : k ≤ i
        · rw [if_pos (by omega), if_pos q2]
        · rw [if_neg (by omega), if_neg q2]
theorem s_begin {c : Nat} {p q : Int32} : ∃ σ', f_X2_begin c σ p q = some σ' ∧ (∀ x, x ≠ c → x ≠ c + 1 → σ' x = σ x) ∧ σ' c 1 = 0 ∧ σ' c 2 = p ∧ σ' c 3 = q ∧ ∀ i, i < 40 → σ' (c + 1) i = 0 := by
  unfold f_X2_begin
  rw [lm_nm_s, lm_nm_s, lm_nm_s]
  obtain ⟨σ', e1, e2, e3⟩ := s_beg (c := c) lm_fu 0 (up (up (up σ c 1 0) c 2 p) c 3 q) (by omega) (by decide)
  refine ⟨σ', e1, fun x h1 h2 => by rw [e2 x h2, up_x h1, up_x h1, up_x h1], ?_, ?_, ?_, fun i hi => by rw [e3 i hi, if_pos (by omega)]⟩
  · rw [e2 c (by omega), up_ne (by omega), up_ne (by omega), up_eq]
  · rw [e2 c (by omega), up_ne (by omega), up_eq]
  · rw [e2 c (by omega), up_eq]
theorem m_rowL {r : Nat} (hr : r < 8) {v : Int32} : ∀ (n k : Nat) (τ : Mem), k ≤ 40 → 40 - k < n → ∃ τ', f_X5_row_65 n (nI r) v (nI k) τ = some (v, τ') ∧ (∀ x, x ≠ 143 → τ' x = τ x) ∧ ∀ i, τ' 143 i = if 40 * r + k ≤ i ∧ i < 40 * r + 40 then 0 else τ 143 i
  | 0, k, τ, h1, h2 => by omega
  | n + 1, k, τ, h1, h2 => by
    unfold f_X5_row_65
    rw [lit_40]
    by_cases q : k = 40
    · subst q
      refine ⟨τ, rfl, fun _ _ => rfl, fun i => ?_⟩
      rw [if_neg (by omega)]
    · rw [if_neg (nI_ge (by omega) (by decide)), pk_mul, nI_add, lm_in_n (by omega) (by decide), lm_ck_s, lm_nm_s, lm_nm_s, nI_clamp (by omega), nI_1]
      obtain ⟨τ', e1, e2, e3⟩ := m_rowL hr n (k + 1) (up τ 143 (40 * r + k) 0) (by omega) (by omega)
      refine ⟨τ', e1, fun x hx => by rw [e2 x hx, up_x hx], fun i => ?_⟩
      rw [e3 i, up_ap]
      by_cases q1 : i = 40 * r + k
      · rw [if_neg (by omega), if_pos ⟨rfl, q1⟩, if_pos (by omega)]
      · rw [if_neg (c := 143 = 143 ∧ i = 40 * r + k) (by omega)]
        by_cases q2 : 40 * r + k ≤ i ∧ i < 40 * r + 40
        · rw [if_pos (by omega), if_pos q2]
        · rw [if_neg (by omega), if_neg q2]
theorem o_row (h : Rel σ τ) (p q v : Int32) : LmOp (f_X4_row σ p q v) (f_X5_row τ p q v) := by
  unfold f_X4_row f_X5_row
  simp only [lm_nm_s]
  have R := h.t0
  revert R
  generalize up τ 140 0 0 = τ1
  intro R
  rcases row_c p with ⟨a, b⟩ | ⟨j, h1, rfl, a, b⟩
  · rw [a, b]
    exact LmOp.mk R
  · rw [a, b, lm_bd_s, lm_bd_s, if_neg n10, if_neg n10]
    rcases bel q 3 0 2 (n := 2) rfl rfl rfl (by decide) with ⟨a, b⟩ | ⟨ln, g1, rfl, a, b⟩
    · rw [a, b]
      exact LmOp.mk R
    · rw [a, b, lm_bd_s, lm_bd_s, if_neg n10, if_neg n10]
      by_cases q1 : v ≤ 40
      · rw [if_pos q1, if_pos q1]
        by_cases q2 : 0 ≤ v
        · rw [if_pos q2, if_pos q2, lm_in_n (by omega) (by decide), lm_ck_s, lm_ck_s, lm_ck_s, nI_clamp (by omega)]
          obtain ⟨m, hm, rfl⟩ := nI_of2 (M := 40) (n := 40) rfl (by rw [Int32.not_lt]; exact q2) q1
          obtain ⟨σ', e1, e2, e3, e4, e5, e6⟩ := s_begin (σ := σ) (c := 116 + 2 * j) (p := nI ln) (q := nI m)
          obtain ⟨τ', k1, k2, k3⟩ := m_rowL h1 (v := nI m) lm_fu 0 (up (up (up τ1 140 1 0) 141 j (nI ln)) 142 j (nI m)) (by omega) (by decide)
          rw [e1, lm_bd_s, s_unf, lm_bd2_s, show f_X5_row_65 lm_fu (nI j) (nI m) 0 _ = _ from k1]
          refine LmOp.mk ?_
          refine (R.fnd (v := 0)).row (fun x hx => ?_) (fun x h1 h2 h3 => by rw [k2 x h3, up_x h2, up_x h1]) ?_
          · by_cases q3 : x = 0
            · subst q3
              unfold up
              rw [upA_eq, upA_eq, e2 0 (by omega) (by omega)]
            · rw [up_x q3, up_x q3, e2 x (by omega) (by omega)]
          · refine R.1.at (j := j) (fun x a1 a2 a3 a4 => by rw [up_x (by omega), e2 x a3 a4]) (fun r hr => ?_) (fun r hr => ?_) (fun i hi => ?_) ⟨Or.inr ?_, ⟨m, hm, ?_⟩, fun i hi => ?_⟩
            · rw [k2 _ (by decide), up_x (by decide), up_ne (by omega), up_x (by decide)]
            · rw [k2 _ (by decide), up_ne (by omega), up_x (by decide), up_x (by decide)]
            · rw [k3, if_neg (by omega), up_x (by decide), up_x (by decide), up_x (by decide)]
            · rw [up_x (by omega), e3, e4, k2 _ (by decide), up_x (x := 141) (c := 142) (by decide), up_eq]
              exact ⟨rfl, ln, by omega, rfl, rfl⟩
            · rw [up_x (by omega), e5, k2 _ (by decide), up_eq]
              exact ⟨rfl, rfl⟩
            · rw [up_x (by omega), e6 i hi, k3, if_pos (by omega)]
        · rw [if_neg q2, if_neg q2, s_found, m_found, lm_bd2_s, lm_bd2_s, upup]
          exact LmOp.mk R.fnd
      · rw [if_neg q1, if_neg q1]
        exact LmOp.mk R
-- set
theorem span_1 {c m : Nat} (hm : m ≤ 40) (hc : σ c 3 = nI m) (p : Int32) : ((p < 0 ∨ nI m ≤ p) ∧ f_X2_hasSpan c σ p 1 = some 0) ∨ ∃ i, i < m ∧ p = nI i ∧ f_X2_hasSpan c σ p 1 = some 1 := by
  unfold f_X2_hasSpan
  rw [hc, if_neg (c := (1 : Int32) < 0) (by decide)]
  rcases b_cases p (n := m) (by omega) with h | ⟨i, h, rfl⟩
  · left
    refine ⟨h, ?_⟩
    rcases h with h | h
    · rw [if_pos h]
    · by_cases q0 : m = 0
      · subst q0
        rw [if_pos (c := nI 0 < 1) (by decide)]
        split <;> rfl
      · rw [lit_1, if_neg (c := nI m < nI 1) (nI_nlt (by omega) (by omega)), pk_sub (by omega), if_pos (c := nI (m - 1) < p)]
        · split <;> rfl
        · rw [Int32.lt_iff_toInt_lt, nI_toInt (by omega)]
          rw [Int32.le_iff_toInt_le, nI_toInt (by omega)] at h
          omega
  · right
    refine ⟨i, h, rfl, ?_⟩
    rw [if_neg (nI_pos (by omega)), lit_1, if_neg (nI_nlt (by omega) (by omega)), pk_sub (by omega), if_neg (nI_nlt (by omega) (by omega))]
theorem row_put (R : Rel σ τ) {j i ln : Nat} {v : Int32} (hj : j < 8) (hi : i < 40) : Rel (up (up σ (116 + 2 * j + 1) i v) 0 10 0) (up (up τ 140 1 0) 143 (40 * j + i) v) := by
  refine (R.fnd (v := 0)).row (fun x hx => ?_) (fun x h1 h2 h3 => up_x h3) ?_
  · rw [upcm (by omega), up_x (by omega)]
  · obtain ⟨g1, g2, g3⟩ := R.1 j hj
    refine R.1.at (j := j) (fun x a1 a2 a3 a4 => by rw [up_x (by omega), up_x (by omega)]) (fun r hr => ?_) (fun r hr => ?_) (fun k hk => ?_) ⟨?_, ?_, fun k hk => ?_⟩
    · rw [up_x (by decide), up_x (by decide)]
    · rw [up_x (by decide), up_x (by decide)]
    · rw [up_ne (by omega), up_x (by decide)]
    · rw [up_x (by omega), up_x (by omega), up_x (by decide), up_x (by decide)]
      exact g1
    · rw [up_x (by omega), up_x (by omega), up_x (by decide), up_x (by decide)]
      exact g2
    · rw [up_x (x := 116 + 2 * j + 1) (c := 0) (by omega), up_ap, up_ap, up_x (by decide)]
      by_cases q : k = i
      · subst q
        rw [if_pos ⟨rfl, rfl⟩, if_pos ⟨rfl, rfl⟩]
      · rw [if_neg (by omega), if_neg (by omega)]
        exact g3 k hk
theorem s_put {c i : Nat} (hi : i < 40) {v : Int32} : f_X2_put c σ (nI i) v = some (if σ c 2 = 0 then v.toInt8.toInt32 else if σ c 2 = 1 then v.toInt16.toInt32 else v, up σ (c + 1) i (if σ c 2 = 0 then v.toInt8.toInt32 else if σ c 2 = 1 then v.toInt16.toInt32 else v)) := by
  unfold f_X2_put
  simp only [lm_nm_s, lm_in_n hi (by decide), lm_ck_s, nI_clamp (show i < 2 ^ 31 by omega)]
  split
  · rfl
  · split <;> rfl
theorem m_set {j i : Nat} (hj : j < 8) (hi : i < 40) {v : Int32} : f_X5_set_99 (nI j) (nI i) v (40 * nI j + nI i) τ = some (v, up τ 143 (40 * j + i) v) := by
  unfold f_X5_set_99
  rw [lit_40, pk_mul, nI_add, lm_in_n (by omega) (by decide), lm_ck_s, lm_nm_s, lm_ck_s, nI_clamp (by omega), up_eq]
theorem o_set (h : Rel σ τ) (p q v : Int32) : LmOp (f_X4_set σ p q v) (f_X5_set τ p q v) := by
  unfold f_X4_set f_X5_set
  simp only [lm_nm_s]
  have R := h.t0
  revert R
  generalize up τ 140 0 0 = τ1
  intro R
  rcases row_c p with ⟨a, b⟩ | ⟨j, h1, rfl, a, b⟩
  · rw [a, b]
    exact LmOp.mk R
  · rw [a, b, lm_bd_s, lm_bd_s, if_neg n10, if_neg n10, lm_in_n (by omega) (by decide)]
    simp only [lm_ck_s, nI_clamp (show j < 2 ^ 31 by omega)]
    rw [up_x (σ := τ1) (c := 140) (x := 141) (by decide), up_x (σ := τ1) (c := 140) (x := 142) (by decide)]
    unfold f_X2_findingOf
    obtain ⟨g, ⟨m, hm, g5, g6⟩, g7⟩ := R.1 j h1
    rw [g6]
    rcases g with ⟨g1, g2⟩ | ⟨g1, ln, hl, g2, g3⟩
    · rw [g1, g2, if_neg n10, if_neg (c := (0 : Int32) ≤ -1) (by decide), lm_bd_s, if_neg n10, s_found, m_found, lm_bd2_s, lm_bd2_s, upup]
      exact LmOp.mk R.fnd
    · rw [g1, g3, if_pos rfl, if_pos (nI_pos' (by omega))]
      rcases span_1 hm g5 q with ⟨k1, k2⟩ | ⟨i, k1, rfl, k2⟩
      · rw [k2, m_b_no (by omega) k1, lm_bd_s, lm_bd_s, if_pos rfl, if_pos rfl, lm_bd_s, if_neg (by decide), s_found, m_found, lm_bd2_s, lm_bd2_s, upup]
        exact LmOp.mk R.fnd
      · rw [k2, m_b_ok k1 (by omega), lm_bd_s, lm_bd_s, if_neg n10, if_neg n10, lm_bd_s, if_pos rfl, s_put (by omega), g2, lm_bd2_s, s_unf, lm_bd2_s, m_set h1 (by omega), m_set h1 (by omega), m_set h1 (by omega)]
        rcases ln with _ | _ | ln
        · exact LmOp.mk (row_put (ln := 0) R h1 (by omega))
        · exact LmOp.mk (row_put (ln := 0) R h1 (by omega))
        · have e0 : ¬ nI (ln + 1 + 1) = 0 := nI_ne0 (by omega) (by omega)
          have e1 : ¬ nI (ln + 1 + 1) = 1 := by rw [lit_1, nI_eq (by omega) (by omega)]; omega
          rw [if_neg e0, if_neg e1, if_neg e0, if_neg e1]
          exact LmOp.mk (row_put (ln := 0) R h1 (by omega))
end OPC
