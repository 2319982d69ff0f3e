/-! CALLS, one by one: both answer the same and stay related. -/
def LmOp (a b : Option (Int32 × Mem)) : Prop := ∃ r σ' τ', a = some (r, σ') ∧ b = some (r, τ') ∧ Rel σ' τ'
def LmOpP (σ : Mem) (a : Option Int32) (b : Option (Int32 × Mem)) : Prop := ∃ r τ', a = some r ∧ b = some (r, τ') ∧ Rel σ τ'
section OPA
variable {σ τ σ' τ' : Mem} {L : Nat → Nat}
theorem LmOp.mk {r : Int32} (h : Rel σ' τ') : LmOp (some (r, σ')) (some (r, τ')) := ⟨r, σ', τ', rfl, rfl, h⟩
theorem LmOpP.mk {r : Int32} (h : Rel σ τ') : LmOpP σ (some r) (some (r, τ')) := ⟨r, τ', rfl, rfl, h⟩
theorem LmOp.mk' {r r' : Int32} (e : r = r') (h : Rel σ' τ') : LmOp (some (r, σ')) (some (r', τ')) := e ▸ LmOp.mk h
theorem LmOpP.mk' {r r' : Int32} (e : r = r') (h : Rel σ τ') : LmOpP σ (some r) (some (r', τ')) := e ▸ LmOpP.mk h
theorem bel (p b : Int32) (lo hi : Int64) {n : Nat} (hb : b = nI (n + 1)) (hlo : lo = 0) (hhi : hi = (nI n).toInt64) (hn : n + 1 < 2 ^ 31) : (f_X4_isBelow p b = some 0 ∧ f_X5_in p.toInt64 lo hi = some 0) ∨ ∃ j, j < n + 1 ∧ p = nI j ∧ f_X4_isBelow p b = some 1 ∧ f_X5_in p.toInt64 lo hi = some 1 := by
  subst hb; subst hlo; subst hhi
  have e : (nI n) = nI (n + 1) - 1 := (nI_pred n).symm
  rcases b_cases p hn with h | ⟨j, h, rfl⟩
  · refine Or.inl ⟨b_no h, ?_⟩
    rw [e]
    exact m_b_no hn h
  · refine Or.inr ⟨j, h, rfl, b_ok h hn, ?_⟩
    rw [e]
    exact m_b_ok h hn
theorem wit (p a b : Int32) (lo hi : Int64) {m n : Nat} (ha : a = nI m) (hb : b = nI n) (hlo : lo = (nI m).toInt64) (hhi : hi = (nI n).toInt64) (hmn : m ≤ n) (hn : n + 1 < 2 ^ 31) : (f_X4_isWithin p a b = some 0 ∧ f_X5_in p.toInt64 lo hi = some 0) ∨ ∃ j, m ≤ j ∧ j ≤ n ∧ p = nI j ∧ f_X4_isWithin p a b = some 1 ∧ f_X5_in p.toInt64 lo hi = some 1 := by
  subst ha; subst hb; subst hlo; subst hhi
  rcases w_cases p m hmn hn with h | ⟨j, h1, h2, rfl⟩
  · exact Or.inl ⟨w_no h, m_in_no h⟩
  · exact Or.inr ⟨j, h1, h2, rfl, w_ok h1 h2 (by omega), m_in_ok h1 h2 (by omega)⟩
theorem zl {L : Nat → Nat} (h : (∀ k, L k = 0) ∨ (Ok L ∧ L 5 ≤ 999)) : L 0 ≤ 6 ∧ L 1 ≤ 6 ∧ L 2 ≤ 12 := by
  rcases h with h | h
  · rw [h, h, h]; omega
  · obtain ⟨⟨h1, h2, h3, h4⟩, _⟩ := h
    omega
theorem zok {L : Nat → Nat} (h : (∀ k, L k = 0) ∨ (Ok L ∧ L 5 ≤ 999)) (h0 : 0 < L 0 ∨ 0 < L 1) : Ok L ∧ L 5 ≤ 999 := by
  rcases h with h | h
  · rw [h, h] at h0; omega
  · exact h
theorem ship_c (hC : LC σ 4 L) (hM : LM τ 144 L) (h0 : (∀ k, L k = 0) ∨ (Ok L ∧ L 5 ≤ 999)) (p : Int32) : (f_X4_isBelow p (σ 4 8) = some 0 ∧ f_X5_isShip τ p = some 0) ∨ ∃ s, s < L 0 ∧ s < 6 ∧ Ok L ∧ L 5 ≤ 999 ∧ p = nI s ∧ f_X4_isBelow p (σ 4 8) = some 1 ∧ f_X5_isShip τ p = some 1 := by
  have hl := zl h0
  unfold f_X5_isShip
  rw [in_0, lm_ck_s, cl_0, hM 0 (by decide), hC.2.2.2.2.2.1]
  rcases b_cases p (n := L 0) (by omega) with h | ⟨j, h, rfl⟩
  · refine Or.inl ⟨b_no h, ?_⟩
    rw [m_b_no (by omega) h]
    rfl
  · obtain ⟨o1, o2⟩ := zok h0 (by omega)
    refine Or.inr ⟨j, h, by omega, o1, o2, rfl, b_ok h (by omega), ?_⟩
    rw [m_b_ok h (by omega)]
    rfl
theorem fog_c (hC : LC σ 4 L) (hM : LM τ 144 L) (h0 : (∀ k, L k = 0) ∨ (Ok L ∧ L 5 ≤ 999)) (p : Int32) : (f_X4_isBelow p (σ 4 7) = some 0 ∧ f_X5_isFog τ p = some 0) ∨ ∃ s, s < L 1 ∧ s < 6 ∧ Ok L ∧ L 5 ≤ 999 ∧ p = nI s ∧ f_X4_isBelow p (σ 4 7) = some 1 ∧ f_X5_isFog τ p = some 1 := by
  have hl := zl h0
  unfold f_X5_isFog
  rw [in_1, lm_ck_s, cl_1, hM 1 (by decide), hC.2.2.2.2.1]
  rcases b_cases p (n := L 1) (by omega) with h | ⟨j, h, rfl⟩
  · refine Or.inl ⟨b_no h, ?_⟩
    rw [m_b_no (by omega) h]
    rfl
  · obtain ⟨o1, o2⟩ := zok h0 (by omega)
    refine Or.inr ⟨j, h, by omega, o1, o2, rfl, b_ok h (by omega), ?_⟩
    rw [m_b_ok h (by omega)]
    rfl
theorem cell_c (hC : LC σ 4 L) (hM : LM τ 144 L) (h0 : (∀ k, L k = 0) ∨ (Ok L ∧ L 5 ≤ 999)) (p : Int32) : (f_X4_isBelow p (σ 4 3) = some 0 ∧ f_X5_isCell τ p = some 0) ∨ ∃ s, s < L 2 ∧ s < 12 ∧ p = nI s ∧ f_X4_isBelow p (σ 4 3) = some 1 ∧ f_X5_isCell τ p = some 1 := by
  have hl := zl h0
  unfold f_X5_isCell
  rw [in_2, lm_ck_s, cl_2, hM 2 (by decide), hC.1]
  rcases b_cases p (n := L 2) (by omega) with h | ⟨j, h, rfl⟩
  · refine Or.inl ⟨b_no h, ?_⟩
    rw [m_b_no (by omega) h]
    rfl
  · refine Or.inr ⟨j, h, by omega, rfl, b_ok h (by omega), ?_⟩
    rw [m_b_ok h (by omega)]
    rfl
theorem lit_c (hC : LC σ 4 L) (hM : LM τ 144 L) (h0 : (∀ k, L k = 0) ∨ (Ok L ∧ L 5 ≤ 999)) : (f_X1_isLit 4 σ = some 0 ∧ f_X5_isThere τ = some 0) ∨ (Ok L ∧ L 5 ≤ 999 ∧ f_X1_isLit 4 σ = some 1 ∧ f_X5_isThere τ = some 1) := by
  unfold f_X5_isThere
  rw [in_0, lm_ck_s, cl_0, hM 0 (by decide)]
  rcases h0 with h | ⟨h, h5⟩
  · left
    unfold f_X1_isLit
    rw [hC.2.2.2.2.1, h 0, h 1]
    exact ⟨rfl, rfl⟩
  · right
    refine ⟨h, h5, s_isLit hC h, ?_⟩
    rw [if_neg (nI_nle (by have := h.1; omega) (by have := h.1; omega))]
theorem Rel.t0 (h : Rel σ τ) : Rel σ (up τ 140 0 0) := h.same SameC.rf (SameM.up (by decide))
theorem row_c (p : Int32) : (f_X4_isBelow p 8 = some 0 ∧ f_X5_isRow p = some 0) ∨ ∃ j, j < 8 ∧ p = nI j ∧ f_X4_isBelow p 8 = some 1 ∧ f_X5_isRow p = some 1 := by
  unfold f_X5_isRow
  rcases bel p 8 0 7 (n := 7) rfl rfl rfl (by decide) with ⟨a, b⟩ | ⟨j, h1, h2, a, b⟩
  · left
    rw [b]
    exact ⟨a, rfl⟩
  · right
    refine ⟨j, h1, h2, a, ?_⟩
    rw [b]
    rfl
-- the simplest
theorem o_fault (h : Rel σ τ) : LmOpP σ (f_X4_fault σ) (f_X5_fault τ) := by
  unfold f_X4_fault f_X5_fault
  exact LmOpP.mk' h.t0.2.2.2.2.2.2.1 h.t0
theorem o_status (h : Rel σ τ) : LmOpP σ (f_X4_status σ) (f_X5_status τ) := by
  unfold f_X4_status f_X5_status
  exact LmOpP.mk' h.t0.2.2.2.2.2.2.2 h.t0
theorem o_trace (h : Rel σ τ) (p : Int32) : LmOpP σ (f_X4_trace σ p) (f_X5_trace τ p) := by
  unfold f_X4_trace f_X5_trace
  rw [lm_nm_s]
  have R := h.t0
  revert R
  generalize up τ 140 0 0 = τ1
  intro R
  obtain ⟨n, hn, e1, e2, e3⟩ := R.2.2.1
  rw [e1, e2]
  rcases b_cases p (n := n) (by omega) with h | ⟨j, h, rfl⟩
  · rw [b_no h, m_b_no (by omega) h]
    exact LmOpP.mk R
  · rw [b_ok h (by omega), m_b_ok h (by omega), lm_bd_s, lm_bd_s, if_neg n10, if_neg n10, lm_in_n (by omega) (by decide), lm_ck_s, lm_ck_s, nI_clamp (by omega)]
    exact LmOpP.mk' (e3 j h) R
theorem o_kind (h : Rel σ τ) (p : Int32) : LmOpP σ (f_X4_kind σ p) (f_X5_kind τ p) := by
  unfold f_X4_kind f_X5_kind
  rw [lm_nm_s]
  have R := h.t0
  revert R
  generalize up τ 140 0 0 = τ1
  intro R
  obtain ⟨L, hC, hM, h0⟩ := R.2.2.2.1
  rcases ship_c hC hM h0 p with ⟨a, b⟩ | ⟨s, h1, h2, ho, h5, rfl, a, b⟩
  · rw [a, b]
    exact LmOpP.mk R
  · rw [a, b, lm_bd_s, lm_bd_s, if_neg n10, if_neg n10, lm_in_n h2 (by decide), lm_ck_s, m_of0 hM h2, lm_bd_s, nI_clamp (by omega)]
    exact LmOpP.mk' (hC.2.2.2.2.2.2.2 s h1).1 R
theorem o_thick (h : Rel σ τ) (p : Int32) : LmOpP σ (f_X4_thick σ p) (f_X5_thick τ p) := by
  unfold f_X4_thick f_X5_thick
  rw [lm_nm_s]
  have R := h.t0
  revert R
  generalize up τ 140 0 0 = τ1
  intro R
  obtain ⟨L, hC, hM, h0⟩ := R.2.2.2.1
  rcases lit_c hC hM h0 with ⟨a, b⟩ | ⟨ho, h5, a, b⟩
  · rw [a, b]
    exact LmOpP.mk R
  · rw [a, b, lm_bd_s, lm_bd_s, if_neg n10, if_neg n10]
    rcases wit p 0 60 0 60 (m := 0) (n := 60) rfl rfl rfl rfl (by decide) (by decide) with ⟨a, b⟩ | ⟨j, h1, h2, rfl, a, b⟩
    · rw [a, b]
      exact LmOpP.mk R
    · rw [a, b, lm_bd_s, lm_bd_s, if_neg n10, if_neg n10, in_5, lm_ck_s, cl_5, hM 5 (by decide), hC.2.2.2.1, nI_add, s_thickOf hC ho (by omega), m_thickOf hM ho (by omega)]
      exact LmOpP.mk R
theorem o_ship (h : Rel σ τ) (p q : Int32) : LmOpP σ (f_X4_ship σ p q) (f_X5_ship τ p q) := by
  unfold f_X4_ship f_X5_ship
  rw [lm_nm_s]
  have R := h.t0
  revert R
  generalize up τ 140 0 0 = τ1
  intro R
  obtain ⟨L, hC, hM, h0⟩ := R.2.2.2.1
  rcases ship_c hC hM h0 p with ⟨a, b⟩ | ⟨s, h1, h2, ho, h5, rfl, a, b⟩
  · rw [a, b]
    exact LmOpP.mk R
  · rw [a, b, lm_bd_s, lm_bd_s, if_neg n10, if_neg n10]
    by_cases q0 : q = 0
    · subst q0
      rw [if_pos rfl, lm_in_n h2 (by decide), lm_ck_s, nI_clamp (by omega)]
      show LmOpP σ _ (lm_bd (f_X5_of 144 τ1 (nI s) 1) fun r19 => some (r19, τ1))
      rw [m_of1 hM h2]
      exact LmOpP.mk' (hC.2.2.2.2.2.2.2 s h1).2 R
    · by_cases q1 : q = 1
      · subst q1
        rw [if_neg q0, if_pos rfl, s_loggedOf hC ho (by omega) h1]
        show LmOpP σ _ (lm_bd (f_X5_loggedOf 144 τ1 (nI s)) fun r19 => some (r19, τ1))
        rw [m_loggedOf hM ho (by omega) h1]
        exact LmOpP.mk R
      · by_cases q2 : q = 2
        · subst q2
          rw [if_neg q0, if_neg q1, if_pos rfl, s_nextPlaceOf hC ho (by omega) h1]
          show LmOpP σ _ (lm_bd (f_X5_nextCell 144 τ1 (nI s)) fun r19 => some (r19, τ1))
          rw [m_nextCell hM ho (by omega) h1]
          exact LmOpP.mk R
        · rw [if_neg q0, if_neg q1, if_neg q2]
          rcases bel q 3 0 2 (n := 2) rfl rfl rfl (by decide) with ⟨a, b⟩ | ⟨j, g1, rfl, a, b⟩
          · rw [b]
            exact LmOpP.mk R
          · exfalso
            rcases j with _ | _ | _ | j
            · exact q0 rfl
            · exact q1 rfl
            · exact q2 rfl
            · omega
theorem o_stand (h : Rel σ τ) (p : Int32) : LmOpP σ (f_X4_stand σ p) (f_X5_stand τ p) := by
  unfold f_X4_stand f_X5_stand
  rw [lm_nm_s]
  have R := h.t0
  revert R
  generalize up τ 140 0 0 = τ1
  intro R
  obtain ⟨L, hC, hM, h0⟩ := R.2.2.2.1
  rcases lit_c hC hM h0 with ⟨a, b⟩ | ⟨ho, h5, a, b⟩
  · rw [a, b]
    exact LmOpP.mk R
  · rw [a, b, lm_bd_s, lm_bd_s, if_neg n10, if_neg n10]
    by_cases q : p = 0
    · subst q
      rw [if_pos rfl, if_pos rfl]
      show LmOpP σ (lm_bd (f_X1_shipsSeen 4 σ (nI 0)) _) (lm_bd (f_X5_seenBy 144 τ1 (nI 0)) _)
      rw [s_shipsSeen hC ho (by omega) (by decide), m_seenBy hM ho (by omega) (by decide)]
      exact LmOpP.mk R
    rw [if_neg q, if_neg q]
    by_cases q : p = 1
    · subst q
      rw [if_pos rfl, if_pos rfl]
      show LmOpP σ (lm_bd (f_X1_shipsSeen 4 σ (nI 1)) _) (lm_bd (f_X5_seenBy 144 τ1 (nI 1)) _)
      rw [s_shipsSeen hC ho (by omega) (by decide), m_seenBy hM ho (by omega) (by decide)]
      exact LmOpP.mk R
    rw [if_neg q, if_neg q]
    by_cases q : p = 2
    · subst q
      rw [if_pos rfl, if_pos rfl]
      show LmOpP σ (lm_bd (f_X1_shipsSeen 4 σ (nI 2)) _) (lm_bd (f_X5_differ 144 τ1) _)
      rw [s_shipsSeen hC ho (by omega) (by decide), m_differ hM ho (by omega)]
      exact LmOpP.mk R
    rw [if_neg q, if_neg q]
    by_cases q : p = 3
    · rw [if_pos q, if_pos q]
      exact LmOpP.mk' (hC.2.1.trans (hM 3 (by decide)).symm) R
    rw [if_neg q, if_neg q]
    by_cases q : p = 4
    · rw [if_pos q, if_pos q]
      exact LmOpP.mk' (hC.2.2.1.trans (hM 4 (by decide)).symm) R
    rw [if_neg q, if_neg q]
    by_cases q : p = 5
    · rw [if_pos q, if_pos q]
      exact LmOpP.mk' (hC.1.trans (hM 2 (by decide)).symm) R
    rw [if_neg q, if_neg q]
    by_cases q : p = 6
    · rw [if_pos q, if_pos q, in_5, lm_ck_s, cl_5, hM 5 (by decide), hC.2.2.2.1, s_thickOf hC ho (by omega), m_thickOf hM ho (by omega)]
      exact LmOpP.mk R
    rw [if_neg q, if_neg q]
    exact LmOpP.mk R
end OPA
