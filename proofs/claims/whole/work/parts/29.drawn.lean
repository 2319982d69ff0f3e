section OPM
variable {σ τ σ' τ' : Mem} {L M : Nat → Nat}
def be1 (L : Nat → Nat) (x : Nat) : Nat → Nat := if x % 3 = 0 then setL L (6 + x % L 1) (x % 10) else L
def be2 (L : Nat → Nat) (x : Nat) : Nat → Nat := if L (13 + 2 * (x % L 0)) = 0 then setL L (13 + 2 * (x % L 0)) (L 2 - 1) else L
def be3 (L : Nat → Nat) : Nat → Nat := if L 4 = 0 then pourL L 9 else L
theorem be1_Ok {x : Nat} (h : Ok L) : Ok (be1 L x) := by
  have h1 := h.2.1
  have : x % L 1 < L 1 := Nat.mod_lt _ (by omega)
  unfold be1
  split
  · exact ok_thick h (by omega) (by omega)
  · exact h
theorem be2_Ok {x : Nat} (h : Ok L) : Ok (be2 L x) := by
  have h2 := h.2.2.1
  unfold be2
  split
  · exact ok_cell h (by omega)
  · exact h
theorem be3_Ok (h : Ok L) : Ok (be3 L) := by
  unfold be3
  split
  · exact ok_pour h
  · exact h
theorem be1_5 {x : Nat} (h : Ok L) : be1 L x 5 = L 5 := by
  unfold be1
  split
  · exact setL_ne (by omega)
  · rfl
theorem be2_5 {x : Nat} : be2 L x 5 = L 5 := by
  unfold be2
  split
  · exact setL_ne (by omega)
  · rfl
theorem be3_5 : be3 L 5 = L 5 := by
  unfold be3
  split <;> rfl
theorem l_rem {x d : Nat} (hx : x < 2 ^ 31) (h0 : 0 < d) (hd : d < 2 ^ 31) : (lN x - lN x / (nI d).toInt64 * (nI d).toInt64) = lN (x % d) := by
  rw [nI_l hd, pk_lRem (by omega) h0 (by omega)]
theorem l_nz {d : Nat} (h0 : 0 < d) (hd : d < 2 ^ 31) : lm_nzl ((nI d).toInt64) = true := by
  rw [nI_l hd]
  refine decide_eq_true ?_
  show ¬ lN d = lN 0
  rw [pk_lEQ (by omega) (by omega)]
  omega
theorem l_3 {x : Nat} (hx : x < 2 ^ 31) : (lg_cmp (lN x - lN x / (3 : Int64) * (3 : Int64)) (0 : Int64) = 0) ↔ x % 3 = 0 := by
  rw [lg_cmp_eq, show (3 : Int64) = lN 3 from rfl, pk_lRem (by omega) (by decide) (by decide), show (0 : Int64) = lN 0 from rfl, pk_lEQ (by omega) (by omega)]
theorem s_be23 {c x : Nat} (hx : x < 2 ^ 31) (hC : LC σ c L) (ho : Ok L) : ∃ σ', f_X1_befall_52 c (lN x) σ = some σ' ∧ LC σ' c (be3 (be2 L x)) ∧ Fr c σ σ' := by
  have h0 := ho.1
  have h2 := ho.2.2.1
  have h4 := ho.2.2.2.2.1
  have hm : x % L 0 < L 0 := Nat.mod_lt _ (by omega)
  unfold f_X1_befall_52
  rw [hC.2.2.2.2.2.1, l_nz (by omega) (by omega), lm_ck_s, l_rem hx (by omega) (by omega), lN_i, lm_nm_s, lm_in_n (by omega) (by decide), lm_ck_s, lm_ck_s, nI_clamp (by omega), (hC.2.2.2.2.2.2.2 _ hm).2, hC.1, hC.2.2.1, lit_1, pk_sub (by omega), lm_nm_s]
  have hcl := (ho.2.2.2.2.2.2 _ hm).2.2
  have fin : ∀ (σ1 : Mem) (K : Nat → Nat), LC σ1 c K → Ok K → ∃ σ', (if nI (K 4) = 0 then (lm_bd (f_X1_addOil c σ1 (9 : Int32)) fun σ15 => some σ15) else (some σ1)) = some σ' ∧ LC σ' c (be3 K) ∧ Fr c σ1 σ' := by
    intro σ1 K hK hoK
    have h4K := hoK.2.2.2.2.1
    unfold be3
    by_cases q : K 4 = 0
    · obtain ⟨σ2, e1, e2, e3⟩ := s_addOil hK hoK (v := 9) (by omega)
      rw [if_pos (by rw [q]; rfl), if_pos q, show f_X1_addOil c σ1 9 = _ from e1, lm_bd_s]
      exact ⟨σ2, rfl, e2, e3⟩
    · rw [if_neg (nI_ne0 (by omega) (by omega)), if_neg q]
      exact ⟨σ1, rfl, hK, Fr.rf⟩
  have fr5 : up σ (c + 3) (x % L 0) (nI (L 2 - 1)) c = σ c := up_x (by omega)
  rw [fr5, hC.2.2.1]
  unfold be2
  by_cases q : L (13 + 2 * (x % L 0)) = 0
  · rw [if_pos (show nI (L (13 + 2 * (x % L 0))) = 0 by rw [q]; rfl), if_pos q]
    obtain ⟨σ', e1, e2, e3⟩ := fin (up σ (c + 3) (x % L 0) (nI (L 2 - 1))) (setL L (13 + 2 * (x % L 0)) (L 2 - 1)) (LC_cell hC ho.2.1.2) (ok_cell ho (by omega))
    rw [setL_ne (by omega)] at e1
    exact ⟨σ', e1, e2, (Fr.up (by omega)).tr e3⟩
  · rw [if_neg (nI_ne0 (by omega) (by omega)), if_neg q]
    exact fin σ L hC ho
theorem s_befall {c x : Nat} (hx : x < 2 ^ 31) (hC : LC σ c L) (ho : Ok L) : ∃ σ', f_X1_befall c σ (lN x) = some σ' ∧ LC σ' c (be3 (be2 (be1 L x) x)) ∧ Fr c σ σ' := by
  have h0 := ho.1
  have h1 := ho.2.1
  have hm : x % L 1 < L 1 := Nat.mod_lt _ (by omega)
  unfold f_X1_befall
  rw [hC.2.2.2.2.1, hC.2.2.2.2.2.1, lit_1, if_neg (nI_nlt (by omega) (by omega)), if_neg (nI_nlt (by omega) (by omega)), if_pos (by rw [lg_cmp_ge, show (0 : Int64) = lN 0 from rfl, pk_lLE (by omega) (by omega)]; omega), l_nz (by omega) (by omega), lm_ck_s, l_rem hx (by omega) (by omega), lN_i, lm_in_n (by omega) (by decide), lm_ck_s, lm_nm_s, nI_clamp (by omega), show (10 : Int64) = lN 10 from rfl, pk_lRem (by omega) (by decide) (by decide), lN_i]
  unfold be1
  by_cases q : x % 3 = 0
  · rw [if_pos ((l_3 hx).mpr q), if_pos q]
    obtain ⟨σ', e1, e2, e3⟩ := s_be23 hx (LC_thick hC (g := x % L 1) (v := x % 10) (by omega)) (ok_thick ho (by omega) (by omega))
    exact ⟨σ', e1, e2, (Fr.up (by omega)).tr e3⟩
  · rw [if_neg (fun h => q ((l_3 hx).mp h)), if_neg q]
    exact s_be23 hx hC ho
theorem m_be3 {K : Int32 → Int32 → Int64 → Int32 → Int32 → Mem → Option (Int32 × Mem)} {x1 x3 x6 x7 : Int32} {x4 : Int64} (hM : LM τ 146 L) (ho : Ok L) : ∃ τ', f_X5_drawn_169 K x1 x3 x4 x6 x7 τ = f_X5_drawn_187 K x1 x3 x4 x6 x7 τ' ∧ LM τ' 146 (be3 L) ∧ FrM 146 τ τ' := by
  have h4 := ho.2.2.2.2.1
  unfold f_X5_drawn_169 be3
  rw [in_4, lm_ck_s, cl_4, hM 4 (by decide)]
  by_cases q : L 4 = 0
  · obtain ⟨τ2, e1, e2, e3⟩ := m_pourInto hM ho (v := 9) (by omega)
    rw [if_pos (by rw [q]; rfl), if_pos q, show f_X5_pourInto 146 τ 9 = _ from e1, lm_bd_s]
    exact ⟨τ2, rfl, e2, e3⟩
  · rw [if_neg (nI_ne0 (by omega) (by omega)), if_neg q]
    exact ⟨τ, rfl, hM, FrM.rf⟩
theorem m_be2 {K : Int32 → Int32 → Int64 → Int32 → Int32 → Mem → Option (Int32 × Mem)} {x1 x3 x6 x7 : Int32} {x : Nat} (hx : x < 2 ^ 31) (hM : LM τ 146 L) (ho : Ok L) : ∃ τ', f_X5_drawn_121 K x1 x3 (lN x) x6 x7 τ = f_X5_drawn_187 K x1 x3 (lN x) x6 x7 τ' ∧ LM τ' 146 (be3 (be2 L x)) ∧ FrM 146 τ τ' := by
  have h0 := ho.1
  have h2 := ho.2.2.1
  have hm : x % L 0 < L 0 := Nat.mod_lt _ (by omega)
  have hcl := (ho.2.2.2.2.2.2 _ hm).2.2
  unfold f_X5_drawn_121
  rw [in_0, lm_ck_s, cl_0, hM 0 (by decide), l_nz (by omega) (by omega), lm_ck_s, l_rem hx (by omega) (by omega), lN_i, lm_nm_s, m_of1 hM (by omega), lm_bd_s, in_2, lm_ck_s, cl_2, hM 2 (by decide), lit_12, lit_2, lit_1, pk_mul, nI_add, nI_add, show 12 + 2 * (x % L 0) + 1 = 13 + 2 * (x % L 0) by omega, lm_in_n (by omega) (by decide), lm_ck_s, lm_nm_s, nI_clamp (by omega), pk_sub (by omega)]
  unfold be2
  by_cases q : L (13 + 2 * (x % L 0)) = 0
  · rw [if_pos (show nI (L (13 + 2 * (x % L 0))) = 0 by rw [q]; rfl), if_pos q]
    obtain ⟨τ', e1, e2, e3⟩ := m_be3 (K := K) (x1 := x1) (x3 := x3) (x6 := x6) (x7 := x7) (x4 := lN x) (hM.set (k := 13 + 2 * (x % L 0)) (v := L 2 - 1)) (ok_cell ho (by omega))
    exact ⟨τ', e1, e2, FrM.up.tr e3⟩
  · rw [if_neg (nI_ne0 (by omega) (by omega)), if_neg q]
    exact m_be3 hM ho
theorem drawnL {N w : Nat} (hN : N ≤ 60) : ∀ (n k x : Nat) (y : Int32) (σ τ : Mem) (L : Nat → Nat), Rel σ τ → LC σ 8 L → LM τ 146 L → Ok L → x < 2 ^ 31 → L 5 + (N - k) ≤ 2000 → k ≤ N → N - k < n → LmOp (f_X4_drawn_66 n (nI N) (nI w) y (lN x) (nI k) σ) (f_X5_drawn_66 n (nI N) (nI w) (lN x) y (nI k) τ)
  | 0, k, x, y, σ, τ, L, R, hC, hM, ho, hx, h5, h1, h2 => by omega
  | n + 1, k, x, y, σ, τ, L, R, hC, hM, ho, hx, h5, h1, h2 => by
    have h16 := ho.2.1
    unfold f_X4_drawn_66 f_X5_drawn_66
    by_cases q : k = N
    · rw [if_pos (nI_le (by omega) (by omega)), if_pos (nI_le (by omega) (by omega)), in_4, lm_ck_s, cl_4, hM 4 (by decide), hC.2.2.1]
      by_cases w0 : nI w = 0
      · rw [if_pos w0, if_pos w0]
        exact LmOp.mk R
      · rw [if_neg w0, if_neg w0]
        exact LmOp.mk R
    · rw [if_neg (nI_ge (by omega) (by omega)), if_neg (nI_ge (by omega) (by omega)), show (16807 : Int64) = lN 16807 from rfl, show (2147483647 : Int64) = lN 2147483647 from rfl, lN_mul, pk_lRem (by omega) (by decide) (by decide), lm_nm_s, lm_nm_s]
      have hx2 : x * 16807 % 2147483647 < 2 ^ 31 := by omega
      revert hx2
      generalize x * 16807 % 2147483647 = z
      intro hz
      have hm : z % L 1 < L 1 := Nat.mod_lt _ (by omega)
      obtain ⟨σ2, a1, a2, a3⟩ := s_befall hz hC ho
      have hoB := be3_Ok (be2_Ok (x := z) (be1_Ok (x := z) ho))
      have h5B : be3 (be2 (be1 L z) z) 5 = L 5 := by rw [be3_5, be2_5, be1_5 ho]
      have key : ∃ τ', (if (lg_cmp (lN z - lN z / (3 : Int64) * (3 : Int64)) (0 : Int64)) = 0 then (lm_ck (lm_in (1 : Int32) 24) (lm_ck (lm_nzl ((τ 146 (1 : Int32).toNatClampNeg).toInt64)) (lm_ck (lm_in ((6 : Int32) + ((lN z - lN z / ((τ 146 (1 : Int32).toNatClampNeg).toInt64) * ((τ 146 (1 : Int32).toNatClampNeg).toInt64)).toInt32)) 24) (lm_nm (up τ 146 ((6 : Int32) + ((lN z - lN z / ((τ 146 (1 : Int32).toNatClampNeg).toInt64) * ((τ 146 (1 : Int32).toNatClampNeg).toInt64)).toInt32)).toNatClampNeg ((lN z - lN z / (10 : Int64) * (10 : Int64)).toInt32)) fun τ30 => f_X5_drawn_121 (f_X5_drawn_66 n) (nI N) (nI w) (lN z) y (nI k) τ30)))) else (f_X5_drawn_121 (f_X5_drawn_66 n) (nI N) (nI w) (lN z) y (nI k) τ)) = f_X5_drawn_187 (f_X5_drawn_66 n) (nI N) (nI w) (lN z) y (nI k) τ' ∧ LM τ' 146 (be3 (be2 (be1 L z) z)) ∧ FrM 146 τ τ' := by
        rw [in_1, lm_ck_s, cl_1, hM 1 (by decide), l_nz (by omega) (by omega), lm_ck_s, l_rem hz (by omega) (by omega), lN_i, lit_6, nI_add, lm_in_n (by omega) (by decide), lm_ck_s, lm_nm_s, nI_clamp (by omega), show (10 : Int64) = lN 10 from rfl, pk_lRem (by omega) (by decide) (by decide), lN_i]
        unfold be1
        by_cases q3 : z % 3 = 0
        · rw [if_pos ((l_3 hz).mpr q3), if_pos q3]
          obtain ⟨τ', e1, e2, e3⟩ := m_be2 (K := f_X5_drawn_66 n) (x1 := nI N) (x3 := nI w) (x6 := y) (x7 := nI k) hz (hM.set (k := 6 + z % L 1) (v := z % 10)) (ok_thick ho (by omega) (by omega))
          exact ⟨τ', e1, e2, FrM.up.tr e3⟩
        · rw [if_neg (fun h => q3 ((l_3 hz).mp h)), if_neg q3]
          exact m_be2 hz hM ho
      obtain ⟨τ2, b1, b2, b3⟩ := key
      rw [b1, a1, lm_bd_s]
      unfold f_X5_drawn_187
      obtain ⟨σ3, c1, c2, c3⟩ := s_passWatch a2 hoB (by omega)
      obtain ⟨τ3, d1, d2, d3⟩ := m_watchOf b2 hoB (by omega)
      have ho2 := step_Ok hoB
      have h52 : step (be3 (be2 (be1 L z) z)) 5 = L 5 + 1 := by rw [step_5, h5B]
      rw [c1, d1, lm_bd_s, lm_bd_s, lit_2, s_shipsSeen c2 ho2 (by omega) (by decide), m_differ d2 ho2 (by omega), lm_bd_s, lm_bd_s, s_bitCount _ (seen_lt ho2), m_bits _ (seen_lt ho2), lm_bd_s, lm_bd_s, lm_nm_s, lm_nm_s, lm_nm_s, lm_nm_s, nI_1]
      exact drawnL hN n (k + 1) z _ σ3 τ3 _ (R.same ((SameC.f8 a3).tr (SameC.f8 c3)) ((SameM.f146 b3).tr (SameM.f146 d3))) c2 d2 ho2 hz (by omega) (by omega) (by omega)
theorem o_drawn (h : Rel σ τ) (p q w : Int32) : LmOp (f_X4_drawn σ p q w) (f_X5_drawn τ p q w) := by
  unfold f_X4_drawn f_X5_drawn
  simp only [lm_nm_s]
  have R := h.t0
  revert R
  generalize up τ 140 0 0 = τ1
  intro R
  obtain ⟨L, hC, hM, h0⟩ := R.2.2.2.1
  rcases lit_c hC hM h0 with ⟨a, b⟩ | ⟨ho, h5, a, b⟩
  · rw [a, b]
    exact LmOp.mk R
  rw [a, b, lm_bd_s, lm_bd_s, if_neg n10, if_neg n10]
  rcases wit p 0 60 0 60 (m := 0) (n := 60) rfl rfl rfl rfl (by decide) (by decide) with ⟨a, b⟩ | ⟨n, h1, h2, rfl, a, b⟩
  · rw [a, b]
    exact LmOp.mk R
  rw [a, b, lm_bd_s, lm_bd_s, if_neg n10, if_neg n10]
  rcases wit q 1 999999 1 999999 (m := 1) (n := 999999) rfl rfl rfl rfl (by decide) (by decide) with ⟨a, b⟩ | ⟨m, h3, h4, rfl, a, b⟩
  · rw [a, b]
    exact LmOp.mk R
  rw [a, b, lm_bd_s, lm_bd_s, if_neg n10, if_neg n10]
  rcases bel w 2 0 1 (n := 1) rfl rfl rfl (by decide) with ⟨a, b⟩ | ⟨j, hj, rfl, a, b⟩
  · rw [a, b]
    exact LmOp.mk R
  rw [a, b, lm_bd_s, lm_bd_s, if_neg n10, if_neg n10]
  obtain ⟨σ2, a1, a2, a3⟩ := s_takeFrom (σ := σ) (c := 8) hC ho.1.2 ho.2.1.2 (by decide)
  obtain ⟨τ2, c1, c2, c3⟩ := m_layThen hM
  rw [a1, lm_bd_s, c1, lm_bd_s, nI_l (by omega)]
  exact drawnL h2 lm_fu 0 m 0 σ2 τ2 L (R.same (SameC.f8 a3) (SameM.f146 c3)) a2 c2 ho (by omega) (by omega) (by omega) (by rw [fu_1]; omega)
end OPM
