section OPD
variable {σ τ σ' τ' : Mem} {L : Nat → Nat}
theorem cp_fw {a i b j N : Nat} (hi : 40 * a + i + N ≤ 320) (hj : 40 * b + j + N ≤ 320) (hd : 40 * b + j ≤ 40 * a + i ∨ 40 * a + i + N ≤ 40 * b + j) : ∀ (n k : Nat) (τ : Mem), k ≤ N → N - k < n → ∃ τ', f_X5_copy_143 n (nI a) (nI i) (nI b) (nI j) (nI N) 1 (nI k) τ = some (nI N, τ') ∧ (∀ x, x ≠ 143 → τ' x = τ x) ∧ ∀ x, τ' 143 x = if 40 * b + j + k ≤ x ∧ x < 40 * b + j + N then τ 143 (40 * a + i + (x - (40 * b + j))) else τ 143 x
  | 0, k, τ, h1, h2 => by omega
  | n + 1, k, τ, h1, h2 => by
    unfold f_X5_copy_143
    by_cases q : k = N
    · rw [if_pos (nI_le (by omega) (by omega))]
      refine ⟨τ, rfl, fun _ _ => rfl, fun x => ?_⟩
      rw [if_neg (by omega)]
    · rw [if_neg (nI_ge (by omega) (by omega)), if_neg n10]
      unfold f_X5_copy_167
      rw [lit_40, pk_mul, pk_mul, nI_add, nI_add, nI_add, nI_add, lm_in_n (by omega) (by decide), lm_ck_s, lm_in_n (by omega) (by decide), lm_ck_s, lm_nm_s, lm_nm_s, nI_clamp (by omega), nI_clamp (by omega), nI_1]
      obtain ⟨τ', e1, e2, e3⟩ := cp_fw hi hj hd n (k + 1) (up τ 143 (40 * b + j + k) (τ 143 (40 * a + i + k))) (by omega) (by omega)
      refine ⟨τ', e1, fun x hx => by rw [e2 x hx, up_x hx], fun x => ?_⟩
      rw [e3 x]
      by_cases q1 : x = 40 * b + j + k
      · rw [if_neg (by omega), q1, up_eq, if_pos (by omega)]
        congr 1
        omega
      · rw [up_ne (j := x) (by omega)]
        by_cases q2 : 40 * b + j + k ≤ x ∧ x < 40 * b + j + N
        · rw [if_pos (by omega), if_pos q2, up_ne (by omega)]
        · rw [if_neg (by omega), if_neg q2]
theorem cp_bw {a i b j N : Nat} (hi : 40 * a + i + N ≤ 320) (hj : 40 * b + j + N ≤ 320) (hd : 40 * a + i ≤ 40 * b + j ∨ 40 * b + j + N ≤ 40 * a + i) : ∀ (n k : Nat) (τ : Mem), k ≤ N → N - k < n → ∃ τ', f_X5_copy_143 n (nI a) (nI i) (nI b) (nI j) (nI N) 0 (nI k) τ = some (nI N, τ') ∧ (∀ x, x ≠ 143 → τ' x = τ x) ∧ ∀ x, τ' 143 x = if 40 * b + j ≤ x ∧ x < 40 * b + j + (N - k) then τ 143 (40 * a + i + (x - (40 * b + j))) else τ 143 x
  | 0, k, τ, h1, h2 => by omega
  | n + 1, k, τ, h1, h2 => by
    unfold f_X5_copy_143
    by_cases q : k = N
    · rw [if_pos (nI_le (by omega) (by omega))]
      refine ⟨τ, rfl, fun _ _ => rfl, fun x => ?_⟩
      rw [if_neg (by omega)]
    · rw [if_neg (nI_ge (by omega) (by omega)), if_pos rfl]
      unfold f_X5_copy_167
      rw [lit_40, lit_1, pk_sub (by omega), pk_sub (by omega), pk_mul, pk_mul, nI_add, nI_add, nI_add, nI_add, nI_add, lm_in_n (by omega) (by decide), lm_ck_s, lm_in_n (by omega) (by decide), lm_ck_s, lm_nm_s, lm_nm_s, nI_clamp (by omega), nI_clamp (by omega)]
      obtain ⟨τ', e1, e2, e3⟩ := cp_bw hi hj hd n (k + 1) (up τ 143 (40 * b + j + (N - 1 - k)) (τ 143 (40 * a + i + (N - 1 - k)))) (by omega) (by omega)
      refine ⟨τ', e1, fun x hx => by rw [e2 x hx, up_x hx], fun x => ?_⟩
      rw [e3 x]
      by_cases q1 : x = 40 * b + j + (N - 1 - k)
      · rw [if_neg (by omega), q1, up_eq, if_pos (by omega)]
        congr 1
        omega
      · rw [up_ne (j := x) (by omega)]
        by_cases q2 : 40 * b + j ≤ x ∧ x < 40 * b + j + (N - k)
        · rw [if_pos (by omega), if_pos q2, up_ne (by omega)]
        · rw [if_neg (by omega), if_neg q2]
theorem span_c {c m : Nat} (hm : m ≤ 40) (hc : σ c 3 = nI m) (p q : Int32) : (f_X2_hasSpan c σ p q = some 0 ∧ (p < 0 ∨ q < 0 ∨ (m : Int) < p.toInt + q.toInt)) ∨ ∃ i k, i + k ≤ m ∧ p = nI i ∧ q = nI k ∧ f_X2_hasSpan c σ p q = some 1 := by
  unfold f_X2_hasSpan
  rw [hc]
  by_cases q1 : p < 0
  · exact Or.inl ⟨if_pos q1, Or.inl q1⟩
  by_cases q2 : q < 0
  · exact Or.inl ⟨by rw [if_neg q1, if_pos q2], Or.inr (Or.inl q2)⟩
  obtain ⟨i, hi, rfl⟩ := nI_of q1
  obtain ⟨k, hk, rfl⟩ := nI_of q2
  rw [if_neg q1, if_neg q2]
  by_cases q3 : m < k
  · refine Or.inl ⟨by rw [if_pos (nI_lt q3 hk)], Or.inr (Or.inr ?_)⟩
    rw [nI_toInt hi, nI_toInt hk]
    omega
  · rw [if_neg (nI_nlt (by omega) (by omega)), pk_sub (by omega)]
    by_cases q4 : m - k < i
    · refine Or.inl ⟨by rw [if_pos (nI_lt q4 hi)], Or.inr (Or.inr ?_)⟩
      rw [nI_toInt hi, nI_toInt hk]
      omega
    · rw [if_neg (nI_nlt (by omega) (by omega))]
      exact Or.inr ⟨i, k, by omega, rfl, rfl, rfl⟩
theorem a64_lt {p q : Int32} {m : Nat} (hm : m ≤ 40) : (nI m).toInt64 < p.toInt64 + q.toInt64 ↔ (m : Int) < p.toInt + q.toInt := by
  have h1 := p.toInt_lt
  have h2 := p.le_toInt
  have h3 := q.toInt_lt
  have h4 := q.le_toInt
  rw [Int64.lt_iff_toInt_lt, Int64.toInt_add, Int32.toInt_toInt64, Int32.toInt_toInt64, Int32.toInt_toInt64, nI_toInt (by omega), Int.bmod_eq_of_le (by omega) (by omega)]
theorem a64_le {p q : Int32} {m : Nat} (hm : m ≤ 40) : p.toInt64 + q.toInt64 ≤ (nI m).toInt64 ↔ p.toInt + q.toInt ≤ (m : Int) := by
  rw [← Int64.not_lt, a64_lt hm]
  omega
theorem o_copy (h : Rel σ τ) (p p2 q p4 v : Int32) : LmOp (f_X4_copy σ p p2 q p4 v) (f_X5_copy τ p p2 q p4 v) := by
  unfold f_X4_copy f_X5_copy
  simp only [lm_nm_s]
  have R := h.t0
  revert R
  generalize up τ 140 0 0 = τ1
  intro R
  rcases row_c p with ⟨a, b⟩ | ⟨a, h1, rfl, k1, k2⟩
  · rw [a, b]
    exact LmOp.mk R
  · rw [k1, k2, lm_bd_s, lm_bd_s, if_neg n10, if_neg n10]
    rcases row_c q with ⟨a, b⟩ | ⟨b, h2, rfl, k1, k2⟩
    · rw [a, b]
      exact LmOp.mk R
    · rw [k1, k2, lm_bd_s, lm_bd_s, if_neg n10, if_neg n10]
      simp only [lm_ck_s, nI_clamp (show a < 2 ^ 31 by omega), nI_clamp (show b < 2 ^ 31 by omega), lm_in_n h1 (show 8 < 2 ^ 31 by decide), lm_in_n h2 (show 8 < 2 ^ 31 by decide), s_found, m_found, s_unf, lm_bd2_s, upup]
      rw [up_x (σ := τ1) (c := 140) (x := 141) (by decide), up_x (σ := τ1) (c := 140) (x := 142) (by decide)]
      obtain ⟨ga, ⟨ma, hma, ga5, ga6⟩, ga7⟩ := R.1 a h1
      obtain ⟨gb, ⟨mb, hmb, gb5, gb6⟩, gb7⟩ := R.1 b h2
      rw [ga6, gb6]
      simp only [lg_cmp_gt, lg_cmp_le, a64_lt hma, a64_le hmb]
      rcases ga with ⟨g1, g2⟩ | ⟨g1, ln, hl, g2, g3⟩
      · rw [g1, g2, if_neg n10, if_pos (by decide)]
        exact LmOp.mk R.fnd
      rw [g1, g3, if_pos rfl, if_neg (c := nI ln < 0) (nI_pos (by omega))]
      rcases gb with ⟨f1, f2⟩ | ⟨f1, ln2, hl2, f2, f3⟩
      · rw [f1, f2, if_neg n10, if_neg (c := (0 : Int32) ≤ -1) (by decide)]
        exact LmOp.mk R.fnd
      rw [f1, f3, if_pos rfl, if_pos (c := 0 ≤ nI ln2) (nI_pos' (by omega)), g2, f2]
      by_cases q1 : nI ln = nI ln2
      · rw [if_pos q1, if_pos q1]
        have bad : ∀ (c : Prop) [Decidable c] (X Y : Option (Int32 × Mem)), c → LmOp (some ((-1000010 : Int32) - 2, up σ 0 10 2)) X → LmOp (some ((-1000010 : Int32) - 2, up σ 0 10 2)) (if c then X else Y) := fun c _ X Y h k => by rw [if_pos h]; exact k
        have B := LmOp.mk (r := (-1000010 : Int32) - 2) (R.fnd (v := 2))
        rcases span_c hma ga5 p2 v with ⟨s1, s2⟩ | ⟨i, N, s1, rfl, rfl, s2⟩
        · rw [s1, lm_bd_s, if_pos rfl]
          by_cases c1 : p2 < 0
          · rw [if_pos c1]; exact B
          rw [if_neg c1]
          by_cases c2 : p4 < 0
          · rw [if_pos c2]; exact B
          rw [if_neg c2]
          by_cases c3 : v < 0
          · rw [if_pos c3]; exact B
          rw [if_neg c3]
          rcases s2 with s2 | s2 | s2
          · exact absurd s2 c1
          · exact absurd s2 c3
          · rw [if_pos s2]; exact B
        · rw [s2, lm_bd_s, if_neg n10, if_neg (c := nI i < 0) (nI_pos (by omega))]
          rcases span_c hmb gb5 p4 (nI N) with ⟨t1, t2⟩ | ⟨j, N', t1, rfl, t3, t2⟩
          · rw [t1, lm_bd_s, if_pos rfl]
            by_cases c2 : p4 < 0
            · rw [if_pos c2]; exact B
            rw [if_neg c2, if_neg (c := nI N < 0) (nI_pos (by omega))]
            by_cases c4 : (ma : Int) < (nI i).toInt + (nI N).toInt
            · rw [if_pos c4]; exact B
            rw [if_neg c4]
            rcases t2 with s2 | s2 | s2
            · exact absurd s2 c2
            · exact absurd s2 (nI_pos (by omega))
            · rw [if_neg (by omega)]; exact B
          · have hN : N = N' := (nI_eq (by omega) (by omega)).mp t3
            subst hN
            rw [t2, lm_bd_s, if_neg n10, if_neg (c := nI j < 0) (nI_pos (by omega)), if_neg (c := nI N < 0) (nI_pos (by omega)), nI_toInt (by omega), nI_toInt (by omega), nI_toInt (by omega), if_neg (by omega), if_pos (c := (j : Int) + N ≤ mb) (by omega)]
            have hcp : lm_cp (nI i) (nI j) (nI N) 40 40 = true := by
              refine decide_eq_true ⟨nI_pos (by omega), nI_pos (by omega), nI_pos (by omega), ?_, ?_⟩
              · rw [nI_clamp (by omega), nI_clamp (by omega)]; omega
              · rw [nI_clamp (by omega), nI_clamp (by omega)]; omega
            rw [hcp, lm_ck_s, nI_clamp (by omega), nI_clamp (by omega), nI_clamp (by omega)]
            have key : ∃ τ', (if nI i < nI j then f_X5_copy_143 lm_fu (nI a) (nI i) (nI b) (nI j) (nI N) 0 0 (up τ1 140 1 0) else f_X5_copy_143 lm_fu (nI a) (nI i) (nI b) (nI j) (nI N) 1 0 (up τ1 140 1 0)) = some (nI N, τ') ∧ (∀ x, x ≠ 143 → τ' x = up τ1 140 1 0 x) ∧ ∀ x, τ' 143 x = if 40 * b + j ≤ x ∧ x < 40 * b + j + N then τ1 143 (40 * a + i + (x - (40 * b + j))) else τ1 143 x := by
              by_cases d : i < j
              · rw [if_pos (nI_lt d (by omega))]
                obtain ⟨τ', e1, e2, e3⟩ := cp_bw (a := a) (i := i) (b := b) (j := j) (N := N) (by omega) (by omega) (by omega) lm_fu 0 (up τ1 140 1 0) (by omega) (by rw [fu_1]; omega)
                exact ⟨τ', e1, e2, e3⟩
              · rw [if_neg (nI_nlt (by omega) (by omega))]
                obtain ⟨τ', e1, e2, e3⟩ := cp_fw (a := a) (i := i) (b := b) (j := j) (N := N) (by omega) (by omega) (by omega) lm_fu 0 (up τ1 140 1 0) (by omega) (by rw [fu_1]; omega)
                exact ⟨τ', e1, e2, e3⟩
            obtain ⟨τ', e1, e2, e3⟩ := key
            rw [e1]
            refine LmOp.mk ((R.fnd (v := 0)).row (fun x hx => ?_) (fun x _ _ h3 => e2 x h3) ?_)
            · by_cases q3 : x = 0
              · subst q3
                unfold up
                rw [upA_eq, upA_eq, upA_ne (by omega)]
              · rw [up_x q3, up_x q3, upA_ne (by omega)]
            · refine R.1.at (j := b) (fun x a1 a2 a3 a4 => by rw [up_x (by omega), upA_ne (by omega)]) (fun r hr => ?_) (fun r hr => ?_) (fun k hk => ?_) ⟨Or.inr ?_, ⟨mb, hmb, ?_⟩, fun k hk => ?_⟩
              · rw [e2 _ (by decide), up_x (by decide)]
              · rw [e2 _ (by decide), up_x (by decide)]
              · rw [e3, if_neg (by omega)]
              · rw [up_x (by omega), upA_ne (by omega), f1, f2, e2 _ (by decide), up_x (by decide), f3]
                exact ⟨rfl, ln2, hl2, rfl, rfl⟩
              · rw [up_x (by omega), upA_ne (by omega), gb5, e2 _ (by decide), up_x (by decide), gb6]
                exact ⟨rfl, rfl⟩
              · rw [up_x (by omega), upA_eq, e3]
                unfold va_cpy
                by_cases q4 : j ≤ k ∧ k < j + N
                · rw [if_pos q4, if_pos (by omega), ga7 _ (by omega)]
                  congr 1
                  omega
                · rw [if_neg q4, if_neg (by omega), gb7 _ (by omega)]
      · rw [if_neg q1, if_neg q1]
        exact LmOp.mk R.fnd
end OPD
