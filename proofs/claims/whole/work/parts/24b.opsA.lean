section OPB
variable {σ τ σ' τ' : Mem} {L : Nat → Nat}
theorem Rel.fnd (h : Rel σ τ) {v : Int32} : Rel (up σ 0 10 v) (up τ 140 1 v) := by
  obtain ⟨r1, r2, r3, r4, r5, r6, r7, r8⟩ := h
  have e : ∀ x, x ≠ 0 → up σ 0 10 v x = σ x := fun x hx => up_x hx
  have f : ∀ x, x ≠ 140 → up τ 140 1 v x = τ x := fun x hx => up_x hx
  refine ⟨r1.co (fun x _ _ => e x (by omega)) (f _ (by decide)) (f _ (by decide)) (f _ (by decide)), r2.co (by rw [e 2 (by decide)]) (e 3 (by decide)) (up_ne (by decide)) (f _ (by decide)), r3.co (up_ne (by decide)) (e 115 (by decide)) (up_ne (by decide)) (f _ (by decide)), r4.co (fun x _ _ => e x (by omega)) (f _ (by decide)), r5.co (fun x _ _ => e x (by omega)) (up_ne (by decide)) (f _ (by decide)), r6.co (fun x _ _ => e x (by omega)) (f _ (by decide)) (f _ (by decide)), ?_, ?_⟩
  · rw [up_ne (by decide), up_ne (by decide)]; exact r7
  · rw [up_eq, up_eq]
theorem Rel.row (h : Rel σ τ) (hs : ∀ x, x < 116 ∨ 132 ≤ x → σ' x = σ x) (ht : ∀ x, x ≠ 141 → x ≠ 142 → x ≠ 143 → τ' x = τ x) (hr : RRow σ' τ') : Rel σ' τ' := by
  obtain ⟨r1, r2, r3, r4, r5, r6, r7, r8⟩ := h
  have e140 := ht 140 (by decide) (by decide) (by decide)
  refine ⟨hr, r2.co (by rw [hs 2 (by omega)]) (hs 3 (by omega)) (by rw [e140]) (ht _ (by decide) (by decide) (by decide)), r3.co (by rw [hs 0 (by omega)]) (hs 115 (by omega)) (by rw [e140]) (ht _ (by decide) (by decide) (by decide)), r4.co (fun x _ _ => hs x (by omega)) (ht _ (by decide) (by decide) (by decide)), r5.co (fun x _ _ => hs x (by omega)) (by rw [e140]) (ht _ (by decide) (by decide) (by decide)), r6.co (fun x _ _ => hs x (by omega)) (ht _ (by decide) (by decide) (by decide)) (ht _ (by decide) (by decide) (by decide)), ?_, ?_⟩
  · rw [hs 0 (by omega), e140]; exact r7
  · rw [hs 0 (by omega), e140]; exact r8
theorem upup {c k : Nat} {v w : Int32} : up (up σ c k v) c k w = up σ c k w := by
  funext x j
  rw [up_ap, up_ap, up_ap]
  split <;> rfl
theorem upcm {c d k j : Nat} {v w : Int32} (h : c ≠ d) : up (up σ c k v) d j w = up (up σ d j w) c k v := by
  funext x i
  simp only [up_ap]
  by_cases h1 : x = c ∧ i = k
  · by_cases h2 : x = d ∧ i = j
    · omega
    · simp only [h1, h2, if_true, if_false, and_self]
      rw [if_neg (by omega)]
  · simp only [h1, if_false]
theorem s_found {v : Int32} : f_X4_found σ v = some ((-1000010 : Int32) - v, up σ 0 10 v) := rfl
theorem m_found {v : Int32} : f_X5_finding τ v = some ((-1000010 : Int32) - v, up τ 140 1 v) := rfl
theorem s_unf {v : Int32} : f_X4_unfound σ v = some (v, up σ 0 10 0) := rfl
-- feed
theorem o_feed (h : Rel σ τ) (p : Int32) : LmOp (f_X4_feed σ p) (f_X5_feed τ p) := by
  unfold f_X4_feed f_X5_feed
  rw [lm_nm_s]
  have R := h.t0
  revert R
  generalize up τ 140 0 0 = τ1
  intro R
  rcases bel p 256 0 255 (n := 255) rfl rfl rfl (by decide) with ⟨a, b⟩ | ⟨j, h1, rfl, a, b⟩
  · rw [a, b]
    exact LmOp.mk R
  · rw [a, b, lm_bd_s, lm_bd_s, if_neg n10, if_neg n10]
    obtain ⟨n, hn, e1, e2, e3⟩ := R.2.1
    rw [e1, e2]
    by_cases q : n = 120
    · subst q
      rw [if_neg (by decide), if_pos (by decide)]
      exact LmOp.mk R
    · rw [lit_120, if_pos (nI_lt (by omega) (by decide)), if_neg (by rw [nI_eq (by omega) (by decide)]; exact q)]
      unfold f_X3_append
      rw [e1, lm_in_n (by omega) (by decide), lm_ck_s, lm_ck_s, lm_nm_s, lm_nm_s, lm_nm_s, lm_nm_s, nI_clamp (by omega), up_x (σ := σ) (c := 3) (by decide), e1, up_x (σ := τ1) (c := 148) (by decide), e2, nI_1]
      have g1 : up (up σ 3 n (nI j)) 2 1 (nI (n + 1)) 2 1 = nI (n + 1) := up_eq
      have g2 : up (up τ1 148 n (nI j)) 140 11 (nI (n + 1)) 140 11 = nI (n + 1) := up_eq
      rw [g1, g2, lm_bd2_s]
      refine LmOp.mk ?_
      have c1 : ∀ x, x ≠ 2 → x ≠ 3 → up (up σ 3 n (nI j)) 2 1 (nI (n + 1)) x = σ x := fun x h2 h3 => by rw [up_x h2, up_x h3]
      have c2 : ∀ x, x ≠ 140 → x ≠ 148 → up (up τ1 148 n (nI j)) 140 11 (nI (n + 1)) x = τ1 x := fun x h2 h3 => by rw [up_x h2, up_x h3]
      have c3 : ∀ k, k ≠ 11 → up (up τ1 148 n (nI j)) 140 11 (nI (n + 1)) 140 k = τ1 140 k := fun k h2 => by rw [up_ne (by omega), up_x (by decide)]
      obtain ⟨r1, r2, r3, r4, r5, r6, r7, r8⟩ := R
      refine ⟨r1.co (fun x _ _ => c1 x (by omega) (by omega)) (c2 _ (by decide) (by decide)) (c2 _ (by decide) (by decide)) (c2 _ (by decide) (by decide)), ⟨n + 1, by omega, g1, g2, fun i hi => ?_⟩, r3.co (by rw [c1 0 (by decide) (by decide)]) (c1 115 (by decide) (by decide)) (c3 _ (by decide)) (c2 _ (by decide) (by decide)), r4.co (fun x _ _ => c1 x (by omega) (by omega)) (c2 _ (by decide) (by decide)), r5.co (fun x _ _ => c1 x (by omega) (by omega)) (c3 _ (by decide)) (c2 _ (by decide) (by decide)), r6.co (fun x _ _ => c1 x (by omega) (by omega)) (c2 _ (by decide) (by decide)) (c2 _ (by decide) (by decide)), ?_, ?_⟩
      · rw [up_x (x := 3) (c := 2) (by decide), up_x (x := 148) (c := 140) (by decide), up_ap, up_ap]
        by_cases q2 : i = n
        · subst q2
          rw [if_pos ⟨rfl, rfl⟩, if_pos ⟨rfl, rfl⟩]
          exact ⟨rfl, j, by omega, rfl⟩
        · rw [if_neg (by omega), if_neg (by omega)]
          exact e3 i hi
      · rw [c1 0 (by decide) (by decide), c3 _ (by decide)]; exact r7
      · rw [c1 0 (by decide) (by decide), c3 _ (by decide)]; exact r8
-- count
theorem cnt_rows (h : RRow σ τ) : ∀ (n k : Nat) (x : Int32), k ≤ 8 → 8 - k < n → ∃ r, f_X4_rowsThere_4 σ n x (nI k) = some r ∧ f_X5_count_58 n x (nI k) τ = some (r, τ)
  | 0, k, x, h1, h2 => by omega
  | n + 1, k, x, h1, h2 => by
    unfold f_X4_rowsThere_4 f_X5_count_58
    rw [lit_8]
    by_cases q : k = 8
    · subst q
      exact ⟨x, rfl, rfl⟩
    · rw [if_neg (nI_ge (by omega) (by decide)), if_neg (nI_ge (by omega) (by decide)), lm_in_n (by omega) (by decide), lm_ck_s, lm_ck_s, nI_clamp (by omega), lm_nm_s, lm_nm_s, lm_nm_s, lm_nm_s, lm_nm_s, lm_nm_s, lm_nm_s, nI_1]
      obtain ⟨g, _⟩ := h k (by omega)
      rcases g with ⟨g1, g2⟩ | ⟨g1, ln, hl, g2, g3⟩
      · rw [g1, g2, if_neg n10, if_pos (by decide), Int32.add_zero]
        exact cnt_rows h n (k + 1) x (by omega) (by omega)
      · rw [g1, g3, if_pos rfl, if_neg (nI_pos (by omega))]
        exact cnt_rows h n (k + 1) (x + 1) (by omega) (by omega)
theorem cnt_ash (hC : LC σ 4 L) (hM : LM τ 144 L) (h6 : L 0 ≤ 6) (h12 : ∀ s, s < L 0 → L (13 + 2 * s) < 12) : ∀ (n k : Nat) (x : Int32), k ≤ L 0 → L 0 - k < n → ∃ r, f_X1_shipsAshore_4 4 σ n x (nI k) = some r ∧ f_X5_count_119 n x (nI k) τ = some (r, τ)
  | 0, k, x, h1, h2 => by omega
  | n + 1, k, x, h1, h2 => by
    unfold f_X1_shipsAshore_4 f_X5_count_119
    rw [in_0, lm_ck_s, cl_0, hM 0 (by decide), hC.2.2.2.2.2.1]
    by_cases q : k = L 0
    · rw [if_pos (nI_le (by omega) (by omega)), if_pos (nI_le (by omega) (by omega))]
      exact ⟨x, rfl, rfl⟩
    · rw [if_neg (nI_ge (by omega) (by omega)), if_neg (nI_ge (by omega) (by omega)), lm_in_n (by omega) (by decide), lm_ck_s, nI_clamp (by omega), m_of1 hM (by omega), lm_bd_s, lm_nm_s, lm_nm_s, lm_nm_s, lm_nm_s, lm_nm_s, lm_nm_s, lm_nm_s, nI_1]
      rw [show σ (4 + 3) k = nI (L (13 + 2 * k)) from (hC.2.2.2.2.2.2.2 k (by omega)).2]
      by_cases q2 : L (13 + 2 * k) = 0
      · rw [q2, if_pos (by decide), if_pos (by decide)]
        exact cnt_ash hC hM h6 h12 n (k + 1) (x + 1) (by omega) (by omega)
      · have := h12 k (by omega)
        rw [if_neg (nI_ne0 (by omega) (by omega)), if_neg (nI_ne0 (by omega) (by omega)), Int32.add_zero]
        exact cnt_ash hC hM h6 h12 n (k + 1) x (by omega) (by omega)
theorem o_count (h : Rel σ τ) (p : Int32) : LmOpP σ (f_X4_count σ p) (f_X5_count τ p) := by
  unfold f_X4_count f_X5_count
  rw [lm_nm_s]
  have R := h.t0
  revert R
  generalize up τ 140 0 0 = τ1
  intro R
  obtain ⟨L, hC, hM, h0⟩ := R.2.2.2.1
  have hl := zl h0
  by_cases q : p = 0
  · rw [if_pos q, if_pos q]
    obtain ⟨r, e1, e2⟩ := cnt_rows R.1 lm_fu 0 0 (by decide) (by decide)
    unfold f_X4_rowsThere
    rw [lit_0, show (nI 0 : Int32) = 0 from rfl] at *
    rw [show f_X4_rowsThere_4 σ lm_fu 0 0 = some r from e1, show f_X5_count_58 lm_fu 0 0 τ1 = some (r, τ1) from e2]
    exact LmOpP.mk R
  rw [if_neg q, if_neg q]
  by_cases q : p = 1
  · rw [if_pos q, if_pos q]
    exact LmOpP.mk' (hC.2.2.2.2.2.1.trans (hM 0 (by decide)).symm) R
  rw [if_neg q, if_neg q]
  by_cases q : p = 2
  · rw [if_pos q, if_pos q]
    exact LmOpP.mk' (hC.2.2.2.2.1.trans (hM 1 (by decide)).symm) R
  rw [if_neg q, if_neg q]
  by_cases q : p = 3
  · rw [if_pos q, if_pos q]
    exact LmOpP.mk' (hC.2.2.2.1.trans (hM 5 (by decide)).symm) R
  rw [if_neg q, if_neg q]
  by_cases q : p = 4
  · rw [if_pos q, if_pos q]
    exact LmOpP.mk' (hC.2.2.1.trans (hM 4 (by decide)).symm) R
  rw [if_neg q, if_neg q]
  by_cases q : p = 5
  · rw [if_pos q, if_pos q]
    have h12 : ∀ s, s < L 0 → L (13 + 2 * s) < 12 := by
      intro s hs
      obtain ⟨o1, o2⟩ := zok h0 (by omega)
      have := (o1.2.2.2.2.2.2 s hs).2.2
      omega
    obtain ⟨r, e1, e2⟩ := cnt_ash hC hM (by omega) h12 lm_fu 0 0 (by omega) (by rw [fu_1]; omega)
    unfold f_X1_shipsAshore
    rw [show f_X1_shipsAshore_4 4 σ lm_fu 0 0 = some r from e1, show f_X5_count_119 lm_fu 0 0 τ1 = some (r, τ1) from e2]
    exact LmOpP.mk R
  rw [if_neg q, if_neg q]
  by_cases q : p = 6
  · rw [if_pos q, if_pos q]
    obtain ⟨nx, kp, Hs, g1, g2, g3, g4, g5, g6⟩ := R.2.2.2.2.1
    exact LmOpP.mk' (g4.trans g5.symm) R
  rw [if_neg q, if_neg q]
  by_cases q : p = 7
  · rw [if_pos q, if_pos q]
    obtain ⟨n, hn, e1, e2, e3⟩ := R.2.1
    exact LmOpP.mk' (e1.trans e2.symm) R
  rw [if_neg q, if_neg q]
  exact LmOpP.mk R
-- drop
theorem o_drop (h : Rel σ τ) (p : Int32) : LmOp (f_X4_drop σ p) (f_X5_drop τ p) := by
  unfold f_X4_drop f_X5_drop
  simp only [lm_nm_s]
  have R := h.t0
  revert R
  generalize up τ 140 0 0 = τ1
  intro R
  rcases row_c p with ⟨a, b⟩ | ⟨j, h1, rfl, a, b⟩
  · rw [a, b]
    exact LmOp.mk R
  · rw [a, b, lm_bd_s, lm_bd_s, if_neg n10, if_neg n10, lm_in_n (by omega) (by decide), lm_ck_s, lm_ck_s, lm_ck_s, lm_ck_s, nI_clamp (by omega)]
    have RR := R.1
    obtain ⟨g, ⟨m, hm, g5, g6⟩, g7⟩ := RR j h1
    rw [up_x (σ := τ1) (c := 140) (x := 141) (by decide)]
    rcases g with ⟨g1, g2⟩ | ⟨g1, ln, hl, g2, g3⟩
    · rw [g1, g2, if_neg n10, if_neg (by decide)]
      rw [s_found, m_found, lm_bd2_s, lm_bd2_s, upup]
      exact LmOp.mk R.fnd
    · rw [g1, g3, if_pos rfl, if_pos (nI_pos' (by omega)), s_unf, lm_bd2_s]
      refine LmOp.mk' ?_ ?_
      · rw [up_ne (by omega), g5, up_x (by decide), up_x (by decide), g6]
      · refine R.fnd.row (σ' := up (up σ (116 + 2 * j) 1 1) 0 10 0) (fun x hx => ?_) (fun x h1 _ _ => up_x h1) ?_
        · rw [upcm (by omega), up_x (by omega)]
        · intro r hr
          obtain ⟨k, k2, k3⟩ := RR r hr
          rw [up_x (x := 116 + 2 * r) (c := 0) (by omega), up_x (x := 116 + 2 * r + 1) (c := 0) (by omega), up_x (σ := up τ1 140 1 0) (x := 142) (by decide), up_x (σ := up τ1 140 1 0) (x := 143) (by decide), up_x (σ := τ1) (x := 142) (by decide), up_x (σ := τ1) (x := 143) (by decide), up_x (x := 116 + 2 * r + 1) (c := 116 + 2 * j) (by omega), up_ne (x := 116 + 2 * r) (d := 116 + 2 * j) (j := 3) (by omega), up_ne (x := 116 + 2 * r) (d := 116 + 2 * j) (j := 2) (by omega)]
          refine ⟨?_, k2, k3⟩
          by_cases q : r = j
          · subst q
            left
            rw [up_eq, up_eq]
            exact ⟨rfl, rfl⟩
          · rw [up_ne (by omega), up_ne (x := 141) (by omega), up_x (σ := τ1) (by decide)]
            exact k
end OPB
