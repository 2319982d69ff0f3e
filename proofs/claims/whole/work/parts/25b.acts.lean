section OPF
variable {σ τ σ' τ' : Mem} {L : Nat → Nat}
theorem ok_set {k v : Nat} (h : Ok L) (h0 : k = 0 → 1 ≤ v ∧ v ≤ 6 ∧ v ≤ L 0) (h1 : k = 1 → 1 ≤ v ∧ v ≤ 6) (h2 : k ≠ 2) (h3 : k = 3 → v ≤ 12) (h4 : k = 4 → v ≤ 60) (hf : ∀ f, f < 6 → k = 6 + f → v ≤ 9) (hk : ∀ s, s < L 0 → k = 12 + 2 * s → 1 ≤ v ∧ v ≤ 5) (hc : ∀ s, s < L 0 → k = 13 + 2 * s → v < L 2) : Ok (setL L k v) := by
  obtain ⟨a0, a1, a2, a3, a4, a5, a6⟩ := h
  have e : ∀ i, setL L k v i = if i = k then v else L i := fun i => rfl
  refine ⟨?_, ?_, ?_, ?_, ?_, fun f hf2 => ?_, fun s hs => ?_⟩
  · rw [e]; split
    · have := h0 (by omega); omega
    · exact a0
  · rw [e]; split
    · have := h1 (by omega); omega
    · exact a1
  · rw [e, if_neg (by omega)]; exact a2
  · rw [e]; split
    · exact h3 (by omega)
    · exact a3
  · rw [e]; split
    · exact h4 (by omega)
    · exact a4
  · rw [e]; split
    · exact hf f hf2 (by omega)
    · exact a5 f hf2
  · have hs2 : s < L 0 := by
      rw [e] at hs
      by_cases q : 0 = k
      · rw [if_pos q] at hs; have := h0 q.symm; omega
      · rw [if_neg q] at hs; exact hs
    obtain ⟨b1, b2, b3⟩ := a6 s hs2
    rw [e 2, if_neg (by omega), e, e]
    refine ⟨?_, ?_, ?_⟩
    · split
      · have := hk s hs2 (by omega); omega
      · exact b1
    · split
      · have := hk s hs2 (by omega); omega
      · exact b2
    · split
      · exact hc s hs2 (by omega)
      · exact b3
theorem ok_eyes {v : Nat} (h : Ok L) (hv : v ≤ 12) : Ok (setL L 3 v) := ok_set h (by omega) (by omega) (by omega) (by omega) (by omega) (by omega) (by omega) (by omega)
theorem ok_oil {v : Nat} (h : Ok L) (hv : v ≤ 60) : Ok (setL L 4 v) := ok_set h (by omega) (by omega) (by omega) (by omega) (by omega) (by omega) (by omega) (by omega)
theorem ok_thick {g v : Nat} (h : Ok L) (hg : g < 6) (hv : v ≤ 9) : Ok (setL L (6 + g) v) := ok_set h (by omega) (by omega) (by omega) (by omega) (by omega) (by omega) (by omega) (by omega)
theorem ok_kind {s v : Nat} (h : Ok L) (hv : 1 ≤ v ∧ v ≤ 5) : Ok (setL L (12 + 2 * s) v) := ok_set h (by omega) (by omega) (by omega) (by omega) (by omega) (by omega) (by omega) (by omega)
theorem ok_cell {s v : Nat} (h : Ok L) (hv : v < L 2) : Ok (setL L (13 + 2 * s) v) := ok_set h (by omega) (by omega) (by omega) (by omega) (by omega) (by omega) (by omega) (fun _ _ _ => hv)
theorem ok_pour {v : Nat} (h : Ok L) : Ok (pourL L v) := ok_oil h (by split <;> omega)
theorem o_pour (h : Rel σ τ) (p : Int32) : LmOp (f_X4_pour σ p) (f_X5_pour τ p) := by
  unfold f_X4_pour f_X5_pour
  simp only [lm_nm_s]
  have R := h.t0
  revert R
  generalize up τ 140 0 0 = τ1
  intro R
  obtain ⟨L, hC, hM, h0⟩ := R.2.2.2.1
  rcases lit_c hC hM h0 with ⟨a, b⟩ | ⟨ho, h5, a, b⟩
  · rw [a, b]
    exact LmOp.mk R
  · rw [a, b, lm_bd_s, lm_bd_s, if_neg n10, if_neg n10]
    rcases wit p 1 60 1 60 (m := 1) (n := 60) rfl rfl rfl rfl (by decide) (by decide) with ⟨a, b⟩ | ⟨j, h1, h2, rfl, a, b⟩
    · rw [a, b]
      exact LmOp.mk R
    · rw [a, b, lm_bd_s, lm_bd_s, if_neg n10, if_neg n10]
      obtain ⟨σ2, τ2, e1, e2, R2, hC2, hM2⟩ := k_keep R hC hM ho h5
      obtain ⟨σ3, c1, c2, c3⟩ := s_addOil hC2 ho h2
      obtain ⟨τ3, d1, d2, d3⟩ := m_pourInto hM2 ho h2
      rw [e1, e2, lm_bd_s, lm_bd_s, c1, d1, lm_bd_s, lm_bd_s]
      exact LmOp.mk' (c2.2.2.1.trans (d2 4 (by decide)).symm) (R2.light c3 d3 c2 d2 (Or.inr ⟨ok_pour ho, h5⟩))
theorem o_eyes (h : Rel σ τ) (p : Int32) : LmOp (f_X4_eyes σ p) (f_X5_eyes τ p) := by
  unfold f_X4_eyes f_X5_eyes
  simp only [lm_nm_s]
  have R := h.t0
  revert R
  generalize up τ 140 0 0 = τ1
  intro R
  obtain ⟨L, hC, hM, h0⟩ := R.2.2.2.1
  rcases lit_c hC hM h0 with ⟨a, b⟩ | ⟨ho, h5, a, b⟩
  · rw [a, b]
    exact LmOp.mk R
  · rw [a, b, lm_bd_s, lm_bd_s, if_neg n10, if_neg n10]
    rcases wit p 0 12 0 12 (m := 0) (n := 12) rfl rfl rfl rfl (by decide) (by decide) with ⟨a, b⟩ | ⟨j, h1, h2, rfl, a, b⟩
    · rw [a, b]
      exact LmOp.mk R
    · rw [a, b, lm_bd_s, lm_bd_s, if_neg n10, if_neg n10]
      obtain ⟨σ2, τ2, e1, e2, R2, hC2, hM2⟩ := k_keep R hC hM ho h5
      rw [e1, e2, lm_bd_s, lm_bd_s, in_3, lm_ck_s, lm_ck_s, cl_3]
      exact LmOp.mk' (hC2.2.1.trans (hM2 3 (by decide)).symm) (R2.light (Fr.up (by omega)) FrM.up (LC_eyes hC2) hM2.set (Or.inr ⟨ok_eyes ho h2, h5⟩))
theorem o_fog (h : Rel σ τ) (p q : Int32) : LmOp (f_X4_fog σ p q) (f_X5_fog τ p q) := by
  unfold f_X4_fog f_X5_fog
  simp only [lm_nm_s]
  have R := h.t0
  revert R
  generalize up τ 140 0 0 = τ1
  intro R
  obtain ⟨L, hC, hM, h0⟩ := R.2.2.2.1
  rcases fog_c hC hM h0 p with ⟨a, b⟩ | ⟨s, h1, h2, ho, h5, rfl, a, b⟩
  · rw [a, b]
    exact LmOp.mk R
  · rw [a, b, lm_bd_s, lm_bd_s, if_neg n10, if_neg n10]
    rcases wit q 0 9 0 9 (m := 0) (n := 9) rfl rfl rfl rfl (by decide) (by decide) with ⟨a, b⟩ | ⟨j, h3, h4, rfl, a, b⟩
    · rw [a, b]
      exact LmOp.mk R
    · rw [a, b, lm_bd_s, lm_bd_s, if_neg n10, if_neg n10]
      obtain ⟨σ2, τ2, e1, e2, R2, hC2, hM2⟩ := k_keep R hC hM ho h5
      rw [e1, e2, lm_bd_s, lm_bd_s, lit_6, nI_add, lm_in_n h2 (by decide), lm_ck_s, lm_ck_s, lm_in_n (i := 6 + s) (n := 24) (by omega) (by decide), lm_ck_s, lm_ck_s, nI_clamp (by omega), nI_clamp (by omega)]
      refine LmOp.mk' ((hC2.2.2.2.2.2.2.1 s h1).trans (hM2 (6 + s) (by omega)).symm) (R2.light (Fr.up (by omega)) FrM.up (LC_thick hC2 h2) hM2.set (Or.inr ⟨ok_thick ho h2 h4, ?_⟩))
      rw [setL_ne (by omega)]
      exact h5
theorem o_move (h : Rel σ τ) (p q : Int32) : LmOp (f_X4_move σ p q) (f_X5_move τ p q) := by
  unfold f_X4_move f_X5_move
  simp only [lm_nm_s]
  have R := h.t0
  revert R
  generalize up τ 140 0 0 = τ1
  intro R
  obtain ⟨L, hC, hM, h0⟩ := R.2.2.2.1
  rcases ship_c hC hM h0 p with ⟨a, b⟩ | ⟨s, h1, h2, ho, h5, rfl, a, b⟩
  · rw [a, b]
    exact LmOp.mk R
  · rw [a, b, lm_bd_s, lm_bd_s, if_neg n10, if_neg n10]
    rcases cell_c hC hM h0 q with ⟨a, b⟩ | ⟨v, h3, h4, rfl, a, b⟩
    · rw [a, b]
      exact LmOp.mk R
    · rw [a, b, lm_bd_s, lm_bd_s, if_neg n10, if_neg n10, lm_in_n h2 (by decide), lm_ck_s, nI_clamp (by omega), show σ (4 + 3) s = nI (L (13 + 2 * s)) from (hC.2.2.2.2.2.2.2 s h1).2, m_of1 hM h2, lm_bd_s]
      by_cases q : nI (L (13 + 2 * s)) = nI v
      · rw [if_pos q, if_pos q]
        exact LmOp.mk R
      · rw [if_neg q, if_neg q]
        obtain ⟨σ2, τ2, e1, e2, R2, hC2, hM2⟩ := k_keep R hC hM ho h5
        rw [e1, e2, lm_bd_s, lm_bd_s, lm_ck_s, lit_12, lit_2, lit_1, pk_mul, nI_add, nI_add, show 12 + 2 * s + 1 = 13 + 2 * s by omega, lm_in_n (by omega) (by decide), lm_ck_s, nI_clamp (by omega)]
        refine LmOp.mk (R2.light (Fr.up (by omega)) FrM.up (LC_cell hC2 ho.2.1.2) hM2.set (Or.inr ⟨ok_cell ho h3, ?_⟩))
        rw [setL_ne (by omega)]
        exact h5
theorem watchesL {N : Nat} (hN : N ≤ 24) : ∀ (n k : Nat) (σ τ : Mem) (L : Nat → Nat), Rel σ τ → LC σ 4 L → LM τ 144 L → Ok L → L 5 + (N - k) ≤ 999 → k ≤ N → N - k < n → LmOp (f_X4_watches_46 n (nI N) (nI k) σ) (f_X5_watches_49 n (nI N) (nI k) τ)
  | 0, k, σ, τ, L, R, hC, hM, ho, h5, h1, h2 => by omega
  | n + 1, k, σ, τ, L, R, hC, hM, ho, h5, h1, h2 => by
    unfold f_X4_watches_46 f_X5_watches_49
    by_cases q : k = N
    · rw [if_pos (nI_le (by omega) (by omega)), if_pos (nI_le (by omega) (by omega)), lit_2, s_shipsSeen hC ho (by omega) (by decide), m_differ hM ho (by omega)]
      exact LmOp.mk R
    · rw [if_neg (nI_ge (by omega) (by omega)), if_neg (nI_ge (by omega) (by omega))]
      obtain ⟨σ2, τ2, e1, e2, R2, hC2, hM2⟩ := k_keep R hC hM ho (by omega)
      obtain ⟨σ3, c1, c2, c3⟩ := s_passWatch hC2 ho (by omega)
      obtain ⟨τ3, d1, d2, d3⟩ := m_watchOf hM2 ho (by omega)
      rw [e1, e2, lm_bd_s, lm_bd_s, c1, d1, lm_bd_s, lm_bd_s, lm_nm_s, lm_nm_s, nI_1]
      exact watchesL hN n (k + 1) σ3 τ3 (step L) (R2.light c3 d3 c2 d2 (Or.inr ⟨step_Ok ho, by rw [step_5]; omega⟩)) c2 d2 (step_Ok ho) (by rw [step_5]; omega) (by omega) (by omega)
theorem o_watches (h : Rel σ τ) (p : Int32) : LmOp (f_X4_watches σ p) (f_X5_watches τ p) := by
  unfold f_X4_watches f_X5_watches
  simp only [lm_nm_s]
  have R := h.t0
  revert R
  generalize up τ 140 0 0 = τ1
  intro R
  obtain ⟨L, hC, hM, h0⟩ := R.2.2.2.1
  rcases lit_c hC hM h0 with ⟨a, b⟩ | ⟨ho, h5, a, b⟩
  · rw [a, b]
    exact LmOp.mk R
  · rw [a, b, lm_bd_s, lm_bd_s, if_neg n10, if_neg n10]
    rcases wit p 1 24 1 24 (m := 1) (n := 24) rfl rfl rfl rfl (by decide) (by decide) with ⟨a, b⟩ | ⟨j, h1, h2, rfl, a, b⟩
    · rw [a, b]
      exact LmOp.mk R
    · rw [a, b, lm_bd_s, lm_bd_s, if_neg n10, if_neg n10, in_5, lm_ck_s, cl_5, hM 5 (by decide), hC.2.2.2.1, nI_add, lit_999]
      by_cases q : L 5 + j ≤ 999
      · rw [if_pos (nI_le q (by decide)), if_pos (nI_le q (by decide))]
        exact watchesL h2 lm_fu 0 σ τ1 L R hC hM ho (by omega) (by omega) (by rw [fu_1]; omega)
      · rw [if_neg (nI_ge (by omega) (by omega)), if_neg (nI_ge (by omega) (by omega))]
        exact LmOp.mk R
-- image, restore
theorem Rel.img (h : Rel σ τ) (hs : ∀ x, x < 132 ∨ 140 ≤ x → σ' x = σ x) (ht : ∀ x, x ≠ 150 → x ≠ 151 → τ' x = τ x) (hi : RImg σ' τ') : Rel σ' τ' := by
  obtain ⟨r1, r2, r3, r4, r5, r6, r7, r8⟩ := h
  have e140 := ht 140 (by decide) (by decide)
  refine ⟨r1.co (fun x _ _ => hs x (by omega)) (ht _ (by decide) (by decide)) (ht _ (by decide) (by decide)) (ht _ (by decide) (by decide)), r2.co (by rw [hs 2 (by omega)]) (hs 3 (by omega)) (by rw [e140]) (ht _ (by decide) (by decide)), r3.co (by rw [hs 0 (by omega)]) (hs 115 (by omega)) (by rw [e140]) (ht _ (by decide) (by decide)), r4.co (fun x _ _ => hs x (by omega)) (ht _ (by decide) (by decide)), r5.co (fun x _ _ => hs x (by omega)) (by rw [e140]) (ht _ (by decide) (by decide)), hi, ?_, ?_⟩
  · rw [hs 0 (by omega), e140]; exact r7
  · rw [hs 0 (by omega), e140]; exact r8
theorem m_imageL {j : Nat} (hj : j < 2) : ∀ (n k : Nat) (τ : Mem), k ≤ 24 → 24 - k < n → ∃ τ', f_X5_image_30 n (nI j) (nI k) τ = some (1, τ') ∧ (∀ x, x ≠ 150 → x ≠ 151 → τ' x = τ x) ∧ (∀ i, τ' 150 i = if i = j then 1 else τ 150 i) ∧ ∀ i, τ' 151 i = if 24 * j + k ≤ i ∧ i < 24 * j + 24 then τ 144 (i - 24 * j) else τ 151 i
  | 0, k, τ, h1, h2 => by omega
  | n + 1, k, τ, h1, h2 => by
    unfold f_X5_image_30
    rw [lit_24]
    by_cases c : k = 24
    · subst c
      rw [if_pos (nI_le (by decide) (by decide)), lm_in_n hj (by decide), lm_ck_s, lm_nm_s, nI_clamp (by omega)]
      refine ⟨_, rfl, fun x h1 _ => up_x h1, fun i => ?_, fun i => ?_⟩
      · rw [up_ap]
        by_cases q : i = j
        · rw [if_pos ⟨rfl, q⟩, if_pos q]
        · rw [if_neg (by omega), if_neg q]
      · rw [if_neg (by omega), up_x (by decide)]
    · rw [if_neg (nI_ge (by omega) (by decide)), lm_in_n (by omega) (by decide), lm_ck_s, pk_mul, nI_add, lm_in_n (by omega) (by decide), lm_ck_s, lm_nm_s, lm_nm_s, nI_clamp (by omega), nI_clamp (by omega), nI_1]
      obtain ⟨τ', e1, e2, e3, e4⟩ := m_imageL hj n (k + 1) (up τ 151 (24 * j + k) (τ 144 k)) (by omega) (by omega)
      refine ⟨τ', e1, fun x h1 h2 => by rw [e2 x h1 h2, up_x h2], fun i => by rw [e3 i, up_x (by decide)], fun i => ?_⟩
      rw [e4 i]
      by_cases q1 : i = 24 * j + k
      · rw [if_neg (by omega), q1, up_eq, if_pos (by omega), show 24 * j + k - 24 * j = k by omega]
      · rw [up_ne (j := i) (by omega), up_x (x := 144) (by decide)]
        by_cases q2 : 24 * j + k ≤ i ∧ i < 24 * j + 24
        · rw [if_pos (by omega), if_pos q2]
        · rw [if_neg (by omega), if_neg q2]
theorem o_image (h : Rel σ τ) (p : Int32) : LmOp (f_X4_image σ p) (f_X5_image τ p) := by
  unfold f_X4_image f_X5_image
  simp only [lm_nm_s]
  have R := h.t0
  revert R
  generalize up τ 140 0 0 = τ1
  intro R
  obtain ⟨L, hC, hM, h0⟩ := R.2.2.2.1
  rcases bel p 2 0 1 (n := 1) rfl rfl rfl (by decide) with ⟨a, b⟩ | ⟨j, h1, rfl, a, b⟩
  · rw [a, b]
    exact LmOp.mk R
  rw [a, b, lm_bd_s, lm_bd_s, if_neg n10, if_neg n10]
  rcases lit_c hC hM h0 with ⟨a, b⟩ | ⟨ho, h5, a, b⟩
  · rw [a, b]
    exact LmOp.mk R
  rw [a, b, lm_bd_s, lm_bd_s, if_neg n10, if_neg n10, lm_in_n (by omega) (by decide), lm_ck_s, nI_clamp (by omega)]
  obtain ⟨σ', e1, e2, e3⟩ := s_takeFrom (σ := σ) (c := 132 + 4 * j) (o := 4) hC ho.1.2 ho.2.1.2 (by omega)
  obtain ⟨τ', k1, k2, k3, k4⟩ := m_imageL (j := j) (by omega) lm_fu 0 τ1 (by omega) (by decide)
  rw [e1, lm_bd_s, show f_X5_image_30 lm_fu (nI j) 0 τ1 = _ from k1]
  refine LmOp.mk (R.img (fun x hx => e3 x (by omega)) k2 (fun i hi => ?_))
  by_cases q : i = j
  · subst q
    refine Or.inr ⟨by rw [k3, if_pos rfl], L, ho, h5, e2, fun k hk => ?_⟩
    rw [k4, if_pos (by omega), show 24 * i + k - 24 * i = k by omega]
    exact hM k hk
  · have e : σ' (132 + 4 * i) = σ (132 + 4 * i) := e3 _ (by omega)
    rw [k3, if_neg q, e]
    rcases R.2.2.2.2.2.1 i hi with g | ⟨g1, L2, g2, g3, g4, g5⟩
    · exact Or.inl g
    · refine Or.inr ⟨g1, L2, g2, g3, g4.co (fun x _ _ => e3 x (by omega)), fun k hk => ?_⟩
      rw [k4, if_neg (by omega)]
      exact g5 k hk
theorem Rel.forget (h : Rel σ τ) : Rel (up σ 16 2 0) (up τ 140 9 0) := by
  obtain ⟨nx, kp, Hs, g1, g2, g3, g4, g5, g6⟩ := h.2.2.2.2.1
  refine h.acts (fun x hx => up_x (by omega)) (fun x h1 _ => up_x h1) (fun k hk => up_ne (by omega)) ⟨nx, 0, Hs, g1, by omega, by rw [up_ne (by decide)]; exact g3, up_eq, up_eq, fun i hi => absurd hi (by omega)⟩
theorem m_restL {j : Nat} (hj : j < 2) : ∀ (n k : Nat) (τ : Mem), k ≤ 24 → 24 - k < n → ∃ τ', f_X5_restore_32 n (nI j) (nI k) τ = some (1, up τ' 140 9 0) ∧ FrM 144 τ τ' ∧ ∀ i, i < 24 → τ' 144 i = if k ≤ i then τ 151 (24 * j + i) else τ 144 i
  | 0, k, τ, h1, h2 => by omega
  | n + 1, k, τ, h1, h2 => by
    unfold f_X5_restore_32
    rw [lit_24]
    by_cases c : k = 24
    · subst c
      rw [if_pos (nI_le (by decide) (by decide)), lm_nm_s]
      refine ⟨τ, rfl, FrM.rf, fun i hi => ?_⟩
      rw [if_neg (by omega)]
    · rw [if_neg (nI_ge (by omega) (by decide)), pk_mul, nI_add, lm_in_n (by omega) (by decide), lm_ck_s, lm_in_n (by omega) (by decide), lm_ck_s, lm_nm_s, lm_nm_s, nI_clamp (by omega), nI_clamp (by omega), nI_1]
      obtain ⟨τ', e1, e2, e3⟩ := m_restL hj n (k + 1) (up τ 144 k (τ 151 (24 * j + k))) (by omega) (by omega)
      refine ⟨τ', e1, FrM.up.tr e2, fun i hi => ?_⟩
      rw [e3 i hi, up_x (x := 151) (by decide)]
      by_cases q1 : i = k
      · subst q1
        rw [if_neg (by omega), up_eq, if_pos (by omega)]
      · rw [up_ne (j := i) (by omega)]
        by_cases q2 : k ≤ i
        · rw [if_pos (by omega), if_pos q2]
        · rw [if_neg (by omega), if_neg q2]
theorem o_restore (h : Rel σ τ) (p : Int32) : LmOp (f_X4_restore σ p) (f_X5_restore τ p) := by
  unfold f_X4_restore f_X5_restore
  simp only [lm_nm_s]
  have R := h.t0
  revert R
  generalize up τ 140 0 0 = τ1
  intro R
  rcases bel p 2 0 1 (n := 1) rfl rfl rfl (by decide) with ⟨a, b⟩ | ⟨j, h1, rfl, a, b⟩
  · rw [a, b]
    exact LmOp.mk R
  rw [a, b, lm_bd_s, lm_bd_s, if_neg n10, if_neg n10, lm_in_n (by omega) (by decide), lm_ck_s, lm_ck_s, lm_ck_s, nI_clamp (by omega)]
  rcases R.2.2.2.2.2.1 j (by omega) with ⟨g1, g2⟩ | ⟨g1, L, ho, h5, hC, hM⟩
  · unfold f_X1_isLit
    rw [g1, g2, if_pos (by decide), if_pos rfl, lm_bd_s, if_pos rfl]
    exact LmOp.mk R
  · rw [s_isLit hC ho, g1, if_neg n10, lm_bd_s, if_neg n10]
    obtain ⟨σ', e1, e2, e3⟩ := s_takeFrom (σ := σ) (c := 4) (o := 132 + 4 * j) hC ho.1.2 ho.2.1.2 (by omega)
    obtain ⟨τ', k1, k2, k3⟩ := m_restL (j := j) (by omega) lm_fu 0 τ1 (by omega) (by decide)
    rw [e1, lm_bd_s, show f_X5_restore_32 lm_fu (nI j) 0 τ1 = _ from k1]
    exact LmOp.mk (R.light e3 k2 e2 (fun k hk => by rw [k3 k hk, if_pos (by omega)]; exact hM k hk) (Or.inr ⟨ho, h5⟩)).forget
end OPF
