section OPK
variable {σ τ σ' τ' : Mem} {L M : Nat → Nat}
theorem log_c (p q : Int32) : (f_X4_isLog p q = some 0 ∧ f_X5_isMany p q = some 0) ∨ ∃ r n, r < 8 ∧ 1 ≤ n ∧ n ≤ 12 ∧ p = nI r ∧ q = nI n ∧ f_X4_isLog p q = some 1 ∧ f_X5_isMany p q = some 1 := by
  unfold f_X4_isLog f_X5_isMany
  rcases row_c p with ⟨a, b⟩ | ⟨r, h1, h2, a, b⟩
  · rw [a, b]
    exact Or.inl ⟨rfl, rfl⟩
  · rw [a, b, lm_bd_s, lm_bd_s, if_neg n10, if_neg n10]
    rcases wit q 1 12 1 12 (m := 1) (n := 12) rfl rfl rfl rfl (by decide) (by decide) with ⟨a, b⟩ | ⟨n, h3, h4, h5, a, b⟩
    · rw [a, b]
      exact Or.inl ⟨rfl, rfl⟩
    · rw [a, b]
      exact Or.inr ⟨r, n, h1, h3, h4, h2, h5, rfl, rfl⟩
theorem fnd_c (R : RRow σ τ) {r n : Nat} (hr : r < 8) (hn : n ≤ 12) (p : Int32) : (∃ v : Int32, (¬ v = 0 ∧ ¬ (-1000010 : Int32) - v = 0) ∧ f_X2_findingOf (116 + 2 * r) σ p (nI n) = some v ∧ f_X5_rowFound τ (nI r) p (nI n) = some ((-1000010 : Int32) - v, up τ 140 1 v)) ∨ ∃ i, i + n ≤ 40 ∧ p = nI i ∧ f_X2_findingOf (116 + 2 * r) σ p (nI n) = some 0 ∧ f_X5_rowFound τ (nI r) p (nI n) = some (0, up τ 140 1 0) := by
  unfold f_X2_findingOf f_X5_rowFound
  obtain ⟨g, ⟨m, hm, g5, g6⟩, g7⟩ := R r hr
  rw [lm_in_n hr (by decide), nI_clamp (by omega)]
  simp only [lm_ck_s, lm_nm_s, m_found, lm_bd2_s]
  rw [g6]
  simp only [lg_cmp_le, a64_le hm]
  rcases g with ⟨g1, g2⟩ | ⟨g1, ln, hl, g2, g3⟩
  · rw [g1, g2, if_neg n10, if_neg (c := (0 : Int32) ≤ -1) (by decide)]
    exact Or.inl ⟨1, ⟨by decide, by decide⟩, rfl, rfl⟩
  · rw [g1, g3, if_pos rfl, if_pos (nI_pos' (by omega))]
    rcases span_c hm g5 p (nI n) with ⟨s1, s2⟩ | ⟨i, k, s1, rfl, s3, s2⟩
    · rw [s1, lm_bd_s, if_pos rfl]
      left
      refine ⟨2, ⟨by decide, by decide⟩, rfl, ?_⟩
      rcases s2 with s2 | s2 | s2
      · rw [if_pos s2]
      · exact absurd s2 (nI_pos (by omega))
      · by_cases c : p < 0
        · rw [if_pos c]
        · rw [if_neg c, if_neg (by omega)]
    · have hk : n = k := by
        rcases Nat.lt_or_ge k (2 ^ 31) with h | h
        · exact (nI_eq (by omega) h).mp s3
        · omega
      subst hk
      rw [s2, lm_bd_s, if_neg n10, if_neg (nI_pos (by omega)), if_pos (by rw [nI_toInt (by omega), nI_toInt (by omega)]; omega)]
      exact Or.inr ⟨i, by omega, rfl, rfl, rfl⟩
theorem SameC.up0 (h : SameC σ σ') {v : Int32} : SameC (up σ 0 10 v) (up σ' 0 10 v) := by
  intro x hx
  by_cases q : x = 0
  · subst q
    unfold up
    rw [upA_eq, upA_eq, h 0 (by omega)]
  · rw [up_x q, up_x q, h x hx]
theorem or_bit (k : Nat) (hk : k < 32) (acc : Nat) (F : Nat → Bool) (n : Nat) {r : Option (Int32 × Mem)} {f : Int32 → Option (Int32 × Mem)} (h : f (nI (acc ||| (if F k then 2 ^ k else 0))) = r) : (lm_bd (f_X4_bitIf (if F k then 1 else 0) (nI k)) fun r11 => lm_nm (nI acc ||| r11) f) = r := by
  rw [s_bitIf k hk, lm_bd_s, lm_nm_s, nx_or]
  exact h
theorem s_kindsL {s o i N : Nat} {V : Nat → Int32} (hN : N ≤ 12) (hi : i + N ≤ 40) (ho8 : 16 ≤ o) (ho : Ok L) (hs : s < L 0) (h5 : L 5 ≤ 999) : ∀ (n f k acc : Nat) (σ : Mem), k + n = 6 → 1 ≤ k → n < f → LC σ 4 L → (∀ j, j < N → σ (o + 1) (i + j) = V j) → ∃ σ', f_X4_kindsThatFit_6 o f (nI s) (nI i) (nI N) (nI acc) (nI k) σ = some (nI (acc ||| br (fun v => fitN (setL L (12 + 2 * s) v) s V N) k n), σ') ∧ Fr 8 σ σ'
  | n, 0, k, acc, σ, hk, hk1, hf, hC, hV => by omega
  | 0, f + 1, k, acc, σ, hk, hk1, hf, hC, hV => by
    unfold f_X4_kindsThatFit_6
    rw [lit_5, if_pos (nI_lt (by omega) (by omega))]
    exact ⟨σ, by show _ = some (nI (acc ||| 0), σ); rw [Nat.or_zero], Fr.rf⟩
  | n + 1, f + 1, k, acc, σ, hk, hk1, hf, hC, hV => by
    unfold f_X4_kindsThatFit_6
    obtain ⟨σ2, a1, a2, a3⟩ := s_takeOneShip (σ := σ) (c := 8) hC ho hs (by decide)
    have ho1 := one_Ok ho hs
    have S1 := one_same (L := L) (s := s)
    obtain ⟨σ3, b1, b2⟩ := s_fits (σ := σ) (σ1 := up σ2 (8 + 2) 0 (nI k)) (V := V) (L := setL L (12 + 2 * s) k) (M := setL (oneL L s) (12 + 2 * 0) k) hN hi ho8 hV (a3.tr (Fr.up (by omega))) (LC_kind a2 ho1.2.1.2) (ok_kind ho1 (by omega)) rfl ⟨fun x h1 h2 => by rw [setL_ne (by omega), setL_ne (by omega)]; exact S1.1 x h1 h2, by rw [setL_eq, setL_eq], by rw [setL_ne (by omega), setL_ne (by omega)]; exact S1.2.2⟩ (ok_kind ho (by omega)) (by rw [setL_ne (by omega)]; exact hs) (by rw [setL_ne (by omega)]; exact h5)
    rw [lit_5, if_neg (nI_nlt (by omega) (by omega)), a1, lm_bd_s, in6_0, lm_ck_s, lm_nm_s, cl_0, b1, lm_bd2_s]
    obtain ⟨σ4, c1, c2⟩ := s_kindsL (V := V) hN hi ho8 ho hs h5 n f (k + 1) (acc ||| (if fitN (setL L (12 + 2 * s) k) s V N then 2 ^ k else 0)) σ3 (by omega) (by omega) (by omega) (hC.co (fun x _ _ => b2 x (by omega))) (fun j hj => by rw [b2 (o + 1) (by omega)]; exact hV j hj)
    refine ⟨σ4, ?_, b2.tr c2⟩
    refine or_bit k (by omega) acc (fun v => fitN (setL L (12 + 2 * s) v) s V N) n ?_
    rw [lm_nm_s, nI_1, c1, Nat.or_assoc]
    rfl
theorem s_cellsL {s o i N : Nat} {V : Nat → Int32} (hN : N ≤ 12) (hi : i + N ≤ 40) (ho8 : 16 ≤ o) (ho : Ok L) (hs : s < L 0) (h5 : L 5 ≤ 999) : ∀ (n f k acc : Nat) (σ : Mem), k + n = L 2 → n < f → LC σ 4 L → (∀ j, j < N → σ (o + 1) (i + j) = V j) → ∃ σ', f_X4_cellsThatFit_6 o f (nI s) (nI i) (nI N) (nI acc) (nI k) σ = some (nI (acc ||| br (fun v => fitN (setL L (13 + 2 * s) v) s V N) k n), σ') ∧ Fr 8 σ σ'
  | n, 0, k, acc, σ, hk, hf, hC, hV => by omega
  | 0, f + 1, k, acc, σ, hk, hf, hC, hV => by
    have h212 := ho.2.2.1
    unfold f_X4_cellsThatFit_6
    rw [hC.1, if_pos (nI_le (by omega) (by omega))]
    exact ⟨σ, by show _ = some (nI (acc ||| 0), σ); rw [Nat.or_zero], Fr.rf⟩
  | n + 1, f + 1, k, acc, σ, hk, hf, hC, hV => by
    have h212 := ho.2.2.1
    unfold f_X4_cellsThatFit_6
    obtain ⟨σ2, a1, a2, a3⟩ := s_takeOneShip (σ := σ) (c := 8) hC ho hs (by decide)
    have ho1 := one_Ok ho hs
    have S1 := one_same (L := L) (s := s)
    have e2 : oneL L s 2 = L 2 := one_lo (by decide) (by decide)
    obtain ⟨σ3, b1, b2⟩ := s_fits (σ := σ) (σ1 := up σ2 (8 + 3) 0 (nI k)) (V := V) (L := setL L (13 + 2 * s) k) (M := setL (oneL L s) (13 + 2 * 0) k) hN hi ho8 hV (a3.tr (Fr.up (by omega))) (LC_cell a2 ho1.2.1.2) (ok_cell ho1 (by omega)) rfl ⟨fun x h1 h2 => by rw [setL_ne (by omega), setL_ne (by omega)]; exact S1.1 x h1 h2, by rw [setL_ne (by omega), setL_ne (by omega)]; exact S1.2.1, by rw [setL_eq, setL_eq]⟩ (ok_cell ho (by omega)) (by rw [setL_ne (by omega)]; exact hs) (by rw [setL_ne (by omega)]; exact h5)
    rw [hC.1, if_neg (nI_ge (by omega) (by omega)), a1, lm_bd_s, in6_0, lm_ck_s, lm_nm_s, cl_0, b1, lm_bd2_s]
    obtain ⟨σ4, c1, c2⟩ := s_cellsL (V := V) hN hi ho8 ho hs h5 n f (k + 1) (acc ||| (if fitN (setL L (13 + 2 * s) k) s V N then 2 ^ k else 0)) σ3 (by omega) (by omega) (hC.co (fun x _ _ => b2 x (by omega))) (fun j hj => by rw [b2 (o + 1) (by omega)]; exact hV j hj)
    refine ⟨σ4, ?_, b2.tr c2⟩
    refine or_bit k (by omega) acc (fun v => fitN (setL L (13 + 2 * s) v) s V N) n ?_
    rw [lm_nm_s, nI_1, c1, Nat.or_assoc]
    rfl
theorem s_eyesL {s o i N : Nat} {V : Nat → Int32} (hN : N ≤ 12) (hi : i + N ≤ 40) (ho8 : 16 ≤ o) (ho : Ok L) (hs : s < L 0) (h5 : L 5 ≤ 999) : ∀ (n f k acc : Nat) (σ : Mem), k + n = 13 → n < f → LC σ 4 L → (∀ j, j < N → σ (o + 1) (i + j) = V j) → ∃ σ', f_X4_eyesThatFit_6 o f (nI s) (nI i) (nI N) (nI acc) (nI k) σ = some (nI (acc ||| br (fun v => fitN (setL L 3 v) s V N) k n), σ') ∧ Fr 8 σ σ'
  | n, 0, k, acc, σ, hk, hf, hC, hV => by omega
  | 0, f + 1, k, acc, σ, hk, hf, hC, hV => by
    unfold f_X4_eyesThatFit_6
    rw [lit_12, if_pos (nI_lt (by omega) (by omega))]
    exact ⟨σ, by show _ = some (nI (acc ||| 0), σ); rw [Nat.or_zero], Fr.rf⟩
  | n + 1, f + 1, k, acc, σ, hk, hf, hC, hV => by
    unfold f_X4_eyesThatFit_6
    obtain ⟨σ2, a1, a2, a3⟩ := s_takeOneShip (σ := σ) (c := 8) hC ho hs (by decide)
    have ho1 := one_Ok ho hs
    obtain ⟨σ3, b1, b2⟩ := s_fits (σ := σ) (σ1 := up σ2 8 4 (nI k)) (V := V) (L := setL L 3 k) (M := setL (oneL L s) 3 k) hN hi ho8 hV (a3.tr (Fr.up (by omega))) (LC_eyes a2) (ok_eyes ho1 (by omega)) rfl (same_set one_same (by omega)) (ok_eyes ho (by omega)) hs h5
    rw [lit_12, if_neg (nI_nlt (by omega) (by omega)), a1, lm_bd_s, lm_nm_s, b1, lm_bd2_s]
    obtain ⟨σ4, c1, c2⟩ := s_eyesL (V := V) hN hi ho8 ho hs h5 n f (k + 1) (acc ||| (if fitN (setL L 3 k) s V N then 2 ^ k else 0)) σ3 (by omega) (by omega) (hC.co (fun x _ _ => b2 x (by omega))) (fun j hj => by rw [b2 (o + 1) (by omega)]; exact hV j hj)
    refine ⟨σ4, ?_, b2.tr c2⟩
    refine or_bit k (by omega) acc (fun v => fitN (setL L 3 v) s V N) n ?_
    rw [lm_nm_s, nI_1, c1, Nat.or_assoc]
    rfl
theorem s_fogsL {s o i N : Nat} {V : Nat → Int32} (hN : N ≤ 12) (hi : i + N ≤ 40) (ho8 : 16 ≤ o) (ho : Ok L) (hs : s < L 0) (h5 : L 5 ≤ 999) {g : Nat} (hg : g < 6) : ∀ (n f k acc : Nat) (σ : Mem), k + n = 10 → n < f → LC σ 4 L → (∀ j, j < N → σ (o + 1) (i + j) = V j) → ∃ σ', f_X4_fogs_77 f (nI g) (nI s) (nI i) (nI N) o (nI acc) (nI k) σ = some (nI (acc ||| br (fun v => fitN (setL L (6 + g) v) s V N) k n), up σ' 0 10 0) ∧ Fr 8 σ σ'
  | n, 0, k, acc, σ, hk, hf, hC, hV => by omega
  | 0, f + 1, k, acc, σ, hk, hf, hC, hV => by
    unfold f_X4_fogs_77
    rw [lit_9, if_pos (nI_lt (by omega) (by omega)), s_unf, lm_bd2_s]
    exact ⟨σ, by show _ = some (nI (acc ||| 0), up σ 0 10 0); rw [Nat.or_zero], Fr.rf⟩
  | n + 1, f + 1, k, acc, σ, hk, hf, hC, hV => by
    unfold f_X4_fogs_77
    obtain ⟨σ2, a1, a2, a3⟩ := s_takeOneShip (σ := σ) (c := 8) hC ho hs (by decide)
    have ho1 := one_Ok ho hs
    obtain ⟨σ3, b1, b2⟩ := s_fits (σ := σ) (σ1 := up σ2 (8 + 1) g (nI k)) (V := V) (L := setL L (6 + g) k) (M := setL (oneL L s) (6 + g) k) hN hi ho8 hV (a3.tr (Fr.up (by omega))) (LC_thick a2 hg) (ok_thick ho1 hg (by omega)) (setL_ne (by omega)) (same_set one_same (by omega)) (ok_thick ho hg (by omega)) (by rw [setL_ne (by omega)]; exact hs) (by rw [setL_ne (by omega)]; exact h5)
    rw [lit_9, if_neg (nI_nlt (by omega) (by omega)), a1, lm_bd_s, lm_in_n hg (by decide), lm_ck_s, lm_nm_s, nI_clamp (by omega), b1, lm_bd2_s]
    obtain ⟨σ4, c1, c2⟩ := s_fogsL (V := V) hN hi ho8 ho hs h5 hg n f (k + 1) (acc ||| (if fitN (setL L (6 + g) k) s V N then 2 ^ k else 0)) σ3 (by omega) (by omega) (hC.co (fun x _ _ => b2 x (by omega))) (fun j hj => by rw [b2 (o + 1) (by omega)]; exact hV j hj)
    refine ⟨σ4, ?_, b2.tr c2⟩
    refine or_bit k (by omega) acc (fun v => fitN (setL L (6 + g) v) s V N) n ?_
    rw [lm_nm_s, nI_1, c1, Nat.or_assoc]
    rfl
theorem s_oilsL {s o i N : Nat} {V : Nat → Int32} (hN : N ≤ 12) (hi : i + N ≤ 40) (ho8 : 16 ≤ o) (ho : Ok L) (hs : s < L 0) (h5 : L 5 ≤ 999) {w : Int32} : ∀ (f k : Nat) (σ : Mem), k ≤ 61 → k < f → LC σ 4 L → (∀ j, j < N → σ (o + 1) (i + j) = V j) → ∃ σ', f_X4_oilsThatFit_11 o f (nI s) w (nI i) (nI N) (nI (cr (fun v => fitN (setL L 4 v) s V N) k (61 - k))) (fo (-1000000) (fr (fun v => fitN (setL L 4 v) s V N) k (61 - k))) (nI k + (-1)) σ = some (if w = 1 then nI (cr (fun v => fitN (setL L 4 v) s V N) 0 61) else fo (-1000000) (fr (fun v => fitN (setL L 4 v) s V N) 0 61), σ') ∧ Fr 8 σ σ'
  | 0, k, σ, hk, hf, hC, hV => by omega
  | f + 1, 0, σ, hk, hf, hC, hV => by
    unfold f_X4_oilsThatFit_11
    rw [if_pos (c := nI 0 + (-1) < 0) (by decide)]
    refine ⟨σ, ?_, Fr.rf⟩
    split <;> rfl
  | f + 1, k + 1, σ, hk, hf, hC, hV => by
    unfold f_X4_oilsThatFit_11
    obtain ⟨σ2, a1, a2, a3⟩ := s_takeOneShip (σ := σ) (c := 8) hC ho hs (by decide)
    have ho1 := one_Ok ho hs
    obtain ⟨σ3, b1, b2⟩ := s_fits (σ := σ) (σ1 := up σ2 8 5 (nI k)) (V := V) (L := setL L 4 k) (M := setL (oneL L s) 4 k) hN hi ho8 hV (a3.tr (Fr.up (by omega))) (LC_oil a2) (ok_oil ho1 (by omega)) rfl (same_set one_same (by omega)) (ok_oil ho (by omega)) hs h5
    rw [pk_m1, if_neg (nI_pos (by omega)), a1, lm_bd_s, lm_nm_s, b1, lm_bd2_s]
    obtain ⟨σ4, c1, c2⟩ := s_oilsL (V := V) hN hi ho8 ho hs h5 (w := w) f k σ3 (by omega) (by omega) (hC.co (fun x _ _ => b2 x (by omega))) (fun j hj => by rw [b2 (o + 1) (by omega)]; exact hV j hj)
    refine ⟨σ4, ?_, b2.tr c2⟩
    rw [show 61 - k = (61 - (k + 1)) + 1 by omega] at c1
    rw [← c1]
    show _ = f_X4_oilsThatFit_11 o f (nI s) w (nI i) (nI N) (nI ((if fitN (setL L 4 k) s V N then 1 else 0) + cr (fun v => fitN (setL L 4 v) s V N) (k + 1) (61 - (k + 1)))) (fo (-1000000) (if fitN (setL L 4 k) s V N then some k else fr (fun v => fitN (setL L 4 v) s V N) (k + 1) (61 - (k + 1)))) (nI k + (-1)) σ3
    generalize cr (fun v => fitN (setL L 4 v) s V N) (k + 1) (61 - (k + 1)) = c0
    generalize fr (fun v => fitN (setL L 4 v) s V N) (k + 1) (61 - (k + 1)) = d0
    cases fitN (setL L 4 k) s V N
    · show (lm_nm (nI k + (-1)) fun v11 => f_X4_oilsThatFit_11 o f (nI s) w (nI i) (nI N) (nI c0) (fo (-1000000) d0) v11 σ3) = f_X4_oilsThatFit_11 o f (nI s) w (nI i) (nI N) (nI (0 + c0)) (fo (-1000000) d0) (nI k + (-1)) σ3
      rw [lm_nm_s, Nat.zero_add]
    · show (lm_nm (nI c0 + 1) fun v12 => lm_nm (nI k + (-1)) fun v13 => f_X4_oilsThatFit_11 o f (nI s) w (nI i) (nI N) v12 (nI k) v13 σ3) = f_X4_oilsThatFit_11 o f (nI s) w (nI i) (nI N) (nI (1 + c0)) (nI k) (nI k + (-1)) σ3
      rw [lm_nm_s, lm_nm_s, nI_1, Nat.add_comm 1]
-- the calls
theorem o_who (h : Rel σ τ) (p q p3 p4 p5 : Int32) : LmOp (f_X4_who σ p q p3 p4 p5) (f_X5_who τ p q p3 p4 p5) := by
  unfold f_X4_who f_X5_who
  simp only [lm_nm_s]
  have R := h.t0
  revert R
  generalize up τ 140 0 0 = τ1
  intro R
  obtain ⟨L, hC, hM, h0⟩ := R.2.2.2.1
  rcases ship_c hC hM h0 p with ⟨a, b⟩ | ⟨s, h1, h2, ho, h5, rfl, a, b⟩
  · rw [a, b]
    exact LmOp.mk R
  rw [a, b, lm_bd_s, lm_bd_s, if_neg n10, if_neg n10]
  rcases bel q 2 0 1 (n := 1) rfl rfl rfl (by decide) with ⟨a, b⟩ | ⟨w, hw, rfl, a, b⟩
  · rw [a, b]
    exact LmOp.mk R
  rw [a, b, lm_bd_s, lm_bd_s, if_neg n10, if_neg n10]
  rcases log_c p3 p5 with ⟨a, b⟩ | ⟨r, N, hr, hn1, hN, rfl, rfl, a, b⟩
  · rw [a, b]
    exact LmOp.mk R
  rw [a, b, lm_bd_s, lm_bd_s, if_neg n10, if_neg n10, lm_in_n hr (by decide), lm_ck_s, nI_clamp (by omega)]
  rcases fnd_c R.1 hr hN p4 with ⟨v, ⟨v1, v2⟩, a, b⟩ | ⟨i, hi, rfl, a, b⟩
  · rw [a, b, lm_bd_s, lm_bd2_s, if_neg v1, if_neg v2, s_found, lm_bd2_s]
    exact LmOp.mk R.fnd
  rw [a, b, lm_bd_s, lm_bd2_s, if_pos rfl, if_pos rfl]
  have hV : ∀ j, j < N → σ (116 + 2 * r + 1) (i + j) = τ1 143 (40 * r + i + j) := fun j hj => by
    rw [(R.1 r hr).2.2 (i + j) (by omega), Nat.add_assoc]
  have R2 := R.fnd (v := 0)
  have hM2 : LM (up τ1 140 1 0) 144 L := fun k hk => by rw [up_x (by decide)]; exact hM k hk
  have hV2 : ∀ j, j < N → up τ1 140 1 0 143 (40 * r + i + j) = τ1 143 (40 * r + i + j) := fun j hj => by rw [up_x (by decide)]
  have h212 := ho.2.2.1
  unfold f_X5_who_72 f_X5_who_88
  by_cases w0 : w = 0
  · subst w0
    rw [if_pos (show nI 0 = 0 from rfl), if_pos (show nI 0 = 0 from rfl), if_pos (show nI 0 = 0 from rfl)]
    obtain ⟨σ3, c1, c2⟩ := s_kindsL (V := fun j => τ1 143 (40 * r + i + j)) (o := 116 + 2 * r) hN hi (by omega) ho h1 h5 5 lm_fu 1 0 σ (by omega) (by omega) (by decide) hC hV
    obtain ⟨τ3, d1, d2, d3, d4, d5⟩ := m_tryAll (τ := up τ1 140 1 0) (V := fun j => τ1 143 (40 * r + i + j)) (a := 12 + 2 * s) (lo := 1) (hi := 5) (b := 40 * r + i) (by omega) (by omega) (by omega) (by omega) (by omega) hN (by omega) h1 h5 (fun v h1 h2 => ok_kind ho ⟨h1, h2⟩) hM2 hV2
    unfold f_X4_kindsThatFit
    rw [show f_X4_kindsThatFit_6 (116 + 2 * r) lm_fu (nI s) (nI i) (nI N) 0 1 σ = _ from c1, lm_bd2_s, s_unf, lm_bd2_s, lit_12, lit_2, lit_40, pk_mul, pk_mul, nI_add, nI_add, nI_add, show f_X5_tryAll (up τ1 140 1 0) (nI (12 + 2 * s + 0)) 1 5 (nI s) (nI (40 * r + i)) (nI N) = _ from d1, lm_bd_s]
    refine LmOp.mk' ?_ (R2.same (SameC.f8 c2).up0 d2)
    rw [d3 (by omega), Nat.zero_or]
  · rw [if_neg (nI_ne0 (by omega) (by omega)), if_neg (nI_ne0 (by omega) (by omega)), if_neg (nI_ne0 (by omega) (by omega))]
    obtain ⟨σ3, c1, c2⟩ := s_cellsL (V := fun j => τ1 143 (40 * r + i + j)) (o := 116 + 2 * r) hN hi (by omega) ho h1 h5 (L 2) lm_fu 0 0 σ (by omega) (by rw [fu_1]; omega) hC hV
    obtain ⟨τ3, d1, d2, d3, d4, d5⟩ := m_tryAll (τ := up τ1 140 1 0) (V := fun j => τ1 143 (40 * r + i + j)) (a := 13 + 2 * s) (lo := 0) (hi := L 2 - 1) (b := 40 * r + i) (by omega) (by omega) (by omega) (by omega) (by omega) hN (by omega) h1 h5 (fun v h1 h2 => ok_cell ho (by omega)) hM2 hV2
    unfold f_X4_cellsThatFit
    have w1 : w = 1 := by omega
    subst w1
    rw [show f_X4_cellsThatFit_6 (116 + 2 * r) lm_fu (nI s) (nI i) (nI N) 0 0 σ = _ from c1, lm_bd2_s, s_unf, lm_bd2_s, in_2, lm_ck_s, cl_2, hM2 2 (by decide), lit_1, pk_sub (by omega), lit_12, lit_2, lit_40, pk_mul, pk_mul, nI_add, nI_add, nI_add, show 12 + 2 * s + 1 = 13 + 2 * s by omega, show f_X5_tryAll (up τ1 140 1 0) (nI (13 + 2 * s)) 0 (nI (L 2 - 1)) (nI s) (nI (40 * r + i)) (nI N) = _ from d1, lm_bd_s]
    refine LmOp.mk' ?_ (R2.same (SameC.f8 c2).up0 d2)
    rw [d3 (by omega), Nat.zero_or, show L 2 - 1 + 1 - 0 = L 2 by omega]
theorem o_fogs (h : Rel σ τ) (p q p3 p4 p5 : Int32) : LmOp (f_X4_fogs σ p q p3 p4 p5) (f_X5_fogs τ p q p3 p4 p5) := by
  unfold f_X4_fogs f_X5_fogs
  simp only [lm_nm_s]
  have R := h.t0
  revert R
  generalize up τ 140 0 0 = τ1
  intro R
  obtain ⟨L, hC, hM, h0⟩ := R.2.2.2.1
  rcases fog_c hC hM h0 p with ⟨a, b⟩ | ⟨g, hg, hg6, ho, h5, rfl, a, b⟩
  · rw [a, b]
    exact LmOp.mk R
  rw [a, b, lm_bd_s, lm_bd_s, if_neg n10, if_neg n10]
  rcases ship_c hC hM h0 q with ⟨a, b⟩ | ⟨s, h1, h2, _, _, rfl, a, b⟩
  · rw [a, b]
    exact LmOp.mk R
  rw [a, b, lm_bd_s, lm_bd_s, if_neg n10, if_neg n10]
  rcases log_c p3 p5 with ⟨a, b⟩ | ⟨r, N, hr, hn1, hN, rfl, rfl, a, b⟩
  · rw [a, b]
    exact LmOp.mk R
  rw [a, b, lm_bd_s, lm_bd_s, if_neg n10, if_neg n10, lm_in_n hr (by decide), lm_ck_s, nI_clamp (by omega)]
  rcases fnd_c R.1 hr hN p4 with ⟨v, ⟨v1, v2⟩, a, b⟩ | ⟨i, hi, rfl, a, b⟩
  · rw [a, b, lm_bd_s, lm_bd2_s, if_neg v1, if_neg v2, s_found, lm_bd2_s]
    exact LmOp.mk R.fnd
  rw [a, b, lm_bd_s, lm_bd2_s, if_pos rfl, if_pos rfl]
  have hV : ∀ j, j < N → σ (116 + 2 * r + 1) (i + j) = τ1 143 (40 * r + i + j) := fun j hj => by
    rw [(R.1 r hr).2.2 (i + j) (by omega), Nat.add_assoc]
  have R2 := R.fnd (v := 0)
  have hM2 : LM (up τ1 140 1 0) 144 L := fun k hk => by rw [up_x (by decide)]; exact hM k hk
  have hV2 : ∀ j, j < N → up τ1 140 1 0 143 (40 * r + i + j) = τ1 143 (40 * r + i + j) := fun j hj => by rw [up_x (by decide)]
  obtain ⟨σ3, c1, c2⟩ := s_fogsL (V := fun j => τ1 143 (40 * r + i + j)) (o := 116 + 2 * r) hN hi (by omega) ho h1 h5 hg6 10 lm_fu 0 0 σ (by omega) (by decide) hC hV
  obtain ⟨τ3, d1, d2, d3, d4, d5⟩ := m_tryAll (τ := up τ1 140 1 0) (V := fun j => τ1 143 (40 * r + i + j)) (a := 6 + g) (lo := 0) (hi := 9) (b := 40 * r + i) (by omega) (by omega) (by omega) (by omega) (by omega) hN (by omega) h1 h5 (fun v h1 h2 => ok_thick ho hg6 h2) hM2 hV2
  rw [show f_X4_fogs_77 lm_fu (nI g) (nI s) (nI i) (nI N) (116 + 2 * r) 0 0 σ = _ from c1, lit_6, lit_40, pk_mul, nI_add, nI_add, show f_X5_tryAll (up τ1 140 1 0) (nI (6 + g)) 0 9 (nI s) (nI (40 * r + i)) (nI N) = _ from d1, lm_bd_s]
  refine LmOp.mk' ?_ (R2.same (SameC.f8 c2).up0 d2)
  rw [d3 (by omega), Nat.zero_or]
theorem o_sights (h : Rel σ τ) (p q p3 p4 p5 : Int32) : LmOp (f_X4_sights σ p q p3 p4 p5) (f_X5_sights τ p q p3 p4 p5) := by
  unfold f_X4_sights f_X5_sights
  simp only [lm_nm_s]
  have R := h.t0
  revert R
  generalize up τ 140 0 0 = τ1
  intro R
  obtain ⟨L, hC, hM, h0⟩ := R.2.2.2.1
  rcases ship_c hC hM h0 p with ⟨a, b⟩ | ⟨s, h1, h2, ho, h5, rfl, a, b⟩
  · rw [a, b]
    exact LmOp.mk R
  rw [a, b, lm_bd_s, lm_bd_s, if_neg n10, if_neg n10]
  rcases bel q 3 0 2 (n := 2) rfl rfl rfl (by decide) with ⟨a, b⟩ | ⟨w, hw, rfl, a, b⟩
  · rw [a, b]
    exact LmOp.mk R
  rw [a, b, lm_bd_s, lm_bd_s, if_neg n10, if_neg n10]
  rcases log_c p3 p5 with ⟨a, b⟩ | ⟨r, N, hr, hn1, hN, rfl, rfl, a, b⟩
  · rw [a, b]
    exact LmOp.mk R
  rw [a, b, lm_bd_s, lm_bd_s, if_neg n10, if_neg n10, lm_in_n hr (by decide), lm_ck_s, nI_clamp (by omega)]
  rcases fnd_c R.1 hr hN p4 with ⟨v, ⟨v1, v2⟩, a, b⟩ | ⟨i, hi, rfl, a, b⟩
  · rw [a, b, lm_bd_s, lm_bd2_s, if_neg v1, if_neg v2, s_found, lm_bd2_s]
    exact LmOp.mk R.fnd
  rw [a, b, lm_bd_s, lm_bd2_s, if_pos rfl, if_pos rfl]
  have hV : ∀ j, j < N → σ (116 + 2 * r + 1) (i + j) = τ1 143 (40 * r + i + j) := fun j hj => by
    rw [(R.1 r hr).2.2 (i + j) (by omega), Nat.add_assoc]
  have R2 := R.fnd (v := 0)
  have hM2 : LM (up τ1 140 1 0) 144 L := fun k hk => by rw [up_x (by decide)]; exact hM k hk
  have hV2 : ∀ j, j < N → up τ1 140 1 0 143 (40 * r + i + j) = τ1 143 (40 * r + i + j) := fun j hj => by rw [up_x (by decide)]
  unfold f_X5_sights_78
  by_cases w0 : w = 0
  · subst w0
    rw [if_pos (show nI 0 = 0 from rfl), if_pos (show nI 0 = 0 from rfl), if_pos (show nI 0 = 0 from rfl)]
    obtain ⟨σ3, c1, c2⟩ := s_eyesL (V := fun j => τ1 143 (40 * r + i + j)) (o := 116 + 2 * r) hN hi (by omega) ho h1 h5 13 lm_fu 0 0 σ (by omega) (by decide) hC hV
    obtain ⟨τ3, d1, d2, d3, d4, d5⟩ := m_tryAll (τ := up τ1 140 1 0) (V := fun j => τ1 143 (40 * r + i + j)) (a := 3) (lo := 0) (hi := 12) (b := 40 * r + i) (by omega) (by omega) (by omega) (by omega) (by omega) hN (by omega) h1 h5 (fun v h1 h2 => ok_eyes ho h2) hM2 hV2
    unfold f_X4_eyesThatFit
    rw [show f_X4_eyesThatFit_6 (116 + 2 * r) lm_fu (nI s) (nI i) (nI N) 0 0 σ = _ from c1, lm_bd2_s, s_unf, lm_bd2_s, lit_40, pk_mul, nI_add, show f_X5_tryAll (up τ1 140 1 0) 3 0 12 (nI s) (nI (40 * r + i)) (nI N) = _ from d1, lm_bd_s, if_pos (show nI 0 = 0 from rfl)]
    refine LmOp.mk' ?_ (R2.same (SameC.f8 c2).up0 d2)
    rw [d3 (by omega), Nat.zero_or]
  · have wz : ¬ nI w = 0 := nI_ne0 (by omega) (by omega)
    rw [if_neg wz, if_neg wz, if_neg wz]
    obtain ⟨σ3, c1, c2⟩ := s_oilsL (V := fun j => τ1 143 (40 * r + i + j)) (o := 116 + 2 * r) hN hi (by omega) ho h1 h5 (w := nI w) lm_fu 61 σ (by omega) (by decide) hC hV
    obtain ⟨τ3, d1, d2, d3, d4, d5⟩ := m_tryAll (τ := up τ1 140 1 0) (V := fun j => τ1 143 (40 * r + i + j)) (a := 4) (lo := 0) (hi := 60) (b := 40 * r + i) (by omega) (by omega) (by omega) (by omega) (by omega) hN (by omega) h1 h5 (fun v h1 h2 => ok_oil ho h2) hM2 hV2
    unfold f_X4_oilsThatFit
    rw [show f_X4_oilsThatFit_11 (116 + 2 * r) lm_fu (nI s) (nI w) (nI i) (nI N) 0 (-1000000) 60 σ = _ from c1, lm_bd2_s, s_unf, lm_bd2_s, lit_40, pk_mul, nI_add, show f_X5_tryAll (up τ1 140 1 0) 4 0 60 (nI s) (nI (40 * r + i)) (nI N) = _ from d1, lm_bd_s, if_neg wz]
    by_cases w1 : nI w = 1
    · rw [if_pos w1, if_pos w1]
      exact LmOp.mk' d4.symm (R2.same (SameC.f8 c2).up0 d2)
    · rw [if_neg w1, if_neg w1]
      exact LmOp.mk' d5.symm (R2.same (SameC.f8 c2).up0 d2)
end OPK
