section OPI
variable {σ τ σ' τ' : Mem} {L M : Nat → Nat}
def bal (L : Nat → Nat) (m : Nat) : Int32 := nI (cnt (seen (stepN L m) 1)) - nI (cnt (seen (stepN L m) 0))
def eyeL (L : Nat → Nat) : Nat → Nat := setL L 3 (L 3 - 1)
def bst (m : Nat) : Nat → Bool → (Nat → Nat) → Int32
  | 0, _, L => bal L m
  | n + 1, true, L => if bst m n false L < bst m n false (pourL L 5) then bst m n false (pourL L 5) else bst m n false L
  | n + 1, false, L => if bst m n true (eyeL L) < bst m n true L then bst m n true (eyeL L) else bst m n true L
theorem ok_eye (h : Ok L) : Ok (eyeL L) := ok_eyes h (by have := h.2.2.2.1; omega)
theorem s_balance {m : Nat} (hm : m ≤ 20) (hC : LC σ 12 L) (ho : Ok L) (h5 : L 5 ≤ 999) : ∃ σ', f_X4_balanceBehind σ (nI m) = some (bal L m, σ') ∧ Fr 8 σ σ' := by
  unfold f_X4_balanceBehind
  obtain ⟨σ2, a1, a2, a3⟩ := s_takeFrom (σ := σ) (c := 8) hC ho.1.2 ho.2.1.2 (by decide)
  obtain ⟨σ3, b1, b2, b3⟩ := s_passWatches a2 ho (N := m) (by omega) (by omega)
  have ho2 := stepN_Ok ho m
  have h52 : stepN L m 5 < 2 ^ 31 := by rw [stepN_5]; omega
  rw [a1, lm_bd_s, b1, lm_bd_s, lit_1, s_shipsSeen b2 ho2 h52 (by decide), lm_bd_s, s_bitCount _ (seen_lt ho2), lm_bd_s, lit_0, s_shipsSeen b2 ho2 h52 (by decide), lm_bd_s, s_bitCount _ (seen_lt ho2), lm_bd_s]
  exact ⟨σ3, rfl, a3.tr b3⟩
theorem back_p {v : Nat} : setL (setL (pourL L v) 4 (L 4)) 3 (L 3) = L := by
  funext i
  unfold pourL setL
  by_cases h3 : i = 3
  · rw [if_pos h3, h3]
  · by_cases h4 : i = 4
    · rw [if_neg h3, if_pos h4, h4]
    · rw [if_neg h3, if_neg h4, if_neg h4]
theorem back_e : setL (setL (eyeL L) 4 (L 4)) 3 (L 3) = L := by
  funext i
  unfold eyeL setL
  by_cases h3 : i = 3
  · rw [if_pos h3, h3]
  · by_cases h4 : i = 4
    · rw [if_neg h3, if_pos h4, h4]
    · rw [if_neg h3, if_neg h4, if_neg h3]
theorem s_best {m : Nat} (hm : m ≤ 20) : ∀ (d n : Nat) (p : Bool) (σ : Mem) (L : Nat → Nat), n < d → n ≤ 4 → LC σ 12 L → Ok L → L 5 ≤ 999 → ∃ σ', f_X4_bestTurn d σ (nI n) (if p then 1 else 0) (nI m) = some (bst m n p L, σ') ∧ LC σ' 12 L ∧ SameC σ σ'
  | 0, n, p, σ, L, hd, hn, hC, ho, h5 => by omega
  | d + 1, 0, p, σ, L, hd, hn, hC, ho, h5 => by
    show ∃ σ', f_X4_bestTurn_of (f_X4_bestTurn d) σ (nI 0) _ (nI m) = _ ∧ _
    unfold f_X4_bestTurn_of
    obtain ⟨σ', e1, e2⟩ := s_balance hm hC ho h5
    rw [if_neg (c := 0 < nI 0) (by decide), e1, lm_bd2_s]
    refine ⟨σ', ?_, hC.co (fun x _ _ => e2 x (by omega)), SameC.f8 e2⟩
    cases p <;> rfl
  | d + 1, n + 1, p, σ, L, hd, hn, hC, ho, h5 => by
    show ∃ σ', f_X4_bestTurn_of (f_X4_bestTurn d) σ (nI (n + 1)) _ (nI m) = _ ∧ _
    unfold f_X4_bestTurn_of
    rw [if_pos (c := 0 < nI (n + 1)) (nI_lt (a := 0) (by omega) (by omega))]
    have h3 := ho.2.2.2.1
    cases p
    · show ∃ σ', (if (0 : Int32) = 0 then f_X4_bestTurn_23 (f_X4_bestTurn d) (nI (n + 1)) 0 (nI m) 1 (nI (n + 1) - 1) σ else f_X4_bestTurn_23 (f_X4_bestTurn d) (nI (n + 1)) 0 (nI m) 0 (nI (n + 1) - 1) σ) = _ ∧ _
      rw [if_pos rfl]
      unfold f_X4_bestTurn_23
      obtain ⟨σ2, a1, a2, a3⟩ := s_best hm d n true σ L (by omega) (by omega) hC ho h5
      rw [nI_pred, show f_X4_bestTurn d σ (nI n) 1 (nI m) = _ from a1, lm_bd2_s, lm_nm_s, lm_nm_s, if_pos rfl, lm_nm_s, a2.2.1, a2.2.2.1]
      have em : (if (0 : Int32) < nI (L 3) - 1 then nI (L 3) - 1 else 0) = nI (L 3 - 1) := by
        by_cases q : L 3 = 0
        · rw [q]; rfl
        · rw [lit_1, pk_sub (by omega)]
          by_cases q1 : L 3 = 1
          · rw [q1]; rfl
          · rw [if_pos (show (0 : Int32) < nI (L 3 - 1) from nI_lt (a := 0) (by omega) (by omega))]
      rw [em]
      unfold f_X4_bestTurn_77
      rw [if_pos rfl]
      unfold f_X4_bestTurn_90
      obtain ⟨σ3, b1, b2, b3⟩ := s_best hm d n true (up σ2 12 4 (nI (L 3 - 1))) (eyeL L) (by omega) (by omega) (LC_eyes a2) (ok_eye ho) h5
      rw [nI_pred, show f_X4_bestTurn d (up σ2 12 4 (nI (L 3 - 1))) (nI n) 1 (nI m) = _ from b1, lm_bd2_s, lm_nm_s, lm_nm_s, if_pos rfl]
      refine ⟨_, rfl, ?_, ?_⟩
      · have := LC_eyes (LC_oil b2 (v := L 4)) (v := L 3)
        rw [back_e] at this
        exact this
      · refine (a3.tr (fun x hx => ?_)).tr (b3.tr (fun x hx => ?_))
        · exact up_x (by omega)
        · rw [up_x (by omega), up_x (by omega)]
    · show ∃ σ', (if (1 : Int32) = 0 then f_X4_bestTurn_23 (f_X4_bestTurn d) (nI (n + 1)) 1 (nI m) 1 (nI (n + 1) - 1) σ else f_X4_bestTurn_23 (f_X4_bestTurn d) (nI (n + 1)) 1 (nI m) 0 (nI (n + 1) - 1) σ) = _ ∧ _
      rw [if_neg n10]
      unfold f_X4_bestTurn_23
      obtain ⟨σ2, a1, a2, a3⟩ := s_best hm d n false σ L (by omega) (by omega) hC ho h5
      obtain ⟨σ3, c1, c2, c3⟩ := s_addOil a2 ho (v := 5) (by omega)
      rw [nI_pred, show f_X4_bestTurn d σ (nI n) 0 (nI m) = _ from a1, lm_bd2_s, lm_nm_s, lm_nm_s, if_neg n10, a2.2.1, a2.2.2.1, show f_X1_addOil 12 σ2 5 = _ from c1, lm_bd_s]
      unfold f_X4_bestTurn_77
      rw [if_neg n10]
      unfold f_X4_bestTurn_90
      obtain ⟨σ4, b1, b2, b3⟩ := s_best hm d n false σ3 (pourL L 5) (by omega) (by omega) c2 (ok_pour ho) h5
      rw [nI_pred, show f_X4_bestTurn d σ3 (nI n) 0 (nI m) = _ from b1, lm_bd2_s, lm_nm_s, lm_nm_s, if_neg n10]
      refine ⟨_, rfl, ?_, ?_⟩
      · have := LC_eyes (LC_oil b2 (v := L 4)) (v := L 3)
        rw [back_p] at this
        exact this
      · refine (a3.tr (SameC.f12 c3)).tr (b3.tr (fun x hx => ?_))
        rw [up_x (by omega), up_x (by omega)]
-- the reference
def act (L : Nat → Nat) (x i : Nat) : Nat → Nat := if x.testBit i then (if i % 2 = 0 then pourL L 5 else eyeL L) else L
def aft (L : Nat → Nat) (x : Nat) : Nat → (Nat → Nat)
  | 0 => L
  | i + 1 => act (aft L x i) x i
theorem act_Ok {x i : Nat} (h : Ok L) : Ok (act L x i) := by
  unfold act
  split
  · split
    · exact ok_pour h
    · exact ok_eye h
  · exact h
theorem act_5 {x i : Nat} : act L x i 5 = L 5 := by
  unfold act
  split
  · split <;> rfl
  · rfl
theorem aft_Ok {x : Nat} (h : Ok L) : ∀ i, Ok (aft L x i)
  | 0 => h
  | i + 1 => act_Ok (aft_Ok h i)
theorem aft_5 {x : Nat} : ∀ i, aft L x i 5 = L 5
  | 0 => rfl
  | i + 1 => act_5.trans (aft_5 i)
theorem eye_0 (h : L 3 = 0) : eyeL L = L := by
  funext i
  unfold eyeL setL
  split
  · next q => rw [q, h]
  · rfl
theorem m_37 {K : Int32 → Int32 → Int32 → Int32 → Mem → Option (Int32 × Mem)} {x i : Nat} {x2 x3 : Int32} (hx : x < 16) (hi : i < 4) (hM : LM τ 146 (if x.testBit i && i % 2 == 0 then pourL L 5 else L)) (ho : Ok L) : ∃ τ', f_X5_afterTurns_37 K (nI x) x2 x3 (nI i) τ = K (nI x) x2 x3 (nI (i + 1)) τ' ∧ LM τ' 146 (act L x i) ∧ FrM 146 τ τ' := by
  unfold f_X5_afterTurns_37 act
  have h3 := ho.2.2.2.1
  rw [m_has x (by omega) i (by omega), lm_bd_s, lit_2, pk_rem (by omega) (by decide) (by decide)]
  simp only [lm_nm_s, nI_1]
  by_cases b : x.testBit i = true
  · rw [b] at hM ⊢
    rw [if_pos rfl, if_neg n10, if_pos rfl]
    by_cases e : i % 2 = 0
    · rw [if_neg (by rw [e]; decide), if_pos e]
      rw [e] at hM
      exact ⟨τ, rfl, hM, FrM.rf⟩
    · have e1 : i % 2 = 1 := by omega
      rw [if_pos (by rw [e1]; rfl), if_neg e]
      rw [e1] at hM
      have hM : LM τ 146 L := hM
      rw [in_3]
      simp only [lm_ck_s]
      rw [cl_3, hM 3 (by decide)]
      by_cases q : L 3 = 0
      · rw [if_pos (by rw [q]; decide), eye_0 q]
        exact ⟨τ, rfl, hM, FrM.rf⟩
      · rw [if_neg (nI_nle (by omega) (by omega)), lit_1, pk_sub (by omega)]
        exact ⟨_, rfl, hM.set, FrM.up⟩
  · rw [Bool.not_eq_true] at b
    rw [b] at hM ⊢
    exact ⟨τ, rfl, hM, FrM.rf⟩
theorem m_after {x n m : Nat} (hx : x < 16) (hn : n ≤ 4) (hm : m ≤ 20) (ho : Ok L) (h5 : L 5 ≤ 999) : ∀ (f i : Nat) (τ : Mem), LM τ 146 (aft L x i) → i ≤ n → n - i < f → ∃ τ', f_X5_afterTurns_7 f (nI x) (nI n) (nI m) (nI i) τ = some (bal (aft L x n) m, τ') ∧ FrM 146 τ τ'
  | 0, i, τ, hM, h1, h2 => by omega
  | f + 1, i, τ, hM, h1, h2 => by
    unfold f_X5_afterTurns_7
    have hoi := aft_Ok (x := x) ho i
    by_cases q : i = n
    · subst q
      have h5i : aft L x i 5 = L 5 := aft_5 i
      obtain ⟨τ3, b1, b2, b3⟩ := m_watchesOf hM hoi (N := m) (by omega) (by omega)
      have ho2 := stepN_Ok hoi m
      have h52 : stepN (aft L x i) m 5 < 2 ^ 31 := by rw [stepN_5]; omega
      rw [if_pos (nI_le (by omega) (by omega)), b1, lm_bd_s, lit_1, m_seenBy b2 ho2 h52 (by decide), lm_bd_s, m_bits _ (seen_lt ho2), lm_bd_s, lit_0, m_seenBy b2 ho2 h52 (by decide), lm_bd_s, m_bits _ (seen_lt ho2), lm_bd_s]
      exact ⟨τ3, rfl, b3⟩
    · rw [if_neg (nI_ge (by omega) (by omega)), m_has x (by omega) i (by omega), lm_bd_s, lit_2, pk_rem (by omega) (by decide) (by decide)]
      by_cases b : x.testBit i = true
      · rw [if_pos b, if_neg n10]
        by_cases e : i % 2 = 0
        · rw [if_pos (by rw [e]; rfl)]
          obtain ⟨τ2, c1, c2, c3⟩ := m_pourInto hM hoi (v := 5) (by omega)
          rw [show f_X5_pourInto 146 τ 5 = _ from c1, lm_bd_s]
          obtain ⟨τ3, d1, d2, d3⟩ := m_37 (K := f_X5_afterTurns_7 f) (x2 := nI n) (x3 := nI m) (L := aft L x i) (i := i) hx (by omega) (τ := τ2) (by rw [b, e]; exact c2) hoi
          rw [d1]
          obtain ⟨τ4, f1, f2⟩ := m_after hx hn hm ho h5 f (i + 1) τ3 d2 (by omega) (by omega)
          exact ⟨τ4, f1, (c3.tr d3).tr f2⟩
        · have e1 : i % 2 = 1 := by omega
          rw [if_neg (by rw [e1]; decide)]
          obtain ⟨τ3, d1, d2, d3⟩ := m_37 (K := f_X5_afterTurns_7 f) (x2 := nI n) (x3 := nI m) (L := aft L x i) (i := i) hx (by omega) (τ := τ) (by rw [b, e1]; exact hM) hoi
          rw [d1]
          obtain ⟨τ4, f1, f2⟩ := m_after hx hn hm ho h5 f (i + 1) τ3 d2 (by omega) (by omega)
          exact ⟨τ4, f1, d3.tr f2⟩
      · rw [if_neg b, if_pos rfl]
        rw [Bool.not_eq_true] at b
        obtain ⟨τ3, d1, d2, d3⟩ := m_37 (K := f_X5_afterTurns_7 f) (x2 := nI n) (x3 := nI m) (L := aft L x i) (i := i) hx (by omega) (τ := τ) (by rw [b]; exact hM) hoi
        rw [d1]
        obtain ⟨τ4, f1, f2⟩ := m_after hx hn hm ho h5 f (i + 1) τ3 d2 (by omega) (by omega)
        exact ⟨τ4, f1, d3.tr f2⟩
theorem sh_2 : ∀ k, k < 7 → (1 : Int32) <<< (nI k &&& 31) = nI (2 ^ k) := by decide
theorem or_2 : ∀ i, i < 4 → ∀ x, x < 16 → x < 2 ^ i → x ||| 2 ^ i = x + 2 ^ i := by decide
theorem tb_a : ∀ i, i < 4 → ∀ x, x < 16 → x < 2 ^ i → (x + 2 ^ i).testBit i = true ∧ x.testBit i = false := by decide
theorem tb_c : ∀ i, i < 4 → ∀ x, x < 16 → ∀ k, k < 4 → (x < 2 ^ i ∧ k < i) → (x + 2 ^ i).testBit k = x.testBit k := by decide
theorem tb_2 {i : Nat} (hi : i < 4) {x : Nat} (hx : x < 16) (h : x < 2 ^ i) : (x + 2 ^ i).testBit i = true ∧ x.testBit i = false ∧ ∀ k, k < 4 → k < i → (x + 2 ^ i).testBit k = x.testBit k := ⟨(tb_a i hi x hx h).1, (tb_a i hi x hx h).2, fun k h1 h2 => tb_c i hi x hx k h1 ⟨h, h2⟩⟩
theorem aft_eq {x y : Nat} : ∀ i, (∀ k, k < i → x.testBit k = y.testBit k) → aft L x i = aft L y i
  | 0, _ => rfl
  | i + 1, h => by
    show act (aft L x i) x i = act (aft L y i) y i
    rw [aft_eq i (fun k hk => h k (by omega))]
    unfold act
    rw [h i (by omega)]
def wth (m n : Nat) (L : Nat → Nat) (i x : Nat) : Int32 := bst m (n - i) (i % 2 == 0) (aft L x i)
theorem wth_step {m n i x : Nat} (hi : i < n) (hn : n ≤ 4) (hx : x < 2 ^ i) : wth m n L i x = if i % 2 = 0 then (if wth m n L (i + 1) x < wth m n L (i + 1) (x + 2 ^ i) then wth m n L (i + 1) (x + 2 ^ i) else wth m n L (i + 1) x) else (if wth m n L (i + 1) (x + 2 ^ i) < wth m n L (i + 1) x then wth m n L (i + 1) (x + 2 ^ i) else wth m n L (i + 1) x) := by
  have h16 : 2 ^ i ≤ 2 ^ 3 := Nat.pow_le_pow_right (by decide) (by omega)
  obtain ⟨t1, t2, t3⟩ := tb_2 (i := i) (by omega) (x := x) (by omega) hx
  unfold wth
  have e1 : aft L x (i + 1) = aft L x i := by
    show act (aft L x i) x i = _
    unfold act
    rw [t2]
    rfl
  have e2 : aft L (x + 2 ^ i) (i + 1) = if i % 2 = 0 then pourL (aft L x i) 5 else eyeL (aft L x i) := by
    show act (aft L (x + 2 ^ i) i) (x + 2 ^ i) i = _
    rw [aft_eq i (fun k hk => t3 k (by omega) hk)]
    unfold act
    rw [t1]
    rfl
  rw [e1, e2, show n - i = (n - (i + 1)) + 1 by omega]
  by_cases e : i % 2 = 0
  · rw [if_pos e, if_pos e, show (i % 2 == 0) = true by rw [e]; rfl, show ((i + 1) % 2 == 0) = false by rw [show (i + 1) % 2 = 1 by omega]; rfl]
    rfl
  · rw [if_neg e, if_neg e, show (i % 2 == 0) = false by rw [show i % 2 = 1 by omega]; rfl, show ((i + 1) % 2 == 0) = true by rw [show (i + 1) % 2 = 0 by omega]; rfl]
    rfl
theorem m_81 {K : Int32 → Mem → Option (Int32 × Mem)} {m n i : Nat} (hn : n ≤ 4) (hi : i < n) : ∀ (f k : Nat) (τ : Mem), (∀ x, x < k → τ 149 x = wth m n L i x) → (∀ x, k ≤ x → x < 2 ^ (i + 1) → τ 149 x = wth m n L (i + 1) x) → k ≤ 2 ^ i → 2 ^ i - k < f → ∃ τ', f_X5_byTurns_81 K f (nI i) (nI k) τ = K (nI i + (-1)) τ' ∧ FrM 149 τ τ' ∧ ∀ x, x < 2 ^ i → τ' 149 x = wth m n L i x
  | 0, k, τ, g1, g2, h1, h2 => by omega
  | f + 1, k, τ, g1, g2, h1, h2 => by
    have h16 : 2 ^ i ≤ 2 ^ 3 := Nat.pow_le_pow_right (by decide) (by omega)
    have hp : 2 ^ (i + 1) = 2 ^ i + 2 ^ i := by rw [Nat.pow_succ]; omega
    unfold f_X5_byTurns_81
    rw [sh_2 i (by omega)]
    by_cases q : k = 2 ^ i
    · rw [if_pos (nI_le (by omega) (by omega)), lm_nm_s]
      exact ⟨τ, rfl, FrM.rf, fun x hx => g1 x (by omega)⟩
    · rw [if_neg (nI_ge (by omega) (by omega)), nx_or, or_2 i (by omega) k (by omega) (by omega), lm_in_n (i := k) (by omega) (by decide), lm_in_n (i := k + 2 ^ i) (by omega) (by decide), nI_clamp (n := k) (by omega), nI_clamp (n := k + 2 ^ i) (by omega), lit_2, pk_rem (by omega) (by decide) (by decide), g2 k (by omega) (by omega), g2 (k + 2 ^ i) (by omega) (by omega)]
      simp only [lm_ck_s, lm_nm_s]
      have fin : ∀ v, v = wth m n L i k → ∃ τ', (f_X5_byTurns_81 K f (nI i) (nI (k + 1)) (up τ 149 k v)) = K (nI i + (-1)) τ' ∧ FrM 149 τ τ' ∧ ∀ x, x < 2 ^ i → τ' 149 x = wth m n L i x := by
        intro v hv
        have hA : ∀ x, x < k + 1 → up τ 149 k v 149 x = wth m n L i x := by
          intro x hx
          by_cases qx : x = k
          · rw [qx, up_eq, hv]
          · rw [up_ne (by omega)]
            exact g1 x (by omega)
        have hB : ∀ x, k + 1 ≤ x → x < 2 ^ (i + 1) → up τ 149 k v 149 x = wth m n L (i + 1) x := by
          intro x hx hx2
          rw [up_ne (by omega)]
          exact g2 x (by omega) hx2
        obtain ⟨τ', e1, e2, e3⟩ := m_81 (K := K) hn hi f (k + 1) (up τ 149 k v) hA hB (by omega) (by omega)
        exact ⟨τ', e1, FrM.up.tr e2, e3⟩
      have ws := wth_step (m := m) (L := L) hi hn (x := k) (by omega)
      unfold f_X5_byTurns_144
      rw [lm_in_n (i := k) (by omega) (by decide), nI_clamp (n := k) (by omega)]
      simp only [lm_ck_s, lm_nm_s, nI_1]
      by_cases e : i % 2 = 0
      · rw [if_pos (by rw [e]; rfl)]
        rw [if_pos e] at ws
        by_cases c : wth m n L (i + 1) k < wth m n L (i + 1) (k + 2 ^ i)
        · rw [if_pos c, if_true]
          rw [if_pos c] at ws
          exact fin _ ws.symm
        · rw [if_neg c, if_neg n10]
          rw [if_neg c] at ws
          exact fin _ ws.symm
      · rw [if_neg (by rw [show i % 2 = 1 by omega]; decide)]
        rw [if_neg e] at ws
        by_cases c : wth m n L (i + 1) (k + 2 ^ i) < wth m n L (i + 1) k
        · rw [if_pos c, if_true]
          rw [if_pos c] at ws
          exact fin _ ws.symm
        · rw [if_neg c, if_neg n10]
          rw [if_neg c] at ws
          exact fin _ ws.symm
theorem m_74 {m n : Nat} (hn : n ≤ 4) : ∀ (f i : Nat) (τ : Mem), (∀ x, x < 2 ^ i → τ 149 x = wth m n L i x) → i ≤ n → i < f → ∃ τ', f_X5_byTurns_74 f (nI i + (-1)) τ = some (bst m n true L, τ') ∧ FrM 149 τ τ'
  | 0, i, τ, g, h1, h2 => by omega
  | f + 1, 0, τ, g, h1, h2 => by
    unfold f_X5_byTurns_74
    rw [if_pos (by decide)]
    refine ⟨τ, ?_, FrM.rf⟩
    show some (τ 149 0, τ) = _
    rw [g 0 (by decide)]
    rfl
  | f + 1, i + 1, τ, g, h1, h2 => by
    unfold f_X5_byTurns_74
    rw [pk_m1, if_neg (nI_pos (by omega))]
    have h16 : 2 ^ i ≤ 2 ^ 3 := Nat.pow_le_pow_right (by decide) (by omega)
    obtain ⟨τ', e1, e2, e3⟩ := m_81 (K := f_X5_byTurns_74 f) (L := L) (m := m) hn (i := i) (by omega) lm_fu 0 τ (fun x hx => absurd hx (by omega)) (fun x _ hx => g x hx) (Nat.zero_le _) (by rw [fu_1]; omega)
    rw [show f_X5_byTurns_81 (f_X5_byTurns_74 f) lm_fu (nI i) 0 τ = _ from e1]
    obtain ⟨τ2, d1, d2⟩ := m_74 hn f i τ' e3 (by omega) (by omega)
    exact ⟨τ2, d1, e2.tr d2⟩
theorem m_44 {m n : Nat} (hn : n ≤ 4) (hm : m ≤ 20) (ho : Ok L) (h5 : L 5 ≤ 999) : ∀ (f k : Nat) (τ : Mem), LM τ 144 L → (∀ x, x < k → τ 149 x = wth m n L n x) → k ≤ 2 ^ n → 2 ^ n - k < f → ∃ τ', f_X5_byTurns_44 f (nI n) (nI m) (nI k) τ = some (bst m n true L, τ') ∧ SameM τ τ'
  | 0, k, τ, hM, g, h1, h2 => by omega
  | f + 1, k, τ, hM, g, h1, h2 => by
    have h16 : 2 ^ n ≤ 2 ^ 4 := Nat.pow_le_pow_right (by decide) hn
    unfold f_X5_byTurns_44
    rw [sh_2 n (by omega)]
    by_cases q : k = 2 ^ n
    · rw [if_pos (nI_le (by omega) (by omega)), lm_nm_s]
      obtain ⟨τ', e1, e2⟩ := m_74 (m := m) (L := L) hn lm_fu n τ (fun x hx => g x (by omega)) (Nat.le_refl _) (by rw [fu_1]; omega)
      rw [show nI n - 1 = nI n + (-1) from Int32.sub_eq_add_neg _ _, e1]
      exact ⟨τ', rfl, SameM.f149 e2⟩
    · rw [if_neg (nI_ge (by omega) (by omega))]
      unfold f_X5_afterTurns
      obtain ⟨τ2, d1, d2, d3⟩ := m_layThen hM
      obtain ⟨τ3, c1, c2⟩ := m_after (L := L) (x := k) (n := n) (m := m) (by omega) hn hm ho h5 lm_fu 0 τ2 d2 (by omega) (by rw [fu_1]; omega)
      rw [d1, lm_bd_s, show f_X5_afterTurns_7 lm_fu (nI k) (nI n) (nI m) 0 τ2 = _ from c1, lm_bd2_s, lm_in_n (by omega) (by decide), lm_ck_s, lm_nm_s, lm_nm_s, nI_clamp (by omega), nI_1]
      have f144 : up τ3 149 k (bal (aft L k n) m) 144 = τ 144 := by rw [up_x (by decide), c2 144 (by decide), d3 144 (by decide)]
      have f149 : τ3 149 = τ 149 := by rw [c2 149 (by decide), d3 149 (by decide)]
      have hA : ∀ x, x < k + 1 → up τ3 149 k (bal (aft L k n) m) 149 x = wth m n L n x := by
        intro x hx
        by_cases qx : x = k
        · rw [qx, up_eq]
          unfold wth
          rw [Nat.sub_self]
          rfl
        · rw [up_ne (by omega), f149]
          exact g x (by omega)
      obtain ⟨τ', e1, e2⟩ := m_44 hn hm ho h5 f (k + 1) (up τ3 149 k (bal (aft L k n) m)) (fun i hi => by rw [f144]; exact hM i hi) hA (by omega) (by omega)
      exact ⟨τ', e1, (((SameM.f146 d3).tr (SameM.f146 c2)).tr (SameM.f149 FrM.up)).tr e2⟩
theorem o_byTurns (h : Rel σ τ) (p q : Int32) : LmOp (f_X4_byTurns σ p q) (f_X5_byTurns τ p q) := by
  unfold f_X4_byTurns f_X5_byTurns
  simp only [lm_nm_s]
  have R := h.t0
  revert R
  generalize up τ 140 0 0 = τ1
  intro R
  obtain ⟨L, hC, hM, h0⟩ := R.2.2.2.1
  rcases lit_c hC hM h0 with ⟨a, b⟩ | ⟨ho, h5, a, b⟩
  · rw [a, b]
    exact LmOp.mk R
  rw [a, b, lm_bd_s, lm_bd_s, if_neg n10, if_neg n10]
  rcases wit p 0 4 0 4 (m := 0) (n := 4) rfl rfl rfl rfl (by decide) (by decide) with ⟨a, b⟩ | ⟨n, h1, h2, rfl, a, b⟩
  · rw [a, b]
    exact LmOp.mk R
  rw [a, b, lm_bd_s, lm_bd_s, if_neg n10, if_neg n10]
  rcases wit q 1 20 1 20 (m := 1) (n := 20) rfl rfl rfl rfl (by decide) (by decide) with ⟨a, b⟩ | ⟨m, h3, h4, rfl, a, b⟩
  · rw [a, b]
    exact LmOp.mk R
  rw [a, b, lm_bd_s, lm_bd_s, if_neg n10, if_neg n10]
  have h16 : 2 ^ n ≤ 2 ^ 4 := Nat.pow_le_pow_right (by decide) h2
  obtain ⟨σ2, a1, a2, a3⟩ := s_takeFrom (σ := σ) (c := 12) hC ho.1.2 ho.2.1.2 (by decide)
  obtain ⟨σ3, b1, b2, b3⟩ := s_best h4 6 n true σ2 L (by omega) h2 a2 ho h5
  obtain ⟨τ3, c1, c2⟩ := m_44 h2 h4 ho h5 lm_fu 0 τ1 hM (fun x hx => absurd hx (by omega)) (Nat.zero_le _) (by rw [fu_1]; omega)
  rw [a1, lm_bd_s, show f_X4_bestTurn 6 σ2 (nI n) 1 (nI m) = _ from b1, lm_bd2_s, show f_X5_byTurns_44 lm_fu (nI n) (nI m) 0 τ1 = _ from c1]
  exact LmOp.mk (R.same ((SameC.f12 a3).tr b3) c2)
end OPI
