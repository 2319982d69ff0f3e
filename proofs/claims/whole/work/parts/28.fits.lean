section OPJ
variable {σ τ σ' τ' : Mem} {L M : Nat → Nat}
def fitN (L : Nat → Nat) (s : Nat) (V : Nat → Int32) : Nat → Bool
  | 0 => true
  | n + 1 => fitN L s V n && decide (nI (lgd (stepN L (n + 1)) s) = V n)
theorem fit_mono {s : Nat} {V : Nat → Int32} {k : Nat} (h : fitN L s V k = false) : ∀ d, fitN L s V (k + d) = false
  | 0 => h
  | d + 1 => by
    show (fitN L s V (k + d) && _) = false
    rw [fit_mono h d]
    rfl
theorem fit_same {s z : Nat} {V : Nat → Int32} (S : Same L s M z) (ho : Ok L) (hs : s < L 0) (hz : z < M 0) : ∀ n, fitN M z V n = fitN L s V n
  | 0 => rfl
  | n + 1 => by
    show (fitN M z V n && decide (nI (lgd (stepN M (n + 1)) z) = V n)) = (fitN L s V n && decide (nI (lgd (stepN L (n + 1)) s) = V n))
    rw [fit_same S ho hs hz n, same_lgd (same_stepN S ho hs hz (n + 1)) (stepN_Ok ho (n + 1))]
theorem s_fitL {o i N : Nat} {V : Nat → Int32} (hN : N ≤ 12) (hi : i + N ≤ 40) (ho : Ok M) (hM0 : M 0 = 1) (h5 : M 5 ≤ 999) (ho8 : 16 ≤ o) : ∀ (f k : Nat) (σ : Mem), (∀ j, j < N → σ (o + 1) (i + j) = V j) → LC σ 8 (stepN M k) → fitN M 0 V k = true → k ≤ N → N - k < f → ∃ σ', f_X4_probeFits_3 o f (nI i) (nI N) (nI k) σ = some (if fitN M 0 V N then 1 else 0, σ') ∧ Fr 8 σ σ'
  | 0, k, σ, hV, hC, hf, h1, h2 => by omega
  | f + 1, k, σ, hV, hC, hf, h1, h2 => by
    unfold f_X4_probeFits_3
    by_cases q : k = N
    · subst q
      rw [if_pos (nI_le (by omega) (by omega)), hf]
      exact ⟨σ, rfl, Fr.rf⟩
    · have e5 : stepN M k 5 = M 5 + k := stepN_5 k
      obtain ⟨σ2, a1, a2, a3⟩ := s_passWatch hC (stepN_Ok ho k) (by omega)
      rw [if_neg (nI_ge (by omega) (by omega)), a1, lm_bd_s, lit_0, s_loggedOf a2 (step_Ok (stepN_Ok ho k)) (by rw [step_5]; omega) (by rw [step_lo (by decide) (by decide) (by decide), stepN_0]; omega), lm_bd_s, nI_add, lm_in_n (by omega) (by decide), lm_ck_s, nI_clamp (by omega), a3 (o + 1) (by omega), hV k (by omega), lm_nm_s, nI_1]
      have ef : fitN M 0 V (k + 1) = decide (nI (lgd (step (stepN M k)) 0) = V k) := by
        show (fitN M 0 V k && decide (nI (lgd (stepN M (k + 1)) 0) = V k)) = _
        rw [hf, Bool.true_and]
        rfl
      by_cases c : nI (lgd (step (stepN M k)) 0) = V k
      · rw [if_pos c]
        obtain ⟨σ3, b1, b2⟩ := s_fitL (V := V) hN hi ho hM0 h5 ho8 f (k + 1) σ2 (fun j hj => by rw [a3 (o + 1) (by omega)]; exact hV j hj) a2 (by rw [ef, decide_eq_true c]) (by omega) (by omega)
        exact ⟨σ3, b1, a3.tr b2⟩
      · rw [if_neg c]
        have eN : fitN M 0 V N = false := by
          have := fit_mono (k := k + 1) (by rw [ef, decide_eq_false c]) (N - (k + 1))
          rwa [show k + 1 + (N - (k + 1)) = N by omega] at this
        rw [eN]
        exact ⟨σ2, rfl, a3⟩
theorem s_fits {o i N s : Nat} {V : Nat → Int32} {σ1 : Mem} (hN : N ≤ 12) (hi : i + N ≤ 40) (ho8 : 16 ≤ o) (hV : ∀ j, j < N → σ (o + 1) (i + j) = V j) (hF : Fr 8 σ σ1) (hC : LC σ1 8 M) (hoM : Ok M) (hM0 : M 0 = 1) (S : Same L s M 0) (ho : Ok L) (hs : s < L 0) (h5 : L 5 ≤ 999) : ∃ σ', f_X4_probeFits o σ1 (nI i) (nI N) = some (if fitN L s V N then 1 else 0, σ') ∧ Fr 8 σ σ' := by
  unfold f_X4_probeFits
  have e5 : M 5 = L 5 := S.1 5 (by decide) (by decide)
  obtain ⟨σ', b1, b2⟩ := s_fitL (V := V) hN hi hoM hM0 (by omega) ho8 lm_fu 0 σ1 (fun j hj => by rw [hF (o + 1) (by omega)]; exact hV j hj) hC rfl (by omega) (by rw [fu_1]; omega)
  rw [fit_same S ho hs (by omega)] at b1
  exact ⟨σ', b1, hF.tr b2⟩
theorem m_fitL {b N s : Nat} {V : Nat → Int32} (hN : N ≤ 12) (hb : b + N ≤ 320) (ho : Ok L) (hs : s < L 0) (h5 : L 5 ≤ 999) : ∀ (f k : Nat) (τ : Mem), (∀ j, j < N → τ 143 (b + j) = V j) → LM τ 146 (stepN L k) → k ≤ N → N - k < f → ∃ τ', f_X5_isSo_6 f (nI s) (nI b) (nI N) (if fitN L s V k then 1 else 0) (nI k) τ = some (if fitN L s V N then 1 else 0, τ') ∧ FrM 146 τ τ'
  | 0, k, τ, hV, hM, h1, h2 => by omega
  | f + 1, k, τ, hV, hM, h1, h2 => by
    unfold f_X5_isSo_6
    by_cases q : k = N
    · subst q
      rw [if_pos (nI_le (by omega) (by omega))]
      cases fitN L s V k <;> exact ⟨τ, rfl, FrM.rf⟩
    · have e5 : stepN L k 5 = L 5 + k := stepN_5 k
      obtain ⟨τ2, a1, a2, a3⟩ := m_watchOf hM (stepN_Ok ho k) (by omega)
      rw [if_neg (nI_ge (by omega) (by omega)), a1, lm_bd_s, nI_1]
      simp only [lm_nm_s]
      have go := m_fitL (V := V) hN hb ho hs h5 f (k + 1) τ2 (fun j hj => by rw [a3 143 (by decide)]; exact hV j hj) a2 (by omega) (by omega)
      have ef : fitN L s V (k + 1) = (fitN L s V k && decide (nI (lgd (step (stepN L k)) s) = V k)) := rfl
      rw [ef] at go
      cases hk : fitN L s V k
      · rw [hk] at go
        obtain ⟨τ', b1, b2⟩ := go
        exact ⟨τ', b1, a3.tr b2⟩
      · rw [hk] at go
        show ∃ τ', (if (1 : Int32) = 0 then _ else _) = _ ∧ _
        rw [if_neg n10, m_loggedOf a2 (step_Ok (stepN_Ok ho k)) (by rw [step_5]; omega) (by rw [step_lo (by decide) (by decide) (by decide), stepN_0]; exact hs), lm_bd_s, nI_add, lm_in_n (by omega) (by decide), lm_ck_s, nI_clamp (by omega), a3 143 (by decide), hV k (by omega)]
        by_cases c : nI (lgd (step (stepN L k)) s) = V k
        · rw [if_pos c]
          rw [decide_eq_true c] at go
          obtain ⟨τ', b1, b2⟩ := go
          exact ⟨τ', b1, a3.tr b2⟩
        · rw [if_neg c]
          rw [decide_eq_false c] at go
          obtain ⟨τ', b1, b2⟩ := go
          exact ⟨τ', b1, a3.tr b2⟩
theorem m_isSo {b N s : Nat} {V : Nat → Int32} (hN : N ≤ 12) (hb : b + N ≤ 320) (ho : Ok L) (hs : s < L 0) (h5 : L 5 ≤ 999) (hV : ∀ j, j < N → τ 143 (b + j) = V j) (hM : LM τ 146 L) : ∃ τ', f_X5_isSo τ (nI s) (nI b) (nI N) = some (if fitN L s V N then 1 else 0, τ') ∧ FrM 146 τ τ' :=
  m_fitL hN hb ho hs h5 lm_fu 0 τ hV hM (by omega) (by rw [fu_1]; omega)
-- what all tries come to
def br (F : Nat → Bool) : Nat → Nat → Nat
  | _, 0 => 0
  | a, n + 1 => (if F a then 2 ^ a else 0) ||| br F (a + 1) n
def cr (F : Nat → Bool) : Nat → Nat → Nat
  | _, 0 => 0
  | a, n + 1 => (if F a then 1 else 0) + cr F (a + 1) n
def fr (F : Nat → Bool) : Nat → Nat → Option Nat
  | _, 0 => none
  | a, n + 1 => if F a then some a else fr F (a + 1) n
def fo (y : Int32) : Option Nat → Int32
  | none => y
  | some a => nI a
theorem cr_le (F : Nat → Bool) : ∀ n a, cr F a n ≤ n
  | 0, a => Nat.le_refl _
  | n + 1, a => by
    have := cr_le F n (a + 1)
    show (if F a then 1 else 0) + cr F (a + 1) n ≤ n + 1
    split <;> omega
theorem cr_0 (F : Nat → Bool) : ∀ n a, cr F a n = 0 → fr F a n = none
  | 0, a, _ => rfl
  | n + 1, a, h => by
    have h : (if F a then 1 else 0) + cr F (a + 1) n = 0 := h
    show (if F a then some a else fr F (a + 1) n) = none
    cases q : F a
    · rw [q] at h
      have h2 : cr F (a + 1) n = 0 := by simpa using h
      exact cr_0 F n (a + 1) h2
    · rw [q] at h
      have h2 : 1 + cr F (a + 1) n = 0 := h
      omega
theorem sh_3 : ∀ k, k < 16 → (1 : Int32) <<< (nI k &&& 31) = nI (2 ^ k) := by decide
theorem m_tryL {a b N s hi : Nat} {V : Nat → Int32} (ha : a < 24) (ha0 : a ≠ 0) (ha5 : a ≠ 5) (hhi : hi ≤ 60) (hN : N ≤ 12) (hb : b + N ≤ 320) (hs : s < L 0) (h5 : L 5 ≤ 999) : ∀ (n f k acc c : Nat) (y : Int32) (τ : Mem), k + n = hi + 1 → n < f → (∀ v, k ≤ v → v ≤ hi → Ok (setL L a v)) → LM τ 144 L → (∀ j, j < N → τ 143 (b + j) = V j) → (hi < 13 → τ 140 20 = nI acc) → τ 140 21 = nI c → τ 140 22 = y → c + n ≤ 61 → ∃ τ', f_X5_tryAll_19 f (nI a) (nI hi) (nI s) (nI b) (nI N) (nI k) τ = some τ' ∧ SameM τ τ' ∧ (hi < 13 → τ' 140 20 = nI (acc ||| br (fun v => fitN (setL L a v) s V N) k n)) ∧ τ' 140 21 = nI (c + cr (fun v => fitN (setL L a v) s V N) k n) ∧ τ' 140 22 = (if c = 0 then fo y (fr (fun v => fitN (setL L a v) s V N) k n) else y)
  | n, 0, k, acc, c, y, τ, hk, hf, ho, hM, hV, h20, h21, h22, hc => by omega
  | 0, f + 1, k, acc, c, y, τ, hk, hf, ho, hM, hV, h20, h21, h22, hc => by
    unfold f_X5_tryAll_19
    rw [if_pos (nI_lt (by omega) (by omega))]
    refine ⟨τ, rfl, SameM.rf, fun h => ?_, h21, ?_⟩
    · rw [h20 h]
      show nI acc = nI (acc ||| 0)
      rw [Nat.or_zero]
    · rw [h22]
      show y = if c = 0 then y else y
      split <;> rfl
  | n + 1, f + 1, k, acc, c, y, τ, hk, hf, ho, hM, hV, h20, h21, h22, hc => by
    unfold f_X5_tryAll_19
    obtain ⟨τ2, d1, d2, d3⟩ := m_layThen hM
    have hok := ho k (by omega) (by omega)
    obtain ⟨τ3, e1, e2⟩ := m_isSo (τ := up τ2 146 a (nI k)) (V := V) hN hb hok (by rw [setL_ne (by omega)]; exact hs) (by rw [setL_ne (by omega)]; exact h5) (fun j hj => by rw [up_x (by decide), d3 143 (by decide)]; exact hV j hj) d2.set
    rw [if_neg (nI_nlt (by omega) (by omega)), d1, lm_bd_s, lm_in_n ha (by decide), lm_ck_s, lm_nm_s, nI_clamp (by omega), e1, lm_bd2_s]
    have S3 : FrM 146 τ τ3 := (d3.tr FrM.up).tr e2
    have e140 : τ3 140 = τ 140 := S3 140 (by decide)
    have hM3 : LM τ3 144 L := fun i hi => by rw [S3 144 (by decide)]; exact hM i hi
    have hV3 : ∀ j, j < N → τ3 143 (b + j) = V j := fun j hj => by rw [S3 143 (by decide)]; exact hV j hj
    cases hF : fitN (setL L a k) s V N
    · show ∃ τ', (if (0 : Int32) = 0 then _ else _) = _ ∧ _
      rw [if_pos rfl, lm_nm_s, nI_1]
      obtain ⟨τ', k1, k2, k3, k4, k5⟩ := m_tryL (V := V) ha ha0 ha5 hhi hN hb hs h5 n f (k + 1) acc c y τ3 (by omega) (by omega) (fun v h1 h2 => ho v (by omega) h2) hM3 hV3 (fun h => by rw [e140]; exact h20 h) (by rw [e140]; exact h21) (by rw [e140]; exact h22) (by omega)
      refine ⟨τ', k1, (SameM.f146 S3).tr k2, fun h => ?_, ?_, ?_⟩
      · rw [k3 h]
        show _ = nI (acc ||| ((if fitN (setL L a k) s V N then 2 ^ k else 0) ||| br _ (k + 1) n))
        rw [hF]
        show _ = nI (acc ||| (0 ||| br _ (k + 1) n))
        rw [Nat.zero_or]
      · rw [k4]
        show _ = nI (c + ((if fitN (setL L a k) s V N then 1 else 0) + cr _ (k + 1) n))
        rw [hF]
        show _ = nI (c + (0 + cr _ (k + 1) n))
        rw [Nat.zero_add]
      · rw [k5]
        show _ = if c = 0 then fo y (if fitN (setL L a k) s V N then some k else fr _ (k + 1) n) else y
        rw [hF]
        rfl
    · show ∃ τ', (if (1 : Int32) = 0 then _ else _) = _ ∧ _
      rw [if_neg n10]
      have T : ∀ y0 : Int32, (hi < 13 → τ3 140 20 ||| y0 = nI (acc ||| 2 ^ k)) → ∃ τ', f_X5_tryAll_69 (f_X5_tryAll_19 f) (nI a) (nI hi) (nI s) (nI b) (nI N) (nI k) y0 (τ3 140 20) τ3 = some τ' ∧ SameM τ τ' ∧ (hi < 13 → τ' 140 20 = nI (acc ||| br (fun v => fitN (setL L a v) s V N) k (n + 1))) ∧ τ' 140 21 = nI (c + cr (fun v => fitN (setL L a v) s V N) k (n + 1)) ∧ τ' 140 22 = (if c = 0 then fo y (fr (fun v => fitN (setL L a v) s V N) k (n + 1)) else y) := by
        intro y0 hy
        unfold f_X5_tryAll_69
        rw [lm_nm_s, up_ne (x := 140) (j := 21) (by decide), up_ne (x := 140) (j := 22) (by decide), e140, h21, h22]
        have key : ∀ z, (z = if c = 0 then nI k else y) → ∃ τ', f_X5_tryAll_90 (f_X5_tryAll_19 f) (nI a) (nI hi) (nI s) (nI b) (nI N) (nI k) z (up τ3 140 20 (τ 140 20 ||| y0)) = some τ' ∧ SameM τ τ' ∧ (hi < 13 → τ' 140 20 = nI (acc ||| br (fun v => fitN (setL L a v) s V N) k (n + 1))) ∧ τ' 140 21 = nI (c + cr (fun v => fitN (setL L a v) s V N) k (n + 1)) ∧ τ' 140 22 = (if c = 0 then fo y (fr (fun v => fitN (setL L a v) s V N) k (n + 1)) else y) := by
          intro z hz
          unfold f_X5_tryAll_90
          simp only [lm_nm_s]
          rw [nI_1, up_ne (x := 140) (j := 21) (k := 22) (by decide), up_ne (x := 140) (j := 21) (k := 20) (by decide), e140, h21, nI_1]
          obtain ⟨τ', k1, k2, k3, k4, k5⟩ := m_tryL (V := V) ha ha0 ha5 hhi hN hb hs h5 n f (k + 1) (acc ||| 2 ^ k) (c + 1) z (up (up (up τ3 140 20 (τ 140 20 ||| y0)) 140 22 z) 140 21 (nI (c + 1))) (by omega) (by omega) (fun v h1 h2 => ho v (by omega) h2) (fun i hi => by rw [up_x (by decide), up_x (by decide), up_x (by decide)]; exact hM3 i hi) (fun j hj => by rw [up_x (by decide), up_x (by decide), up_x (by decide)]; exact hV3 j hj) (fun h => by rw [up_ne (by decide), up_ne (by decide), up_eq, ← e140]; exact hy h) up_eq (by rw [up_ne (by decide), up_eq]) (by omega)
          refine ⟨τ', k1, ((SameM.f146 S3).tr (((SameM.up (by decide)).tr (SameM.up (by decide))).tr (SameM.up (by decide)))).tr k2, fun h => ?_, ?_, ?_⟩
          · rw [k3 h]
            show _ = nI (acc ||| ((if fitN (setL L a k) s V N then 2 ^ k else 0) ||| br _ (k + 1) n))
            rw [hF, if_pos rfl, Nat.or_assoc]
          · rw [k4]
            show _ = nI (c + ((if fitN (setL L a k) s V N then 1 else 0) + cr _ (k + 1) n))
            rw [hF, if_pos rfl, Nat.add_assoc]
          · rw [k5, if_neg (by omega), hz]
            show _ = if c = 0 then fo y (if fitN (setL L a k) s V N then some k else fr _ (k + 1) n) else y
            rw [hF]
            rfl
        by_cases q : c = 0
        · rw [if_pos (show nI c = 0 by rw [q]; rfl)]
          exact key _ (by rw [if_pos q])
        · rw [if_neg (nI_ne0 (by omega) (by omega))]
          exact key _ (by rw [if_neg q])
      by_cases q13 : hi < 13
      · rw [if_neg (c := (13 : Int32) ≤ nI hi) (nI_ge (b := 13) (by omega) (by decide)), sh_3 k (by omega)]
        refine T _ (fun h => ?_)
        rw [e140, h20 h, nx_or]
      · rw [if_pos (c := (13 : Int32) ≤ nI hi) (nI_le (a := 13) (by omega) (by omega))]
        exact T _ (fun h => absurd h q13)
theorem m_tryAll {a b N s lo hi : Nat} {V : Nat → Int32} (ha : a < 24) (ha0 : a ≠ 0) (ha5 : a ≠ 5) (hlh : lo ≤ hi + 1) (hhi : hi ≤ 60) (hN : N ≤ 12) (hb : b + N ≤ 320) (hs : s < L 0) (h5 : L 5 ≤ 999) (ho : ∀ v, lo ≤ v → v ≤ hi → Ok (setL L a v)) (hM : LM τ 144 L) (hV : ∀ j, j < N → τ 143 (b + j) = V j) : ∃ τ', f_X5_tryAll τ (nI a) (nI lo) (nI hi) (nI s) (nI b) (nI N) = some τ' ∧ SameM τ τ' ∧ (hi < 13 → τ' 140 20 = nI (br (fun v => fitN (setL L a v) s V N) lo (hi + 1 - lo))) ∧ τ' 140 21 = nI (cr (fun v => fitN (setL L a v) s V N) lo (hi + 1 - lo)) ∧ τ' 140 22 = fo (-1000000) (fr (fun v => fitN (setL L a v) s V N) lo (hi + 1 - lo)) := by
  unfold f_X5_tryAll
  simp only [lm_nm_s]
  obtain ⟨τ', k1, k2, k3, k4, k5⟩ := m_tryL (V := V) (L := L) ha ha0 ha5 hhi hN hb hs h5 (hi + 1 - lo) lm_fu lo 0 0 (-1000000) (up (up (up τ 140 20 0) 140 21 0) 140 22 (-1000000)) (by omega) (by rw [fu_1]; omega) ho (fun i hi => by rw [up_x (by decide), up_x (by decide), up_x (by decide)]; exact hM i hi) (fun j hj => by rw [up_x (by decide), up_x (by decide), up_x (by decide)]; exact hV j hj) (fun _ => by rw [up_ne (by decide), up_ne (by decide), up_eq]; rfl) (by rw [up_ne (by decide), up_eq]; rfl) up_eq (by omega)
  refine ⟨τ', k1, (((SameM.up (by decide)).tr (SameM.up (by decide))).tr (SameM.up (by decide))).tr k2, fun h => ?_, ?_, ?_⟩
  · rw [k3 h, Nat.zero_or]
  · rw [k4, Nat.zero_add]
  · rw [k5, if_pos rfl]
end OPJ
