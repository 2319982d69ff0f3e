section OPQ
variable {σ τ σ' τ' : Mem} {L M : Nat → Nat} {c : Nat}
-- what it weighs
def wt (p x : Nat) : Nat → Nat
  | 0 => 1
  | f + 1 => wt p x f * (if x.testBit f then p else 10 - p)
def tot (p F : Nat) : Nat → Nat
  | 0 => 0
  | x + 1 => tot p F x + wt p x F
theorem tot_all : ∀ F, F < 7 → ∀ p, p < 11 → tot p F (2 ^ F) = 10 ^ F := by decide +kernel
def abv (L : Nat → Nat) (p N : Nat) : Nat → Nat
  | 0 => 0
  | x + 1 => abv L p N x + (if seen (stepN (lif L x (L 1)) N) 2 = 0 then wt p x (L 1) else 0)
theorem abv_le {p N : Nat} : ∀ x, abv L p N x ≤ tot p (L 1) x
  | 0 => Nat.le_refl _
  | x + 1 => by
    have := abv_le (p := p) (N := N) x
    show abv L p N x + (if _ then _ else 0) ≤ tot p (L 1) x + wt p x (L 1)
    split <;> omega
theorem s_casesL {x p : Nat} (hx : x < 64) (hp : p ≤ 10) (h16 : L 1 ≤ 6) (h7 : σ 4 7 = nI (L 1)) : ∀ (n f : Nat), f ≤ L 1 → L 1 - f < n → f_X4_casesOf_5 σ n (nI x) (nI p) (lN (wt p x f)) (nI f) = some (lN (wt p x (L 1)))
  | 0, f, h1, h2 => by omega
  | n + 1, f, h1, h2 => by
    unfold f_X4_casesOf_5
    rw [h7]
    by_cases q : f = L 1
    · rw [if_pos (nI_le (by omega) (by omega)), q]
    · rw [if_neg (nI_ge (by omega) (by omega)), sb_1 x hx f (by omega), lit_10, pk_sub (by omega), nI_l (by omega), nI_l (by omega), lN_mul, lN_mul, nI_1]
      simp only [lm_nm_s]
      have go := s_casesL hx hp h16 h7 n (f + 1) (by omega) (by omega)
      have e : wt p x (f + 1) = wt p x f * (if x.testBit f then p else 10 - p) := rfl
      rw [e] at go
      cases ht : x.testBit f
      · rw [ht] at go
        exact go
      · rw [ht] at go
        exact go
-- Euclid
def eu : Nat → Nat → Nat → Option Nat
  | 0, _, _ => none
  | n + 1, a, b => if b = 0 then some a else eu n b (a % b)
theorem eu_ok : ∀ (k n a b : Nat), b < 2 ^ k → 2 * k + 1 ≤ n → eu n a b = some (Nat.gcd a b)
  | 0, n, a, b, hb, hn => by
    have b0 : b = 0 := by omega
    subst b0
    obtain ⟨m, rfl⟩ : ∃ m, n = m + 1 := ⟨n - 1, by omega⟩
    show (if 0 = 0 then some a else _) = _
    rw [if_pos rfl, Nat.gcd_zero_right]
  | k + 1, n, a, b, hb, hn => by
    obtain ⟨m, rfl⟩ : ∃ m, n = m + 2 := ⟨n - 2, by omega⟩
    show (if b = 0 then some a else eu (m + 1) b (a % b)) = _
    by_cases q : b = 0
    · subst q
      rw [if_pos rfl, Nat.gcd_zero_right]
    · rw [if_neg q]
      have hlt : a % b < b := Nat.mod_lt _ (by omega)
      have hg : Nat.gcd a b = Nat.gcd b (a % b) := by rw [Nat.gcd_comm a b, Nat.gcd_rec b a, Nat.gcd_comm]
      have h2k : 2 ^ (k + 1) = 2 ^ k + 2 ^ k := by rw [Nat.pow_succ]; omega
      by_cases q2 : a % b < 2 ^ k
      · rw [eu_ok k (m + 1) b (a % b) q2 (by omega), hg]
      · show (if a % b = 0 then some b else eu m (a % b) (b % (a % b))) = _
        rw [if_neg (by have := Nat.two_pow_pos k; omega)]
        have hr : b % (a % b) < 2 ^ k := by
          have e1 : b % (a % b) = (b - a % b) % (a % b) := Nat.mod_eq_sub_mod (by omega)
          have e2 := Nat.mod_le (b - a % b) (a % b)
          omega
        rw [eu_ok k m (a % b) (b % (a % b)) hr (by omega), hg, Nat.gcd_comm b (a % b), Nat.gcd_rec (a % b) b, Nat.gcd_comm]
theorem l_0 {b : Nat} (hb : b < 2 ^ 63) : (lg_cmp (lN b) (0 : Int64) = 0) ↔ b = 0 := by
  rw [lg_cmp_eq, show (0 : Int64) = lN 0 from rfl, pk_lEQ hb (by decide)]
theorem l_nz2 {b : Nat} (h0 : 0 < b) (hb : b < 2 ^ 63) : lm_nzl (lN b) = true := by
  refine decide_eq_true ?_
  show ¬ lN b = lN 0
  rw [pk_lEQ hb (by decide)]
  omega
theorem s_gcdL : ∀ (m n a b t g : Nat), a < 2 ^ 63 → b < 2 ^ 63 → eu m a b = some g → m + t ≤ 101 → m ≤ n → f_X4_commonDivisor_9 n (lN a) (lN b) (nI t) = some (lN g)
  | 0, n, a, b, t, g, ha, hb, he, h1, h2 => by cases he
  | m + 1, 0, a, b, t, g, ha, hb, he, h1, h2 => by omega
  | m + 1, n + 1, a, b, t, g, ha, hb, he, h1, h2 => by
    unfold f_X4_commonDivisor_9
    have he : (if b = 0 then some a else eu m b (a % b)) = some g := he
    by_cases q : b = 0
    · rw [if_pos q] at he
      cases he
      by_cases q1 : t = 100
      · rw [if_pos (show (100 : Int32) ≤ nI t from nI_le (a := 100) (by omega) (by omega))]
      · rw [if_neg (show ¬ (100 : Int32) ≤ nI t from nI_ge (b := 100) (by omega) (by decide)), if_pos ((l_0 hb).mpr q)]
    · rw [if_neg q] at he
      have hm : m ≠ 0 := by
        intro h
        subst h
        cases he
      rw [if_neg (show ¬ (100 : Int32) ≤ nI t from nI_ge (b := 100) (by omega) (by decide)), if_neg (fun h => q ((l_0 hb).mp h)), l_nz2 (by omega) hb, lm_ck_s, lm_nm_s, lm_nm_s, pk_lRem ha (by omega) hb, nI_1]
      have hlt : a % b < b := Nat.mod_lt _ (by omega)
      exact s_gcdL m n b (a % b) (t + 1) g hb (by omega) he (by omega) (by omega)
theorem m_gcdL {x3 : Int32} {A T : Int64} : ∀ (m n a b g : Nat), a < 2 ^ 63 → b < 2 ^ 63 → eu m a b = some g → m ≤ n → f_X5_fair_213 n x3 A T (lN a) (lN b) τ = if x3 = 0 then (lm_ck (lm_nzl (lN g)) (some ((A / lN g), τ))) else (lm_ck (lm_nzl (lN g)) (some ((T / lN g), τ)))
  | 0, n, a, b, g, ha, hb, he, h2 => by cases he
  | m + 1, 0, a, b, g, ha, hb, he, h2 => by omega
  | m + 1, n + 1, a, b, g, ha, hb, he, h2 => by
    unfold f_X5_fair_213
    have he : (if b = 0 then some a else eu m b (a % b)) = some g := he
    by_cases q : b = 0
    · rw [if_pos q] at he
      cases he
      rw [if_pos ((l_0 hb).mpr q)]
    · rw [if_neg q] at he
      rw [if_neg (fun h => q ((l_0 hb).mp h)), l_nz2 (by omega) hb, lm_ck_s, lm_nm_s, pk_lRem ha (by omega) hb]
      have hlt : a % b < b := Nat.mod_lt _ (by omega)
      exact m_gcdL m n b (a % b) g hb (by omega) he (by omega)
theorem s_endL {x3 : Int32} {A : Nat} (h16 : L 1 ≤ 6) (h7 : σ 4 7 = nI (L 1)) (hA : A ≤ 10 ^ 6) : ∀ (n f : Nat), f ≤ L 1 → L 1 - f < n → f_X4_fair_119 n x3 (lN A) (lN (10 ^ f)) (nI f) σ = if x3 = 0 then some (lN (A / Nat.gcd A (10 ^ L 1)), σ) else some (lN (10 ^ L 1 / Nat.gcd A (10 ^ L 1)), σ)
  | 0, f, h1, h2 => by omega
  | n + 1, f, h1, h2 => by
    unfold f_X4_fair_119
    rw [h7]
    by_cases q : f = L 1
    · subst q
      have hp : 10 ^ L 1 ≤ 10 ^ 6 := Nat.pow_le_pow_right (by decide) h16
      have hp0 : 0 < 10 ^ L 1 := Nat.pow_pos (by decide)
      have hg0 : 0 < Nat.gcd A (10 ^ L 1) := Nat.gcd_pos_of_pos_right _ hp0
      have hgl : Nat.gcd A (10 ^ L 1) ≤ 10 ^ L 1 := Nat.le_of_dvd hp0 (Nat.gcd_dvd_right _ _)
      have he := eu_ok 20 41 (10 ^ L 1) A (by omega) (by omega)
      rw [Nat.gcd_comm] at he
      rw [if_pos (nI_le (by omega) (by omega))]
      unfold f_X4_commonDivisor
      rw [show f_X4_commonDivisor_9 lm_fu (lN (10 ^ L 1)) (lN A) 0 = _ from s_gcdL 41 lm_fu (10 ^ L 1) A 0 _ (by omega) (by omega) he (by omega) (by decide), lm_bd_s, if_neg (show ¬ lN (Nat.gcd A (10 ^ L 1)) < (1 : Int64) by rw [show (1 : Int64) = lN 1 from rfl, pk_lLT (by omega) (by omega)]; omega), lm_nm_s, l_nz2 hg0 (by omega), lm_ck_s, lm_ck_s, pk_lDiv (by omega) hg0 (by omega), pk_lDiv (by omega) hg0 (by omega)]
    · rw [if_neg (nI_ge (by omega) (by omega)), lm_nm_s, lm_nm_s, show (10 : Int64) = lN 10 from rfl, lN_mul, nI_1]
      exact s_endL h16 h7 hA n (f + 1) (by omega) (by omega)
theorem m_86 {K : Int32 → Int32 → Int32 → Int64 → Int64 → Int32 → Mem → Option (Int64 × Mem)} {x p N : Nat} {x3 : Int32} {A T : Nat} (hx : x < 64) (hp : p ≤ 10) (hN : N ≤ 60) (ho : Ok L) (h5 : L 5 ≤ 999) : ∀ (n f : Nat) (τ : Mem), LM τ 144 L → LM τ 146 (lif L x f) → f ≤ L 1 → L 1 - f < n → ∃ τ', f_X5_fair_86 K n (nI N) (nI p) x3 (lN A) (lN T) (nI x) (lN (wt p x f)) (nI f) τ = K (nI N) (nI p) x3 (lN (A + (if seen (stepN (lif L x (L 1)) N) 2 = 0 then wt p x (L 1) else 0))) (lN (T + wt p x (L 1))) (nI (x + 1)) τ' ∧ FrM 146 τ τ'
  | 0, f, τ, hM, hS, h1, h2 => by omega
  | n + 1, f, τ, hM, hS, h1, h2 => by
    have h16 := ho.2.1.2
    unfold f_X5_fair_86
    rw [in_1, lm_ck_s, cl_1, hM 1 (by decide)]
    by_cases q : f = L 1
    · subst q
      have hoK := lif_Ok (x := x) ho (L 1) h16
      have k5 : lif L x (L 1) 5 = L 5 := lif_i _ _ (by omega)
      obtain ⟨τ3, d1, d2, d3⟩ := m_watchesOf hS hoK (N := N) (by omega) (by omega)
      have ho2 := stepN_Ok hoK N
      have h52 : stepN (lif L x (L 1)) N 5 < 2 ^ 31 := by rw [stepN_5]; omega
      rw [if_pos (nI_le (by omega) (by omega)), d1, lm_bd_s, lm_nm_s, m_differ d2 ho2 h52, lm_bd_s]
      simp only [lm_nm_s]
      rw [lN_add, lN_add, nI_1, show (0 : Int64) = lN 0 from rfl, lN_add]
      have hl := seen_lt (who := 2) ho2
      by_cases q0 : seen (stepN (lif L x (L 1)) N) 2 = 0
      · rw [q0, if_pos (show nI 0 = 0 from rfl), if_pos rfl]
        exact ⟨τ3, rfl, d3⟩
      · rw [if_neg (nI_ne0 (by omega) (by omega)), if_neg q0]
        exact ⟨τ3, rfl, d3⟩
    · have e : wt p x (f + 1) = wt p x f * (if x.testBit f then p else 10 - p) := rfl
      rw [if_neg (nI_ge (by omega) (by omega)), m_has x hx f (by omega), lm_bd_s]
      unfold f_X5_fair_120
      rw [m_has x hx f (by omega), lit_6, nI_add, lm_in_n (by omega) (by decide), nI_clamp (by omega), hM (6 + f) (by omega), nI_l (by omega), show (10 : Int64) = lN 10 from rfl, lN_sub (by omega)]
      simp only [lm_nm_s, lm_bd_s, lm_ck_s, lN_mul, nI_1]
      cases ht : x.testBit f
      · rw [ht] at e
        have hS2 : LM (up τ 146 (6 + f) (nI (L (6 + f)))) 146 (lif L x (f + 1)) := by
          show LM _ 146 (if x.testBit f then _ else lif L x f)
          rw [ht]
          intro k hk
          by_cases qk : k = 6 + f
          · rw [qk, up_eq]
            show _ = nI (lif L x f (6 + f))
            rw [lif_i f (6 + f) (by omega)]
          · rw [up_ne (by omega)]
            exact hS k hk
        obtain ⟨τ', e1, e2⟩ := m_86 (K := K) (x3 := x3) (A := A) (T := T) hx hp hN ho h5 n (f + 1) (up τ 146 (6 + f) (nI (L (6 + f)))) (fun k hk => by rw [up_x (by decide)]; exact hM k hk) hS2 (by omega) (by omega)
        rw [e] at e1
        exact ⟨τ', e1, FrM.up.tr e2⟩
      · rw [ht] at e
        have hS2 : LM (up τ 146 (6 + f) 0) 146 (lif L x (f + 1)) := by
          show LM _ 146 (if x.testBit f then setL (lif L x f) (6 + f) 0 else lif L x f)
          rw [ht, if_pos rfl]
          exact hS.set
        obtain ⟨τ', e1, e2⟩ := m_86 (K := K) (x3 := x3) (A := A) (T := T) hx hp hN ho h5 n (f + 1) (up τ 146 (6 + f) 0) (fun k hk => by rw [up_x (by decide)]; exact hM k hk) hS2 (by omega) (by omega)
        rw [e] at e1
        exact ⟨τ', e1, FrM.up.tr e2⟩
theorem fairL {p N w : Nat} (hp : p ≤ 10) (hN : N ≤ 60) : ∀ (n x : Nat) (σ τ : Mem) (L : Nat → Nat), Rel σ τ → LC σ 4 L → LM τ 144 L → LC σ 12 (stepN L N) → Ok L → L 5 ≤ 999 → x ≤ 2 ^ L 1 → 2 ^ L 1 - x < n → LmOpJ (f_X4_fair_71 n (nI N) (nI p) (nI w) (lN (abv L p N x)) (nI x) σ) (f_X5_fair_63 n (nI N) (nI p) (nI w) (lN (abv L p N x)) (lN (tot p (L 1) x)) (nI x) τ)
  | 0, x, σ, τ, L, R, hC, hM, hT, ho, h5, h1, h2 => by omega
  | n + 1, x, σ, τ, L, R, hC, hM, hT, ho, h5, h1, h2 => by
    have h16 := ho.2.1.2
    have h64 : 2 ^ L 1 ≤ 2 ^ 6 := Nat.pow_le_pow_right (by decide) h16
    unfold f_X4_fair_71 f_X5_fair_63
    rw [in_1, lm_ck_s, cl_1, hM 1 (by decide), hC.2.2.2.2.1, sh_2 (L 1) (by omega)]
    by_cases q : x = 2 ^ L 1
    · rw [if_pos (nI_le (by omega) (by omega)), if_pos (nI_le (by omega) (by omega)), q, tot_all (L 1) (by omega) p (by omega)]
      have hA := abv_le (L := L) (p := p) (N := N) (2 ^ L 1)
      rw [tot_all (L 1) (by omega) p (by omega)] at hA
      have hp6 : 10 ^ L 1 ≤ 10 ^ 6 := Nat.pow_le_pow_right (by decide) h16
      have hp0 : 0 < 10 ^ L 1 := Nat.pow_pos (by decide)
      have hg0 : 0 < Nat.gcd (abv L p N (2 ^ L 1)) (10 ^ L 1) := Nat.gcd_pos_of_pos_right _ hp0
      have hgl : Nat.gcd (abv L p N (2 ^ L 1)) (10 ^ L 1) ≤ 10 ^ L 1 := Nat.le_of_dvd hp0 (Nat.gcd_dvd_right _ _)
      rw [show f_X4_fair_119 lm_fu (nI w) (lN (abv L p N (2 ^ L 1))) 1 0 σ = _ from s_endL h16 hC.2.2.2.2.1 (by omega) lm_fu 0 (by omega) (by rw [fu_1]; omega), m_gcdL 41 lm_fu _ _ _ (by omega) (by omega) (eu_ok 20 41 (abv L p N (2 ^ L 1)) (10 ^ L 1) (by omega) (by omega)) (by decide), l_nz2 hg0 (by omega), lm_ck_s, lm_ck_s, pk_lDiv (by omega) hg0 (by omega), pk_lDiv (by omega) hg0 (by omega)]
      by_cases w0 : nI w = 0
      · rw [if_pos w0, if_pos w0]
        exact LmOpJ.mk R
      · rw [if_neg w0, if_neg w0]
        exact LmOpJ.mk R
    · rw [if_neg (nI_ge (by omega) (by omega)), if_neg (nI_ge (by omega) (by omega))]
      obtain ⟨σ2, a1, a2⟩ := s_same (x := x) (by omega) hN ho h5 hC hT
      obtain ⟨τ2, c1, c2, c3⟩ := m_layThen hM
      have hM2 : LM τ2 144 L := fun k hk => by rw [c3 144 (by decide)]; exact hM k hk
      obtain ⟨τ3, d1, d2⟩ := m_86 (K := f_X5_fair_63 n) (x3 := nI w) (A := abv L p N x) (T := tot p (L 1) x) (x := x) (p := p) (N := N) (by omega) hp hN ho h5 lm_fu 0 τ2 hM2 c2 (by omega) (by rw [fu_1]; omega)
      rw [a1, lm_bd2_s, c1, lm_bd_s, show f_X5_fair_86 (f_X5_fair_63 n) lm_fu (nI N) (nI p) (nI w) (lN (abv L p N x)) (lN (tot p (L 1) x)) (nI x) 1 0 τ2 = _ from d1]
      have R3 : Rel σ2 τ3 := R.same (SameC.f8 a2) ((SameM.f146 c3).tr (SameM.f146 d2))
      have hC3 : LC σ2 4 L := hC.co (fun y _ _ => a2 y (by omega))
      have hM3 : LM τ3 144 L := fun k hk => by rw [d2 144 (by decide)]; exact hM2 k hk
      have hT3 : LC σ2 12 (stepN L N) := hT.co (fun y _ _ => a2 y (by omega))
      have go := fairL (w := w) hp hN n (x + 1) σ2 τ3 L R3 hC3 hM3 hT3 ho h5 (by omega) (by omega)
      have e1 : abv L p N (x + 1) = abv L p N x + (if seen (stepN (lif L x (L 1)) N) 2 = 0 then wt p x (L 1) else 0) := rfl
      have e2 : tot p (L 1) (x + 1) = tot p (L 1) x + wt p x (L 1) := rfl
      rw [e1, e2] at go
      unfold f_X4_casesOf
      rw [show f_X4_casesOf_5 σ2 lm_fu (nI x) (nI p) 1 0 = _ from s_casesL (L := L) (by omega) hp h16 hC3.2.2.2.2.1 lm_fu 0 (by omega) (by rw [fu_1]; omega), lm_bd_s]
      simp only [lm_nm_s]
      rw [nI_1, lN_add]
      by_cases q0 : seen (stepN (lif L x (L 1)) N) 2 = 0
      · rw [if_pos q0] at go
        rw [if_pos q0, if_pos q0, if_neg n10]
        exact go
      · rw [if_neg q0] at go
        rw [if_neg q0, if_neg q0, if_pos rfl]
        exact go
theorem o_fair (h : Rel σ τ) (p q w : Int32) : LmOpJ (f_X4_fair σ p q w) (f_X5_fair τ p q w) := by
  unfold f_X4_fair f_X5_fair
  simp only [lm_nm_s]
  have R := h.t0
  revert R
  generalize up τ 140 0 0 = τ1
  intro R
  obtain ⟨L, hC, hM, h0⟩ := R.2.2.2.1
  rcases lit_c hC hM h0 with ⟨a, b⟩ | ⟨ho, h5, a, b⟩
  · rw [a, b]
    exact LmOpJ.mk R
  rw [a, b, lm_bd_s, lm_bd_s, if_neg n10, if_neg n10]
  rcases wit p 0 60 0 60 (m := 0) (n := 60) rfl rfl rfl rfl (by decide) (by decide) with ⟨a, b⟩ | ⟨n, h1, h2, rfl, a, b⟩
  · rw [a, b]
    exact LmOpJ.mk R
  rw [a, b, lm_bd_s, lm_bd_s, if_neg n10, if_neg n10]
  rcases wit q 0 10 0 10 (m := 0) (n := 10) rfl rfl rfl rfl (by decide) (by decide) with ⟨a, b⟩ | ⟨m, h3, h4, rfl, a, b⟩
  · rw [a, b]
    exact LmOpJ.mk R
  rw [a, b, lm_bd_s, lm_bd_s, if_neg n10, if_neg n10]
  rcases bel w 2 0 1 (n := 1) rfl rfl rfl (by decide) with ⟨a, b⟩ | ⟨j, hj, rfl, a, b⟩
  · rw [a, b]
    exact LmOpJ.mk R
  rw [a, b, lm_bd_s, lm_bd_s, if_neg n10, if_neg n10]
  have h16 := ho.2.1.2
  have h64 : 2 ^ L 1 ≤ 2 ^ 6 := Nat.pow_le_pow_right (by decide) h16
  obtain ⟨σ2, a1, a2, a3⟩ := s_takeFrom (σ := σ) (c := 12) hC ho.1.2 ho.2.1.2 (by decide)
  obtain ⟨σ3, b1, b2, b3⟩ := s_passWatches a2 ho (N := n) (by omega) (by omega)
  rw [a1, lm_bd_s, b1, lm_bd_s]
  have hC3 : LC σ3 4 L := hC.co (fun y _ _ => by rw [b3 y (by omega), a3 y (by omega)])
  exact fairL h4 h2 lm_fu 0 σ3 τ1 L (R.same ((SameC.f12 a3).tr (SameC.f12 b3)) SameM.rf) hC3 hM b2 ho h5 (Nat.zero_le _) (by rw [fu_1]; omega)
end OPQ
