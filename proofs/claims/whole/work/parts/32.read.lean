section TPB
variable {σ τ σ' τ' : Mem} {T : Nat → Nat} {n a : Nat}
def PF (τ τ' : Mem) : Prop := (∀ x, x ≠ 140 → τ' x = τ x) ∧ ∀ k, (k < 12 ∨ 18 ≤ k) → τ' 140 k = τ 140 k
theorem PF.rf : PF τ τ := ⟨fun _ _ => rfl, fun _ _ => rfl⟩
theorem PF.tr {τ2 : Mem} (h : PF τ τ') (h2 : PF τ' τ2) : PF τ τ2 := ⟨fun x hx => (h2.1 x hx).trans (h.1 x hx), fun k hk => (h2.2 k hk).trans (h.2 k hk)⟩
theorem PF.nf (h : NF τ τ') : PF τ τ' := ⟨h.1, fun k hk => h.2 k (by omega)⟩
theorem PF.up {k : Nat} {v : Int32} (hk : 12 ≤ k ∧ k < 18) : PF τ (up τ 140 k v) := ⟨fun x hx => up_x hx, fun j hj => up_ne (by omega)⟩
def QF (σ σ' : Mem) : Prop := (∀ x, x ≠ 2 → σ' x = σ x) ∧ ∀ k, (k ≠ 2 ∧ k ≠ 3 ∧ k ≠ 4) → σ' 2 k = σ 2 k
theorem QF.rf : QF σ σ := ⟨fun _ _ => rfl, fun _ _ => rfl⟩
theorem QF.tr {σ2 : Mem} (h : QF σ σ') (h2 : QF σ' σ2) : QF σ σ2 := ⟨fun x hx => (h2.1 x hx).trans (h.1 x hx), fun k hk => (h2.2 k hk).trans (h.2 k hk)⟩
theorem QF.up {k : Nat} {v : Int32} (hk : k = 2 ∨ k = 3 ∨ k = 4) : QF σ (up σ 2 k v) := ⟨fun x hx => up_x hx, fun j hj => up_ne (by omega)⟩
def Live (T : Nat → Nat) (n a : Nat) (τ : Mem) : Prop := HT T n τ ∧ a ≤ n ∧ Tok T n a τ ∧ τ 140 16 = 0
def Dead (v : Nat) (p : Int32) (τ : Mem) : Prop := τ 140 16 = nI v ∧ (1 ≤ v ∧ v ≤ 3) ∧ τ 140 17 = p
def HC (T : Nat → Nat) (n a : Nat) (σ : Mem) : Prop := n ≤ 120 ∧ σ 2 1 = nI n ∧ σ 2 2 = nI a ∧ ∀ i, i < 120 → σ 3 i = nI (T i) ∧ T i < 256
def Fl (v a : Nat) (σ : Mem) : Prop := σ 2 4 = nI a ∧ σ 2 3 = nI v
theorem Dead.ne {v : Nat} {p : Int32} (h : Dead v p τ) : ¬ τ 140 16 = 0 := by
  rw [h.1]
  exact nI_ne0 (by have := h.2.1; omega) (by have := h.2.1; omega)
theorem d_bad {v : Nat} {p w : Int32} (h : Dead v p τ) : f_X5_bad τ w = some τ := by
  unfold f_X5_bad
  rw [if_neg h.ne]
theorem d_must {v : Nat} {p w : Int32} (h : Dead v p τ) : f_X5_must τ w = some τ := by
  unfold f_X5_must
  rw [d_bad h, lm_bd_s, if_neg h.ne]
  split <;> rfl
theorem d_letter {v : Nat} {p w : Int32} (h : Dead v p τ) : f_X5_isLetter τ w = some 0 := by
  unfold f_X5_isLetter
  rw [if_neg h.ne]
theorem d_sort {v : Nat} {p : Int32} (h : Dead v p τ) : f_X5_isSort τ = some 0 := by
  unfold f_X5_isSort
  rw [if_neg h.ne]
theorem d_number {v : Nat} {p lo hi : Int32} (h : Dead v p τ) : f_X5_number τ lo hi = some (lo, τ) := by
  unfold f_X5_number f_X5_number_20 f_X5_number_47
  rw [if_neg h.ne, if_neg h.ne, if_neg h.ne, d_must h, lm_bd_s]
theorem d_sign {v : Nat} {p w : Int32} (h : Dead v p τ) : f_X5_mustSign τ w = some τ := by
  unfold f_X5_mustSign
  rw [d_must h, d_must h, lm_bd_s]
  split
  · split <;> rfl
  · rfl
theorem l_bad {v : Nat} (h : Live T n a τ) (hv : 1 ≤ v ∧ v ≤ 3) : ∃ τ', f_X5_bad τ (nI v) = some τ' ∧ Dead v (nI a) τ' ∧ PF τ τ' := by
  unfold f_X5_bad
  rw [if_pos h.2.2.2, lm_nm_s, lm_nm_s, up_ne (by decide), h.2.2.1.1]
  exact ⟨_, rfl, ⟨by rw [up_ne (by decide), up_eq], hv, up_eq⟩, (PF.up (by omega)).tr (PF.up (by omega))⟩
theorem l_must {e : Nat} (h : Live T n a τ) (h12 : τ 140 12 = nI e) (he : e ≤ n) {w : Int32} (hw : ¬ w = 0) : ∃ τ', f_X5_must τ w = some τ' ∧ Live T n e τ' ∧ PF τ τ' := by
  unfold f_X5_must
  obtain ⟨τ', e1, e2, e3⟩ := tk h.1 he h12
  rw [if_neg hw, if_pos h.2.2.2, e1, lm_bd_s]
  exact ⟨τ', rfl, ⟨h.1.nf e2, he, e3, by rw [e2.2 16 (by omega)]; exact h.2.2.2⟩, PF.nf e2⟩
theorem l_must0 (h : Live T n a τ) : ∃ τ', f_X5_must τ 0 = some τ' ∧ Dead 1 (nI a) τ' ∧ PF τ τ' := by
  unfold f_X5_must
  obtain ⟨τ', e1, e2, e3⟩ := l_bad h (v := 1) (by omega)
  rw [if_pos rfl, show f_X5_bad τ 1 = _ from e1, lm_bd_s, if_neg e2.ne]
  exact ⟨τ', rfl, e2, e3⟩
-- the class
theorem c_here (h : HC T n a σ) (ha : a ≤ n) : f_X3_byteHere σ = some (if a = n then -1 else nI (T a)) := by
  unfold f_X3_byteHere
  obtain ⟨h0, h1, h2, h3⟩ := h
  rw [h1, h2]
  by_cases q : a = n
  · rw [if_pos (nI_le (by omega) (by omega)), if_pos q]
  · rw [if_neg (nI_ge (by omega) (by omega)), lm_in_n (by omega) (by decide), lm_ck_s, nI_clamp (by omega), (h3 a (by omega)).1, if_neg q]
theorem c_fail {v : Nat} (h : HC T n a σ) : ∃ σ', f_X3_failAt σ (σ 2 2) (nI v) = some (0, σ') ∧ Fl v a σ' ∧ QF σ σ' := by
  unfold f_X3_failAt
  rw [lm_nm_s, lm_nm_s, h.2.2.1]
  exact ⟨_, rfl, ⟨by rw [up_ne (by decide), up_eq], up_eq⟩, (QF.up (by omega)).tr (QF.up (by omega))⟩
theorem HC.go {e : Nat} (h : HC T n a σ) : HC T n e (up σ 2 2 (nI e)) := ⟨h.1, by rw [up_ne (by decide)]; exact h.2.1, up_eq, fun i hi => by rw [up_x (by decide)]; exact h.2.2.2 i hi⟩
theorem m1_ne {b : Nat} (hb : b < 2 ^ 31) : ¬ (-1 : Int32) = nI b := by
  intro h
  have := congrArg Int32.toInt h
  rw [nI_toInt hb, show (-1 : Int32).toInt = -1 from rfl] at this
  omega
theorem c_sign {w : Nat} (hw : w < 256) (h : HC T n a σ) (ha : a ≤ n) : ((a < n ∧ T a = w) ∧ ∃ σ', f_X3_readSign σ (nI w) = some (1, σ') ∧ HC T n (a + 1) σ' ∧ QF σ σ') ∨ (¬ (a < n ∧ T a = w) ∧ ∃ σ', f_X3_readSign σ (nI w) = some (0, σ') ∧ Fl 1 a σ' ∧ QF σ σ') := by
  unfold f_X3_readSign
  have hn := h.1
  obtain ⟨σf, f1, f2, f3⟩ := c_fail (v := 1) h
  rw [c_here h ha, lm_bd_s, show f_X3_failAt σ (σ 2 2) 1 = _ from f1, lm_bd2_s, lm_nm_s]
  by_cases q : a = n
  · right
    rw [if_pos q, if_neg (m1_ne (by omega))]
    exact ⟨by omega, σf, rfl, f2, f3⟩
  · rw [if_neg q]
    have hb := (h.2.2.2 a (by omega)).2
    by_cases q2 : T a = w
    · left
      rw [if_pos (by rw [q2]), h.2.2.1, nI_1]
      exact ⟨⟨by omega, q2⟩, _, rfl, h.go, QF.up (by omega)⟩
    · right
      rw [if_neg (fun hh => q2 ((nI_eq (by omega) (by omega)).mp hh))]
      exact ⟨by omega, σf, rfl, f2, f3⟩
theorem rn_step {x1 x2 : Int32} {f e v : Nat} (h : HC T n a σ) (h1 : a ≤ e) (h2 : e < n) (h3 : e - a < 3) (hd : dg (T e)) : f_X3_readNumber_8 (f + 1) x1 x2 (nI v) (nI e) σ = f_X3_readNumber_8 f x1 x2 (nI (10 * v + (T e - 48))) (nI (e + 1)) σ := by
  obtain ⟨g0, g1, g2, g3⟩ := h
  obtain ⟨t1, t2⟩ := g3 e (by omega)
  obtain ⟨d1, d2⟩ := hd
  unfold f_X3_readNumber_8
  rw [g1, g2, if_neg (nI_ge (by omega) (by omega)), lm_in_n (by omega) (by decide), nI_clamp (by omega), t1]
  simp only [lm_ck_s, lm_nm_s]
  rw [if_neg (show ¬ nI (T e) < (48 : Int32) from nI_nlt (b := 48) d1 (by omega)), if_neg (show ¬ (57 : Int32) < nI (T e) from nI_nlt (a := 57) d2 (by decide)), pk_sub h1, if_neg (show ¬ (3 : Int32) ≤ nI (e - a) from nI_ge (b := 3) h3 (by decide)), lit_10, pk_mul, nI_add, show (48 : Int32) = nI 48 from rfl, pk_sub (by omega), nI_1, show v * 10 + T e - 48 = 10 * v + (T e - 48) by omega]
  cases f <;> rfl
theorem rn_stop {x1 x2 x3 : Int32} {f e : Nat} (h : HC T n a σ) (h1 : a ≤ e) (h2 : e ≤ n) (hq : e = n ∨ (e < n ∧ ¬ dg (T e)) ∨ 3 ≤ e - a) : f_X3_readNumber_8 (f + 1) x1 x2 x3 (nI e) σ = f_X3_readNumber_74 x1 x2 x3 (nI e) σ := by
  obtain ⟨g0, g1, g2, g3⟩ := h
  unfold f_X3_readNumber_8
  rw [g1, g2]
  by_cases q : e = n
  · rw [if_pos (nI_le (by omega) (by omega))]
  obtain ⟨t1, t2⟩ := g3 e (by omega)
  rw [if_neg (nI_ge (by omega) (by omega)), lm_in_n (by omega) (by decide), nI_clamp (by omega), t1]
  simp only [lm_ck_s, lm_nm_s]
  by_cases c1 : nI (T e) < (48 : Int32)
  · rw [if_pos c1]
  rw [if_neg c1]
  by_cases c2 : (57 : Int32) < nI (T e)
  · rw [if_pos c2]
  rw [if_neg c2, pk_sub h1]
  have hd : dg (T e) := by
    constructor
    · rcases Nat.lt_or_ge (T e) 48 with h | h
      · exact absurd (nI_lt h (by decide)) c1
      · exact h
    · rcases Nat.lt_or_ge 57 (T e) with h | h
      · exact absurd (nI_lt h (by omega)) c2
      · exact h
  have h3 : 3 ≤ e - a := by
    rcases hq with hq | hq | hq
    · exact absurd hq q
    · exact absurd hd hq.2
    · exact hq
  rw [if_pos (show (3 : Int32) ≤ nI (e - a) from nI_le (a := 3) h3 (by omega))]
theorem c_74 {lo hi v e : Nat} (hv : v < 2 ^ 31) (hlo : lo < 2 ^ 31) (hhi : hi < 2 ^ 31) (h : HC T n a σ) (ha : a < e) (he : e ≤ a + 2) (hen : e ≤ n) : (lo ≤ v ∧ v ≤ hi ∧ f_X3_readNumber_74 (nI lo) (nI hi) (nI v) (nI e) σ = some (nI v, up σ 2 2 (nI e))) ∨ (¬ (lo ≤ v ∧ v ≤ hi) ∧ ∃ σ', f_X3_readNumber_74 (nI lo) (nI hi) (nI v) (nI e) σ = some (-1, σ') ∧ Fl 2 a σ' ∧ QF σ σ') := by
  have hn := h.1
  obtain ⟨σf, f1, f2, f3⟩ := c_fail (v := 2) h
  unfold f_X3_readNumber_74
  rw [show f_X3_failAt σ (σ 2 2) 2 = _ from f1, lm_bd2_s, h.2.2.1, if_neg (fun hh => by rw [nI_eq (by omega) (by omega)] at hh; omega), pk_sub (by omega), if_pos (show nI (e - a) ≤ (2 : Int32) from nI_le (b := 2) (by omega) (by decide)), lm_nm_s]
  by_cases q : lo ≤ v ∧ v ≤ hi
  · left
    rw [w_ok q.1 q.2 hhi, lm_bd_s, if_neg n10]
    exact ⟨q.1, q.2, rfl⟩
  · right
    refine ⟨q, σf, ?_, f2, f3⟩
    rw [w_no, lm_bd_s, if_pos rfl]
    rcases Nat.lt_or_ge v lo with hh | hh
    · exact Or.inl (nI_lt hh hlo)
    · exact Or.inr (nI_lt (by omega) hv)
theorem c_74f {x1 x2 x3 : Int32} {e : Nat} (h : HC T n a σ) (hen : e ≤ n) (hq : e = a ∨ a + 3 ≤ e) : ∃ σ', f_X3_readNumber_74 x1 x2 x3 (nI e) σ = some (-1, σ') ∧ Fl 1 a σ' ∧ QF σ σ' := by
  have hn := h.1
  obtain ⟨σf, f1, f2, f3⟩ := c_fail (v := 1) h
  unfold f_X3_readNumber_74
  rw [show f_X3_failAt σ (σ 2 2) 1 = _ from f1, lm_bd2_s, h.2.2.1]
  rcases hq with hq | hq
  · rw [if_pos (by rw [hq])]
    exact ⟨σf, rfl, f2, f3⟩
  · rw [if_neg (fun hh => by rw [nI_eq (by omega) (by omega)] at hh; omega), pk_sub (by omega), if_neg (show ¬ nI (e - a) ≤ (2 : Int32) from nI_ge (a := 2) (by omega) (by omega))]
    exact ⟨σf, rfl, f2, f3⟩
-- both
theorem p_letter {w : Nat} (hw : 97 ≤ w ∧ w ≤ 122) (hc : HC T n a σ) (hl : Live T n a τ) : (∃ σ' τ', (a < n ∧ T a = w) ∧ f_X3_readSign σ (nI w) = some (1, σ') ∧ f_X5_isLetter τ (nI w) = some 1 ∧ f_X5_must τ 1 = some τ' ∧ HC T n (a + 1) σ' ∧ Live T n (a + 1) τ' ∧ QF σ σ' ∧ PF τ τ') ∨ (∃ σ' τ', ¬ (a < n ∧ T a = w) ∧ f_X3_readSign σ (nI w) = some (0, σ') ∧ f_X5_isLetter τ (nI w) = some 0 ∧ f_X5_must τ 0 = some τ' ∧ Fl 1 a σ' ∧ Dead 1 (nI a) τ' ∧ QF σ σ' ∧ PF τ τ') := by
  obtain ⟨hT, ha, tok, h16⟩ := hl
  have hn := hc.1
  have hL : f_X5_isLetter τ (nI w) = some (if a < n ∧ T a = w then 1 else 0) := by
    unfold f_X5_isLetter
    rw [if_pos h16]
    rcases tok.2 with ⟨c1, c2⟩ | ⟨c1, c2, c3, c4, c5⟩ | ⟨c1, c2, c3, c4, c5, c6⟩ | ⟨c1, c2, c3, c4, c5, c6, c7⟩ | ⟨c1, c2, c3, c4, c5⟩
    · rw [c2, if_neg (by decide), if_neg (by omega)]
    · have hb := (hc.2.2.2 a (by omega)).2
      rw [c5, c3]
      by_cases q : T a = w
      · rw [if_pos (c := 97 ≤ T a ∧ T a ≤ 122) (by omega), if_pos rfl, if_pos (by rw [q]), if_pos ⟨c1, q⟩]
      · rw [if_neg (c := nI (T a) = nI w) (fun hh => q ((nI_eq (by omega) (by omega)).mp hh)), if_neg (c := a < n ∧ T a = w) (by omega)]
        exact ite_self _
    · obtain ⟨d1, d2⟩ := c2
      rw [c6, if_neg (by decide), if_neg (by omega)]
    · obtain ⟨d1, d2⟩ := c2
      rw [c7, if_neg (by decide), if_neg (by omega)]
    · obtain ⟨d1, d2⟩ := c2
      rw [c5, if_neg (by decide), if_neg (by omega)]
  rcases c_sign (w := w) (by omega) hc ha with ⟨q, σ', e1, e2, e3⟩ | ⟨q, σ', e1, e2, e3⟩
  · left
    have h12 : τ 140 12 = nI (a + 1) := by
      rcases tok.2 with ⟨c1, c2⟩ | ⟨c1, c2, c3, c4, c5⟩ | ⟨c1, c2, c3, c4, c5, c6⟩ | ⟨c1, c2, c3, c4, c5, c6, c7⟩ | ⟨c1, c2, c3, c4, c5⟩
      · omega
      · exact c4
      · exact c5
      · have := c2.2; omega
      · have := c2.2; omega
    obtain ⟨τ', f1, f2, f3⟩ := l_must ⟨hT, ha, tok, h16⟩ h12 (by omega) (w := 1) n10
    rw [if_pos q] at hL
    exact ⟨σ', τ', q, e1, hL, f1, e2, f2, e3, f3⟩
  · right
    obtain ⟨τ', f1, f2, f3⟩ := l_must0 ⟨hT, ha, tok, h16⟩
    rw [if_neg q] at hL
    exact ⟨σ', τ', q, e1, hL, f1, e2, f2, e3, f3⟩
theorem p_sign {w : Nat} (hw : w = 44 ∨ w = 59) (hc : HC T n a σ) (hl : Live T n a τ) : (∃ σ' τ', f_X3_readSign σ (nI w) = some (1, σ') ∧ f_X5_mustSign τ (nI w) = some τ' ∧ HC T n (a + 1) σ' ∧ Live T n (a + 1) τ' ∧ QF σ σ' ∧ PF τ τ') ∨ (∃ σ' τ', f_X3_readSign σ (nI w) = some (0, σ') ∧ f_X5_mustSign τ (nI w) = some τ' ∧ Fl 1 a σ' ∧ Dead 1 (nI a) τ' ∧ QF σ σ' ∧ PF τ τ') := by
  have hl0 := hl
  obtain ⟨hT, ha, tok, h16⟩ := hl
  have hn := hc.1
  unfold f_X5_mustSign
  obtain ⟨τf, k1, k2, k3⟩ := l_must0 hl0
  rcases c_sign (w := w) (by omega) hc ha with ⟨q, σ', e1, e2, e3⟩ | ⟨q, σ', e1, e2, e3⟩
  · left
    have hb := (hc.2.2.2 a (by omega)).2
    rcases tok.2 with ⟨c1, c2⟩ | ⟨c1, c2, c3, c4, c5⟩ | ⟨c1, c2, c3, c4, c5, c6⟩ | ⟨c1, c2, c3, c4, c5, c6, c7⟩ | ⟨c1, c2, c3, c4, c5⟩
    · omega
    · obtain ⟨τ', f1, f2, f3⟩ := l_must hl0 c4 (by omega) (w := 1) n10
      rw [c5, if_neg (c := 97 ≤ T a ∧ T a ≤ 122) (by omega), if_pos (c := T a = 44 ∨ T a = 59) (by omega), if_pos rfl, c3, if_pos (by rw [q.2]), f1, lm_bd_s]
      exact ⟨σ', τ', e1, rfl, e2, f2, e3, f3⟩
    · have := c2.1; have := c2.2; omega
    · have := c2.1; have := c2.2; omega
    · have := c2.1; have := c2.2; omega
  · right
    rw [k1, lm_bd_s]
    refine ⟨σ', τf, e1, ?_, e2, k2, e3, k3⟩
    rcases tok.2 with ⟨c1, c2⟩ | ⟨c1, c2, c3, c4, c5⟩ | ⟨c1, c2, c3, c4, c5, c6⟩ | ⟨c1, c2, c3, c4, c5, c6, c7⟩ | ⟨c1, c2, c3, c4, c5⟩
    · rw [c2, if_neg (by decide)]
    · have hb := (hc.2.2.2 a (by omega)).2
      rw [c3, if_neg (c := nI (T a) = nI w) (fun hh => q ⟨c1, (nI_eq (by omega) (by omega)).mp hh⟩)]
      split <;> rfl
    · rw [c6, if_neg (by decide)]
    · rw [c7, if_neg (by decide)]
    · rw [c5, if_neg (by decide)]
theorem p_number {lo hi : Nat} (hlo : lo < 2 ^ 31) (hhi : hi < 2 ^ 31) (hc : HC T n a σ) (hl : Live T n a τ) : (∃ v e σ' τ', lo ≤ v ∧ v ≤ hi ∧ f_X3_readNumber σ (nI lo) (nI hi) = some (nI v, σ') ∧ f_X5_number τ (nI lo) (nI hi) = some (nI v, τ') ∧ HC T n e σ' ∧ Live T n e τ' ∧ QF σ σ' ∧ PF τ τ') ∨ (∃ k σ' τ', f_X3_readNumber σ (nI lo) (nI hi) = some (-1, σ') ∧ f_X5_number τ (nI lo) (nI hi) = some (nI lo, τ') ∧ Fl k a σ' ∧ Dead k (nI a) τ' ∧ QF σ σ' ∧ PF τ τ') := by
  have hl0 := hl
  obtain ⟨hT, ha, tok, h16⟩ := hl
  have hn := hc.1
  unfold f_X3_readNumber
  rw [lm_nm_s, hc.2.2.1]
  -- no number stands here
  have bad1 : ¬ τ 140 14 = 3 → f_X5_number τ (nI lo) (nI hi) = some (nI lo, (up (up τ 140 16 1) 140 17 (nI a))) ∧ Dead 1 (nI a) (up (up τ 140 16 1) 140 17 (nI a)) ∧ PF τ (up (up τ 140 16 1) 140 17 (nI a)) := by
    intro h14
    have D : Dead 1 (nI a) (up (up τ 140 16 1) 140 17 (nI a)) := ⟨by rw [up_ne (by decide), up_eq]; rfl, by omega, up_eq⟩
    refine ⟨?_, D, (PF.up (by omega)).tr (PF.up (by omega))⟩
    unfold f_X5_number f_X5_bad
    rw [if_pos h16, if_neg h14, if_pos h16, lm_nm_s, lm_nm_s, up_ne (x := 140) (j := 13) (by decide), tok.1, lm_bd_s]
    unfold f_X5_number_20 f_X5_number_47
    rw [if_neg D.ne, if_neg D.ne, d_must D, lm_bd_s]
  have good : ∀ v e, v < 2 ^ 31 → τ 140 14 = 3 → τ 140 15 = nI v → τ 140 12 = nI e → e ≤ n → a < e → e ≤ a + 2 → f_X3_readNumber_8 lm_fu (nI lo) (nI hi) 0 (nI a) σ = f_X3_readNumber_74 (nI lo) (nI hi) (nI v) (nI e) σ → (∃ v e σ' τ', lo ≤ v ∧ v ≤ hi ∧ f_X3_readNumber_8 lm_fu (nI lo) (nI hi) 0 (nI a) σ = some (nI v, σ') ∧ f_X5_number τ (nI lo) (nI hi) = some (nI v, τ') ∧ HC T n e σ' ∧ Live T n e τ' ∧ QF σ σ' ∧ PF τ τ') ∨ (∃ k σ' τ', f_X3_readNumber_8 lm_fu (nI lo) (nI hi) 0 (nI a) σ = some (-1, σ') ∧ f_X5_number τ (nI lo) (nI hi) = some (nI lo, τ') ∧ Fl k a σ' ∧ Dead k (nI a) τ' ∧ QF σ σ' ∧ PF τ τ') := by
    intro v e hv h14 h15 h12 hen h1 h2 hcl
    rw [hcl]
    unfold f_X5_number
    rw [if_pos h16, if_pos h14]
    unfold f_X5_number_20
    rw [if_pos h16, h15, inb hv hlo hhi, lm_bd_s]
    rcases c_74 hv hlo hhi hc h1 h2 hen with ⟨q1, q2, q3⟩ | ⟨q, σ', q3, q4, q5⟩
    · left
      obtain ⟨τ', f1, f2, f3⟩ := l_must hl0 h12 hen (w := 1) n10
      rw [if_pos (c := lo ≤ v ∧ v ≤ hi) ⟨q1, q2⟩, if_neg n10]
      unfold f_X5_number_47
      rw [if_pos h16, lm_nm_s, f1, lm_bd_s, h15]
      exact ⟨v, e, _, τ', q1, q2, q3, rfl, hc.go, f2, QF.up (by omega), f3⟩
    · right
      obtain ⟨τ', f1, f2, f3⟩ := l_bad hl0 (v := 2) (by omega)
      rw [if_neg (c := lo ≤ v ∧ v ≤ hi) q, if_pos rfl, show f_X5_bad τ 2 = _ from f1, lm_bd_s]
      unfold f_X5_number_47
      rw [if_neg f2.ne, d_must f2, lm_bd_s]
      exact ⟨2, σ', τ', q3, rfl, q4, f2, q5, f3⟩
  have fail1 : ¬ τ 140 14 = 3 → ∀ e (x3 : Int32), e ≤ n → (e = a ∨ a + 3 ≤ e) → f_X3_readNumber_8 lm_fu (nI lo) (nI hi) 0 (nI a) σ = f_X3_readNumber_74 (nI lo) (nI hi) x3 (nI e) σ → (∃ k σ' τ', f_X3_readNumber_8 lm_fu (nI lo) (nI hi) 0 (nI a) σ = some (-1, σ') ∧ f_X5_number τ (nI lo) (nI hi) = some (nI lo, τ') ∧ Fl k a σ' ∧ Dead k (nI a) τ' ∧ QF σ σ' ∧ PF τ τ') := by
    intro h14 e x3 hen hq hcl
    obtain ⟨b1, b2, b3⟩ := bad1 h14
    obtain ⟨σ', f1, f2, f3⟩ := c_74f (x1 := nI lo) (x2 := nI hi) (x3 := x3) hc hen hq
    exact ⟨1, σ', _, hcl.trans f1, b1, f2, b2, f3, b3⟩
  rcases tok.2 with ⟨c1, c2⟩ | ⟨c1, c2, c3, c4, c5⟩ | ⟨c1, c2, c3, c4, c5, c6⟩ | ⟨c1, c2, c3, c4, c5, c6, c7⟩ | ⟨c1, c2, c3, c4, c5⟩
  · exact Or.inr (fail1 (by rw [c2]; decide) a 0 ha (Or.inl rfl) (rn_stop (f := 999) hc (Nat.le_refl _) ha (Or.inl c1)))
  · refine Or.inr (fail1 ?_ a 0 ha (Or.inl rfl) (rn_stop (f := 999) hc (Nat.le_refl _) ha (Or.inr (Or.inl ⟨c1, c2⟩))))
    rw [c5]
    split
    · decide
    · split <;> decide
  · have b1 := (hc.2.2.2 a (by omega)).2
    refine good (T a - 48) (a + 1) (by omega) c6 c4 c5 (by omega) (by omega) (by omega) ?_
    have s1 := rn_step (x1 := nI lo) (x2 := nI hi) (f := 999) (e := a) (v := 0) hc (Nat.le_refl _) c1 (by omega) c2
    have s2 := rn_stop (x1 := nI lo) (x2 := nI hi) (x3 := nI (10 * 0 + (T a - 48))) (f := 998) (e := a + 1) hc (by omega) (by omega) (by
      by_cases q : a + 1 = n
      · exact Or.inl q
      · exact Or.inr (Or.inl ⟨by omega, c3 (by omega)⟩))
    rw [Nat.mul_zero, Nat.zero_add] at s1 s2
    exact s1.trans s2
  · have b1 := (hc.2.2.2 a (by omega)).2
    have b2 := (hc.2.2.2 (a + 1) (by omega)).2
    refine good (10 * (T a - 48) + (T (a + 1) - 48)) (a + 2) (by omega) c7 c5 c6 (by omega) (by omega) (by omega) ?_
    have s1 := rn_step (x1 := nI lo) (x2 := nI hi) (f := 999) (e := a) (v := 0) hc (Nat.le_refl _) (by omega) (by omega) c2
    have s2 := rn_step (x1 := nI lo) (x2 := nI hi) (f := 998) (e := a + 1) (v := 10 * 0 + (T a - 48)) hc (by omega) c1 (by omega) c3
    have s3 := rn_stop (x1 := nI lo) (x2 := nI hi) (x3 := nI (10 * (10 * 0 + (T a - 48)) + (T (a + 1) - 48))) (f := 997) (e := a + 1 + 1) hc (by omega) (by omega) (by
      by_cases q : a + 2 = n
      · exact Or.inl q
      · exact Or.inr (Or.inl ⟨by omega, c4 (by omega)⟩))
    rw [Nat.mul_zero, Nat.zero_add] at s1 s2 s3
    exact s1.trans (s2.trans s3)
  · have b1 := (hc.2.2.2 a (by omega)).2
    have s1 := rn_step (x1 := nI lo) (x2 := nI hi) (f := 999) (e := a) (v := 0) hc (Nat.le_refl _) (by omega) (by omega) c2
    have s2 := rn_step (x1 := nI lo) (x2 := nI hi) (f := 998) (e := a + 1) (v := 10 * 0 + (T a - 48)) hc (by omega) (by omega) (by omega) c3
    have s3 := rn_step (x1 := nI lo) (x2 := nI hi) (f := 997) (e := a + 1 + 1) (v := 10 * (10 * 0 + (T a - 48)) + (T (a + 1) - 48)) hc (by omega) (by omega) (by omega) c4
    have s4 := rn_stop (x1 := nI lo) (x2 := nI hi) (x3 := nI (10 * (10 * (10 * 0 + (T a - 48)) + (T (a + 1) - 48)) + (T (a + 1 + 1) - 48))) (f := 996) (e := a + 1 + 1 + 1) hc (by omega) (by omega) (Or.inr (Or.inr (by omega)))
    exact Or.inr (fail1 (by rw [c5]; decide) (a + 1 + 1 + 1) _ (by omega) (Or.inr (by omega)) (s1.trans (s2.trans (s3.trans s4))))
end TPB
