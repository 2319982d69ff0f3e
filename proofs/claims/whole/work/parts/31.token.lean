/-! THE TAPE -/
section TPA
variable {σ τ σ' τ' : Mem} {T : Nat → Nat} {n a : Nat}
def dg (b : Nat) : Prop := 48 ≤ b ∧ b ≤ 57
def NF (τ τ' : Mem) : Prop := (∀ x, x ≠ 140 → τ' x = τ x) ∧ ∀ k, (k < 12 ∨ 16 ≤ k) → τ' 140 k = τ 140 k
theorem NF.rf : NF τ τ := ⟨fun _ _ => rfl, fun _ _ => rfl⟩
theorem NF.tr {τ2 : Mem} (h : NF τ τ') (h2 : NF τ' τ2) : NF τ τ2 := ⟨fun x hx => (h2.1 x hx).trans (h.1 x hx), fun k hk => (h2.2 k hk).trans (h.2 k hk)⟩
theorem NF.up {k : Nat} {v : Int32} (hk : 12 ≤ k ∧ k < 16) : NF τ (up τ 140 k v) := ⟨fun x hx => up_x hx, fun j hj => up_ne (by omega)⟩
def Tok (T : Nat → Nat) (n a : Nat) (τ : Mem) : Prop := τ 140 13 = nI a ∧
  ((a = n ∧ τ 140 14 = 1) ∨
   (a < n ∧ ¬ dg (T a) ∧ τ 140 15 = nI (T a) ∧ τ 140 12 = nI (a + 1) ∧ τ 140 14 = (if 97 ≤ T a ∧ T a ≤ 122 then 2 else if T a = 44 ∨ T a = 59 then 4 else 0)) ∨
   (a < n ∧ dg (T a) ∧ (a + 1 < n → ¬ dg (T (a + 1))) ∧ τ 140 15 = nI (T a - 48) ∧ τ 140 12 = nI (a + 1) ∧ τ 140 14 = 3) ∨
   (a + 1 < n ∧ dg (T a) ∧ dg (T (a + 1)) ∧ (a + 2 < n → ¬ dg (T (a + 2))) ∧ τ 140 15 = nI (10 * (T a - 48) + (T (a + 1) - 48)) ∧ τ 140 12 = nI (a + 2) ∧ τ 140 14 = 3) ∨
   (a + 2 < n ∧ dg (T a) ∧ dg (T (a + 1)) ∧ dg (T (a + 2)) ∧ τ 140 14 = 0))
theorem inb {b lo hi : Nat} (hb : b < 2 ^ 31) (hlo : lo < 2 ^ 31) (hhi : hi < 2 ^ 31) : f_X5_in (nI b).toInt64 (nI lo).toInt64 (nI hi).toInt64 = some (if lo ≤ b ∧ b ≤ hi then 1 else 0) := by
  rw [m_in32]
  by_cases q : lo ≤ b
  · rw [if_neg (nI_nlt q hb)]
    by_cases q2 : b ≤ hi
    · rw [if_neg (nI_nlt q2 hhi), if_pos ⟨q, q2⟩]
    · rw [if_pos (nI_lt (by omega) hb), if_neg (by omega)]
  · rw [if_pos (nI_lt (by omega) hlo), if_neg (by omega)]
def HT (T : Nat → Nat) (n : Nat) (τ : Mem) : Prop := n ≤ 120 ∧ τ 140 11 = nI n ∧ ∀ i, i < 120 → τ 148 i = nI (T i) ∧ T i < 256
theorem HT.nf (h : HT T n τ) (hf : NF τ τ') : HT T n τ' := ⟨h.1, by rw [hf.2 11 (by omega)]; exact h.2.1, fun i hi => by rw [hf.1 148 (by decide)]; exact h.2.2 i hi⟩
/-- three digits and more: no word -/
theorem tk_long (a : Nat) : ∀ (f e : Nat) (τ : Mem), HT T n τ → τ 140 13 = nI a → τ 140 12 = nI e → a + 3 ≤ e → e ≤ n → n - e < f → ∃ τ', f_X5_nextToken_165 f τ = some τ' ∧ NF τ τ' ∧ τ' 140 13 = nI a ∧ τ' 140 14 = 0
  | 0, e, τ, h, h13, h12, h1, h2, h3 => by omega
  | f + 1, e, τ, h, h13, h12, h1, h2, h3 => by
    have hn := h.1
    unfold f_X5_nextToken_165
    have fin : ∃ τ', f_X5_nextToken_255 τ = some τ' ∧ NF τ τ' ∧ τ' 140 13 = nI a ∧ τ' 140 14 = 0 := by
      unfold f_X5_nextToken_255
      rw [h12, h13, pk_sub (by omega), if_neg (show ¬ nI (e - a) ≤ (2 : Int32) from nI_ge (a := 2) (by omega) (by omega)), lm_nm_s]
      exact ⟨_, rfl, NF.up (by omega), by rw [up_ne (by decide)]; exact h13, up_eq⟩
    rw [h12, h.2.1]
    by_cases q : e = n
    · rw [if_pos (nI_le (by omega) (by omega))]
      exact fin
    · obtain ⟨t1, t2⟩ := h.2.2 e (by omega)
      rw [if_neg (nI_ge (by omega) (by omega)), lm_in_n (by omega) (by decide), lm_ck_s, lm_ck_s, nI_clamp (by omega), t1, show f_X5_in (nI (T e)).toInt64 48 57 = _ from inb (lo := 48) (hi := 57) (by omega) (by decide) (by decide), lm_bd_s]
      by_cases q2 : 48 ≤ T e ∧ T e ≤ 57
      · rw [if_pos q2, if_neg n10, h13, pk_sub (by omega), if_pos (show (2 : Int32) ≤ nI (e - a) from nI_le (a := 2) (by omega) (by omega)), lm_nm_s, lm_nm_s, up_ne (by decide), h12, nI_1]
        have F : NF τ (up (up τ 140 15 (τ 140 15)) 140 12 (nI (e + 1))) := (NF.up (by omega)).tr (NF.up (by omega))
        obtain ⟨τ', e1, e2, e3, e4⟩ := tk_long a f (e + 1) _ (h.nf F) (by rw [up_ne (by decide), up_ne (by decide)]; exact h13) up_eq (by omega) (by omega) (by omega)
        exact ⟨τ', e1, F.tr e2, e3, e4⟩
      · rw [if_neg q2, if_pos rfl]
        exact fin
theorem tk_num (h : HT T n τ) (ha : a < n) (hd : dg (T a)) (h13 : τ 140 13 = nI a) (h12 : τ 140 12 = nI (a + 1)) (h15 : τ 140 15 = nI (T a - 48)) : ∃ τ', f_X5_nextToken_165 lm_fu τ = some τ' ∧ NF τ τ' ∧ Tok T n a τ' := by
  have hn := h.1
  obtain ⟨d1, d2⟩ := hd
  rw [fu_1]
  unfold f_X5_nextToken_165
  have fin1 : (a + 1 < n → ¬ dg (T (a + 1))) → ∃ τ', f_X5_nextToken_255 τ = some τ' ∧ NF τ τ' ∧ Tok T n a τ' := by
    intro hq
    unfold f_X5_nextToken_255
    rw [h12, h13, pk_sub (by omega), if_pos (show nI (a + 1 - a) ≤ (2 : Int32) from nI_le (b := 2) (by omega) (by decide)), lm_nm_s]
    refine ⟨_, rfl, NF.up (by omega), by rw [up_ne (by decide)]; exact h13, Or.inr (Or.inr (Or.inl ⟨ha, ⟨d1, d2⟩, hq, by rw [up_ne (by decide)]; exact h15, by rw [up_ne (by decide)]; exact h12, up_eq⟩))⟩
  rw [h12, h.2.1]
  by_cases q : a + 1 = n
  · rw [if_pos (nI_le (by omega) (by omega))]
    exact fin1 (fun hh => by omega)
  obtain ⟨t1, t2⟩ := h.2.2 (a + 1) (by omega)
  rw [if_neg (nI_ge (by omega) (by omega)), lm_in_n (by omega) (by decide), lm_ck_s, lm_ck_s, nI_clamp (by omega), t1, show f_X5_in (nI (T (a + 1))).toInt64 48 57 = _ from inb (lo := 48) (hi := 57) (by omega) (by decide) (by decide), lm_bd_s]
  by_cases q2 : 48 ≤ T (a + 1) ∧ T (a + 1) ≤ 57
  · rw [if_pos q2, if_neg n10, h13, pk_sub (by omega), if_neg (show ¬ (2 : Int32) ≤ nI (a + 1 - a) from nI_ge (b := 2) (by omega) (by decide)), lm_nm_s, lm_nm_s, up_ne (by decide), h12, nI_1, h15, lit_10, pk_mul, nI_add, show (48 : Int32) = nI 48 from rfl, pk_sub (by omega)]
    have ev : 10 * (T a - 48) + T (a + 1) - 48 = 10 * (T a - 48) + (T (a + 1) - 48) := by omega
    rw [ev]
    have F : NF τ (up (up τ 140 15 (nI (10 * (T a - 48) + (T (a + 1) - 48)))) 140 12 (nI (a + 1 + 1))) := (NF.up (by omega)).tr (NF.up (by omega))
    have g12 : up (up τ 140 15 (nI (10 * (T a - 48) + (T (a + 1) - 48)))) 140 12 (nI (a + 1 + 1)) 140 12 = nI (a + 2) := up_eq
    have g13 : up (up τ 140 15 (nI (10 * (T a - 48) + (T (a + 1) - 48)))) 140 12 (nI (a + 1 + 1)) 140 13 = nI a := by rw [up_ne (by decide), up_ne (by decide)]; exact h13
    have g15 : up (up τ 140 15 (nI (10 * (T a - 48) + (T (a + 1) - 48)))) 140 12 (nI (a + 1 + 1)) 140 15 = nI (10 * (T a - 48) + (T (a + 1) - 48)) := by rw [up_ne (by decide), up_eq]
    have h' := h.nf F
    revert F g12 g13 g15 h'
    generalize up (up τ 140 15 (nI (10 * (T a - 48) + (T (a + 1) - 48)))) 140 12 (nI (a + 1 + 1)) = τ2
    intro F g12 g13 g15 h'
    show ∃ τ', f_X5_nextToken_165 (998 + 1) τ2 = some τ' ∧ _
    unfold f_X5_nextToken_165
    have fin2 : (a + 2 < n → ¬ dg (T (a + 2))) → ∃ τ', f_X5_nextToken_255 τ2 = some τ' ∧ NF τ τ' ∧ Tok T n a τ' := by
      intro hq
      unfold f_X5_nextToken_255
      rw [g12, g13, pk_sub (by omega), if_pos (show nI (a + 2 - a) ≤ (2 : Int32) from nI_le (b := 2) (by omega) (by decide)), lm_nm_s]
      refine ⟨_, rfl, F.tr (NF.up (by omega)), by rw [up_ne (by decide)]; exact g13, Or.inr (Or.inr (Or.inr (Or.inl ⟨by omega, ⟨d1, d2⟩, q2, hq, by rw [up_ne (by decide)]; exact g15, by rw [up_ne (by decide)]; exact g12, up_eq⟩)))⟩
    rw [g12, h'.2.1]
    by_cases q3 : a + 2 = n
    · rw [if_pos (nI_le (by omega) (by omega))]
      exact fin2 (fun hh => by omega)
    obtain ⟨t3, t4⟩ := h'.2.2 (a + 2) (by omega)
    rw [if_neg (nI_ge (by omega) (by omega)), lm_in_n (by omega) (by decide), lm_ck_s, lm_ck_s, nI_clamp (by omega), t3, show f_X5_in (nI (T (a + 2))).toInt64 48 57 = _ from inb (lo := 48) (hi := 57) (by omega) (by decide) (by decide), lm_bd_s]
    by_cases q4 : 48 ≤ T (a + 2) ∧ T (a + 2) ≤ 57
    · rw [if_pos q4, if_neg n10, g13, pk_sub (by omega), if_pos (show (2 : Int32) ≤ nI (a + 2 - a) from nI_le (a := 2) (by omega) (by omega)), lm_nm_s, lm_nm_s, up_ne (by decide), g12, nI_1]
      have F2 : NF τ2 (up (up τ2 140 15 (τ2 140 15)) 140 12 (nI (a + 2 + 1))) := (NF.up (by omega)).tr (NF.up (by omega))
      obtain ⟨τ', e1, e2, e3, e4⟩ := tk_long a 998 (a + 2 + 1) _ (h'.nf F2) (by rw [up_ne (by decide), up_ne (by decide)]; exact g13) up_eq (by omega) (by omega) (by omega)
      exact ⟨τ', e1, F.tr (F2.tr e2), e3, Or.inr (Or.inr (Or.inr (Or.inr ⟨by omega, ⟨d1, d2⟩, q2, q4, e4⟩)))⟩
    · rw [if_neg q4, if_pos rfl]
      exact fin2 (fun _ hd => q4 hd)
  · rw [if_neg q2, if_pos rfl]
    exact fin1 (fun _ hd => q2 hd)
theorem tk (h : HT T n τ) (ha : a ≤ n) (h12 : τ 140 12 = nI a) : ∃ τ', f_X5_nextToken τ = some τ' ∧ NF τ τ' ∧ Tok T n a τ' := by
  have hn := h.1
  unfold f_X5_nextToken
  rw [lm_nm_s, h12]
  have F : NF τ (up τ 140 13 (nI a)) := NF.up (by omega)
  have g12 : up τ 140 13 (nI a) 140 12 = nI a := by rw [up_ne (by decide)]; exact h12
  have g13 : up τ 140 13 (nI a) 140 13 = nI a := up_eq
  have h' := h.nf F
  revert F g12 g13 h'
  generalize up τ 140 13 (nI a) = τ1
  intro F g12 g13 h'
  rw [h'.2.1, g12]
  have T118 : ∀ (y0 : Int32) (τ2 : Mem), HT T n τ2 → τ2 140 12 = nI a → f_X5_nextToken_118 y0 τ2 = if y0 = (3 : Int32) then f_X5_nextToken_165 lm_fu (up (up (up τ2 140 14 y0) 140 12 (nI (if a = n then a else a + 1))) 140 15 (τ2 140 15 - 48)) else some (up (up τ2 140 14 y0) 140 12 (nI (if a = n then a else a + 1))) := by
    intro y0 τ2 k1 k2
    unfold f_X5_nextToken_118
    rw [lm_nm_s, up_ne (x := 140) (j := 11) (by decide), up_ne (x := 140) (j := 12) (by decide), k1.2.1, k2]
    unfold f_X5_nextToken_142
    by_cases q : a = n
    · rw [if_pos (nI_le (by omega) (by omega)), lm_nm_s, lm_nm_s, up_ne (x := 140) (j := 14) (k := 12) (by decide), up_eq, up_ne (x := 140) (j := 15) (k := 12) (by decide), up_ne (x := 140) (j := 15) (k := 14) (by decide), Int32.add_zero, if_pos q]
    · rw [if_neg (nI_ge (by omega) (by omega)), lm_nm_s, lm_nm_s, up_ne (x := 140) (j := 14) (k := 12) (by decide), up_eq, up_ne (x := 140) (j := 15) (k := 12) (by decide), up_ne (x := 140) (j := 15) (k := 14) (by decide), nI_1, if_neg q]
  by_cases q : a = n
  · rw [if_pos (nI_le (by omega) (by omega))]
    unfold f_X5_nextToken_34
    have F2 : NF τ1 (up τ1 140 15 (-1000000)) := NF.up (by omega)
    rw [lm_nm_s, up_ne (x := 140) (j := 12) (by decide), up_ne (x := 140) (j := 11) (by decide), g12, h'.2.1, if_pos (by rw [q]), T118 1 _ (h'.nf F2) (by rw [up_ne (by decide)]; exact g12), if_neg (by decide)]
    refine ⟨_, rfl, F.tr (F2.tr ((NF.up (by omega)).tr (NF.up (by omega)))), ?_, Or.inl ⟨q, ?_⟩⟩
    · rw [up_ne (by decide), up_ne (by decide), up_ne (by decide)]; exact g13
    · rw [up_ne (by decide), up_eq]
  · obtain ⟨t1, t2⟩ := h'.2.2 a (by omega)
    rw [if_neg (nI_ge (by omega) (by omega)), lm_in_n (by omega) (by decide), lm_ck_s, nI_clamp (by omega), t1]
    unfold f_X5_nextToken_34
    have F2 : NF τ1 (up τ1 140 15 (nI (T a))) := NF.up (by omega)
    have k12 : up τ1 140 15 (nI (T a)) 140 12 = nI a := by rw [up_ne (by decide)]; exact g12
    have k13 : up τ1 140 15 (nI (T a)) 140 13 = nI a := by rw [up_ne (by decide)]; exact g13
    have k15 : up τ1 140 15 (nI (T a)) 140 15 = nI (T a) := up_eq
    have h2 := h'.nf F2
    rw [lm_nm_s]
    revert F2 k12 k13 k15 h2
    generalize up τ1 140 15 (nI (T a)) = τ2
    intro F2 k12 k13 k15 h2
    rw [k12, h2.2.1, k15, if_neg (by rw [nI_eq (by omega) (by omega)]; exact q), show f_X5_in (nI (T a)).toInt64 97 122 = _ from inb (lo := 97) (hi := 122) (by omega) (by decide) (by decide), show f_X5_in (nI (T a)).toInt64 48 57 = _ from inb (lo := 48) (hi := 57) (by omega) (by decide) (by decide), lm_bd_s, lm_bd_s]
    have one : ∀ y0 : Int32, ¬ dg (T a) → y0 = (if 97 ≤ T a ∧ T a ≤ 122 then 2 else if T a = 44 ∨ T a = 59 then 4 else 0) → ¬ y0 = 3 → ∃ τ', f_X5_nextToken_118 y0 τ2 = some τ' ∧ NF τ τ' ∧ Tok T n a τ' := by
      intro y0 hd hy h3
      rw [T118 y0 τ2 h2 k12, if_neg h3, if_neg q]
      refine ⟨_, rfl, F.tr (F2.tr ((NF.up (by omega)).tr (NF.up (by omega)))), ?_, Or.inr (Or.inl ⟨by omega, hd, ?_, up_eq, ?_⟩)⟩
      · rw [up_ne (by decide), up_ne (by decide)]; exact k13
      · rw [up_ne (by decide), up_ne (by decide)]; exact k15
      · rw [up_ne (by decide), up_eq]; exact hy
    by_cases q1 : 97 ≤ T a ∧ T a ≤ 122
    · rw [if_pos q1, if_neg n10]
      exact one 2 (fun hd => by have := hd.2; omega) (by rw [if_pos q1]) (by decide)
    · rw [if_neg q1, if_pos rfl]
      by_cases q2 : 48 ≤ T a ∧ T a ≤ 57
      · rw [if_pos q2, if_neg n10, T118 3 τ2 h2 k12, if_pos rfl, if_neg q, k15, show (48 : Int32) = nI 48 from rfl, pk_sub (by omega)]
        have F3 : NF τ2 (up (up (up τ2 140 14 3) 140 12 (nI (a + 1))) 140 15 (nI (T a - 48))) := ((NF.up (by omega)).tr (NF.up (by omega))).tr (NF.up (by omega))
        obtain ⟨τ', e1, e2, e3⟩ := tk_num (h2.nf F3) (by omega) q2 (by rw [up_ne (by decide), up_ne (by decide), up_ne (by decide)]; exact k13) (by rw [up_ne (by decide), up_eq]) up_eq
        exact ⟨τ', e1, F.tr (F2.tr (F3.tr e2)), e3⟩
      · rw [if_neg q2, if_pos rfl]
        by_cases q3 : T a = 44
        · rw [if_pos (show nI (T a) = 44 by rw [q3]; rfl)]
          exact one 4 (fun hd => q2 hd) (by rw [if_neg q1, if_pos (Or.inl q3)]) (by decide)
        · rw [if_neg (show ¬ nI (T a) = 44 from fun hh => q3 ((nI_eq (b := 44) (by omega) (by decide)).mp hh))]
          by_cases q4 : T a = 59
          · rw [if_pos (show nI (T a) = 59 by rw [q4]; rfl)]
            exact one 4 (fun hd => q2 hd) (by rw [if_neg q1, if_pos (Or.inr q4)]) (by decide)
          · rw [if_neg (show ¬ nI (T a) = 59 from fun hh => q4 ((nI_eq (b := 59) (by omega) (by decide)).mp hh))]
            exact one 0 (fun hd => q2 hd) (by rw [if_neg q1, if_neg (by omega)]) (by decide)
end TPA
