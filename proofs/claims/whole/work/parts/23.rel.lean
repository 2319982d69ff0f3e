/-! THE RELATION between the class's memory and the reference's. -/
def RRow (σ τ : Mem) : Prop := ∀ r, r < 8 → ((σ (116 + 2 * r) 1 = 1 ∧ τ 141 r = -1) ∨ (σ (116 + 2 * r) 1 = 0 ∧ ∃ ln, ln < 3 ∧ σ (116 + 2 * r) 2 = nI ln ∧ τ 141 r = nI ln)) ∧ (∃ m, m ≤ 40 ∧ σ (116 + 2 * r) 3 = nI m ∧ τ 142 r = nI m) ∧ ∀ i, i < 40 → σ (116 + 2 * r + 1) i = τ 143 (40 * r + i)
def RTape (σ τ : Mem) : Prop := ∃ n, n ≤ 120 ∧ σ 2 1 = nI n ∧ τ 140 11 = nI n ∧ ∀ i, i < 120 → σ 3 i = τ 148 i ∧ ∃ b, b < 256 ∧ τ 148 i = nI b
def RTrace (σ τ : Mem) : Prop := ∃ n, n ≤ 16 ∧ σ 0 8 = nI n ∧ τ 140 26 = nI n ∧ ∀ i, i < n → σ 115 i = τ 152 i
def RLight (σ τ : Mem) : Prop := ∃ L, LC σ 4 L ∧ LM τ 144 L ∧ ((∀ k, L k = 0) ∨ (Ok L ∧ L 5 ≤ 999))
def RActs (σ τ : Mem) : Prop := ∃ (nx kp : Nat) (Hs : Nat → Nat → Nat), nx < 24 ∧ kp ≤ 24 ∧ σ 16 1 = nI nx ∧ σ 16 2 = nI kp ∧ τ 140 9 = nI kp ∧ ∀ i, i < kp → Ok (Hs i) ∧ Hs i 5 ≤ 999 ∧ LC σ (18 + 4 * ((nx + 23 - i) % 24)) (Hs i) ∧ ∀ k, k < 24 → τ 147 (24 * (kp - 1 - i) + k) = nI (Hs i k)
def RImg (σ τ : Mem) : Prop := ∀ j, j < 2 → (σ (132 + 4 * j) 7 = 0 ∧ τ 150 j = 0) ∨ (τ 150 j = 1 ∧ ∃ L, Ok L ∧ L 5 ≤ 999 ∧ LC σ (132 + 4 * j) L ∧ ∀ k, k < 24 → τ 151 (24 * j + k) = nI (L k))
def Rel (σ τ : Mem) : Prop := RRow σ τ ∧ RTape σ τ ∧ RTrace σ τ ∧ RLight σ τ ∧ RActs σ τ ∧ RImg σ τ ∧ σ 0 9 = τ 140 18 ∧ σ 0 10 = τ 140 1
section REL
variable {σ τ σ' τ' : Mem}
theorem RRow.co (h : RRow σ τ) (hs : ∀ x, 116 ≤ x → x < 132 → σ' x = σ x) (h1 : τ' 141 = τ 141) (h2 : τ' 142 = τ 142) (h3 : τ' 143 = τ 143) : RRow σ' τ' := by
  intro r hr
  have e0 : σ' (116 + 2 * r) = σ (116 + 2 * r) := hs _ (by omega) (by omega)
  have e1 : σ' (116 + 2 * r + 1) = σ (116 + 2 * r + 1) := hs _ (by omega) (by omega)
  rw [e0, e1, h1, h2, h3]
  exact h r hr
theorem RTape.co (h : RTape σ τ) (h1 : σ' 2 1 = σ 2 1) (h2 : σ' 3 = σ 3) (h3 : τ' 140 11 = τ 140 11) (h4 : τ' 148 = τ 148) : RTape σ' τ' := by
  unfold RTape
  rw [h1, h2, h3, h4]
  exact h
theorem RTrace.co (h : RTrace σ τ) (h1 : σ' 0 8 = σ 0 8) (h2 : σ' 115 = σ 115) (h3 : τ' 140 26 = τ 140 26) (h4 : τ' 152 = τ 152) : RTrace σ' τ' := by
  unfold RTrace
  rw [h1, h2, h3, h4]
  exact h
theorem LC.co {c : Nat} {L : Nat → Nat} (h : LC σ c L) (hs : ∀ x, c ≤ x → x < c + 4 → σ' x = σ x) : LC σ' c L := by
  have e0 : σ' c = σ c := hs _ (by omega) (by omega)
  have e1 : σ' (c + 1) = σ (c + 1) := hs _ (by omega) (by omega)
  have e2 : σ' (c + 2) = σ (c + 2) := hs _ (by omega) (by omega)
  have e3 : σ' (c + 3) = σ (c + 3) := hs _ (by omega) (by omega)
  unfold LC at h ⊢
  rw [e0, e1, e2, e3]
  exact h
theorem RLight.co (h : RLight σ τ) (hs : ∀ x, 4 ≤ x → x < 8 → σ' x = σ x) (h1 : τ' 144 = τ 144) : RLight σ' τ' := by
  obtain ⟨L, g1, g2, g3⟩ := h
  exact ⟨L, g1.co hs, fun k hk => by rw [h1]; exact g2 k hk, g3⟩
theorem RActs.co (h : RActs σ τ) (hs : ∀ x, 16 ≤ x → x < 114 → σ' x = σ x) (h1 : τ' 140 9 = τ 140 9) (h2 : τ' 147 = τ 147) : RActs σ' τ' := by
  obtain ⟨nx, kp, Hs, g1, g2, g3, g4, g5, g6⟩ := h
  have e0 : σ' 16 = σ 16 := hs _ (by omega) (by omega)
  refine ⟨nx, kp, Hs, g1, g2, by rw [e0]; exact g3, by rw [e0]; exact g4, by rw [h1]; exact g5, fun i hi => ?_⟩
  obtain ⟨a1, a2, a3, a4⟩ := g6 i hi
  exact ⟨a1, a2, a3.co (fun x hx hx2 => hs x (by omega) (by omega)), by rw [h2]; exact a4⟩
theorem RImg.co (h : RImg σ τ) (hs : ∀ x, 132 ≤ x → x < 140 → σ' x = σ x) (h1 : τ' 150 = τ 150) (h2 : τ' 151 = τ 151) : RImg σ' τ' := by
  intro j hj
  have e0 : σ' (132 + 4 * j) = σ (132 + 4 * j) := hs _ (by omega) (by omega)
  rw [e0, h1, h2]
  rcases h j hj with g | ⟨g1, L, g2, g3, g4, g5⟩
  · exact Or.inl g
  · exact Or.inr ⟨g1, L, g2, g3, g4.co (fun x hx hx2 => hs x (by omega) (by omega)), g5⟩
/-- only what is played on has changed -/
def SameC (σ σ' : Mem) : Prop := ∀ x, x < 8 ∨ 16 ≤ x → σ' x = σ x
def SameM (τ τ' : Mem) : Prop := (∀ x, x ≠ 140 → x ≠ 145 → x ≠ 146 → x ≠ 149 → τ' x = τ x) ∧ τ' 140 1 = τ 140 1 ∧ τ' 140 9 = τ 140 9 ∧ τ' 140 11 = τ 140 11 ∧ τ' 140 18 = τ 140 18 ∧ τ' 140 26 = τ 140 26
theorem SameC.rf : SameC σ σ := fun _ _ => rfl
theorem SameC.tr {σ2 : Mem} (h : SameC σ σ') (h2 : SameC σ' σ2) : SameC σ σ2 := fun x hx => (h2 x hx).trans (h x hx)
theorem SameC.f8 (h : Fr 8 σ σ') : SameC σ σ' := fun x hx => h x (by omega)
theorem SameC.f12 (h : Fr 12 σ σ') : SameC σ σ' := fun x hx => h x (by omega)
theorem SameM.rf : SameM τ τ := ⟨fun _ _ _ _ _ => rfl, rfl, rfl, rfl, rfl, rfl⟩
theorem SameM.tr {τ2 : Mem} (h : SameM τ τ') (h2 : SameM τ' τ2) : SameM τ τ2 := by
  obtain ⟨a1, a2, a3, a4, a5, a6⟩ := h
  obtain ⟨b1, b2, b3, b4, b5, b6⟩ := h2
  exact ⟨fun x h1 h2 h3 h4 => (b1 x h1 h2 h3 h4).trans (a1 x h1 h2 h3 h4), b2.trans a2, b3.trans a3, b4.trans a4, b5.trans a5, b6.trans a6⟩
theorem SameM.f146 (h : FrM 146 τ τ') : SameM τ τ' := by
  have e : τ' 140 = τ 140 := h 140 (by decide)
  exact ⟨fun x _ _ h3 _ => h x h3, by rw [e], by rw [e], by rw [e], by rw [e], by rw [e]⟩
theorem SameM.f149 (h : FrM 149 τ τ') : SameM τ τ' := by
  have e : τ' 140 = τ 140 := h 140 (by decide)
  exact ⟨fun x _ _ _ h4 => h x h4, by rw [e], by rw [e], by rw [e], by rw [e], by rw [e]⟩
theorem SameM.up {k : Nat} {v : Int32} (hk : k ≠ 1 ∧ k ≠ 9 ∧ k ≠ 11 ∧ k ≠ 18 ∧ k ≠ 26) : SameM τ (up τ 140 k v) :=
  ⟨fun x h1 _ _ _ => up_x h1, up_ne (by omega), up_ne (by omega), up_ne (by omega), up_ne (by omega), up_ne (by omega)⟩
theorem Rel.same (h : Rel σ τ) (h1 : SameC σ σ') (h2 : SameM τ τ') : Rel σ' τ' := by
  obtain ⟨r1, r2, r3, r4, r5, r6, r7, r8⟩ := h
  obtain ⟨a1, a2, a3, a4, a5, a6⟩ := h2
  have e0 : σ' 0 = σ 0 := h1 0 (by omega)
  refine ⟨r1.co (fun x _ _ => h1 x (by omega)) (a1 _ (by decide) (by decide) (by decide) (by decide)) (a1 _ (by decide) (by decide) (by decide) (by decide)) (a1 _ (by decide) (by decide) (by decide) (by decide)), r2.co (by rw [h1 2 (by omega)]) (h1 3 (by omega)) a4 (a1 _ (by decide) (by decide) (by decide) (by decide)), r3.co (by rw [e0]) (h1 115 (by omega)) a6 (a1 _ (by decide) (by decide) (by decide) (by decide)), r4.co (fun x _ _ => h1 x (by omega)) (a1 _ (by decide) (by decide) (by decide) (by decide)), r5.co (fun x _ _ => h1 x (by omega)) a3 (a1 _ (by decide) (by decide) (by decide) (by decide)), r6.co (fun x _ _ => h1 x (by omega)) (a1 _ (by decide) (by decide) (by decide) (by decide)) (a1 _ (by decide) (by decide) (by decide) (by decide)), by rw [e0, a5]; exact r7, by rw [e0, a2]; exact r8⟩
end REL
-- ranges
theorem b_cases (x : Int32) {n : Nat} (hn : n < 2 ^ 31) : (x < 0 ∨ nI n ≤ x) ∨ ∃ j, j < n ∧ x = nI j := by
  rcases pk_ix x hn with h | h | h
  · exact Or.inl (Or.inl h)
  · exact Or.inl (Or.inr h)
  · exact Or.inr h
theorem w_cases (x : Int32) (lo : Nat) {hi : Nat} (hl : lo ≤ hi) (hn : hi + 1 < 2 ^ 31) : (x < nI lo ∨ nI hi < x) ∨ ∃ j, lo ≤ j ∧ j ≤ hi ∧ x = nI j := by
  rcases pk_ix x hn with h | h | ⟨j, h1, rfl⟩
  · refine Or.inl (Or.inl ?_)
    rw [Int32.lt_iff_toInt_lt] at h ⊢
    rw [nI_toInt (by omega)]
    simp at h
    omega
  · refine Or.inl (Or.inr ?_)
    rw [Int32.le_iff_toInt_le, nI_toInt (by omega)] at h
    rw [Int32.lt_iff_toInt_lt, nI_toInt (by omega)]
    omega
  · by_cases q : lo ≤ j
    · exact Or.inr ⟨j, q, by omega, rfl⟩
    · exact Or.inl (Or.inl (nI_lt (by omega) (by omega)))
theorem b_ok {j n : Nat} (h : j < n) (hn : n < 2 ^ 31) : f_X4_isBelow (nI j) (nI n) = some 1 := by
  unfold f_X4_isBelow
  rw [if_neg (nI_pos (by omega)), if_neg (nI_ge h hn)]
theorem b_no {x : Int32} {n : Nat} (h : x < 0 ∨ nI n ≤ x) : f_X4_isBelow x (nI n) = some 0 := by
  unfold f_X4_isBelow
  rcases h with h | h
  · rw [if_pos h]
  · rw [if_pos h]
    split <;> rfl
theorem w_ok {lo hi j : Nat} (h1 : lo ≤ j) (h2 : j ≤ hi) (hh : hi < 2 ^ 31) : f_X4_isWithin (nI j) (nI lo) (nI hi) = some 1 := by
  unfold f_X4_isWithin
  rw [if_neg (nI_nlt h1 (by omega)), if_neg (nI_nlt h2 hh)]
theorem w_no {x : Int32} {lo hi : Nat} (h : x < nI lo ∨ nI hi < x) : f_X4_isWithin x (nI lo) (nI hi) = some 0 := by
  unfold f_X4_isWithin
  rcases h with h | h
  · rw [if_pos h]
  · rw [if_pos h]
    split <;> rfl
theorem m_inT (a b c : Int64) : f_X5_in a b c = some (if a < b then 0 else if c < a then 0 else 1) := by
  unfold f_X5_in
  simp only [lg_cmp_lt, lg_cmp_gt]
  repeat' split
  all_goals rfl
theorem lt64 {x y : Int32} : x.toInt64 < y.toInt64 ↔ x < y := by
  rw [Int64.lt_iff_toInt_lt, Int32.lt_iff_toInt_lt, Int32.toInt_toInt64, Int32.toInt_toInt64]
theorem m_in32 (x lo hi : Int32) : f_X5_in x.toInt64 lo.toInt64 hi.toInt64 = some (if x < lo then 0 else if hi < x then 0 else 1) := by
  rw [m_inT]
  simp only [lt64]
theorem m_in_ok {lo hi j : Nat} (h1 : lo ≤ j) (h2 : j ≤ hi) (hh : hi < 2 ^ 31) : f_X5_in (nI j).toInt64 (nI lo).toInt64 (nI hi).toInt64 = some 1 := by
  rw [m_in32, if_neg (nI_nlt h1 (by omega)), if_neg (nI_nlt h2 hh)]
theorem m_in_no {x : Int32} {lo hi : Nat} (h : x < nI lo ∨ nI hi < x) : f_X5_in x.toInt64 (nI lo).toInt64 (nI hi).toInt64 = some 0 := by
  rw [m_in32]
  rcases h with h | h
  · rw [if_pos h]
  · rw [if_pos h]
    split <;> rfl
theorem m_b_ok {j n : Nat} (h : j < n) (hn : n < 2 ^ 31) : f_X5_in (nI j).toInt64 (0 : Int64) (nI n - 1).toInt64 = some 1 := by
  rw [lit_1, pk_sub (by omega)]
  exact m_in_ok (lo := 0) (Nat.zero_le _) (by omega) (by omega)
theorem m_b_no {x : Int32} {n : Nat} (hn : n < 2 ^ 31) (h : x < 0 ∨ nI n ≤ x) : f_X5_in x.toInt64 (0 : Int64) (nI n - 1).toInt64 = some 0 := by
  show f_X5_in x.toInt64 (0 : Int32).toInt64 (nI n - 1).toInt64 = some 0
  rw [m_in32]
  rcases h with h | h
  · rw [if_pos h]
  · by_cases q : x < 0
    · rw [if_pos q]
    · rw [if_neg q, if_pos]
      by_cases q0 : n = 0
      · subst q0
        show (-1 : Int32) < x
        rw [Int32.lt_iff_toInt_lt] at q ⊢
        simp at q ⊢
        omega
      · rw [lit_1, pk_sub (by omega), Int32.lt_iff_toInt_lt, nI_toInt (by omega)]
        rw [Int32.le_iff_toInt_le, nI_toInt (by omega)] at h
        omega
theorem bo_1 : lm_bo 1 = true := rfl
theorem bo_0 : lm_bo 0 = true := rfl
theorem n10 : ¬ (1 : Int32) = 0 := by decide
