/-! THE CLASS'S LIGHT does what the spec says. -/
def LC (σ : Mem) (c : Nat) (L : Nat → Nat) : Prop := σ c 3 = nI (L 2) ∧ σ c 4 = nI (L 3) ∧ σ c 5 = nI (L 4) ∧ σ c 6 = nI (L 5) ∧ σ c 7 = nI (L 1) ∧ σ c 8 = nI (L 0) ∧ (∀ f, f < L 1 → σ (c + 1) f = nI (L (6 + f))) ∧ (∀ s, s < L 0 → σ (c + 2) s = nI (L (12 + 2 * s)) ∧ σ (c + 3) s = nI (L (13 + 2 * s)))
def Fr (c : Nat) (σ σ' : Mem) : Prop := ∀ x, (x < c ∨ c + 4 ≤ x) → σ' x = σ x
theorem Fr.rf {c : Nat} {σ : Mem} : Fr c σ σ := fun _ _ => rfl
theorem Fr.tr {c : Nat} {σ σ1 σ2 : Mem} (h1 : Fr c σ σ1) (h2 : Fr c σ1 σ2) : Fr c σ σ2 := fun x hx => (h2 x hx).trans (h1 x hx)
theorem Fr.up {c d k : Nat} {v : Int32} {σ : Mem} (h : c ≤ d ∧ d < c + 4) : Fr c σ (up σ d k v) := fun x hx => up_x (by omega)
theorem LC.fr {c d : Nat} {σ σ' : Mem} {L : Nat → Nat} (h : LC σ d L) (hf : Fr c σ σ') (hd : d + 4 ≤ c ∨ c + 4 ≤ d) : LC σ' d L := by
  have e0 : σ' d = σ d := hf d (by omega)
  have e1 : σ' (d + 1) = σ (d + 1) := hf _ (by omega)
  have e2 : σ' (d + 2) = σ (d + 2) := hf _ (by omega)
  have e3 : σ' (d + 3) = σ (d + 3) := hf _ (by omega)
  unfold LC at h ⊢
  rw [e0, e1, e2, e3]
  exact h
section COMP
variable {σ : Mem} {c : Nat} {L : Nat → Nat}
theorem s_isLit (h : LC σ c L) (ho : Ok L) : f_X1_isLit c σ = some 1 := by
  obtain ⟨-, -, -, -, h7, -⟩ := h
  unfold f_X1_isLit
  rw [h7, if_neg (nI_nle ho.2.1.1 (by have := ho.2.1.2; omega))]
theorem s_thickOf (h : LC σ c L) (ho : Ok L) {w : Nat} (hw : w < 2 ^ 31) : f_X1_thickOf c σ (nI w) = some (nI (thk L w)) := by
  obtain ⟨-, -, -, -, h7, -, hth, -⟩ := h
  have h1 := ho.2.1.1
  have h2 := ho.2.1.2
  have h3 : w % L 1 < L 1 := Nat.mod_lt w h1
  unfold f_X1_thickOf
  rw [h7, if_neg (nI_nle h1 (by omega)), if_neg (nI_pos hw), lm_nz_n h1 (by omega), lm_ck_s, pk_rem hw h1 (by omega), lm_in_n (by omega) (by decide), lm_ck_s, nI_clamp (by omega), hth _ h3]
  rfl
set_option maxHeartbeats 4000000 in
theorem s_loggedOf (h : LC σ c L) (ho : Ok L) (hw : L 5 < 2 ^ 31) {s : Nat} (hs : s < L 0) : f_X1_loggedOf c σ (nI s) = some (nI (lgd L s)) := by
  have ht := s_thickOf h ho hw
  have ht9 := thk_le ho (L 5)
  obtain ⟨-, h4, h5, h6, -, -, -, hsh⟩ := h
  obtain ⟨hk, hp⟩ := hsh s hs
  obtain ⟨⟨-, o0⟩, -, ⟨-, o2⟩, o3, o4, -, o7⟩ := ho
  obtain ⟨k1, k5, p1⟩ := o7 s hs
  have hi : lm_in (nI s) 6 = true := lm_in_n (by omega) (by decide)
  have hc : (nI s).toNatClampNeg = s := nI_clamp (by omega)
  unfold f_X1_loggedOf f_X1_loggedOf_32 f_X1_loggedOf_60 f_X1_loggedOf_86
  unfold lgd
  generalize hT : thk L (L 5) = T at *
  generalize hP : L (13 + 2 * s) = P at *
  generalize hK : L (12 + 2 * s) = K at *
  simp only [hi, lm_ck_s, hc, hk, hp, lm_nm_s, h6, ht, lm_bd_s, h4, h5]
  have e4 : nI K = 4 ↔ K = 4 := by rw [lit_4, nI_eq (by omega) (by omega)]
  have e5 : nI K = 5 ↔ K = 5 := by rw [lit_5, nI_eq (by omega) (by omega)]
  have e0 : nI P = 0 ↔ P = 0 := by rw [lit_0, nI_eq (by omega) (by omega)]
  have e2 : nI P ≤ 2 ↔ P ≤ 2 := by rw [lit_2, nI_leI (by omega) (by omega)]
  have eo : nI (L 4) ≤ 0 ↔ L 4 = 0 := by rw [lit_0, nI_leI (by omega) (by omega)]; omega
  have ee : nI (L 3) - nI T < nI P ↔ L 3 < P + T := sI_lt (by omega) (by omega) (by omega)
  have el : (4 : Int32) + nI (L 4) / 10 - nI T / 2 < nI P ↔ 4 + L 4 / 10 < P + T / 2 := by
    rw [lit_10, lit_2, lit_4, pk_div (by omega) (by decide) (by decide), pk_div (by omega) (by decide) (by decide), nI_add, sI_lt (by omega) (by omega) (by omega)]
  simp only [e4, e5, e0, e2, eo, ee, el]
  have n10 : ((1 : Int32) = 0) = False := by decide
  simp only [n10, if_true, if_false]
  repeat' split
  all_goals first | rfl | (exfalso; omega)
theorem s_isSeenBy : ∀ g, g < 4 → ∀ who, who < 3 → f_X4_isSeenBy (nI g) (nI who) = some (if vis g who then 1 else 0) := by decide
theorem s_bitIf : ∀ k, k < 32 → ∀ b : Bool, f_X4_bitIf (if b then 1 else 0) (nI k) = some (nI (if b then 2 ^ k else 0)) := by decide
theorem or_6 : ∀ k, k < 6 → ∀ a, a < 64 → a < 2 ^ k → nI a ||| nI (2 ^ k) = nI (a + 2 ^ k) := by decide
theorem or_0 : ∀ a, a < 64 → nI a ||| nI 0 = nI (a + 0) := by decide
theorem s_seenL (h : LC σ c L) (ho : Ok L) (hw : L 5 < 2 ^ 31) {who : Nat} (hwho : who < 3) : ∀ (n k : Nat), k ≤ L 0 → L 0 - k < n → f_X1_shipsSeen_4 c σ n (nI who) (nI (seenN L who k)) (nI k) = some (nI (seen L who)) := by
  intro n
  induction n with
  | zero => intro k h1 h2; omega
  | succ n ih =>
    intro k hk hn
    have h0 := ho.1.2
    have h8 : σ c 8 = nI (L 0) := h.2.2.2.2.2.1
    rw [f_X1_shipsSeen_4, h8]
    by_cases hkN : k = L 0
    · subst hkN
      rw [if_pos (nI_le (Nat.le_refl _) (by omega))]
      rfl
    · rw [if_neg (nI_ge (by omega) (by omega)), s_loggedOf h ho hw (by omega), lm_bd_s, s_isSeenBy _ (by have := @lgd_le L k; omega) _ hwho, lm_bd_s, s_bitIf _ (by omega), lm_bd_s, lm_nm_s, lm_nm_s, nI_1]
      have hlt := seenN_lt (L := L) (who := who) k
      have h64 : 2 ^ k ≤ 2 ^ 5 := Nat.pow_le_pow_right (by decide) (by omega)
      have e : nI (seenN L who k) ||| nI (if vis (lgd L k) who then 2 ^ k else 0) = nI (seenN L who (k + 1)) := by
        show _ = nI (seenN L who k + if vis (lgd L k) who then 2 ^ k else 0)
        cases vis (lgd L k) who with
        | true => exact or_6 k (by omega) _ (by omega) hlt
        | false => exact or_0 _ (by omega)
      rw [e]
      exact ih (k + 1) (by omega) (by omega)
theorem s_shipsSeen (h : LC σ c L) (ho : Ok L) (hw : L 5 < 2 ^ 31) {who : Nat} (hwho : who < 3) : f_X1_shipsSeen c σ (nI who) = some (nI (seen L who)) := by
  have h0 := ho.1.2
  exact s_seenL h ho hw hwho lm_fu 0 (Nat.zero_le _) (by show L 0 - 0 < 1000; omega)
set_option maxHeartbeats 4000000 in
theorem s_nextPlaceOf (h : LC σ c L) (ho : Ok L) (hw : L 5 < 2 ^ 31) {s : Nat} (hs : s < L 0) : f_X1_nextPlaceOf c σ (nI s) = some (nI (nxt L s)) := by
  obtain ⟨h3, -, -, h6, -, -, -, hsh⟩ := h
  obtain ⟨hk, hp⟩ := hsh s hs
  obtain ⟨⟨-, o0⟩, -, ⟨o2a, o2⟩, o3, o4, -, o7⟩ := ho
  obtain ⟨k1, k5, p1⟩ := o7 s hs
  have hi : lm_in (nI s) 6 = true := lm_in_n (by omega) (by decide)
  have hc : (nI s).toNatClampNeg = s := nI_clamp (by omega)
  have hev : nI (L 5) - nI (L 5) / 2 * 2 = nI (L 5 % 2) := by
    rw [lit_2]; exact pk_rem hw (by decide) (by decide)
  unfold f_X1_nextPlaceOf f_X1_nextPlaceOf_14 f_X1_inward f_X1_outward
  unfold nxt
  simp only [hi, lm_ck_s, hc, hk, hp, lm_nm_s, h6, lm_bd_s, h3, hev]
  generalize hP : L (13 + 2 * s) = P at *
  generalize hK : L (12 + 2 * s) = K at *
  generalize hC : L 2 = C at *
  have ev : nI (L 5 % 2) = 0 ↔ L 5 % 2 = 0 := by rw [lit_0, nI_eq (by omega) (by omega)]
  have e1 : nI K = 1 ↔ K = 1 := by rw [lit_1, nI_eq (by omega) (by omega)]
  have e2 : nI K = 2 ↔ K = 2 := by rw [lit_2, nI_eq (by omega) (by omega)]
  have e3 : nI K = 3 ↔ K = 3 := by rw [lit_3, nI_eq (by omega) (by omega)]
  have e4 : nI K = 4 ↔ K = 4 := by rw [lit_4, nI_eq (by omega) (by omega)]
  have e5 : nI K = 5 ↔ K = 5 := by rw [lit_5, nI_eq (by omega) (by omega)]
  have m1 : (if (0 : Int32) < nI P - 1 then nI P - 1 else 0) = nI (P - 1) := by
    rw [lit_0, lit_1]
    by_cases q : 1 ≤ P
    · rw [pk_sub q]
      by_cases q2 : 0 < P - 1
      · rw [if_pos ((nI_ltI (by omega) (by omega)).mpr q2)]
      · rw [if_neg (fun z => q2 ((nI_ltI (by omega) (by omega)).mp z)), show P - 1 = 0 by omega]
    · rw [show P = 0 by omega]
      rfl
  have m2 : (if (0 : Int32) < nI P - 2 then nI P - 2 else 0) = nI (P - 2) := by
    rw [lit_0, lit_2]
    by_cases q : 2 ≤ P
    · rw [pk_sub q]
      by_cases q2 : 0 < P - 2
      · rw [if_pos ((nI_ltI (by omega) (by omega)).mpr q2)]
      · rw [if_neg (fun z => q2 ((nI_ltI (by omega) (by omega)).mp z)), show P - 2 = 0 by omega]
    · rcases (show P = 0 ∨ P = 1 by omega) with rfl | rfl <;> rfl
  have x1 : (if nI P + 1 < nI C - 1 then nI P + 1 else nI C - 1) = nI (if P + 1 < C then P + 1 else C - 1) := by
    rw [lit_1, nI_add, pk_sub (by omega)]
    by_cases q : P + 1 < C - 1
    · rw [if_pos ((nI_ltI (by omega) (by omega)).mpr q), if_pos (by omega)]
    · rw [if_neg (fun z => q ((nI_ltI (by omega) (by omega)).mp z))]
      split
      · congr 1; omega
      · rfl
  have x2 : (if nI P + 2 < nI C - 1 then nI P + 2 else nI C - 1) = nI (if P + 2 < C then P + 2 else C - 1) := by
    rw [lit_1, lit_2, nI_add, pk_sub (by omega)]
    by_cases q : P + 2 < C - 1
    · rw [if_pos ((nI_ltI (by omega) (by omega)).mpr q), if_pos (by omega)]
    · rw [if_neg (fun z => q ((nI_ltI (by omega) (by omega)).mp z))]
      split
      · congr 1; omega
      · rfl
  have n10 : ((1 : Int32) = 0) = False := by decide
  simp only [ev, e1, e2, e3, e4, e5, m1, m2, x1, x2, n10, if_true, if_false]
  rcases (show K = 1 ∨ K = 2 ∨ K = 3 ∨ K = 4 ∨ K = 5 by omega) with q | q | q | q | q <;> subst q <;> by_cases hq : L 5 % 2 = 0 <;> simp [hq]
theorem s_addOil (h : LC σ c L) (ho : Ok L) {v : Nat} (hv : v ≤ 60) : ∃ σ', f_X1_addOil c σ (nI v) = some σ' ∧ LC σ' c (pourL L v) ∧ Fr c σ σ' := by
  obtain ⟨h3, h4, h5, h6, h7, h8, hth, hsh⟩ := h
  have o4 := ho.2.2.2.2.1
  unfold f_X1_addOil
  rw [lm_nm_s, h5, nI_add]
  have e : (if nI (L 4 + v) < 60 then nI (L 4 + v) else 60) = nI (if L 4 + v ≤ 60 then L 4 + v else 60) := by
    rw [lit_60]
    by_cases q : L 4 + v < 60
    · rw [if_pos ((nI_ltI (by omega) (by omega)).mpr q), if_pos (by omega)]
    · rw [if_neg (fun z => q ((nI_ltI (by omega) (by omega)).mp z))]
      split
      · congr 1; omega
      · rfl
  rw [e]
  refine ⟨_, rfl, ?_, Fr.up (by omega)⟩
  refine ⟨?_, ?_, ?_, ?_, ?_, ?_, ?_, ?_⟩
  · simp [up_ap, pourL, setL, h3]
  · simp [up_ap, pourL, setL, h4]
  · simp [up_ap, pourL, setL]
  · simp [up_ap, pourL, setL, h6]
  · simp [up_ap, pourL, setL, h7]
  · simp [up_ap, pourL, setL, h8]
  · intro f hf
    have hf' : f < L 1 := hf
    simp [up_ap, pourL, setL, hth f hf', show ¬ (6 + f = 4) by omega]
  · intro s hs
    have hs' : s < L 0 := hs
    simp [up_ap, pourL, setL, hsh s hs', show ¬ (12 + 2 * s = 4) by omega, show ¬ (13 + 2 * s = 4) by omega]
theorem up_ne {d k : Nat} {v : Int32} {x j : Nat} (h : ¬ (x = d ∧ j = k)) : up σ d k v x j = σ x j := by rw [up_ap, if_neg h]
theorem up_eq {d k : Nat} {v : Int32} : up σ d k v d k = v := by rw [up_ap, if_pos ⟨rfl, rfl⟩]
theorem setL_ne {k v i : Nat} (h : i ≠ k) : setL L k v i = L i := if_neg h
theorem setL_eq {k v : Nat} : setL L k v k = v := if_pos rfl
/-- putting a cell of a ship -/
theorem LC_cell (h : LC σ c L) (h1 : L 1 ≤ 6) {s v : Nat} : LC (up σ (c + 3) s (nI v)) c (setL L (13 + 2 * s) v) := by
  obtain ⟨h3, h4, h5, h6, h7, h8, hth, hsh⟩ := h
  refine ⟨?_, ?_, ?_, ?_, ?_, ?_, ?_, ?_⟩
  · rw [up_ne (by omega), setL_ne (by omega)]; exact h3
  · rw [up_ne (by omega), setL_ne (by omega)]; exact h4
  · rw [up_ne (by omega), setL_ne (by omega)]; exact h5
  · rw [up_ne (by omega), setL_ne (by omega)]; exact h6
  · rw [up_ne (by omega), setL_ne (by omega)]; exact h7
  · rw [up_ne (by omega), setL_ne (by omega)]; exact h8
  · intro f hf
    rw [setL_ne (by omega)] at hf
    rw [up_ne (by omega), setL_ne (by omega)]; exact hth f hf
  · intro z hz
    rw [setL_ne (by omega)] at hz
    refine ⟨by rw [up_ne (by omega), setL_ne (by omega)]; exact (hsh z hz).1, ?_⟩
    by_cases q : z = s
    · subst q
      rw [up_eq, setL_eq]
    · rw [up_ne (by omega), setL_ne (by omega)]; exact (hsh z hz).2
theorem LC_kind (h : LC σ c L) (h1 : L 1 ≤ 6) {s v : Nat} : LC (up σ (c + 2) s (nI v)) c (setL L (12 + 2 * s) v) := by
  obtain ⟨h3, h4, h5, h6, h7, h8, hth, hsh⟩ := h
  refine ⟨?_, ?_, ?_, ?_, ?_, ?_, ?_, ?_⟩
  · rw [up_ne (by omega), setL_ne (by omega)]; exact h3
  · rw [up_ne (by omega), setL_ne (by omega)]; exact h4
  · rw [up_ne (by omega), setL_ne (by omega)]; exact h5
  · rw [up_ne (by omega), setL_ne (by omega)]; exact h6
  · rw [up_ne (by omega), setL_ne (by omega)]; exact h7
  · rw [up_ne (by omega), setL_ne (by omega)]; exact h8
  · intro f hf
    rw [setL_ne (by omega)] at hf
    rw [up_ne (by omega), setL_ne (by omega)]; exact hth f hf
  · intro z hz
    rw [setL_ne (by omega)] at hz
    refine ⟨?_, by rw [up_ne (by omega), setL_ne (by omega)]; exact (hsh z hz).2⟩
    by_cases q : z = s
    · subst q
      rw [up_eq, setL_eq]
    · rw [up_ne (by omega), setL_ne (by omega)]; exact (hsh z hz).1
theorem LC_thick (h : LC σ c L) {g v : Nat} (hg : g < 6) : LC (up σ (c + 1) g (nI v)) c (setL L (6 + g) v) := by
  obtain ⟨h3, h4, h5, h6, h7, h8, hth, hsh⟩ := h
  refine ⟨?_, ?_, ?_, ?_, ?_, ?_, ?_, ?_⟩
  · rw [up_ne (by omega), setL_ne (by omega)]; exact h3
  · rw [up_ne (by omega), setL_ne (by omega)]; exact h4
  · rw [up_ne (by omega), setL_ne (by omega)]; exact h5
  · rw [up_ne (by omega), setL_ne (by omega)]; exact h6
  · rw [up_ne (by omega), setL_ne (by omega)]; exact h7
  · rw [up_ne (by omega), setL_ne (by omega)]; exact h8
  · intro f hf
    rw [setL_ne (by omega)] at hf
    by_cases q : f = g
    · subst q
      rw [up_eq, setL_eq]
    · rw [up_ne (by omega), setL_ne (by omega)]; exact hth f hf
  · intro z hz
    rw [setL_ne (by omega)] at hz
    exact ⟨by rw [up_ne (by omega), setL_ne (by omega)]; exact (hsh z hz).1, by rw [up_ne (by omega), setL_ne (by omega)]; exact (hsh z hz).2⟩
theorem LC_eyes (h : LC σ c L) {v : Nat} : LC (up σ c 4 (nI v)) c (setL L 3 v) := by
  obtain ⟨h3, h4, h5, h6, h7, h8, hth, hsh⟩ := h
  refine ⟨?_, ?_, ?_, ?_, ?_, ?_, ?_, ?_⟩
  · rw [up_ne (by omega), setL_ne (by omega)]; exact h3
  · rw [up_eq, setL_eq]
  · rw [up_ne (by omega), setL_ne (by omega)]; exact h5
  · rw [up_ne (by omega), setL_ne (by omega)]; exact h6
  · rw [up_ne (by omega), setL_ne (by omega)]; exact h7
  · rw [up_ne (by omega), setL_ne (by omega)]; exact h8
  · intro f hf
    rw [setL_ne (by omega)] at hf
    rw [up_ne (by omega), setL_ne (by omega)]; exact hth f hf
  · intro z hz
    rw [setL_ne (by omega)] at hz
    exact ⟨by rw [up_ne (by omega), setL_ne (by omega)]; exact (hsh z hz).1, by rw [up_ne (by omega), setL_ne (by omega)]; exact (hsh z hz).2⟩
theorem LC_oil (h : LC σ c L) {v : Nat} : LC (up σ c 5 (nI v)) c (setL L 4 v) := by
  obtain ⟨h3, h4, h5, h6, h7, h8, hth, hsh⟩ := h
  refine ⟨?_, ?_, ?_, ?_, ?_, ?_, ?_, ?_⟩
  · rw [up_ne (by omega), setL_ne (by omega)]; exact h3
  · rw [up_ne (by omega), setL_ne (by omega)]; exact h4
  · rw [up_eq, setL_eq]
  · rw [up_ne (by omega), setL_ne (by omega)]; exact h6
  · rw [up_ne (by omega), setL_ne (by omega)]; exact h7
  · rw [up_ne (by omega), setL_ne (by omega)]; exact h8
  · intro f hf
    rw [setL_ne (by omega)] at hf
    rw [up_ne (by omega), setL_ne (by omega)]; exact hth f hf
  · intro z hz
    rw [setL_ne (by omega)] at hz
    exact ⟨by rw [up_ne (by omega), setL_ne (by omega)]; exact (hsh z hz).1, by rw [up_ne (by omega), setL_ne (by omega)]; exact (hsh z hz).2⟩
theorem LC_watch (h : LC σ c L) {v : Nat} : LC (up σ c 6 (nI v)) c (setL L 5 v) := by
  obtain ⟨h3, h4, h5, h6, h7, h8, hth, hsh⟩ := h
  refine ⟨?_, ?_, ?_, ?_, ?_, ?_, ?_, ?_⟩
  · rw [up_ne (by omega), setL_ne (by omega)]; exact h3
  · rw [up_ne (by omega), setL_ne (by omega)]; exact h4
  · rw [up_ne (by omega), setL_ne (by omega)]; exact h5
  · rw [up_eq, setL_eq]
  · rw [up_ne (by omega), setL_ne (by omega)]; exact h7
  · rw [up_ne (by omega), setL_ne (by omega)]; exact h8
  · intro f hf
    rw [setL_ne (by omega)] at hf
    rw [up_ne (by omega), setL_ne (by omega)]; exact hth f hf
  · intro z hz
    rw [setL_ne (by omega)] at hz
    exact ⟨by rw [up_ne (by omega), setL_ne (by omega)]; exact (hsh z hz).1, by rw [up_ne (by omega), setL_ne (by omega)]; exact (hsh z hz).2⟩
theorem step_eq (L : Nat → Nat) : step L = setL (setL (prt L (L 0)) 4 (L 4 - (if 5 ≤ thk L (L 5) then 2 else 1))) 5 (L 5 + 1) := by
  funext i
  unfold step setL
  by_cases h4 : i = 4
  · subst h4; rfl
  · by_cases h5 : i = 5
    · subst h5; rfl
    · simp [h4, h5]
theorem s_passL (ho : Ok L) (hw : L 5 < 2 ^ 30) : ∀ (n k : Nat) (σ : Mem), LC σ c (prt L k) → k ≤ L 0 → L 0 - k < n → ∃ σ', f_X1_passWatch_2 c n (nI k) σ = some σ' ∧ LC σ' c (step L) ∧ Fr c σ σ' := by
  intro n
  induction n with
  | zero => intro k σ _ h1 h2; omega
  | succ n ih =>
    intro k σ h hk hn
    have h0 := ho.1.2
    have h8 : σ c 8 = nI (L 0) := h.2.2.2.2.2.1
    have h6 : σ c 6 = nI (L 5) := h.2.2.2.1
    have hok := prt_Ok ho hk
    rw [f_X1_passWatch_2, h8]
    by_cases hkN : k = L 0
    · subst hkN
      rw [if_pos (nI_le (Nat.le_refl _) (by omega)), h6, s_thickOf h hok (by omega), lm_bd_s, prt_thk ho]
      have h9 := thk_le ho (L 5)
      have o4 := ho.2.2.2.2.1
      have h5 : σ c 5 = nI (L 4) := h.2.2.1
      have key : ∀ y, y = 1 ∨ y = 2 → y = (if 5 ≤ thk L (L 5) then 2 else 1) → ∃ σ', f_X1_passWatch_44 c (nI y) σ = some σ' ∧ LC σ' c (step L) ∧ Fr c σ σ' := by
        intro y hy hyy
        unfold f_X1_passWatch_44
        rw [h5]
        have e : (if (0 : Int32) < nI (L 4) - nI y then nI (L 4) - nI y else 0) = nI (L 4 - y) := by
          rw [lit_0]
          by_cases q : y ≤ L 4
          · rw [pk_sub q]
            by_cases q2 : 0 < L 4 - y
            · rw [if_pos ((nI_ltI (by omega) (by omega)).mpr q2)]
            · rw [if_neg (fun z => q2 ((nI_ltI (by omega) (by omega)).mp z)), show L 4 - y = 0 by omega]
          · rw [if_neg (fun z => by rw [ltI_s (by omega) (by omega) (by omega)] at z; omega), show L 4 - y = 0 by omega]
        rw [e, lm_nm_s, lm_nm_s, up_ne (by omega), h6, nI_1]
        refine ⟨_, rfl, ?_, (Fr.up (by omega)).tr (Fr.up (by omega))⟩
        rw [step_eq, ← hyy]
        exact LC_watch (LC_oil h)
      by_cases q : thk L (L 5) < 5
      · rw [if_pos (by rw [lit_5, nI_ltI (by omega) (by omega)]; exact q)]
        exact key 1 (Or.inl rfl) (by rw [if_neg (by omega)])
      · rw [if_neg (by rw [lit_5, nI_ltI (by omega) (by omega)]; exact q)]
        exact key 2 (Or.inr rfl) (by rw [if_pos (by omega)])
    · rw [if_neg (nI_ge (by omega) (by omega)), s_nextPlaceOf h hok (by rw [prt_lo (by decide)]; omega) (by rw [prt_lo (by decide)]; omega), lm_bd_s, lm_in_n (by omega) (by decide), lm_ck_s, lm_nm_s, lm_nm_s, nI_1, nI_clamp (by omega), prt_nxt]
      have h1 : prt L k 1 ≤ 6 := hok.2.1.2
      have hn2 := LC_cell h h1 (s := k) (v := nxt L k)
      rw [← prt_succ] at hn2
      obtain ⟨σ', g1, g2, g3⟩ := ih (k + 1) _ hn2 (by omega) (by omega)
      exact ⟨σ', g1, g2, (Fr.up (by omega)).tr g3⟩
theorem s_passWatch (h : LC σ c L) (ho : Ok L) (hw : L 5 < 2 ^ 30) : ∃ σ', f_X1_passWatch c σ = some σ' ∧ LC σ' c (step L) ∧ Fr c σ σ' := by
  have h0 := ho.1.2
  exact s_passL ho hw lm_fu 0 σ (by rw [prt_0]; exact h) (Nat.zero_le _) (by show L 0 - 0 < 1000; omega)
theorem s_passesL (ho : Ok L) {N : Nat} (hN : N ≤ 900) (hw : L 5 + N < 2 ^ 30) : ∀ (n k : Nat) (σ : Mem), LC σ c (stepN L k) → k ≤ N → N - k < n → ∃ σ', f_X1_passWatches_2 c n (nI N) (nI k) σ = some σ' ∧ LC σ' c (stepN L N) ∧ Fr c σ σ' := by
  intro n
  induction n with
  | zero => intro k σ _ h1 h2; omega
  | succ n ih =>
    intro k σ h hk hn
    rw [f_X1_passWatches_2]
    by_cases hkN : k = N
    · subst hkN
      rw [if_pos (nI_le (Nat.le_refl _) (by omega))]
      exact ⟨σ, rfl, h, Fr.rf⟩
    · rw [if_neg (nI_ge (by omega) (by omega))]
      obtain ⟨σ1, g1, g2, g3⟩ := s_passWatch h (stepN_Ok ho k) (by rw [stepN_5]; omega)
      rw [g1, lm_bd_s, lm_nm_s, nI_1]
      obtain ⟨σ', e1, e2, e3⟩ := ih (k + 1) σ1 g2 (by omega) (by omega)
      exact ⟨σ', e1, e2, g3.tr e3⟩
theorem s_passWatches (h : LC σ c L) (ho : Ok L) {N : Nat} (hN : N ≤ 900) (hw : L 5 + N < 2 ^ 30) : ∃ σ', f_X1_passWatches c σ (nI N) = some σ' ∧ LC σ' c (stepN L N) ∧ Fr c σ σ' :=
  s_passesL ho hN hw lm_fu 0 σ h (Nat.zero_le _) (by show N - 0 < 1000; omega)
-- taking over
theorem s_seaL {o : Nat} (hco : o ≠ c) : ∀ (n k : Nat) (σ : Mem), k ≤ 6 → 6 - k < n → ∃ σ', f_X1_takeSea_42 c o n (nI k) σ = some σ' ∧ (∀ x, x ≠ c + 1 → σ' x = σ x) ∧ ∀ f, f < 6 → σ' (c + 1) f = if k ≤ f then σ (o + 1) f else σ (c + 1) f := by
  intro n
  induction n with
  | zero => intro k σ h1 h2; omega
  | succ n ih =>
    intro k σ hk hn
    rw [f_X1_takeSea_42]
    by_cases hkN : k = 6
    · subst hkN
      rw [if_pos (by decide)]
      exact ⟨σ, rfl, fun _ _ => rfl, fun f hf => by rw [if_neg (by omega)]⟩
    · rw [if_neg (by rw [lit_6]; exact nI_ge (by omega) (by omega)), lm_in_n (by omega) (by decide), lm_ck_s, lm_ck_s, lm_nm_s, lm_nm_s, nI_1, nI_clamp (by omega)]
      obtain ⟨σ', g1, g2, g3⟩ := ih (k + 1) (up σ (c + 1) k (σ (o + 1) k)) (by omega) (by omega)
      refine ⟨σ', g1, fun x hx => by rw [g2 x hx, up_x hx], fun f hf => ?_⟩
      rw [g3 f hf]
      by_cases q : k + 1 ≤ f
      · rw [if_pos q, if_pos (by omega), up_x (by omega)]
      · rw [if_neg q]
        by_cases q2 : f = k
        · subst q2
          rw [up_eq, if_pos (Nat.le_refl _)]
        · rw [up_ne (by omega), if_neg (by omega)]
theorem s_takeSea {o : Nat} (hco : o ≠ c) (ho1 : o + 1 ≠ c) (ho2 : c + 1 ≠ o) : ∃ σ', f_X1_takeSea c o σ = some σ' ∧ (∀ x, x ≠ c → x ≠ c + 1 → σ' x = σ x) ∧ (∀ k, 3 ≤ k → k < 8 → σ' c k = σ o k) ∧ (∀ k, 8 ≤ k → σ' c k = σ c k) ∧ ∀ f, f < 6 → σ' (c + 1) f = σ (o + 1) f := by
  unfold f_X1_takeSea
  simp only [lm_nm_s]
  obtain ⟨σ', g1, g2, g3⟩ := s_seaL (c := c) hco lm_fu 0 (up (up (up (up (up σ c 3 (σ o 3)) c 4 (up σ c 3 (σ o 3) o 4)) c 5 (up (up σ c 3 (σ o 3)) c 4 (up σ c 3 (σ o 3) o 4) o 5)) c 6 (up (up (up σ c 3 (σ o 3)) c 4 (up σ c 3 (σ o 3) o 4)) c 5 (up (up σ c 3 (σ o 3)) c 4 (up σ c 3 (σ o 3) o 4) o 5) o 6)) c 7 (up (up (up (up σ c 3 (σ o 3)) c 4 (up σ c 3 (σ o 3) o 4)) c 5 (up (up σ c 3 (σ o 3)) c 4 (up σ c 3 (σ o 3) o 4) o 5)) c 6 (up (up (up σ c 3 (σ o 3)) c 4 (up σ c 3 (σ o 3) o 4)) c 5 (up (up σ c 3 (σ o 3)) c 4 (up σ c 3 (σ o 3) o 4) o 5) o 6) o 7)) (by decide) (by show 6 - 0 < 1000; decide)
  refine ⟨σ', g1, fun x h1 h2 => ?_, fun k h1 h2 => ?_, fun k h1 => ?_, fun f hf => ?_⟩
  · rw [g2 x h2, up_x h1, up_x h1, up_x h1, up_x h1, up_x h1]
  · rw [g2 c (by omega)]
    rcases (show k = 3 ∨ k = 4 ∨ k = 5 ∨ k = 6 ∨ k = 7 by omega) with rfl | rfl | rfl | rfl | rfl <;> simp [up_ap, hco]
  · rw [g2 c (by omega)]
    simp [up_ap, show ¬ k = 3 by omega, show ¬ k = 4 by omega, show ¬ k = 5 by omega, show ¬ k = 6 by omega, show ¬ k = 7 by omega]
  · rw [g3 f hf, if_pos (Nat.zero_le _), up_x ho1, up_x ho1, up_x ho1, up_x ho1, up_x ho1]
theorem s_shipsL {o : Nat} (hco : o ≠ c) (h23 : o + 2 ≠ c + 3) (h32 : o + 3 ≠ c + 2) : ∀ (n k : Nat) (σ : Mem), k ≤ 6 → 6 - k < n → ∃ σ', f_X1_takeShips_10 c o n (nI k) σ = some σ' ∧ (∀ x, x ≠ c + 2 → x ≠ c + 3 → σ' x = σ x) ∧ ∀ f, f < 6 → (σ' (c + 2) f = if k ≤ f then σ (o + 2) f else σ (c + 2) f) ∧ (σ' (c + 3) f = if k ≤ f then σ (o + 3) f else σ (c + 3) f) := by
  intro n
  induction n with
  | zero => intro k σ h1 h2; omega
  | succ n ih =>
    intro k σ hk hn
    rw [f_X1_takeShips_10]
    by_cases hkN : k = 6
    · subst hkN
      rw [if_pos (by decide)]
      exact ⟨σ, rfl, fun _ _ _ => rfl, fun f hf => by rw [if_neg (by omega), if_neg (by omega)]; exact ⟨rfl, rfl⟩⟩
    · rw [if_neg (by rw [lit_6]; exact nI_ge (by omega) (by omega)), lm_in_n (by omega) (by decide), lm_ck_s, lm_ck_s, lm_nm_s, lm_ck_s, lm_ck_s, lm_nm_s, lm_nm_s, nI_1, nI_clamp (by omega), up_ne (by omega)]
      obtain ⟨σ', g1, g2, g3⟩ := ih (k + 1) (up (up σ (c + 2) k (σ (o + 2) k)) (c + 3) k (σ (o + 3) k)) (by omega) (by omega)
      refine ⟨σ', g1, fun x hx hx2 => by rw [g2 x hx hx2, up_x hx2, up_x hx], fun f hf => ?_⟩
      rw [(g3 f hf).1, (g3 f hf).2]
      by_cases q : k + 1 ≤ f
      · rw [if_pos q, if_pos q, if_pos (by omega), if_pos (by omega), up_x (by omega), up_x (by omega), up_x (by omega), up_x (by omega)]
        exact ⟨rfl, rfl⟩
      · rw [if_neg q, if_neg q]
        by_cases q2 : f = k
        · subst q2
          rw [up_ne (by omega), up_eq, up_eq, if_pos (Nat.le_refl _), if_pos (Nat.le_refl _)]
          exact ⟨rfl, rfl⟩
        · rw [up_ne (by omega), up_ne (by omega), up_ne (by omega), up_ne (by omega), if_neg (by omega), if_neg (by omega)]
          exact ⟨rfl, rfl⟩
theorem s_takeShips {o : Nat} (hd : o + 4 ≤ c ∨ c + 4 ≤ o) : ∃ σ', f_X1_takeShips c o σ = some σ' ∧ (∀ x, x ≠ c → x ≠ c + 2 → x ≠ c + 3 → σ' x = σ x) ∧ (∀ k, k ≠ 8 → σ' c k = σ c k) ∧ σ' c 8 = σ o 8 ∧ ∀ f, f < 6 → σ' (c + 2) f = σ (o + 2) f ∧ σ' (c + 3) f = σ (o + 3) f := by
  unfold f_X1_takeShips
  rw [lm_nm_s]
  obtain ⟨σ', g1, g2, g3⟩ := s_shipsL (c := c) (o := o) (by omega) (by omega) (by omega) lm_fu 0 (up σ c 8 (σ o 8)) (by decide) (by show 6 - 0 < 1000; decide)
  refine ⟨σ', g1, fun x h1 h2 h3 => by rw [g2 x h2 h3, up_x h1], fun k h1 => by rw [g2 c (by omega) (by omega), up_ne (by omega)], by rw [g2 c (by omega) (by omega), up_eq], fun f hf => ?_⟩
  rw [(g3 f hf).1, (g3 f hf).2, if_pos (Nat.zero_le _), if_pos (Nat.zero_le _), up_x (by omega), up_x (by omega)]
  exact ⟨rfl, rfl⟩
/-- a whole light is taken over; it need not be lit -/
theorem s_takeFrom0 {o : Nat} (hd : o + 4 ≤ c ∨ c + 4 ≤ o) : ∃ σ', f_X1_takeFrom c o σ = some σ' ∧ Fr c σ σ' ∧ (∀ k, 3 ≤ k → k < 9 → σ' c k = σ o k) ∧ ∀ f, f < 6 → σ' (c + 1) f = σ (o + 1) f ∧ σ' (c + 2) f = σ (o + 2) f ∧ σ' (c + 3) f = σ (o + 3) f := by
  unfold f_X1_takeFrom
  obtain ⟨σ1, a1, a2, a3, a4, a5⟩ := s_takeSea (σ := σ) (c := c) (o := o) (by omega) (by omega) (by omega)
  rw [a1, lm_bd_s]
  obtain ⟨σ2, b1, b2, b3, b4, b5⟩ := s_takeShips (σ := σ1) (c := c) (o := o) hd
  rw [b1, lm_bd_s]
  refine ⟨σ2, rfl, fun x hx => by rw [b2 x (by omega) (by omega) (by omega), a2 x (by omega) (by omega)], fun k h1 h2 => ?_, fun f hf => ⟨?_, ?_, ?_⟩⟩
  · by_cases q : k = 8
    · subst q
      rw [b4, a2 o (by omega) (by omega)]
    · rw [b3 k q, a3 k h1 (by omega)]
  · rw [b2 _ (by omega) (by omega) (by omega), a5 f hf]
  · rw [(b5 f hf).1, a2 _ (by omega) (by omega)]
  · rw [(b5 f hf).2, a2 _ (by omega) (by omega)]
theorem s_takeFrom {o : Nat} (h : LC σ o L) (h0 : L 0 ≤ 6) (h1 : L 1 ≤ 6) (hd : o + 4 ≤ c ∨ c + 4 ≤ o) : ∃ σ', f_X1_takeFrom c o σ = some σ' ∧ LC σ' c L ∧ Fr c σ σ' := by
  obtain ⟨σ', g1, g2, g3, g4⟩ := s_takeFrom0 (σ := σ) (c := c) hd
  obtain ⟨h3, h4, h5, h6, h7, h8, hth, hsh⟩ := h
  refine ⟨σ', g1, ⟨?_, ?_, ?_, ?_, ?_, ?_, fun f hf => ?_, fun s hs => ⟨?_, ?_⟩⟩, g2⟩
  · rw [g3 3 (by decide) (by decide)]; exact h3
  · rw [g3 4 (by decide) (by decide)]; exact h4
  · rw [g3 5 (by decide) (by decide)]; exact h5
  · rw [g3 6 (by decide) (by decide)]; exact h6
  · rw [g3 7 (by decide) (by decide)]; exact h7
  · rw [g3 8 (by decide) (by decide)]; exact h8
  · rw [(g4 f (by omega)).1]; exact hth f hf
  · rw [(g4 s (by omega)).2.1]; exact (hsh s hs).1
  · rw [(g4 s (by omega)).2.2]; exact (hsh s hs).2
theorem s_takeOneShip {o s : Nat} (h : LC σ o L) (ho : Ok L) (hs : s < L 0) (hd : o + 4 ≤ c ∨ c + 4 ≤ o) : ∃ σ', f_X1_takeOneShip c o σ (nI s) = some σ' ∧ LC σ' c (oneL L s) ∧ Fr c σ σ' := by
  have h06 := ho.1.2
  have h16 := ho.2.1.2
  unfold f_X1_takeOneShip
  obtain ⟨σ1, a1, a2, a3, a4, a5⟩ := s_takeSea (σ := σ) (c := c) (o := o) (by omega) (by omega) (by omega)
  obtain ⟨h3, h4, h5, h6, h7, h8, hth, hsh⟩ := h
  have e0 : (0 : Int32).toNatClampNeg = 0 := rfl
  have i0 : lm_in (0 : Int32) 6 = true := rfl
  rw [a1, lm_bd_s, lm_nm_s, lm_in_n (by omega) (by decide), lm_ck_s, i0, lm_ck_s, lm_nm_s, lm_ck_s, lm_ck_s, lm_nm_s, nI_clamp (by omega), e0, up_ne (x := o + 2) (by omega), up_ne (x := o + 3) (by omega), up_ne (x := o + 3) (by omega), a2 (o + 2) (by omega) (by omega), a2 (o + 3) (by omega) (by omega), (hsh s hs).1, (hsh s hs).2]
  refine ⟨_, rfl, ⟨?_, ?_, ?_, ?_, ?_, ?_, fun f hf => ?_, fun z hz => ?_⟩, fun x hx => ?_⟩
  · rw [up_ne (by omega), up_ne (by omega), up_ne (by omega), a3 3 (by decide) (by decide), one_lo (by decide) (by decide)]; exact h3
  · rw [up_ne (by omega), up_ne (by omega), up_ne (by omega), a3 4 (by decide) (by decide), one_lo (by decide) (by decide)]; exact h4
  · rw [up_ne (by omega), up_ne (by omega), up_ne (by omega), a3 5 (by decide) (by decide), one_lo (by decide) (by decide)]; exact h5
  · rw [up_ne (by omega), up_ne (by omega), up_ne (by omega), a3 6 (by decide) (by decide), one_lo (by decide) (by decide)]; exact h6
  · rw [up_ne (by omega), up_ne (by omega), up_ne (by omega), a3 7 (by decide) (by decide), one_lo (by decide) (by decide)]; exact h7
  · rw [up_ne (by omega), up_ne (by omega), up_eq]; rfl
  · rw [one_lo (by decide) (by decide)] at hf
    rw [up_ne (by omega), up_ne (by omega), up_ne (by omega), a5 f (by omega), one_lo (by omega) (by omega)]
    exact hth f hf
  · obtain rfl : z = 0 := by
      have : oneL L s 0 = 1 := rfl
      omega
    exact ⟨by rw [up_ne (by omega), up_eq]; rfl, by rw [up_eq]; rfl⟩
  · rw [up_x (by omega), up_x (by omega), up_x (by omega), a2 x (by omega) (by omega)]
theorem s_differOn (h : LC σ c L) (ho : Ok L) (hw : L 5 < 2 ^ 31) {s : Nat} (hs : s < L 0) : f_X1_differOn c σ (nI s) = some (if vis (lgd L s) 2 then 1 else 0) := by
  unfold f_X1_differOn
  rw [s_loggedOf h ho hw hs, lm_bd_s, lit_2, s_isSeenBy _ (by have := @lgd_le L s; omega) 2 (by decide), lm_bd_s]
  cases vis (lgd L s) 2 <;> rfl
end COMP
