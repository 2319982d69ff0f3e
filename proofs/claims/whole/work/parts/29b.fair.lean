def LmOpJ (a b : Option (Int64 × Mem)) : Prop := ∃ r σ' τ', a = some (r, σ') ∧ b = some (r, τ') ∧ Rel σ' τ'
section OPN
variable {σ τ σ' τ' : Mem} {L M : Nat → Nat} {c : Nat}
theorem LmOpJ.mk {r : Int64} (h : Rel σ' τ') : LmOpJ (some (r, σ')) (some (r, τ')) := ⟨r, σ', τ', rfl, rfl, h⟩
def LSea (σ : Mem) (c : Nat) (L : Nat → Nat) : Prop := σ c 3 = nI (L 2) ∧ σ c 4 = nI (L 3) ∧ σ c 5 = nI (L 4) ∧ σ c 6 = nI (L 5) ∧ σ c 7 = nI (L 1) ∧ (∀ f, f < L 1 → σ (c + 1) f = nI (L (6 + f)))
theorem ls_thickOf (h : LSea σ c L) (ho : Ok L) {w : Nat} (hw : w < 2 ^ 31) : f_X1_thickOf c σ (nI w) = some (nI (thk L w)) := by
  obtain ⟨a1, a2, a3, a4, a5, a6⟩ := h
  let σ0 : Mem := fun x => if x = c then upd (σ c) 8 (nI (L 0)) else if x = c + 2 then (fun s => nI (L (12 + 2 * s))) else if x = c + 3 then (fun s => nI (L (13 + 2 * s))) else σ x
  have e0 : ∀ k, k ≠ 8 → σ0 c k = σ c k := fun k hk => by
    show (if c = c then upd (σ c) 8 (nI (L 0)) else _) k = _
    rw [if_pos rfl]
    exact pk_un hk
  have e8 : σ0 c 8 = nI (L 0) := by
    show (if c = c then upd (σ c) 8 (nI (L 0)) else _) 8 = _
    rw [if_pos rfl]
    exact pk_us
  have e1 : σ0 (c + 1) = σ (c + 1) := by
    show (if c + 1 = c then _ else if c + 1 = c + 2 then _ else if c + 1 = c + 3 then _ else σ (c + 1)) = _
    rw [if_neg (by omega), if_neg (by omega), if_neg (by omega)]
  have e2 : σ0 (c + 2) = fun s => nI (L (12 + 2 * s)) := by
    show (if c + 2 = c then _ else if c + 2 = c + 2 then _ else _) = _
    rw [if_neg (by omega), if_pos rfl]
  have e3 : σ0 (c + 3) = fun s => nI (L (13 + 2 * s)) := by
    show (if c + 3 = c then _ else if c + 3 = c + 2 then _ else if c + 3 = c + 3 then _ else _) = _
    rw [if_neg (by omega), if_neg (by omega), if_pos rfl]
  have hC : LC σ0 c L := ⟨by rw [e0 3 (by decide)]; exact a1, by rw [e0 4 (by decide)]; exact a2, by rw [e0 5 (by decide)]; exact a3, by rw [e0 6 (by decide)]; exact a4, by rw [e0 7 (by decide)]; exact a5, e8, fun f hf => by rw [e1]; exact a6 f hf, fun s _ => by rw [e2, e3]; exact ⟨rfl, rfl⟩⟩
  rw [← s_thickOf hC ho hw]
  unfold f_X1_thickOf
  rw [e0 7 (by decide), e1]
theorem s_pass0 (h : LSea σ c L) (h8 : σ c 8 = 0) (ho : Ok L) (hw : L 5 < 2 ^ 30) : ∃ σ', f_X1_passWatch c σ = some σ' ∧ LSea σ' c (step L) ∧ σ' c 8 = 0 ∧ Fr c σ σ' := by
  unfold f_X1_passWatch
  rw [fu_1, f_X1_passWatch_2, h8, if_pos (by decide)]
  have h6 : σ c 6 = nI (L 5) := h.2.2.2.1
  have h5 : σ c 5 = nI (L 4) := h.2.2.1
  have o4 := ho.2.2.2.2.1
  have h16 := ho.2.1.2
  have h9 := thk_le ho (L 5)
  rw [h6, ls_thickOf h ho (by omega), lm_bd_s]
  have key : ∀ y, y = 1 ∨ y = 2 → y = (if 5 ≤ thk L (L 5) then 2 else 1) → ∃ σ', f_X1_passWatch_44 c (nI y) σ = some σ' ∧ LSea σ' c (step L) ∧ σ' c 8 = 0 ∧ Fr c σ σ' := by
    intro y hy hyy
    unfold f_X1_passWatch_44
    rw [h5]
    have e : (if (0 : Int32) < nI (L 4) - nI y then nI (L 4) - nI y else 0) = nI (L 4 - y) := by
      rw [lit_0]
      by_cases q : y ≤ L 4
      · rw [pk_sub q]
        by_cases q2 : 0 < L 4 - y
        · rw [if_pos ((nI_ltI (by omega) (by omega)).mpr q2)]
        · rw [if_neg (fun z => q2 ((nI_ltI (by omega) (by omega)).mp z)), show L 4 - y = 0 by omega]
      · rw [if_neg (fun z => by rw [ltI_s (by omega) (by omega) (by omega)] at z; omega), show L 4 - y = 0 by omega]
    rw [e, lm_nm_s, lm_nm_s, up_ne (by omega), h6, nI_1]
    have u : ∀ k, k ≠ 5 → k ≠ 6 → up (up σ c 5 (nI (L 4 - y))) c 6 (nI (L 5 + 1)) c k = σ c k := fun k h1 h2 => by rw [up_ne (by omega), up_ne (by omega)]
    refine ⟨_, rfl, ⟨?_, ?_, ?_, ?_, ?_, fun f hf => ?_⟩, ?_, (Fr.up (by omega)).tr (Fr.up (by omega))⟩
    · rw [u 3 (by decide) (by decide), step_lo (by decide) (by decide) (by decide)]; exact h.1
    · rw [u 4 (by decide) (by decide), step_lo (by decide) (by decide) (by decide)]; exact h.2.1
    · rw [up_ne (by omega), up_eq, step_4, ← hyy]
    · rw [up_eq, step_5]
    · rw [u 7 (by decide) (by decide), step_lo (by decide) (by decide) (by decide)]; exact h.2.2.2.2.1
    · rw [step_lo (by decide) (by decide) (by decide)] at hf
      rw [up_x (by omega), up_x (by omega), step_lo (by omega) (by omega) (by omega)]
      exact h.2.2.2.2.2 f hf
    · rw [u 8 (by decide) (by decide)]; exact h8
  by_cases q : 5 ≤ thk L (L 5)
  · rw [if_neg (c := nI (thk L (L 5)) < 5) (nI_nlt (b := 5) q (by omega))]
    exact key 2 (Or.inr rfl) (by rw [if_pos q])
  · rw [if_pos (c := nI (thk L (L 5)) < 5) (nI_lt (b := 5) (by omega) (by decide))]
    exact key 1 (Or.inl rfl) (by rw [if_neg q])
theorem s_passes0 (ho : Ok L) {N : Nat} (hN : N ≤ 900) (hw : L 5 + N < 2 ^ 30) : ∀ (n k : Nat) (σ : Mem), LSea σ c (stepN L k) → σ c 8 = 0 → k ≤ N → N - k < n → ∃ σ', f_X1_passWatches_2 c n (nI N) (nI k) σ = some σ' ∧ LSea σ' c (stepN L N) ∧ Fr c σ σ'
  | 0, k, σ, h, h8, h1, h2 => by omega
  | n + 1, k, σ, h, h8, h1, h2 => by
    unfold f_X1_passWatches_2
    by_cases q : k = N
    · subst q
      rw [if_pos (nI_le (by omega) (by omega))]
      exact ⟨σ, rfl, h, Fr.rf⟩
    · have e5 : stepN L k 5 = L 5 + k := stepN_5 k
      obtain ⟨σ2, a1, a2, a3, a4⟩ := s_pass0 h h8 (stepN_Ok ho k) (by omega)
      rw [if_neg (nI_ge (by omega) (by omega)), a1, lm_bd_s, lm_nm_s, nI_1]
      obtain ⟨σ3, b1, b2, b3⟩ := s_passes0 ho hN hw n (k + 1) σ2 a2 a3 (by omega) (by omega)
      exact ⟨σ3, b1, b2, a4.tr b3⟩
-- what is lifted
def lif (L : Nat → Nat) (x : Nat) : Nat → (Nat → Nat)
  | 0 => L
  | f + 1 => if x.testBit f then setL (lif L x f) (6 + f) 0 else lif L x f
theorem lif_i {x : Nat} : ∀ f i, (i < 6 ∨ 6 + f ≤ i) → lif L x f i = L i
  | 0, i, _ => rfl
  | f + 1, i, h => by
    show (if x.testBit f then setL (lif L x f) (6 + f) 0 else lif L x f) i = L i
    split
    · rw [setL_ne (by omega)]
      exact lif_i f i (by omega)
    · exact lif_i f i (by omega)
theorem lif_Ok {x : Nat} (h : Ok L) : ∀ f, f ≤ 6 → Ok (lif L x f)
  | 0, _ => h
  | f + 1, hf => by
    show Ok (if x.testBit f then setL (lif L x f) (6 + f) 0 else lif L x f)
    split
    · exact ok_thick (lif_Ok h f (by omega)) (by omega) (by omega)
    · exact lif_Ok h f (by omega)
theorem ships_co (h0 : M 0 = L 0) (h2 : M 2 = L 2) (h5 : M 5 = L 5) (hi : ∀ i, 12 ≤ i → M i = L i) : ∀ n, (stepN M n 0 = stepN L n 0 ∧ stepN M n 2 = stepN L n 2 ∧ stepN M n 5 = stepN L n 5) ∧ ∀ i, 12 ≤ i → stepN M n i = stepN L n i
  | 0 => ⟨⟨h0, h2, h5⟩, hi⟩
  | n + 1 => by
    obtain ⟨⟨a0, a2, a5⟩, ai⟩ := ships_co h0 h2 h5 hi n
    refine ⟨⟨?_, ?_, ?_⟩, fun i hi => ?_⟩
    · show step _ 0 = step _ 0
      rw [step_lo (by decide) (by decide) (by decide), step_lo (by decide) (by decide) (by decide), a0]
    · show step _ 2 = step _ 2
      rw [step_lo (by decide) (by decide) (by decide), step_lo (by decide) (by decide) (by decide), a2]
    · show step _ 5 = step _ 5
      rw [step_5, step_5, a5]
    · show step _ i = step _ i
      unfold step prt
      have q4 : ¬ i = 4 := by omega
      have q5 : ¬ i = 5 := by omega
      rw [if_neg q4, if_neg q4, if_neg q5, if_neg q5, a0]
      split
      · unfold nxt
        rw [a2, a5, ai (12 + 2 * ((i - 13) / 2)) (by omega), ai (13 + 2 * ((i - 13) / 2)) (by omega)]
      · exact ai i hi
theorem sb_1 : ∀ a, a < 64 → ∀ k, k < 6 → ((nI a >>> (nI k &&& 31)) &&& (1 : Int32)) = if a.testBit k then 1 else 0 := by decide
theorem s_samL {x N : Nat} (hx : x < 64) (hN : N ≤ 60) (ho : Ok L) (h5 : L 5 ≤ 999) : ∀ (n f : Nat) (σ : Mem), σ 4 7 = nI (L 1) → LC σ 12 (stepN L N) → LSea σ 8 (lif L x f) → σ 8 8 = 0 → f ≤ L 1 → L 1 - f < n → ∃ σ', f_X4_isSameIfLifted_21 n (nI x) (nI N) (nI f) σ = some (if seen (stepN (lif L x (L 1)) N) 2 = 0 then 1 else 0, σ') ∧ Fr 8 σ σ'
  | 0, f, σ, h7, hT, hS, h8, h1, h2 => by omega
  | n + 1, f, σ, h7, hT, hS, h8, h1, h2 => by
    have h16 := ho.2.1.2
    have h06 := ho.1.2
    unfold f_X4_isSameIfLifted_21
    rw [h7]
    by_cases q : f = L 1
    · subst q
      have hoK := lif_Ok (x := x) ho (L 1) h16
      have k5 : lif L x (L 1) 5 = L 5 := lif_i _ _ (by omega)
      have k0 : lif L x (L 1) 0 = L 0 := lif_i _ _ (by omega)
      have k2 : lif L x (L 1) 2 = L 2 := lif_i _ _ (by omega)
      obtain ⟨σ2, a1, a2, a3⟩ := s_passes0 (c := 8) (L := lif L x (L 1)) hoK (N := N) (by omega) (by omega) lm_fu 0 σ hS h8 (by omega) (by rw [fu_1]; omega)
      have hT2 : LC σ2 12 (stepN L N) := hT.co (fun x _ _ => a3 x (by omega))
      obtain ⟨σ3, b1, b2, b3, b4, b5⟩ := s_takeShips (σ := σ2) (c := 8) (o := 12) (by decide)
      obtain ⟨⟨s0, s2, s5⟩, si⟩ := ships_co (L := L) (M := lif L x (L 1)) k0 k2 k5 (fun i hi => lif_i _ _ (by omega)) N
      have z0 : stepN L N 0 = L 0 := stepN_0 N
      have hC : LC σ3 8 (stepN (lif L x (L 1)) N) := by
        refine ⟨by rw [b3 3 (by decide)]; exact a2.1, by rw [b3 4 (by decide)]; exact a2.2.1, by rw [b3 5 (by decide)]; exact a2.2.2.1, by rw [b3 6 (by decide)]; exact a2.2.2.2.1, by rw [b3 7 (by decide)]; exact a2.2.2.2.2.1, by rw [b4, s0]; exact hT2.2.2.2.2.2.1, fun g hg => by rw [b2 (8 + 1) (by decide) (by decide) (by decide)]; exact a2.2.2.2.2.2 g hg, fun s hs => ?_⟩
        rw [s0, z0] at hs
        obtain ⟨c1, c2⟩ := b5 s (by omega)
        rw [c1, c2, si _ (by omega), si _ (by omega)]
        exact hT2.2.2.2.2.2.2.2 s (by omega)
      have ho2 := stepN_Ok hoK N
      have h52 : stepN (lif L x (L 1)) N 5 < 2 ^ 31 := by rw [stepN_5]; omega
      rw [if_pos (nI_le (by omega) (by omega))]
      unfold f_X1_passWatches
      rw [show f_X1_passWatches_2 8 lm_fu (nI N) 0 σ = _ from a1, lm_bd_s, b1, lm_bd_s, lit_2, s_shipsSeen hC ho2 h52 (by decide), lm_bd_s]
      have hl := seen_lt (who := 2) ho2
      have hF : Fr 8 σ σ3 := fun y hy => by rw [b2 y (by omega) (by omega) (by omega), a3 y hy]
      by_cases q0 : seen (stepN (lif L x (L 1)) N) 2 = 0
      · rw [q0, if_pos (show nI 0 = 0 from rfl), if_pos rfl]
        exact ⟨σ3, rfl, hF⟩
      · rw [if_neg (nI_ne0 (by omega) (by omega)), if_neg q0]
        exact ⟨σ3, rfl, hF⟩
    · rw [if_neg (nI_ge (by omega) (by omega)), sb_1 x hx f (by omega), nI_1, lm_in_n (by omega) (by decide), lm_ck_s, lm_nm_s, lm_nm_s, lm_nm_s, nI_clamp (by omega)]
      cases ht : x.testBit f
      · show ∃ σ', (if (0 : Int32) = 0 then _ else _) = _ ∧ _
        rw [if_pos rfl]
        exact s_samL hx hN ho h5 n (f + 1) σ h7 hT (by show LSea σ 8 (if x.testBit f then _ else _); rw [ht]; exact hS) h8 (by omega) (by omega)
      · show ∃ σ', (if (1 : Int32) = 0 then _ else _) = _ ∧ _
        rw [if_neg n10]
        have hS2 : LSea (up σ (8 + 1) f 0) 8 (lif L x (f + 1)) := by
          show LSea _ 8 (if x.testBit f then setL (lif L x f) (6 + f) 0 else lif L x f)
          rw [ht, if_pos rfl]
          obtain ⟨a1, a2, a3, a4, a5, a6⟩ := hS
          have e8 : up σ (8 + 1) f 0 8 = σ 8 := up_x (by decide)
          refine ⟨by rw [e8, setL_ne (by omega)]; exact a1, by rw [e8, setL_ne (by omega)]; exact a2, by rw [e8, setL_ne (by omega)]; exact a3, by rw [e8, setL_ne (by omega)]; exact a4, by rw [e8, setL_ne (by omega)]; exact a5, fun g hg => ?_⟩
          rw [setL_ne (by omega)] at hg
          by_cases qg : g = f
          · subst qg
            rw [up_eq, setL_eq]
            rfl
          · rw [up_ne (by omega), setL_ne (by omega)]
            exact a6 g hg
        obtain ⟨σ', e1, e2⟩ := s_samL hx hN ho h5 n (f + 1) (up σ (8 + 1) f 0) (by rw [up_x (by decide)]; exact h7) (hT.co (fun y _ _ => up_x (by omega))) hS2 (by rw [up_x (by decide)]; exact h8) (by omega) (by omega)
        exact ⟨σ', e1, (Fr.up (by omega)).tr e2⟩
theorem s_same {x N : Nat} (hx : x < 64) (hN : N ≤ 60) (ho : Ok L) (h5 : L 5 ≤ 999) (hC : LC σ 4 L) (hT : LC σ 12 (stepN L N)) : ∃ σ', f_X4_isSameIfLifted σ (nI x) (nI N) = some (if seen (stepN (lif L x (L 1)) N) 2 = 0 then 1 else 0, σ') ∧ Fr 8 σ σ' := by
  have h16 := ho.2.1.2
  unfold f_X4_isSameIfLifted
  obtain ⟨σ2, a1, a2, a3⟩ := s_takeFrom (σ := σ) (c := 8) hC ho.1.2 ho.2.1.2 (by decide)
  rw [a1, lm_bd_s, lm_nm_s]
  have e : ∀ k, k ≠ 8 → up σ2 8 8 0 8 k = σ2 8 k := fun k hk => up_ne (by omega)
  obtain ⟨σ', e1, e2⟩ := s_samL hx hN ho h5 lm_fu 0 (up σ2 8 8 0) (by rw [up_x (by decide), a3 4 (by omega)]; exact hC.2.2.2.2.1) (hT.co (fun y _ _ => by rw [up_x (by omega), a3 y (by omega)])) ⟨by rw [e 3 (by decide)]; exact a2.1, by rw [e 4 (by decide)]; exact a2.2.1, by rw [e 5 (by decide)]; exact a2.2.2.1, by rw [e 6 (by decide)]; exact a2.2.2.2.1, by rw [e 7 (by decide)]; exact a2.2.2.2.2.1, fun f hf => by rw [up_x (by decide)]; exact a2.2.2.2.2.2.2.1 f hf⟩ up_eq (by omega) (by rw [fu_1]; omega)
  exact ⟨σ', e1, (a3.tr (Fr.up (by omega))).tr e2⟩
end OPN
