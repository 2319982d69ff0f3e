section TPG
variable {σ τ σ' τ' : Mem} {T : Nat → Nat} {n a : Nat} {L : Nat → Nat}
def mK (τ : Mem) : Option (Int32 × Mem) := lm_bd (f_X5_readFog τ) fun τ38 => f_X5_light_101 lm_fu τ38
theorem d_K {k : Nat} {p : Int32} (h : Dead k p τ) : mK τ = finM k p τ := by
  unfold mK
  rw [d_fog h, lm_bd_s, fu_1, d_101 h]
theorem m_zero : ∀ (f k : Nat) (τ : Mem), k ≤ 24 → 24 - k < f → ∃ τ', f_X5_light_11 f (nI k) τ = mS0 mK τ' ∧ FrM 145 τ τ' ∧ ∀ i, i < 24 → τ' 145 i = if k ≤ i then 0 else τ 145 i
  | 0, k, τ, h1, h2 => by omega
  | f + 1, k, τ, h1, h2 => by
    unfold f_X5_light_11
    rw [lit_24]
    by_cases q : k = 24
    · subst q
      rw [if_pos (nI_le (by decide) (by decide))]
      refine ⟨τ, rfl, FrM.rf, fun i hi => ?_⟩
      rw [if_neg (by omega)]
    · rw [if_neg (nI_ge (by omega) (by decide)), lm_in_n (by omega) (by decide), lm_ck_s, lm_nm_s, lm_nm_s, nI_clamp (by omega), nI_1]
      obtain ⟨τ', e1, e2, e3⟩ := m_zero f (k + 1) (up τ 145 k 0) (by omega) (by omega)
      refine ⟨τ', e1, FrM.up.tr e2, fun i hi => ?_⟩
      rw [e3 i hi]
      by_cases q1 : i = k
      · rw [if_neg (by omega), q1, up_eq, if_pos (by omega)]
      · rw [up_ne (by omega)]
        by_cases q2 : k ≤ i
        · rw [if_pos (by omega), if_pos q2]
        · rw [if_neg (by omega), if_neg q2]
theorem m_copyL : ∀ (f k : Nat) (τ : Mem), k ≤ 24 → 24 - k < f → ∃ τ', f_X5_light_165 f (nI k) τ = some (τ' 144 0, τ') ∧ FrM 144 τ τ' ∧ ∀ i, i < 24 → τ' 144 i = if k ≤ i then τ 145 i else τ 144 i
  | 0, k, τ, h1, h2 => by omega
  | f + 1, k, τ, h1, h2 => by
    unfold f_X5_light_165
    rw [lit_24]
    by_cases q : k = 24
    · subst q
      rw [if_pos (nI_le (by decide) (by decide))]
      refine ⟨τ, rfl, FrM.rf, fun i hi => ?_⟩
      rw [if_neg (by omega)]
    · rw [if_neg (nI_ge (by omega) (by decide)), lm_in_n (by omega) (by decide), lm_ck_s, lm_ck_s, lm_nm_s, lm_nm_s, nI_clamp (by omega), nI_1]
      obtain ⟨τ', e1, e2, e3⟩ := m_copyL f (k + 1) (up τ 144 k (τ 145 k)) (by omega) (by omega)
      refine ⟨τ', e1, FrM.up.tr e2, fun i hi => ?_⟩
      rw [e3 i hi, up_x (x := 145) (by decide)]
      by_cases q1 : i = k
      · rw [if_neg (by omega), q1, up_eq, if_pos (by omega)]
      · rw [up_ne (by omega)]
        by_cases q2 : k ≤ i
        · rw [if_pos (by omega), if_pos q2]
        · rw [if_neg (by omega), if_neg q2]
/-- the whole tape is read -/
theorem jAll (h : Inv T n 0 (fun _ => 0) σ τ) : (∃ L σ' τ', (lm_bd2 (f_X3_readLaw 8 σ) fun r6 σ7 => if r6 = 0 then (some ((0 : Int32), σ7)) else (lm_bd2 (f_X3_readFogs 8 σ7) fun r10 σ11 => if r10 = 0 then (some ((0 : Int32), σ11)) else (lm_bd2 (f_X3_readShips 8 σ11) fun r14 σ15 => if r14 = 0 then (some ((0 : Int32), σ15)) else (some ((1 : Int32), σ15))))) = some (1, σ') ∧ mS0 mK τ = mE τ' ∧ LC σ' 8 L ∧ LM τ' 145 L ∧ Wf L ∧ 1 ≤ L 0 ∧ 1 ≤ L 1 ∧ CF σ σ' ∧ MF τ τ') ∨ BadF (lm_bd2 (f_X3_readLaw 8 σ) fun r6 σ7 => if r6 = 0 then (some ((0 : Int32), σ7)) else (lm_bd2 (f_X3_readFogs 8 σ7) fun r10 σ11 => if r10 = 0 then (some ((0 : Int32), σ11)) else (lm_bd2 (f_X3_readShips 8 σ11) fun r14 σ15 => if r14 = 0 then (some ((0 : Int32), σ15)) else (some ((1 : Int32), σ15))))) (mS0 mK τ) σ τ := by
  rw [cS_eq]
  rcases jS0 (K := mK) h with ⟨c, y, o, c1, y1, o1, e2, σ2, τ2, g1, g2, I2, C2, M2⟩ | ⟨k, p, σ2, τ2, g1, g2, g3, g4, C2, M2⟩
  · rw [g1, g2, lm_bd2_s, if_neg n10]
    have W2 : Wf (setL (setL (setL (fun _ => 0) 2 c) 3 y) 4 o) := ⟨Nat.zero_le _, Nat.zero_le _, c1, y1, o1, rfl, fun f hf => by rw [setL_ne (by omega), setL_ne (by omega), setL_ne (by omega)]; omega, fun s hs => absurd hs (Nat.not_lt_zero _)⟩
    have eF : f_X3_readFogs 8 σ2 = f_X3_readFogs_23 8 (f_X3_readFogs_2 8 999) (nI 0) σ2 := by
      unfold f_X3_readFogs
      rw [fu_1, f_X3_readFogs_2, if_neg (by decide), if_pos (by decide)]
      rfl
    unfold mK
    rw [eF]
    rcases jFog (f := 0) (K2 := f_X3_readFogs_2 8 999) I2 rfl (by decide) with ⟨v, e3, σ3, τ3, v3, b1, b2, I3, C3, M3⟩ | ⟨k, p, σ3, τ3, b1, b2, b3, b4, C3, M3⟩
    · rw [b1, b2, lm_bd_s]
      rcases jFogs (T := T) (n := n) 999 lm_fu 1 e3 _ σ3 τ3 I3 setL_eq (by decide) (by decide) (by decide) (by decide) (wf_fog W2 rfl (by decide) v3) with ⟨e4, L4, σ4, τ4, d1, d2, I4, W4, l1, l0, C4, M4⟩ | ⟨k, p, σ4, τ4, d1, d2, d3, d4, C4, M4⟩
      · rw [show f_X3_readFogs_2 8 999 (nI (0 + 1)) σ3 = _ from d1, lm_bd2_s, if_neg n10, d2]
        have l0' : L4 0 = 0 := l0
        have eS : f_X3_readShips 8 σ4 = f_X3_readShips_25 8 (f_X3_readShips_2 8 999) (nI 0) σ4 := by
          unfold f_X3_readShips
          rw [fu_1, f_X3_readShips_2, if_neg (by decide), if_pos (by decide)]
          rfl
        rw [eS]
        have CA := (C2.tr C3).tr C4
        have MA := (M2.tr M3).tr M4
        have hn120 := I4.1.1
        have hsrt := l_sort I4.2.1
        unfold mT
        by_cases q : e4 < n ∧ ¬ srt (T e4) = 0
        · have hb := (I4.1.2.2.2 e4 (by omega)).2
          obtain ⟨_, l2⟩ := srt_l _ hb q.2
          rw [if_pos q] at hsrt
          rw [hsrt, lm_bd_s, if_neg n10, fu_1]
          unfold f_X5_light_129
          rw [hsrt, lm_bd_s, if_neg n10]
          rcases jShip (s := 0) (K2 := f_X3_readShips_2 8 999) I4 l0' (by decide) W4.2.1 W4.2.2.1 q.1 q.2 with ⟨v5, e5, σ5, τ5, v6, f1, f2, I5, C5, M5⟩ | ⟨k, p, σ5, τ5, f1, f2, f3, f4, C5, M5⟩
          · rw [f1, f2, lm_bd_s]
            rcases jShips (T := T) (n := n) 999 999 1 e5 _ σ5 τ5 I5 setL_eq (by decide) (by decide) (by decide) (by decide) (wf_ship W4 l0' (by decide) v6 (by omega)) with ⟨e6, L6, σ6, τ6, h1, h2, I6, W6, k0, k1, C6, M6⟩ | ⟨k, p, σ6, τ6, h1, h2, h3, h4, C6, M6⟩
            · left
              rw [show f_X3_readShips_2 8 999 (nI (0 + 1)) σ5 = _ from h1, lm_bd2_s, if_neg n10, h2]
              refine ⟨L6, σ6, τ6, rfl, rfl, I6.2.2.1, I6.2.2.2, W6, k0, ?_, (CA.tr C5).tr C6, (MA.tr M5).tr M6⟩
              rw [k1, setL_ne (by omega), setL_ne (by omega), setL_ne (by omega)]
              exact l1
            · right
              rw [show f_X3_readShips_2 8 999 (nI (0 + 1)) σ5 = _ from h1, lm_bd2_s, if_pos rfl, h2]
              exact ⟨k, p, σ6, τ6, rfl, rfl, h3, h4, (CA.tr C5).tr C6, (MA.tr M5).tr M6⟩
          · right
            rw [f1, f2, lm_bd_s, lm_bd2_s, if_pos rfl]
            exact ⟨k, p, σ5, τ5, rfl, d_129 f4, f3, f4, CA.tr C5, MA.tr M5⟩
        · right
          rw [if_neg q] at hsrt
          obtain ⟨τ5, f1, f2, f3⟩ := l_bad I4.2.1 (v := 1) (by omega)
          obtain ⟨σ5, b1, b2, b3⟩ := c_fail (v := 1) I4.1
          have eC : f_X3_readShips_25 8 (f_X3_readShips_2 8 999) (nI 0) σ4 = some (0, σ5) := by
            unfold f_X3_readShips_25
            rw [c_here I4.1 I4.2.1.2.1, lm_bd_s]
            have ek : f_X3_kindOfSort (if e4 = n then -1 else nI (T e4)) = some 0 := by
              by_cases qa : e4 = n
              · rw [if_pos qa]; rfl
              · have hlt : e4 < n := by have := I4.2.1.2.1; omega
                have hb := (I4.1.2.2.2 e4 (by omega)).2
                have s0 : srt (T e4) = 0 := by
                  by_cases z : srt (T e4) = 0
                  · exact z
                  · exact absurd ⟨hlt, z⟩ q
                rw [if_neg qa, srt_c _ hb, s0]
                rfl
            rw [ek, lm_bd_s, if_pos rfl, show f_X3_failAt σ4 (σ4 2 2) 1 = _ from b1, lm_bd2_s]
            rfl
          rw [hsrt, lm_bd_s, if_pos rfl, show f_X5_bad τ4 1 = _ from f1, lm_bd_s, fu_1, d_129 f2, eC, lm_bd2_s, if_pos rfl]
          exact ⟨1, e4, σ5, τ5, rfl, rfl, b2, f2, CA.tr (CF.qf b3), MA.tr (MF.pf f3)⟩
      · right
        rw [show f_X3_readFogs_2 8 999 (nI (0 + 1)) σ3 = _ from d1, lm_bd2_s, if_pos rfl, d2]
        exact ⟨k, p, σ4, τ4, rfl, rfl, d3, d4, (C2.tr C3).tr C4, (M2.tr M3).tr M4⟩
    · right
      rw [b1, b2, lm_bd_s, lm_bd2_s, if_pos rfl, fu_1, d_101 b4]
      exact ⟨k, p, σ3, τ3, rfl, rfl, b3, b4, C2.tr C3, M2.tr M3⟩
  · right
    rw [g1, g2, lm_bd2_s, if_pos rfl, d_K g4]
    exact ⟨k, p, σ2, τ2, rfl, rfl, g3, g4, C2, M2⟩
theorem Rel.tape (R : Rel σ τ) (hc : CF σ σ') (hm : MF τ τ') : Rel (up σ' 2 1 0) (up τ' 140 11 0) := by
  obtain ⟨r1, r2, r3, r4, r5, r6, r7, r8⟩ := R
  have c : ∀ x, x ≠ 2 → (x < 8 ∨ 12 ≤ x) → up σ' 2 1 0 x = σ x := fun x h1 h2 => by rw [up_x h1, hc.1 x h1 h2]
  have m : ∀ x, x ≠ 140 → x ≠ 145 → up τ' 140 11 0 x = τ x := fun x h1 h2 => by rw [up_x h1, hm.1 x h1 h2]
  have m0 : ∀ k, k ≠ 11 → (k < 12 ∨ 18 ≤ k) → up τ' 140 11 0 140 k = τ 140 k := fun k h1 h2 => by rw [up_ne (by omega), hm.2 k h2]
  obtain ⟨n, hn, t1, t2, t3⟩ := r2
  refine ⟨r1.co (fun x _ _ => c x (by omega) (by omega)) (m _ (by decide) (by decide)) (m _ (by decide) (by decide)) (m _ (by decide) (by decide)), ⟨0, by omega, up_eq, up_eq, fun i hi => by rw [c 3 (by decide) (by decide), m 148 (by decide) (by decide)]; exact t3 i hi⟩, r3.co (by rw [c 0 (by decide) (by decide)]) (c 115 (by decide) (by decide)) (m0 _ (by decide) (by decide)) (m _ (by decide) (by decide)), r4.co (fun x _ _ => c x (by omega) (by omega)) (m _ (by decide) (by decide)), r5.co (fun x _ _ => c x (by omega) (by omega)) (m0 _ (by decide) (by decide)) (m _ (by decide) (by decide)), r6.co (fun x _ _ => c x (by omega) (by omega)) (m _ (by decide) (by decide)) (m _ (by decide) (by decide)), ?_, ?_⟩
  · rw [c 0 (by decide) (by decide), m0 _ (by decide) (by decide)]; exact r7
  · rw [c 0 (by decide) (by decide), m0 _ (by decide) (by decide)]; exact r8
theorem Rel.flt (R : Rel σ τ) {v : Int32} : Rel (up σ 0 9 v) (up τ 140 18 v) := by
  obtain ⟨r1, r2, r3, r4, r5, r6, r7, r8⟩ := R
  have e : ∀ x, x ≠ 0 → up σ 0 9 v x = σ x := fun x hx => up_x hx
  have f : ∀ x, x ≠ 140 → up τ 140 18 v x = τ x := fun x hx => up_x hx
  refine ⟨r1.co (fun x _ _ => e x (by omega)) (f _ (by decide)) (f _ (by decide)) (f _ (by decide)), r2.co (by rw [e 2 (by decide)]) (e 3 (by decide)) (up_ne (by decide)) (f _ (by decide)), r3.co (up_ne (by decide)) (e 115 (by decide)) (up_ne (by decide)) (f _ (by decide)), r4.co (fun x _ _ => e x (by omega)) (f _ (by decide)), r5.co (fun x _ _ => e x (by omega)) (up_ne (by decide)) (f _ (by decide)), r6.co (fun x _ _ => e x (by omega)) (f _ (by decide)) (f _ (by decide)), ?_, ?_⟩
  · rw [up_eq, up_eq]
  · rw [up_ne (by decide), up_ne (by decide)]; exact r8
theorem up_id {c k : Nat} : up σ c k (σ c k) = σ := by
  funext x j
  rw [up_ap]
  split
  · next h => rw [h.1, h.2]
  · rfl
theorem o_light (h : Rel σ τ) : LmOp (f_X4_light σ) (f_X5_light τ) := by
  unfold f_X4_light f_X5_light f_X3_readInto f_X5_begin
  simp only [lm_nm_s]
  have R := h.t0
  revert R
  generalize up τ 140 0 0 = τ1
  intro R
  obtain ⟨n, hn, t1, t2, t3⟩ := R.2.1
  have hT : ∀ i, i < 120 → τ1 148 i = nI ((τ1 148 i).toNatClampNeg) ∧ (τ1 148 i).toNatClampNeg < 256 := by
    intro i hi
    obtain ⟨_, b, hb, e⟩ := t3 i hi
    rw [e, nI_clamp (by omega)]
    exact ⟨rfl, hb⟩
  have P1 : PF τ1 (up (up τ1 140 12 0) 140 16 0) := (PF.up (by omega)).tr (PF.up (by omega))
  have H1 : HT (fun i => (τ1 148 i).toNatClampNeg) n (up (up τ1 140 12 0) 140 16 0) := ⟨hn, by rw [P1.2 11 (by omega)]; exact t2, fun i hi => by rw [P1.1 148 (by decide)]; exact hT i hi⟩
  obtain ⟨τ2, a1, a2, a3⟩ := tk (a := 0) H1 (Nat.zero_le _) (by rw [up_ne (by decide), up_eq]; rfl)
  obtain ⟨τ3, b1, b2, b3⟩ := m_zero lm_fu 0 τ2 (by omega) (by decide)
  have e140 : τ3 140 = τ2 140 := b2 140 (by decide)
  have Lv : Live (fun i => (τ1 148 i).toNatClampNeg) n 0 τ3 := by
    have H2 := H1.nf a2
    refine ⟨⟨hn, by rw [e140]; exact H2.2.1, fun i hi => by rw [b2 148 (by decide)]; exact H2.2.2 i hi⟩, Nat.zero_le _, ?_, ?_⟩
    · unfold Tok at a3 ⊢
      rw [e140]
      exact a3
    · rw [e140, a2.2 16 (by omega), up_eq]
  have M3 : MF τ1 τ3 := ((MF.pf P1).tr (MF.pf (PF.nf a2))).tr ⟨fun x _ hx => b2 x hx, fun k _ => by rw [e140]⟩
  rw [a1, lm_bd_s, lm_bd_s, show f_X5_light_11 lm_fu 0 τ2 = _ from b1]
  unfold f_X1_clear
  simp only [lm_nm_s, lm_bd_s]
  have C3 : CF σ (up (up (up (up (up (up (up σ 2 2 0) 8 3 0) 8 4 0) 8 5 0) 8 6 0) 8 7 0) 8 8 0) := (CF.qf (QF.up (by omega))).tr ((((((CF.up (by omega)).tr (CF.up (by omega))).tr (CF.up (by omega))).tr (CF.up (by omega))).tr (CF.up (by omega))).tr (CF.up (by omega)))
  have LC3 : LC (up (up (up (up (up (up (up σ 2 2 0) 8 3 0) 8 4 0) 8 5 0) 8 6 0) 8 7 0) 8 8 0) 8 (fun _ => 0) := by
    refine ⟨?_, ?_, ?_, ?_, ?_, up_eq, fun f hf => absurd hf (Nat.not_lt_zero _), fun s hs => absurd hs (Nat.not_lt_zero _)⟩
    · rw [up_ne (by decide), up_ne (by decide), up_ne (by decide), up_ne (by decide), up_ne (by decide), up_eq]; rfl
    · rw [up_ne (by decide), up_ne (by decide), up_ne (by decide), up_ne (by decide), up_eq]; rfl
    · rw [up_ne (by decide), up_ne (by decide), up_ne (by decide), up_eq]; rfl
    · rw [up_ne (by decide), up_ne (by decide), up_eq]; rfl
    · rw [up_ne (by decide), up_eq]; rfl
  have H3 : HC (fun i => (τ1 148 i).toNatClampNeg) n 0 (up (up (up (up (up (up (up σ 2 2 0) 8 3 0) 8 4 0) 8 5 0) 8 6 0) 8 7 0) 8 8 0) := by
    refine HC.up (HC.up (HC.up (HC.up (HC.up (HC.up ⟨hn, by rw [up_ne (by decide)]; exact t1, up_eq, fun i hi => ?_⟩ (by omega)) (by omega)) (by omega)) (by omega)) (by omega)) (by omega)
    rw [up_x (by decide), (t3 i hi).1]
    exact hT i hi
  revert C3 LC3 H3
  generalize up (up (up (up (up (up (up σ 2 2 0) 8 3 0) 8 4 0) 8 5 0) 8 6 0) 8 7 0) 8 8 0 = σ3
  intro C3 LC3 H3
  rcases jAll ⟨H3, Lv, LC3, fun k hk => by rw [b3 k hk, if_pos (by omega)]; rfl⟩ with ⟨L, σ4, τ4, d1, d2, d3, d4, d5, d6, d7, d8, d9⟩ | ⟨k, p, σ4, τ4, d1, d2, d3, d4, d8, d9⟩
  · rw [d1, d2, lm_bd2_s, if_neg n10]
    have hok : Ok L := ⟨⟨d6, d5.1⟩, ⟨d7, d5.2.1⟩, d5.2.2.1, d5.2.2.2.1, d5.2.2.2.2.1, d5.2.2.2.2.2.2.1, d5.2.2.2.2.2.2.2⟩
    have h5 : L 5 ≤ 999 := by rw [d5.2.2.2.2.2.1]; omega
    have RT := R.tape (C3.tr d8) (M3.tr d9)
    obtain ⟨σ5, e1, e2, e3⟩ := s_takeFrom (σ := up σ4 2 1 0) (c := 4) (o := 8) (L := L) (d3.co (fun x _ _ => up_x (by omega))) d5.1 d5.2.1 (by decide)
    unfold mE f_X0_forget
    have ei : up (up τ4 140 11 0) 140 18 (τ4 140 18) = up τ4 140 11 0 := by
      have : τ4 140 18 = up τ4 140 11 0 140 18 := (up_ne (by decide)).symm
      rw [this, up_id]
    obtain ⟨τ5, f1, f2, f3⟩ := m_copyL lm_fu 0 (up (up τ4 140 11 0) 140 9 0) (by omega) (by decide)
    rw [ei, e1, lm_bd_s, lm_nm_s, lm_bd_s, show f_X5_light_165 lm_fu 0 (up (up τ4 140 11 0) 140 9 0) = _ from f1]
    have hM5 : LM τ5 144 L := fun k hk => by
      rw [f3 k hk, if_pos (by omega), up_x (by decide), up_x (by decide)]
      exact d4 k hk
    have hC5 : LC (up σ5 16 2 0) 4 L := e2.co (fun x _ _ => up_x (by omega))
    refine LmOp.mk' (hC5.2.2.2.2.2.1.trans (hM5 0 (by decide)).symm) (RT.forget.light (fun x hx => ?_) f2 hC5 hM5 (Or.inr ⟨hok, h5⟩))
    by_cases q : x = 16
    · subst q
      unfold up
      rw [upA_eq, upA_eq]
      have := e3 16 (by omega)
      unfold up at this
      rw [this]
    · rw [up_x q, up_x q, e3 x hx]
  · rw [d1, d2, lm_bd2_s, if_pos rfl]
    unfold finM
    have k23 : up σ4 2 1 0 2 3 = nI k := by rw [up_ne (by decide)]; exact d3.2
    have k24 : up (up σ4 2 1 0) 0 9 (nI k) 2 4 = nI p := by rw [up_x (by decide), up_ne (by decide)]; exact d3.1
    rw [k23, k24]
    exact LmOp.mk (R.tape (C3.tr d8) (M3.tr d9)).flt
end TPG
