section TPE
variable {σ τ σ' τ' : Mem} {T : Nat → Nat} {n a : Nat} {L : Nat → Nat}
def srt (b : Nat) : Nat := if b = 98 then 2 else if b = 103 then 4 else if b = 109 then 3 else if b = 111 then 5 else if b = 115 then 1 else 0
theorem srt_c : ∀ b, b < 256 → f_X3_kindOfSort (nI b) = some (nI (srt b)) := by decide +kernel
theorem srt_m : ∀ b, b < 256 → f_X5_kindBy (nI b) = some (if srt b = 0 then -1000000 else nI (srt b)) := by decide +kernel
theorem srt_l : ∀ b, b < 256 → ¬ srt b = 0 → (97 ≤ b ∧ b ≤ 122) ∧ srt b ≤ 5 := by decide +kernel
theorem l_sort (h : Live T n a τ) : f_X5_isSort τ = some (if a < n ∧ ¬ srt (T a) = 0 then 1 else 0) := by
  obtain ⟨hT, ha, tok, h16⟩ := h
  have hn := hT.1
  unfold f_X5_isSort
  rw [if_pos h16]
  have dgn : ∀ b, b < 256 → dg b → srt b = 0 := by
    intro b hb hd
    have h1 := hd.2
    by_cases q : srt b = 0
    · exact q
    · have := (srt_l b hb q).1; omega
  rcases tok.2 with ⟨c1, c2⟩ | ⟨c1, c2, c3, c4, c5⟩ | ⟨c1, c2, c3, c4, c5, c6⟩ | ⟨c1, c2, c3, c4, c5, c6, c7⟩ | ⟨c1, c2, c3, c4, c5⟩
  · rw [c2, if_neg (by decide), if_neg (by omega)]
  · have hb := (hT.2.2 a (by omega)).2
    rw [c5, c3, srt_m _ hb, lm_bd_s]
    by_cases q : srt (T a) = 0
    · rw [if_pos q, if_pos rfl, if_neg (c := a < n ∧ ¬ srt (T a) = 0) (fun hh => hh.2 q)]
      exact ite_self _
    · obtain ⟨l1, l2⟩ := srt_l _ hb q
      rw [if_pos (c := 97 ≤ T a ∧ T a ≤ 122) l1, if_pos rfl, if_neg q, if_pos (c := a < n ∧ ¬ srt (T a) = 0) ⟨c1, q⟩, if_neg]
      intro hh
      have := congrArg Int32.toInt hh
      rw [nI_toInt (by omega), show (-1000000 : Int32).toInt = -1000000 from rfl] at this
      omega
  · have hb := (hT.2.2 a (by omega)).2
    rw [c6, if_neg (by decide), if_neg (fun hh => hh.2 (dgn _ hb c2))]
  · have hb := (hT.2.2 a (by omega)).2
    rw [c7, if_neg (by decide), if_neg (fun hh => hh.2 (dgn _ hb c2))]
  · have hb := (hT.2.2 a (by omega)).2
    rw [c5, if_neg (by decide), if_neg (fun hh => hh.2 (dgn _ hb c2))]
theorem l_let (h : Live T n a τ) (ha : a < n) (hq : ¬ srt (T a) = 0) : τ 140 15 = nI (T a) ∧ τ 140 12 = nI (a + 1) := by
  obtain ⟨hT, _, tok, h16⟩ := h
  have hn := hT.1
  have hb := (hT.2.2 a (by omega)).2
  have l1 := (srt_l _ hb hq).1
  rcases tok.2 with ⟨c1, c2⟩ | ⟨c1, c2, c3, c4, c5⟩ | ⟨c1, c2, c3, c4, c5, c6⟩ | ⟨c1, c2, c3, c4, c5, c6, c7⟩ | ⟨c1, c2, c3, c4, c5⟩
  · omega
  · exact ⟨c3, c4⟩
  · have := c2.2; omega
  · have := c2.2; omega
  · have := c2.2; omega
theorem jShip {s : Nat} {K2 : Int32 → Mem → Option (Int32 × Mem)} (h : Inv T n a L σ τ) (hs : L 0 = s) (h6 : s < 6) (h1 : L 1 ≤ 6) (h2 : 4 ≤ L 2 ∧ L 2 ≤ 12) (ha : a < n) (hq : ¬ srt (T a) = 0) : (∃ v e σ' τ', v < L 2 ∧ f_X3_readShips_25 8 K2 (nI s) σ = K2 (nI (s + 1)) σ' ∧ f_X5_readShip τ = some τ' ∧ Inv T n e (setL (setL (setL L (12 + 2 * s) (srt (T a))) (13 + 2 * s) v) 0 (s + 1)) σ' τ' ∧ CF σ σ' ∧ MF τ τ') ∨ (∃ k p σ' τ', f_X3_readShips_25 8 K2 (nI s) σ = some (0, σ') ∧ f_X5_readShip τ = some τ' ∧ Fl k p σ' ∧ Dead k (nI p) τ' ∧ CF σ σ' ∧ MF τ τ') := by
  have hn := h.1.1
  have hb := (h.1.2.2.2 a (by omega)).2
  obtain ⟨l1, l2⟩ := srt_l _ hb hq
  obtain ⟨k15, k12⟩ := l_let h.2.1 ha hq
  obtain ⟨τ1, m1, m2, m3⟩ := l_must h.2.1 k12 (by omega) (w := 1) n10
  have s6 : ¬ nI s = 6 := by rw [lit_6, nI_eq (by omega) (by decide)]; omega
  have LC1 : LC (up (up σ 2 2 (nI (a + 1))) (8 + 2) s (nI (srt (T a)))) 8 (setL L (12 + 2 * s) (srt (T a))) := LC_kind (h.2.2.1.co (fun x _ _ => up_x (by omega))) h1
  have H1 : HC T n (a + 1) (up (up σ 2 2 (nI (a + 1))) (8 + 2) s (nI (srt (T a)))) := h.1.go.up (by omega)
  have Cf1 : CF σ (up (up σ 2 2 (nI (a + 1))) (8 + 2) s (nI (srt (T a)))) := (CF.qf (QF.up (by omega))).tr (CF.up (by omega))
  have M1 : LM τ1 145 L := fun k hk => by rw [m3.1 145 (by decide)]; exact h.2.2.2 k hk
  unfold f_X3_readShips_25 f_X5_readShip f_X5_readShip_24
  rw [c_here h.1 h.2.1.2.1, lm_bd_s, if_neg (c := a = n) (by omega), srt_c _ hb, lm_bd_s, if_neg (nI_ne0 (by omega) (by omega)), if_neg s6, k15, srt_m _ hb, if_neg hq, lm_bd_s, in_0, lm_ck_s, cl_0, h.2.2.2 0 (by decide), hs, if_neg s6, m1, lm_bd_s, in_2, lm_ck_s, cl_2, M1 2 (by decide), lit_1, pk_sub (by omega), lm_nm_s, h.1.2.2.1, nI_add, lm_in_n h6 (by decide)]
  simp only [lm_ck_s, lm_nm_s]
  rw [nI_clamp (by omega)]
  have e3 : up (up σ 2 2 (nI (a + 1))) (8 + 2) s (nI (srt (T a))) 8 3 = nI (L 2) := by rw [up_x (by decide), up_x (by decide)]; exact h.2.2.1.1
  rw [e3, pk_sub (by omega)]
  rcases p_number (lo := 0) (hi := L 2 - 1) (by decide) (by omega) H1 m2 with ⟨v, e, σ2, τ2, v1, v2, b1, b2, b3, b4, b5, b6⟩ | ⟨k, σ2, τ2, b1, b2, b3, b4, b5, b6⟩
  · have LC2 : LC (up σ2 (8 + 3) s (nI v)) 8 (setL (setL L (12 + 2 * s) (srt (T a))) (13 + 2 * s) v) := LC_cell (LC1.co (fun x _ _ => b5.1 x (by omega))) (by rw [setL_ne (by omega)]; exact h1)
    have H2 : HC T n e (up σ2 (8 + 3) s (nI v)) := b3.up (by omega)
    have Cf2 : CF σ (up σ2 (8 + 3) s (nI v)) := (Cf1.tr (CF.qf b5)).tr (CF.up (by omega))
    have M2 : LM τ2 145 L := fun k hk => by rw [b6.1 145 (by decide)]; exact M1 k hk
    rw [show f_X3_readNumber _ 0 (nI (L 2 - 1)) = _ from b1, show f_X5_number τ1 0 (nI (L 2 - 1)) = _ from b2, lm_bd2_s, lm_bd2_s, up_eq, if_neg (nI_pos (by omega))]
    rcases p_sign (w := 59) (Or.inr rfl) H2 b4 with ⟨σ3, τ3, c1, c2, c3, c4, c5, c6⟩ | ⟨σ3, τ3, c1, c2, c3, c4, c5, c6⟩
    · left
      have M3 : LM τ3 145 L := fun k hk => by rw [c6.1 145 (by decide)]; exact M2 k hk
      have LC3 : LC σ3 8 (setL (setL L (12 + 2 * s) (srt (T a))) (13 + 2 * s) v) := LC2.co (fun x _ _ => c5.1 x (by omega))
      rw [show f_X3_readSign (up σ2 (8 + 3) s (nI v)) 59 = _ from c1, show f_X5_mustSign τ2 59 = _ from c2, lm_bd2_s, if_neg n10, lm_bd_s, if_pos c4.2.2.2]
      rw [M3 0 (by decide), hs, lit_12, lit_2, pk_mul, nI_add, nI_add, lm_in_n (by omega) (by decide), lm_ck_s, nI_clamp (by omega), up_ne (x := 145) (j := 0) (k := 12 + 2 * s) (by omega), M3 0 (by decide), hs, pk_mul, nI_add, nI_add, show 12 + 2 * s + 1 = 13 + 2 * s by omega, lm_in_n (by omega) (by decide), lm_ck_s, nI_clamp (by omega), up_ne (x := 145) (j := 0) (k := 13 + 2 * s) (by omega), up_ne (x := 145) (j := 0) (k := 12 + 2 * s) (by omega), M3 0 (by decide), hs, nI_add]
      refine ⟨v, e + 1, _, _, by omega, rfl, rfl, ⟨c3.up (by omega), c4.wr.wr.wr, LC_snum LC3 (by rw [setL_ne (by omega), setL_ne (by omega)]; exact hs) ?_ ?_, M3.set.set.set⟩, (Cf2.tr (CF.qf c5)).tr (CF.up (by omega)), (((((MF.pf m3).tr (MF.pf b6)).tr (MF.pf c6)).tr MF.up).tr MF.up).tr MF.up⟩
      · rw [c5.1 (8 + 2) (by decide), up_x (by decide), b5.1 (8 + 2) (by decide), up_eq, setL_ne (by omega), setL_eq]
      · rw [c5.1 (8 + 3) (by decide), up_eq, setL_eq]
    · right
      rw [show f_X3_readSign (up σ2 (8 + 3) s (nI v)) 59 = _ from c1, show f_X5_mustSign τ2 59 = _ from c2, lm_bd2_s, if_pos rfl, lm_bd_s, if_neg c4.ne]
      exact ⟨1, e, σ3, τ3, rfl, rfl, c3, c4, Cf2.tr (CF.qf c5), ((MF.pf m3).tr (MF.pf b6)).tr (MF.pf c6)⟩
  · right
    rw [show f_X3_readNumber _ 0 (nI (L 2 - 1)) = _ from b1, show f_X5_number τ1 0 (nI (L 2 - 1)) = _ from b2, lm_bd2_s, lm_bd2_s, up_eq, if_pos (by decide), d_sign b4, lm_bd_s, if_neg b4.ne]
    exact ⟨k, a + 1, _, τ2, rfl, rfl, b3.up (by decide), b4, (Cf1.tr (CF.qf b5)).tr (CF.up (by omega)), (MF.pf m3).tr (MF.pf b6)⟩
theorem wf_ship {s v b : Nat} (h : Wf L) (hs : L 0 = s) (h6 : s < 6) (hv : v < L 2) (hb : 1 ≤ b ∧ b ≤ 5) : Wf (setL (setL (setL L (12 + 2 * s) b) (13 + 2 * s) v) 0 (s + 1)) := by
  obtain ⟨a0, a1, a2, a3, a4, a5, a6, a7⟩ := h
  have e : ∀ i, i ≠ 0 → i ≠ 12 + 2 * s → i ≠ 13 + 2 * s → setL (setL (setL L (12 + 2 * s) b) (13 + 2 * s) v) 0 (s + 1) i = L i := fun i h1 h2 h3 => by rw [setL_ne h1, setL_ne h3, setL_ne h2]
  refine ⟨by rw [setL_eq]; omega, by rw [e 1 (by omega) (by omega) (by omega)]; exact a1, by rw [e 2 (by omega) (by omega) (by omega)]; exact a2, by rw [e 3 (by omega) (by omega) (by omega)]; exact a3, by rw [e 4 (by omega) (by omega) (by omega)]; exact a4, by rw [e 5 (by omega) (by omega) (by omega)]; exact a5, fun g hg => by rw [e _ (by omega) (by omega) (by omega)]; exact a6 g hg, fun z hz => ?_⟩
  rw [setL_eq] at hz
  rw [e 2 (by omega) (by omega) (by omega)]
  by_cases q : z = s
  · subst q
    rw [setL_ne (k := 0) (by omega), setL_ne (k := 0) (by omega), setL_ne (k := 13 + 2 * z) (i := 12 + 2 * z) (by omega), setL_eq, setL_eq]
    exact ⟨hb.1, hb.2, hv⟩
  · rw [e _ (by omega) (by omega) (by omega), e _ (by omega) (by omega) (by omega)]
    exact a7 z (by omega)
def mE (τ : Mem) : Option (Int32 × Mem) := f_X5_light_165 lm_fu 0 (up (up (up τ 140 11 0) 140 18 (τ 140 18)) 140 9 0)
/-- no sort stands here: the tape's end, or a fault -/
theorem l_end (h : Live T n a τ) (hq : ¬ (a < n ∧ ¬ srt (T a) = 0)) {f : Nat} : (a = n ∧ f_X5_light_129 (f + 1) τ = mE τ) ∨ (a < n ∧ ∃ τ', f_X5_light_129 (f + 1) τ = finM 1 (nI a) τ' ∧ Dead 1 (nI a) τ' ∧ PF τ τ') := by
  have hs := l_sort h
  rw [if_neg hq] at hs
  have h16 := h.2.2.2
  unfold f_X5_light_129
  rw [hs, lm_bd_s, if_pos rfl]
  by_cases qa : a = n
  · left
    have h14 : τ 140 14 = 1 := by
      rcases h.2.2.1.2 with ⟨c1, c2⟩ | ⟨c1, c2, c3, c4, c5⟩ | ⟨c1, c2, c3, c4, c5, c6⟩ | ⟨c1, c2, c3, c4, c5, c6, c7⟩ | ⟨c1, c2, c3, c4, c5⟩
      · exact c2
      all_goals omega
    refine ⟨qa, ?_⟩
    unfold f_X5_failed f_X5_failed_20
    have e : up τ 140 11 0 140 16 = 0 := by rw [up_ne (by decide)]; exact h16
    have e18 : up τ 140 11 0 140 18 = τ 140 18 := up_ne (by decide)
    have e2 : up (up τ 140 11 0) 140 18 (τ 140 18) 140 16 = 0 := by rw [up_ne (by decide)]; exact e
    rw [if_pos h16, if_pos h14, lm_nm_s, e, if_pos (by decide), lm_nm_s, e18, e2, if_pos (by decide), lm_bd2_s, if_pos rfl]
    rfl
  · right
    have ha : a < n := by have := h.2.1; omega
    have h14 : ¬ τ 140 14 = 1 := by
      rcases h.2.2.1.2 with ⟨c1, c2⟩ | ⟨c1, c2, c3, c4, c5⟩ | ⟨c1, c2, c3, c4, c5, c6⟩ | ⟨c1, c2, c3, c4, c5, c6, c7⟩ | ⟨c1, c2, c3, c4, c5⟩
      · omega
      · rw [c5]
        split
        · decide
        · split <;> decide
      · rw [c6]; decide
      · rw [c7]; decide
      · rw [c5]; decide
    obtain ⟨τ2, b1, b2, b3⟩ := l_bad h (v := 1) (by omega)
    have eF : f_X5_failed τ = f_X5_failed τ2 := by
      unfold f_X5_failed
      rw [if_pos h16, if_neg h14, show f_X5_bad τ 1 = _ from b1, lm_bd_s, if_neg b2.ne]
    refine ⟨ha, τ2, ?_, b2, b3⟩
    rw [eF, d_failed b2, lm_bd2_s, if_neg n10, up_ne (by decide), up_ne (by decide), b2.2.2]
    rfl
theorem jShips : ∀ (m n' s a : Nat) (L : Nat → Nat) (σ τ : Mem), Inv T n a L σ τ → L 0 = s → 1 ≤ s → s ≤ 6 → 7 - s < m → 7 - s < n' → Wf L → (∃ e L' σ' τ', f_X3_readShips_2 8 m (nI s) σ = some (1, σ') ∧ f_X5_light_129 n' τ = mE τ' ∧ Inv T n e L' σ' τ' ∧ Wf L' ∧ 1 ≤ L' 0 ∧ L' 1 = L 1 ∧ CF σ σ' ∧ MF τ τ') ∨ BadF (f_X3_readShips_2 8 m (nI s) σ) (f_X5_light_129 n' τ) σ τ
  | 0, n', s, a, L, σ, τ, h, hs, h1, h6, hm, hn, hw => by omega
  | m + 1, 0, s, a, L, σ, τ, h, hs, h1, h6, hm, hn, hw => by omega
  | m + 1, n' + 1, s, a, L, σ, τ, h, hs, h1, h6, hm, hn, hw => by
    have hn120 := h.1.1
    have han := h.2.1.2.1
    unfold f_X3_readShips_2
    rw [lit_6, if_neg (nI_nlt (by omega) (by decide)), if_neg (nI_nle (by omega) (by omega)), h.1.2.1, h.1.2.2.1]
    by_cases q : a < n ∧ ¬ srt (T a) = 0
    · have hb := (h.1.2.2.2 a (by omega)).2
      obtain ⟨l1, l2⟩ := srt_l _ hb q.2
      have hsrt := l_sort h.2.1
      rw [if_pos q] at hsrt
      rw [if_pos (nI_lt q.1 (by omega))]
      unfold f_X5_light_129
      rw [hsrt, lm_bd_s, if_neg n10]
      by_cases q6 : s = 6
      · right
        subst q6
        obtain ⟨σ2, b1, b2, b3⟩ := c_fail (v := 3) h.1
        obtain ⟨τ2, c1, c2, c3⟩ := l_bad h.2.1 (v := 3) (by omega)
        obtain ⟨k15, k12⟩ := l_let h.2.1 q.1 q.2
        have eF : f_X5_readShip τ = some τ2 := by
          unfold f_X5_readShip
          rw [k15, srt_m _ hb, if_neg q.2, lm_bd_s, in_0, lm_ck_s, cl_0, h.2.2.2 0 (by decide), hs, if_pos (show nI 6 = 6 from rfl), show f_X5_bad τ 3 = _ from c1, lm_bd_s, d_ship24 c2]
        unfold f_X3_readShips_25
        obtain ⟨n2, rfl⟩ : ∃ z, n' = z + 1 := ⟨n' - 1, by omega⟩
        rw [c_here h.1 han, lm_bd_s, if_neg (c := a = n) (by omega), srt_c _ hb, lm_bd_s, if_neg (c := nI (srt (T a)) = 0) (nI_ne0 (by omega) (by omega)), if_pos (show nI 6 = 6 from rfl), show f_X3_failAt σ (σ 2 2) 3 = _ from b1, lm_bd2_s, eF, lm_bd_s, d_129 c2]
        exact ⟨3, a, σ2, τ2, rfl, rfl, b2, c2, CF.qf b3, MF.pf c3⟩
      · rcases jShip (K2 := f_X3_readShips_2 8 m) h hs (by omega) hw.2.1 hw.2.2.1 q.1 q.2 with ⟨v, e, σ2, τ2, v2, b1, b2, b3, b4, b5⟩ | ⟨k, p, σ2, τ2, b1, b2, b3, b4, b5, b6⟩
        · rw [b1, b2, lm_bd_s]
          rcases jShips m n' (s + 1) e _ σ2 τ2 b3 setL_eq (by omega) (by omega) (by omega) (by omega) (wf_ship hw hs (by omega) v2 (by omega)) with ⟨e2, L2, σ3, τ3, c1, c2, c3, c4, c5, c6, c7, c8⟩ | g
          · refine Or.inl ⟨e2, L2, σ3, τ3, c1, c2, c3, c4, c5, ?_, b4.tr c7, b5.tr c8⟩
            rw [c6, setL_ne (by omega), setL_ne (by omega), setL_ne (by omega)]
          · exact Or.inr (g.mv b4 b5)
        · right
          obtain ⟨n2, rfl⟩ : ∃ z, n' = z + 1 := ⟨n' - 1, by omega⟩
          rw [b1, b2, lm_bd_s, d_129 b4]
          exact ⟨k, p, σ2, τ2, rfl, rfl, b3, b4, b5, b6⟩
    · rcases l_end h.2.1 q (f := n') with ⟨q1, q2⟩ | ⟨q1, τ2, q2, q3, q4⟩
      · left
        rw [if_neg (nI_nlt (by omega) (by omega)), q2]
        exact ⟨a, L, σ, τ, rfl, rfl, h, hw, by omega, rfl, CF.rf, MF.rf⟩
      · right
        have hb := (h.1.2.2.2 a (by omega)).2
        have s0 : srt (T a) = 0 := by
          by_cases z : srt (T a) = 0
          · exact z
          · exact absurd ⟨q1, z⟩ q
        obtain ⟨σ2, b1, b2, b3⟩ := c_fail (v := 1) h.1
        unfold f_X3_readShips_25
        rw [if_pos (nI_lt q1 (by omega)), q2, c_here h.1 han, lm_bd_s, if_neg (c := a = n) (by omega), srt_c _ hb, lm_bd_s, s0, if_pos (show nI 0 = 0 from rfl), show f_X3_failAt σ (σ 2 2) 1 = _ from b1, lm_bd2_s]
        exact ⟨1, a, σ2, τ2, rfl, rfl, b2, q3, CF.qf b3, MF.pf q4⟩
end TPE
