section OPL
variable {σ τ σ' τ' : Mem} {L M : Nat → Nat}
theorem kd_ind : ∀ (n : Nat) (x1 x2 x3 : Int32), f_X4_isOfKind_4 σ n x1 x2 x3 = f_X4_isOfKind_4 (fun _ _ => 0) n x1 x2 x3
  | 0, _, _, _ => rfl
  | n + 1, x1, x2, x3 => by
    unfold f_X4_isOfKind_4
    simp only [lm_nm_s, kd_ind n]
theorem kd_all : ∀ k, k < 6 → ∀ w, w < 6 → 1 ≤ k → f_X4_isOfKind_4 (fun _ _ => 0) lm_fu (nI w) (nI k) (0 : Int32) = f_X5_isOf (nI k) (nI w) := by decide
theorem kd_bo : ∀ k, k < 6 → ∀ w, w < 6 → f_X5_isOf (nI k) (nI w) = some 0 ∨ f_X5_isOf (nI k) (nI w) = some 1 := by decide
theorem o_as (h : Rel σ τ) (p q : Int32) : LmOp (f_X4_as σ p q) (f_X5_as τ p q) := by
  unfold f_X4_as f_X5_as
  simp only [lm_nm_s]
  have R := h.t0
  revert R
  generalize up τ 140 0 0 = τ1
  intro R
  obtain ⟨L, hC, hM, h0⟩ := R.2.2.2.1
  rcases ship_c hC hM h0 p with ⟨a, b⟩ | ⟨s, h1, h2, ho, h5, rfl, a, b⟩
  · rw [a, b]
    exact LmOp.mk R
  rw [a, b, lm_bd_s, lm_bd_s, if_neg n10, if_neg n10]
  rcases bel q 6 0 5 (n := 5) rfl rfl rfl (by decide) with ⟨a, b⟩ | ⟨w, hw, rfl, a, b⟩
  · rw [a, b]
    exact LmOp.mk R
  have hM2 : LM (up τ1 140 1 0) 144 L := fun k hk => by rw [up_x (by decide)]; exact hM k hk
  obtain ⟨k1, k2, k3⟩ := ho.2.2.2.2.2.2 s h1
  rw [a, b, lm_bd_s, lm_bd_s, if_neg n10, if_neg n10, lm_in_n h2 (by decide), lm_ck_s, nI_clamp (by omega), show σ (4 + 2) s = nI (L (12 + 2 * s)) from (hC.2.2.2.2.2.2.2 s h1).1, m_of0 hM2 h2, lm_bd_s]
  unfold f_X4_isOfKind
  rw [kd_ind, kd_all _ (by omega) w (by omega) k1]
  rcases kd_bo (L (12 + 2 * s)) (by omega) w (by omega) with e | e
  · rw [e, lm_bd_s, lm_bd_s, if_pos rfl, if_pos rfl, s_found, m_found, lm_bd2_s, lm_bd2_s, upup]
    exact LmOp.mk R.fnd
  · rw [e, lm_bd_s, lm_bd_s, if_neg n10, if_neg n10, s_unf, lm_bd2_s]
    exact LmOp.mk R.fnd
-- ask
def Jn (L : Nat → Nat) (σ τ : Mem) : Prop := Rel σ τ ∧ LC σ 4 L ∧ LM τ 144 L
theorem Rel.trc (h : Rel σ τ) (hs : ∀ x, x ≠ 0 → x ≠ 115 → σ' x = σ x) (h0 : ∀ k, k ≠ 8 → σ' 0 k = σ 0 k) (ht : ∀ x, x ≠ 140 → x ≠ 152 → τ' x = τ x) (h9 : ∀ k, k ≠ 26 → τ' 140 k = τ 140 k) (ha : RTrace σ' τ') : Rel σ' τ' := by
  obtain ⟨r1, r2, r3, r4, r5, r6, r7, r8⟩ := h
  refine ⟨r1.co (fun x _ _ => hs x (by omega) (by omega)) (ht _ (by decide) (by decide)) (ht _ (by decide) (by decide)) (ht _ (by decide) (by decide)), r2.co (by rw [hs 2 (by omega) (by omega)]) (hs 3 (by omega) (by omega)) (h9 _ (by decide)) (ht _ (by decide) (by decide)), ha, r4.co (fun x _ _ => hs x (by omega) (by omega)) (ht _ (by decide) (by decide)), r5.co (fun x _ _ => hs x (by omega) (by omega)) (h9 _ (by decide)) (ht _ (by decide) (by decide)), r6.co (fun x _ _ => hs x (by omega) (by omega)) (ht _ (by decide) (by decide)) (ht _ (by decide) (by decide)), ?_, ?_⟩
  · rw [h0 _ (by decide), h9 _ (by decide)]; exact r7
  · rw [h0 _ (by decide), h9 _ (by decide)]; exact r8
theorem j_leave (J : Jn L σ τ) (v : Int32) : ∃ σ' τ', f_X4_leave σ v = some σ' ∧ f_X5_began τ v = some τ' ∧ Jn L σ' τ' := by
  obtain ⟨R, hC, hM⟩ := J
  unfold f_X4_leave f_X5_began
  obtain ⟨n, hn, e1, e2, e3⟩ := R.2.2.1
  rw [e1, e2, lit_16]
  by_cases q : n = 16
  · rw [if_pos (nI_le (by omega) (by omega)), if_pos (nI_le (by omega) (by omega))]
    exact ⟨σ, τ, rfl, rfl, R, hC, hM⟩
  · rw [if_neg (nI_ge (by omega) (by omega)), if_neg (nI_ge (by omega) (by omega)), lm_in_n (by omega) (by decide), lm_ck_s, lm_ck_s, lm_nm_s, lm_nm_s, lm_nm_s, lm_nm_s, nI_clamp (by omega), up_x (σ := σ) (x := 0) (by decide), up_x (σ := τ) (x := 140) (by decide), e1, e2, nI_1]
    refine ⟨_, _, rfl, rfl, ?_, ?_, ?_⟩
    · refine R.trc (fun x h1 h2 => by rw [up_x h1, up_x h2]) (fun k hk => by rw [up_ne (by omega), up_x (by decide)]) (fun x h1 h2 => by rw [up_x h1, up_x h2]) (fun k hk => by rw [up_ne (by omega), up_x (by decide)]) ⟨n + 1, by omega, up_eq, up_eq, fun i hi => ?_⟩
      rw [up_x (x := 115) (c := 0) (by decide), up_x (x := 152) (c := 140) (by decide), up_ap, up_ap]
      by_cases qi : i = n
      · rw [if_pos ⟨rfl, qi⟩, if_pos ⟨rfl, qi⟩]
      · rw [if_neg (by omega), if_neg (by omega)]
        exact e3 i (by omega)
    · exact hC.co (fun x _ _ => by rw [up_x (by omega), up_x (by omega)])
    · intro k hk
      rw [up_x (by decide), up_x (by decide)]
      exact hM k hk
section ASK
variable {s : Nat} 
theorem b10 (hs : s < L 0) (h6 : s < 6) (J : Jn L σ τ) (d : Nat) {e : Nat} (he : e ≤ 12) : ∃ σ' τ', f_X4_begun (d + 1) σ 10 (nI s) (nI e) = some (nI (L (13 + 2 * s)), σ') ∧ f_X5_plainSize τ (nI s) = some (nI (L (13 + 2 * s)), τ') ∧ Jn L σ' τ' := by
  obtain ⟨σ1, τ1, a1, a2, J1⟩ := j_leave J 10
  refine ⟨σ1, τ1, ?_, ?_, J1⟩
  · show (if nI e ≤ nI 12 then lm_bd (f_X4_leave σ 10) (fun σ4 => lm_ck (lm_in (nI s) 6) (some (σ4 (4 + 3) (nI s).toNatClampNeg, σ4))) else some (0, σ)) = _
    rw [if_pos (nI_le he (by decide)), a1, lm_bd_s, lm_in_n h6 (by decide), lm_ck_s, nI_clamp (by omega), show σ1 (4 + 3) s = nI (L (13 + 2 * s)) from (J1.2.1.2.2.2.2.2.2.2 s hs).2]
  · unfold f_X5_plainSize
    rw [a2, lm_bd_s, m_of1 J1.2.2 h6, lm_bd_s]
theorem b20 (J : Jn L σ τ) (d : Nat) {e : Nat} (he : e ≤ 12) : ∃ σ' τ', f_X4_begun (d + 1) σ 20 (nI s) (nI e) = some (nI s, σ') ∧ f_X5_began τ 20 = some τ' ∧ Jn L σ' τ' := by
  obtain ⟨σ1, τ1, a1, a2, J1⟩ := j_leave J 20
  refine ⟨σ1, τ1, ?_, a2, J1⟩
  show (if nI e ≤ nI 12 then lm_bd (f_X4_leave σ 20) (fun σ4 => some (nI s, σ4)) else some (0, σ)) = _
  rw [if_pos (nI_le he (by decide)), a1, lm_bd_s]
theorem b21 (ho : Ok L) (h5 : L 5 ≤ 999) (hs : s < L 0) (J : Jn L σ τ) (d : Nat) {e : Nat} (he : e ≤ 11) : ∃ σ' τ', f_X4_begun (d + 2) σ 21 (nI s) (nI e) = some (nI s + nI (lgd L s), σ') ∧ (∀ x2, f_X5_markOf_56 (nI s) x2 τ = if x2 = (1 : Int32) then some (nI s + nI (lgd L s), τ') else if x2 = (3 : Int32) then some ((nI s + nI (lgd L s)) - (1000 : Int32), τ') else some ((2 : Int32) * (nI s + nI (lgd L s)), τ')) ∧ Jn L σ' τ' := by
  obtain ⟨σ1, τ1, a1, a2, J1⟩ := j_leave J 21
  obtain ⟨σ2, τ2, b1, b2, J2⟩ := b20 (s := s) J1 d (e := e + 1) (by omega)
  refine ⟨σ2, τ2, ?_, fun x2 => ?_, J2⟩
  · show (if nI e ≤ nI 12 then lm_bd (f_X4_leave σ 21) (fun σ4 => lm_bd2 (f_X4_begun (d + 1) σ4 20 (nI s) (nI e + 1)) fun r35 σ36 => lm_bd (f_X1_loggedOf 4 σ36 (nI s)) fun r38 => some (r35 + r38, σ36)) else some (0, σ)) = _
    rw [if_pos (nI_le (by omega) (by decide)), a1, lm_bd_s, nI_1, b1, lm_bd2_s, s_loggedOf J2.2.1 ho (by omega) hs, lm_bd_s]
  · unfold f_X5_markOf_56
    rw [a2, lm_bd_s, b2, lm_bd_s, m_loggedOf J2.2.2 ho (by omega) hs, lm_bd_s, lm_nm_s]
theorem b13 (hs : s < L 0) (h6 : s < 6) (J : Jn L σ τ) (d : Nat) {e : Nat} (he : e ≤ 11) : ∃ σ' τ', f_X4_begun (d + 2) σ 13 (nI s) (nI e) = some (nI (L (13 + 2 * s)) - (100 : Int32), σ') ∧ (∀ x2, f_X5_gullSize_29 (nI s) x2 τ = if x2 = 0 then some (nI (L (13 + 2 * s)) - (100 : Int32), τ') else some ((2 : Int32) * (nI (L (13 + 2 * s)) - (100 : Int32)), τ')) ∧ Jn L σ' τ' := by
  obtain ⟨σ1, τ1, a1, a2, J1⟩ := j_leave J 13
  obtain ⟨σ2, τ2, b1, b2, J2⟩ := b10 hs h6 J1 d (e := e + 1) (by omega)
  refine ⟨σ2, τ2, ?_, fun x2 => ?_, J2⟩
  · show (if nI e ≤ nI 12 then lm_bd (f_X4_leave σ 13) (fun σ4 => lm_bd2 (f_X4_begun (d + 1) σ4 10 (nI s) (nI e + 1)) fun r21 σ22 => some (r21 - 100, σ22)) else some (0, σ)) = _
    rw [if_pos (nI_le (by omega) (by decide)), a1, lm_bd_s, nI_1, b1, lm_bd2_s]
  · unfold f_X5_gullSize_29
    rw [a2, lm_bd_s, b2, lm_bd2_s, lm_nm_s]
theorem b14 (hs : s < L 0) (h6 : s < 6) (J : Jn L σ τ) (d : Nat) {e : Nat} (he : e ≤ 10) : ∃ σ' τ', f_X4_begun (d + 3) σ 14 (nI s) (nI e) = some ((2 : Int32) * (nI (L (13 + 2 * s)) - (100 : Int32)), σ') ∧ (lm_bd (f_X5_began τ 14) fun τ12 => f_X5_gullSize_29 (nI s) 1 τ12) = some ((2 : Int32) * (nI (L (13 + 2 * s)) - (100 : Int32)), τ') ∧ Jn L σ' τ' := by
  obtain ⟨σ1, τ1, a1, a2, J1⟩ := j_leave J 14
  obtain ⟨σ2, τ2, b1, b2, J2⟩ := b13 hs h6 J1 d (e := e + 1) (by omega)
  refine ⟨σ2, τ2, ?_, ?_, J2⟩
  · show (if nI e ≤ nI 12 then lm_bd (f_X4_leave σ 14) (fun σ4 => lm_bd2 (f_X4_begun (d + 2) σ4 13 (nI s) (nI e + 1)) fun r25 σ26 => some (r25 * 2, σ26)) else some (0, σ)) = _
    rw [if_pos (nI_le (by omega) (by decide)), a1, lm_bd_s, nI_1, b1, lm_bd2_s, Int32.mul_comm]
  · rw [a2, lm_bd_s, b2, if_neg n10]
theorem s_asked (hs : s < L 0) (h6 : s < 6) (ho : Ok L) (hC : LC σ 4 L) {fb : Mem → Int32 → Int32 → Int32 → Option (Int32 × Mem)} {w c : Int32} : f_X4_asked fb σ w (nI s) c = if w = 0 then fb σ (lm_t2 (L (12 + 2 * s))) (nI s) c else fb σ (lm_t3 (L (12 + 2 * s))) (nI s) c := by
  obtain ⟨k1, k2, k3⟩ := ho.2.2.2.2.2.2 s hs
  unfold f_X4_asked
  rw [lm_in_n h6 (by decide), lm_ck_s, lm_nm_s, nI_clamp (by omega), show σ (4 + 2) s = nI (L (12 + 2 * s)) from (hC.2.2.2.2.2.2.2 s hs).1, lit_6, b_ok (by omega) (by decide), lm_bd_s, if_neg n10, lm_in_n (by omega) (by decide), lm_ck_s, lm_ck_s, nI_clamp (by omega)]
  have e : ∀ o : Option (Int32 × Mem), (lm_bd2 o fun r σ => some (r, σ)) = o := fun o => by
    cases o
    · rfl
    · rfl
  rw [e, e]
theorem j_gull (hs : s < L 0) (h6 : s < 6) (ho : Ok L) (J : Jn L σ τ) (hk : 4 ≤ L (12 + 2 * s)) (d : Nat) {e : Nat} (he : e ≤ 10) : ∃ r σ' τ', f_X4_asked (f_X4_begun (d + 3)) σ 0 (nI s) (nI e) = some (r, σ') ∧ f_X5_gullSize τ (nI s) = some (r, τ') ∧ Jn L σ' τ' := by
  obtain ⟨k1, k2, k3⟩ := ho.2.2.2.2.2.2 s hs
  rw [s_asked hs h6 ho J.2.1, if_pos rfl]
  unfold f_X5_gullSize
  rw [m_of0 J.2.2 h6, lm_bd_s]
  have hk2 : L (12 + 2 * s) = 4 ∨ L (12 + 2 * s) = 5 := by omega
  rcases hk2 with q | q
  · rw [q]
    obtain ⟨σ', τ', c1, c2, c3⟩ := b13 hs h6 J (d + 1) (e := e) (by omega)
    refine ⟨_, σ', τ', c1, ?_, c3⟩
    have := c2 0
    rw [if_pos rfl] at this
    exact this
  · rw [q]
    obtain ⟨σ', τ', c1, c2, c3⟩ := b14 hs h6 J d (e := e) (by omega)
    exact ⟨_, σ', τ', c1, c2, c3⟩
theorem j_mark (hs : s < L 0) (h6 : s < 6) (ho : Ok L) (h5 : L 5 ≤ 999) (J : Jn L σ τ) (d : Nat) {e : Nat} (he : e ≤ 9) : ∃ r σ' τ', f_X4_asked (f_X4_begun (d + 4)) σ 1 (nI s) (nI e) = some (r, σ') ∧ f_X5_markOf τ (nI s) = some (r, τ') ∧ Jn L σ' τ' := by
  obtain ⟨k1, k2, k3⟩ := ho.2.2.2.2.2.2 s hs
  rw [s_asked hs h6 ho J.2.1, if_neg n10]
  unfold f_X5_markOf
  rw [m_of0 J.2.2 h6, lm_bd_s]
  have gull : 4 ≤ L (12 + 2 * s) → ∃ r σ' τ', f_X4_begun (d + 4) σ 23 (nI s) (nI e) = some (r, σ') ∧ (lm_bd (f_X5_began τ (23 : Int32)) fun τ15 => lm_bd (f_X5_began τ15 (20 : Int32)) fun τ18 => lm_bd2 (f_X5_gullSize τ18 (nI s)) fun r20 τ21 => some ((nI s - r20), τ21)) = some (r, τ') ∧ Jn L σ' τ' := by
    intro hk
    obtain ⟨σ1, τ1, a1, a2, J1⟩ := j_leave J 23
    obtain ⟨σ2, τ2, b1, b2, J2⟩ := b20 (s := s) J1 (d + 2) (e := e + 1) (by omega)
    obtain ⟨r, σ3, τ3, c1, c2, J3⟩ := j_gull hs h6 ho J2 hk d (e := e + 1) (by omega)
    refine ⟨nI s - r, σ3, τ3, ?_, ?_, J3⟩
    · show (if nI e ≤ nI 12 then lm_bd (f_X4_leave σ 23) (fun σ4 => lm_bd2 (f_X4_begun (d + 3) σ4 20 (nI s) (nI e + 1)) fun r46 σ47 => lm_bd2 (f_X4_asked (f_X4_begun (d + 3)) σ47 0 (nI s) (nI e + 1)) fun r49 σ50 => some (r46 - r49, σ50)) else some (0, σ)) = _
      rw [if_pos (nI_le (by omega) (by decide)), a1, lm_bd_s, nI_1, b1, lm_bd2_s, c1, lm_bd2_s]
    · rw [a2, lm_bd_s, b2, lm_bd_s, c2, lm_bd2_s]
  have hk : L (12 + 2 * s) = 1 ∨ L (12 + 2 * s) = 2 ∨ L (12 + 2 * s) = 3 ∨ L (12 + 2 * s) = 4 ∨ L (12 + 2 * s) = 5 := by omega
  rcases hk with q | q | q | q | q
  · rw [q]
    obtain ⟨σ', τ', c1, c2, c3⟩ := b21 ho h5 hs J (d + 2) (e := e) (by omega)
    refine ⟨_, σ', τ', c1, ?_, c3⟩
    exact (c2 (nI 1)).trans (if_pos rfl)
  · rw [q]
    obtain ⟨σ1, τ1, a1, a2, J1⟩ := j_leave J 24
    obtain ⟨σ', τ', c1, c2, c3⟩ := b21 ho h5 hs J1 (d + 1) (e := e + 1) (by omega)
    refine ⟨(2 : Int32) * (nI s + nI (lgd L s)), σ', τ', ?_, ?_, c3⟩
    · show (if nI e ≤ nI 12 then lm_bd (f_X4_leave σ 24) (fun σ4 => lm_bd2 (f_X4_begun (d + 3) σ4 21 (nI s) (nI e + 1)) fun r53 σ54 => some (r53 * 2, σ54)) else some (0, σ)) = _
      rw [if_pos (nI_le (by omega) (by decide)), a1, lm_bd_s, nI_1, c1, lm_bd2_s, Int32.mul_comm]
    · show (lm_bd (f_X5_began τ 24) fun τ9 => f_X5_markOf_56 (nI s) (nI 2) τ9) = _
      rw [a2, lm_bd_s, c2]
      rfl
  · rw [q]
    obtain ⟨σ1, τ1, a1, a2, J1⟩ := j_leave J 22
    obtain ⟨σ', τ', c1, c2, c3⟩ := b21 ho h5 hs J1 (d + 1) (e := e + 1) (by omega)
    refine ⟨(nI s + nI (lgd L s)) - (1000 : Int32), σ', τ', ?_, ?_, c3⟩
    · show (if nI e ≤ nI 12 then lm_bd (f_X4_leave σ 22) (fun σ4 => lm_bd2 (f_X4_begun (d + 3) σ4 21 (nI s) (nI e + 1)) fun r42 σ43 => some (r42 - 1000, σ43)) else some (0, σ)) = _
      rw [if_pos (nI_le (by omega) (by decide)), a1, lm_bd_s, nI_1, c1, lm_bd2_s]
    · show (lm_bd (f_X5_began τ 22) fun τ9 => f_X5_markOf_56 (nI s) (nI 3) τ9) = _
      rw [a2, lm_bd_s, c2]
      rfl
  · obtain ⟨r, σ', τ', c1, c2, c3⟩ := gull (by omega)
    rw [q]
    exact ⟨r, σ', τ', c1, c2, c3⟩
  · obtain ⟨r, σ', τ', c1, c2, c3⟩ := gull (by omega)
    rw [q]
    exact ⟨r, σ', τ', c1, c2, c3⟩
theorem b11 (hs : s < L 0) (h6 : s < 6) (ho : Ok L) (h5 : L 5 ≤ 999) (J : Jn L σ τ) (d : Nat) {e : Nat} (he : e ≤ 8) : ∃ r σ' τ', f_X4_begun (d + 5) σ 11 (nI s) (nI e) = some (r, σ') ∧ (∀ x2, f_X5_sizeOf_32 (nI s) x2 τ = if x2 = (2 : Int32) then some (-r, τ') else some (r, τ')) ∧ Jn L σ' τ' := by
  obtain ⟨σ1, τ1, a1, a2, J1⟩ := j_leave J 11
  obtain ⟨σ2, τ2, b1, b2, J2⟩ := b10 hs h6 J1 (d + 3) (e := e + 1) (by omega)
  obtain ⟨r, σ3, τ3, c1, c2, J3⟩ := j_mark hs h6 ho h5 J2 d (e := e + 1) (by omega)
  refine ⟨nI (L (13 + 2 * s)) + r, σ3, τ3, ?_, fun x2 => ?_, J3⟩
  · show (if nI e ≤ nI 12 then lm_bd (f_X4_leave σ 11) (fun σ4 => lm_bd2 (f_X4_begun (d + 4) σ4 10 (nI s) (nI e + 1)) fun r10 σ11 => lm_bd2 (f_X4_asked (f_X4_begun (d + 4)) σ11 1 (nI s) (nI e + 1)) fun r13 σ14 => some (r10 + r13, σ14)) else some (0, σ)) = _
    rw [if_pos (nI_le (by omega) (by decide)), a1, lm_bd_s, nI_1, b1, lm_bd2_s, c1, lm_bd2_s]
  · unfold f_X5_sizeOf_32
    rw [a2, lm_bd_s, b2, lm_bd2_s, c2, lm_bd2_s, lm_nm_s]
theorem j_size (hs : s < L 0) (h6 : s < 6) (ho : Ok L) (h5 : L 5 ≤ 999) (J : Jn L σ τ) (d : Nat) {e : Nat} (he : e ≤ 7) : ∃ r σ' τ', f_X4_asked (f_X4_begun (d + 6)) σ 0 (nI s) (nI e) = some (r, σ') ∧ f_X5_sizeOf τ (nI s) = some (r, τ') ∧ Jn L σ' τ' := by
  obtain ⟨k1, k2, k3⟩ := ho.2.2.2.2.2.2 s hs
  unfold f_X5_sizeOf
  rw [m_of0 J.2.2 h6, lm_bd_s]
  have e2 : ∀ o : Option (Int32 × Mem), (lm_bd2 o fun r σ => some (r, σ)) = o := fun o => by
    cases o
    · rfl
    · rfl
  have hk : L (12 + 2 * s) = 1 ∨ L (12 + 2 * s) = 2 ∨ L (12 + 2 * s) = 3 ∨ 4 ≤ L (12 + 2 * s) := by omega
  rcases hk with q | q | q | q
  · rw [s_asked hs h6 ho J.2.1, if_pos rfl, q]
    obtain ⟨r, σ', τ', c1, c2, c3⟩ := b11 hs h6 ho h5 J (d + 1) (e := e) (by omega)
    exact ⟨r, σ', τ', c1, (c2 (nI 1)).trans rfl, c3⟩
  · rw [s_asked hs h6 ho J.2.1, if_pos rfl, q]
    obtain ⟨σ1, τ1, a1, a2, J1⟩ := j_leave J 12
    obtain ⟨r, σ', τ', c1, c2, c3⟩ := b11 hs h6 ho h5 J1 d (e := e + 1) (by omega)
    refine ⟨-r, σ', τ', ?_, ?_, c3⟩
    · show (if nI e ≤ nI 12 then lm_bd (f_X4_leave σ 12) (fun σ4 => lm_bd2 (f_X4_begun (d + 5) σ4 11 (nI s) (nI e + 1)) fun r17 σ18 => some (0 - r17, σ18)) else some (0, σ)) = _
      rw [if_pos (nI_le (by omega) (by decide)), a1, lm_bd_s, nI_1, c1, lm_bd2_s, Int32.zero_sub]
    · show (lm_bd (f_X5_began τ 12) fun τ8 => f_X5_sizeOf_32 (nI s) (nI 2) τ8) = _
      rw [a2, lm_bd_s, c2]
      rfl
  · rw [s_asked hs h6 ho J.2.1, if_pos rfl, q]
    obtain ⟨r, σ', τ', c1, c2, c3⟩ := b11 hs h6 ho h5 J (d + 1) (e := e) (by omega)
    exact ⟨r, σ', τ', c1, (c2 (nI 3)).trans rfl, c3⟩
  · rw [if_neg (c := nI (L (12 + 2 * s)) < 4) (nI_nlt (b := 4) q (by omega)), e2]
    exact j_gull hs h6 ho J q (d + 3) (by omega)
theorem o_ask (h : Rel σ τ) (p q : Int32) : LmOp (f_X4_ask σ p q) (f_X5_ask τ p q) := by
  unfold f_X4_ask f_X5_ask
  simp only [lm_nm_s]
  have R := h.t0
  revert R
  generalize up τ 140 0 0 = τ1
  intro R
  obtain ⟨L, hC, hM, h0⟩ := R.2.2.2.1
  rcases ship_c hC hM h0 p with ⟨a, b⟩ | ⟨s, h1, h2, ho, h5, rfl, a, b⟩
  · rw [a, b]
    exact LmOp.mk R
  rw [a, b, lm_bd_s, lm_bd_s, if_neg n10, if_neg n10]
  rcases bel q 2 0 1 (n := 1) rfl rfl rfl (by decide) with ⟨a, b⟩ | ⟨w, hw, rfl, a, b⟩
  · rw [a, b]
    exact LmOp.mk R
  rw [a, b, lm_bd_s, lm_bd_s, if_neg n10, if_neg n10]
  have J : Jn L (up σ 0 8 0) (up τ1 140 26 0) := by
    refine ⟨R.trc (fun x h1 h2 => up_x h1) (fun k hk => up_ne (by omega)) (fun x h1 _ => up_x h1) (fun k hk => up_ne (by omega)) ⟨0, by omega, up_eq, up_eq, fun i hi => absurd hi (by omega)⟩, hC.co (fun x _ _ => up_x (by omega)), fun k hk => by rw [up_x (by decide)]; exact hM k hk⟩
  by_cases w0 : w = 0
  · subst w0
    obtain ⟨r, σ', τ', c1, c2, c3⟩ := j_size h1 h2 ho h5 J 14 (e := 0) (by omega)
    rw [if_pos (show nI 0 = 0 from rfl), c2, lm_bd2_s, show f_X4_asked (f_X4_begun 20) (up σ 0 8 0) (nI 0) (nI s) 0 = _ from c1, lm_bd2_s]
    exact LmOp.mk c3.1
  · have w1 : w = 1 := by omega
    subst w1
    obtain ⟨r, σ', τ', c1, c2, c3⟩ := j_mark h1 h2 ho h5 J 16 (e := 0) (by omega)
    rw [if_neg (show ¬ nI 1 = 0 by decide), c2, lm_bd2_s, show f_X4_asked (f_X4_begun 20) (up σ 0 8 0) (nI 1) (nI s) 0 = _ from c1, lm_bd2_s]
    exact LmOp.mk c3.1
end ASK
end OPL
