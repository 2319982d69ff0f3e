section TPD
variable {σ τ σ' τ' : Mem} {T : Nat → Nat} {n a : Nat} {L : Nat → Nat}
def Wf (L : Nat → Nat) : Prop := L 0 ≤ 6 ∧ L 1 ≤ 6 ∧ (4 ≤ L 2 ∧ L 2 ≤ 12) ∧ L 3 ≤ 12 ∧ L 4 ≤ 60 ∧ L 5 = 0 ∧ (∀ f, f < 6 → L (6 + f) ≤ 9) ∧ (∀ s, s < L 0 → 1 ≤ L (12 + 2 * s) ∧ L (12 + 2 * s) ≤ 5 ∧ L (13 + 2 * s) < L 2)
def finM (k : Nat) (p : Int32) (τ : Mem) : Option (Int32 × Mem) := some ((-1000100 : Int32) - p, up (up τ 140 11 0) 140 18 (nI k))
def mT (τ : Mem) : Option (Int32 × Mem) := lm_bd (f_X5_isSort τ) fun r47 => if r47 = 0 then (lm_bd (f_X5_bad τ (1 : Int32)) fun τ52 => f_X5_light_129 lm_fu τ52) else (f_X5_light_129 lm_fu τ)
theorem d_failed {k : Nat} {p : Int32} (h : Dead k p τ) : f_X5_failed τ = some (1, up (up τ 140 11 0) 140 18 (nI k)) := by
  have hk := h.2.1
  have e : up τ 140 11 0 140 16 = nI k := by rw [up_ne (by decide)]; exact h.1
  have e2 : up (up τ 140 11 0) 140 18 (nI k) 140 16 = nI k := by rw [up_ne (by decide)]; exact e
  unfold f_X5_failed f_X5_failed_20
  rw [if_neg h.ne, lm_nm_s, e, if_neg (nI_nle (by omega) (by omega)), lm_nm_s, e2, if_neg (nI_nle (by omega) (by omega))]
theorem d_129 {k : Nat} {p : Int32} {f : Nat} (h : Dead k p τ) : f_X5_light_129 (f + 1) τ = finM k p τ := by
  unfold f_X5_light_129 finM
  rw [d_sort h, lm_bd_s, if_pos rfl, d_failed h, lm_bd2_s, if_neg n10, up_ne (by decide), up_ne (by decide), h.2.2]
theorem d_T {k : Nat} {p : Int32} (h : Dead k p τ) : mT τ = finM k p τ := by
  unfold mT
  rw [d_sort h, lm_bd_s, if_pos rfl, d_bad h, lm_bd_s, fu_1, d_129 h]
theorem d_101 {k : Nat} {p : Int32} {f : Nat} (h : Dead k p τ) : f_X5_light_101 (f + 1) τ = finM k p τ := by
  rw [← d_T h]
  unfold f_X5_light_101
  rw [d_letter h, lm_bd_s, if_pos rfl]
  rfl
theorem d_fog25 {k : Nat} {p : Int32} (h : Dead k p τ) : f_X5_readFog_25 τ = some τ := by
  unfold f_X5_readFog_25
  rw [d_letter h, lm_bd_s, d_must h, lm_bd_s, d_number h, lm_bd2_s, d_sign h, lm_bd_s, if_neg h.ne]
theorem d_fog {k : Nat} {p : Int32} (h : Dead k p τ) : f_X5_readFog τ = some τ := by
  unfold f_X5_readFog
  rw [d_letter h, lm_bd_s, if_pos rfl, d_fog25 h]
theorem d_ship24 {k : Nat} {p x : Int32} (h : Dead k p τ) : f_X5_readShip_24 x τ = some τ := by
  unfold f_X5_readShip_24
  rw [d_must h, lm_bd_s, in_2, lm_ck_s, d_number h, lm_bd2_s, d_sign h, lm_bd_s, if_neg h.ne]
/-- both have found the same fault, and the reference ends with it -/
def BadF (c m : Option (Int32 × Mem)) (σ τ : Mem) : Prop := ∃ k p σ' τ', c = some (0, σ') ∧ m = finM k (nI p) τ' ∧ Fl k p σ' ∧ Dead k (nI p) τ' ∧ CF σ σ' ∧ MF τ τ'
theorem BadF.mv {c m : Option (Int32 × Mem)} (h : BadF c m σ' τ') (hc : CF σ σ') (hm : MF τ τ') : BadF c m σ τ := by
  obtain ⟨k, p, s2, t2, a1, a2, a3, a4, a5, a6⟩ := h
  exact ⟨k, p, s2, t2, a1, a2, a3, a4, hc.tr a5, hm.tr a6⟩
theorem Fl.up {k p c j : Nat} {v : Int32} (h : Fl k p σ) (hc : c ≠ 2) : Fl k p (up σ c j v) := ⟨by rw [up_x (by omega)]; exact h.1, by rw [up_x (by omega)]; exact h.2⟩
theorem jFog {f : Nat} {K2 : Int32 → Mem → Option (Int32 × Mem)} (h : Inv T n a L σ τ) (hf : L 1 = f) (h6 : f < 6) : (∃ v e σ' τ', v ≤ 9 ∧ f_X3_readFogs_23 8 K2 (nI f) σ = K2 (nI (f + 1)) σ' ∧ f_X5_readFog τ = some τ' ∧ Inv T n e (setL (setL L (6 + f) v) 1 (f + 1)) σ' τ' ∧ CF σ σ' ∧ MF τ τ') ∨ (∃ k p σ' τ', f_X3_readFogs_23 8 K2 (nI f) σ = some (0, σ') ∧ f_X5_readFog τ = some τ' ∧ Fl k p σ' ∧ Dead k (nI p) τ' ∧ CF σ σ' ∧ MF τ τ') := by
  have e1 : f_X5_readFog τ = f_X5_readFog_25 τ := by
    have t1 : τ 145 (1 : Int32).toNatClampNeg = nI f := by rw [cl_1, h.2.2.2 1 (by decide), hf]
    unfold f_X5_readFog
    rcases p_letter (w := 102) (by decide) h.1 h.2.1 with ⟨σ', τ', _, _, e2, _⟩ | ⟨σ', τ', _, _, e2, _⟩
    · rw [show f_X5_isLetter τ 102 = _ from e2, lm_bd_s, if_neg n10, in_1, lm_ck_s, t1, if_neg (by rw [lit_6, nI_eq (by omega) (by decide)]; omega)]
    · rw [show f_X5_isLetter τ 102 = _ from e2, lm_bd_s, if_pos rfl]
  rw [e1]
  unfold f_X3_readFogs_23 f_X5_readFog_25
  rw [if_neg (c := nI f = 6) (by rw [lit_6, nI_eq (by omega) (by decide)]; omega)]
  rcases p_letter (w := 102) (by decide) h.1 h.2.1 with ⟨σ1, τ1, _, a1, a2, a3, a4, a5, a6, a7⟩ | ⟨σ1, τ1, _, a1, a2, a3, a4, a5, a6, a7⟩
  · rw [show f_X3_readSign σ 102 = _ from a1, show f_X5_isLetter τ 102 = _ from a2, lm_bd2_s, if_neg n10, lm_bd_s, a3, lm_bd_s]
    have I1 := h.step a4 a5 a6 a7
    rcases p_number (lo := 0) (hi := 9) (by decide) (by decide) I1.1 I1.2.1 with ⟨v, e, σ2, τ2, v1, v2, b1, b2, b3, b4, b5, b6⟩ | ⟨k, σ2, τ2, b1, b2, b3, b4, b5, b6⟩
    · have I2 := I1.step b3 b4 b5 b6
      have C2 : CF σ (up σ2 (8 + 1) f (nI v)) := ((CF.qf a6).tr (CF.qf b5)).tr (CF.up (by omega))
      have LC2 : LC (up σ2 (8 + 1) f (nI v)) 8 (setL L (6 + f) v) := LC_thick I2.2.2.1 h6
      have H2 : HC T n e (up σ2 (8 + 1) f (nI v)) := I2.1.up (by omega)
      rw [show f_X3_readNumber σ1 0 9 = _ from b1, show f_X5_number τ1 0 9 = _ from b2, lm_bd2_s, lm_bd2_s, lm_in_n h6 (by decide), lm_ck_s, lm_nm_s, lm_ck_s, nI_clamp (by omega), up_eq, if_neg (nI_pos (by omega))]
      rcases p_sign (w := 59) (Or.inr rfl) H2 I2.2.1 with ⟨σ3, τ3, c1, c2, c3, c4, c5, c6⟩ | ⟨σ3, τ3, c1, c2, c3, c4, c5, c6⟩
      · left
        have M3 : LM τ3 145 L := fun k hk => by rw [c6.1 145 (by decide)]; exact I2.2.2.2 k hk
        have LC3 : LC σ3 8 (setL L (6 + f) v) := LC2.co (fun x _ _ => c5.1 x (by omega))
        rw [show f_X3_readSign (up σ2 (8 + 1) f (nI v)) 59 = _ from c1, show f_X5_mustSign τ2 59 = _ from c2, lm_bd2_s, if_neg n10, lm_bd_s, if_pos c4.2.2.2, in_1]
        simp only [lm_ck_s, lm_nm_s]
        rw [cl_1, M3 1 (by decide), hf, lit_6, nI_add, lm_in_n (by omega) (by decide), lm_ck_s, nI_clamp (by omega), up_ne (by omega), M3 1 (by decide), hf, nI_1]
        refine ⟨v, e + 1, _, _, v2, rfl, rfl, ⟨c3.up (by omega), c4.wr.wr, LC_fnum LC3 (by rw [setL_ne (by omega)]; exact hf) h6 (by rw [c5.1 (8 + 1) (by decide), up_eq, setL_eq]), M3.set.set⟩, (C2.tr (CF.qf c5)).tr (CF.up (by omega)), ((((MF.pf a7).tr (MF.pf b6)).tr (MF.pf c6)).tr MF.up).tr MF.up⟩
      · right
        rw [show f_X3_readSign (up σ2 (8 + 1) f (nI v)) 59 = _ from c1, show f_X5_mustSign τ2 59 = _ from c2, lm_bd2_s, if_pos rfl, lm_bd_s, if_neg c4.ne]
        exact ⟨1, e, σ3, τ3, rfl, rfl, c3, c4, C2.tr (CF.qf c5), ((MF.pf a7).tr (MF.pf b6)).tr (MF.pf c6)⟩
    · right
      rw [show f_X3_readNumber σ1 0 9 = _ from b1, show f_X5_number τ1 0 9 = _ from b2, lm_bd2_s, lm_bd2_s, lm_in_n h6 (by decide), lm_ck_s, lm_nm_s, lm_ck_s, nI_clamp (by omega), up_eq, if_pos (by decide), d_sign b4, lm_bd_s, if_neg b4.ne]
      exact ⟨k, a + 1, _, τ2, rfl, rfl, b3.up (by decide), b4, ((CF.qf a6).tr (CF.qf b5)).tr (CF.up (by omega)), (MF.pf a7).tr (MF.pf b6)⟩
  · right
    rw [show f_X3_readSign σ 102 = _ from a1, show f_X5_isLetter τ 102 = _ from a2, lm_bd2_s, if_pos rfl, lm_bd_s, a3, lm_bd_s, d_number a5, lm_bd2_s, d_sign a5, lm_bd_s, if_neg a5.ne]
    exact ⟨1, a, σ1, τ1, rfl, rfl, a4, a5, CF.qf a6, MF.pf a7⟩
theorem wf_fog {f v : Nat} (h : Wf L) (hf : L 1 = f) (h6 : f < 6) (hv : v ≤ 9) : Wf (setL (setL L (6 + f) v) 1 (f + 1)) := by
  obtain ⟨a0, a1, a2, a3, a4, a5, a6, a7⟩ := h
  have e : ∀ i, i ≠ 1 → i ≠ 6 + f → setL (setL L (6 + f) v) 1 (f + 1) i = L i := fun i h1 h2 => by rw [setL_ne h1, setL_ne h2]
  refine ⟨by rw [e 0 (by omega) (by omega)]; exact a0, by rw [setL_eq]; omega, by rw [e 2 (by omega) (by omega)]; exact a2, by rw [e 3 (by omega) (by omega)]; exact a3, by rw [e 4 (by omega) (by omega)]; exact a4, by rw [e 5 (by omega) (by omega)]; exact a5, fun g hg => ?_, fun s hs => ?_⟩
  · rw [setL_ne (by omega)]
    by_cases q : 6 + g = 6 + f
    · rw [q, setL_eq]; exact hv
    · rw [setL_ne q]; exact a6 g hg
  · rw [e 0 (by omega) (by omega)] at hs
    rw [e _ (by omega) (by omega), e _ (by omega) (by omega), e 2 (by omega) (by omega)]
    exact a7 s hs
theorem jFogs : ∀ (m n' f a : Nat) (L : Nat → Nat) (σ τ : Mem), Inv T n a L σ τ → L 1 = f → 1 ≤ f → f ≤ 6 → 7 - f < m → 7 - f < n' → Wf L → (∃ e L' σ' τ', f_X3_readFogs_2 8 m (nI f) σ = some (1, σ') ∧ f_X5_light_101 n' τ = mT τ' ∧ Inv T n e L' σ' τ' ∧ Wf L' ∧ 1 ≤ L' 1 ∧ L' 0 = L 0 ∧ CF σ σ' ∧ MF τ τ') ∨ BadF (f_X3_readFogs_2 8 m (nI f) σ) (f_X5_light_101 n' τ) σ τ
  | 0, n', f, a, L, σ, τ, h, hf, h1, h6, hm, hn, hw => by omega
  | m + 1, 0, f, a, L, σ, τ, h, hf, h1, h6, hm, hn, hw => by omega
  | m + 1, n' + 1, f, a, L, σ, τ, h, hf, h1, h6, hm, hn, hw => by
    unfold f_X3_readFogs_2 f_X5_light_101
    rw [lit_6, if_neg (nI_nlt (by omega) (by decide)), if_neg (nI_nle (by omega) (by omega)), c_here h.1 h.2.1.2.1, lm_bd_s]
    have hb : a < n → T a < 256 := fun hh => (h.1.2.2.2 a (by have := h.1.1; omega)).2
    rcases p_letter (w := 102) (by decide) h.1 h.2.1 with ⟨σ1, τ1, q, a1, a2, a3, a4, a5, a6, a7⟩ | ⟨σ1, τ1, q, a1, a2, a3, a4, a5, a6, a7⟩
    · rw [show f_X5_isLetter τ 102 = _ from a2, lm_bd_s, if_neg n10, if_neg (c := a = n) (by omega), if_pos (c := nI (T a) = 102) (by rw [q.2]; rfl)]
      by_cases q6 : f = 6
      · right
        subst q6
        obtain ⟨σ2, b1, b2, b3⟩ := c_fail (v := 3) h.1
        obtain ⟨τ2, c1, c2, c3⟩ := l_bad h.2.1 (v := 3) (by omega)
        have eF : f_X5_readFog τ = some τ2 := by
          unfold f_X5_readFog
          rw [show f_X5_isLetter τ 102 = _ from a2, lm_bd_s, if_neg n10, in_1, lm_ck_s, cl_1, h.2.2.2 1 (by decide), hf, if_pos (show nI 6 = 6 from rfl), show f_X5_bad τ 3 = _ from c1, lm_bd_s, d_fog25 c2]
        unfold f_X3_readFogs_23
        obtain ⟨n2, rfl⟩ : ∃ z, n' = z + 1 := ⟨n' - 1, by omega⟩
        rw [if_pos (show nI 6 = 6 from rfl), show f_X3_failAt σ (σ 2 2) 3 = _ from b1, lm_bd2_s, eF, lm_bd_s, d_101 c2]
        exact ⟨3, a, σ2, τ2, rfl, rfl, b2, c2, CF.qf b3, MF.pf c3⟩
      · rcases jFog (K2 := f_X3_readFogs_2 8 m) h hf (by omega) with ⟨v, e, σ2, τ2, v2, b1, b2, b3, b4, b5⟩ | ⟨k, p, σ2, τ2, b1, b2, b3, b4, b5, b6⟩
        · rw [b1, b2, lm_bd_s]
          rcases jFogs m n' (f + 1) e (setL (setL L (6 + f) v) 1 (f + 1)) σ2 τ2 b3 setL_eq (by omega) (by omega) (by omega) (by omega) (wf_fog hw hf (by omega) v2) with ⟨e2, L2, σ3, τ3, c1, c2, c3, c4, c5, c6, c7, c8⟩ | g
          · refine Or.inl ⟨e2, L2, σ3, τ3, c1, c2, c3, c4, c5, ?_, b4.tr c7, b5.tr c8⟩
            rw [c6, setL_ne (by omega), setL_ne (by omega)]
          · exact Or.inr (g.mv b4 b5)
        · right
          obtain ⟨n2, rfl⟩ : ∃ z, n' = z + 1 := ⟨n' - 1, by omega⟩
          rw [b1, b2, lm_bd_s, d_101 b4]
          exact ⟨k, p, σ2, τ2, rfl, rfl, b3, b4, b5, b6⟩
    · left
      have qc : ¬ (if a = n then (-1 : Int32) else nI (T a)) = 102 := by
        by_cases qa : a = n
        · rw [if_pos qa]; decide
        · rw [if_neg qa]
          have hlt : a < n := by have := h.2.1.2.1; omega
          intro hh
          exact q ⟨hlt, (nI_eq (b := 102) (by have := hb hlt; omega) (by decide)).mp hh⟩
      rw [show f_X5_isLetter τ 102 = _ from a2, lm_bd_s, if_pos rfl, if_neg qc]
      exact ⟨a, L, σ, τ, rfl, rfl, h, hw, by omega, rfl, CF.rf, MF.rf⟩
end TPD
