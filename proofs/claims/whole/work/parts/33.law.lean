section TPC
variable {σ τ σ' τ' : Mem} {T : Nat → Nat} {n a : Nat} {L : Nat → Nat}
def CF (σ σ' : Mem) : Prop := (∀ x, x ≠ 2 → (x < 8 ∨ 12 ≤ x) → σ' x = σ x) ∧ ∀ k, (k ≠ 2 ∧ k ≠ 3 ∧ k ≠ 4) → σ' 2 k = σ 2 k
def MF (τ τ' : Mem) : Prop := (∀ x, x ≠ 140 → x ≠ 145 → τ' x = τ x) ∧ ∀ k, (k < 12 ∨ 18 ≤ k) → τ' 140 k = τ 140 k
theorem CF.rf : CF σ σ := ⟨fun _ _ _ => rfl, fun _ _ => rfl⟩
theorem CF.tr {σ2 : Mem} (h : CF σ σ') (h2 : CF σ' σ2) : CF σ σ2 := ⟨fun x hx hy => (h2.1 x hx hy).trans (h.1 x hx hy), fun k hk => (h2.2 k hk).trans (h.2 k hk)⟩
theorem CF.qf (h : QF σ σ') : CF σ σ' := ⟨fun x hx _ => h.1 x hx, h.2⟩
theorem CF.up {c k : Nat} {v : Int32} (hc : 8 ≤ c ∧ c < 12) : CF σ (up σ c k v) := ⟨fun x hx hy => up_x (by omega), fun j hj => by rw [up_x (by omega)]⟩
theorem MF.rf : MF τ τ := ⟨fun _ _ _ => rfl, fun _ _ => rfl⟩
theorem MF.tr {τ2 : Mem} (h : MF τ τ') (h2 : MF τ' τ2) : MF τ τ2 := ⟨fun x hx hy => (h2.1 x hx hy).trans (h.1 x hx hy), fun k hk => (h2.2 k hk).trans (h.2 k hk)⟩
theorem MF.pf (h : PF τ τ') : MF τ τ' := ⟨fun x hx _ => h.1 x hx, h.2⟩
theorem MF.up {k : Nat} {v : Int32} : MF τ (up τ 145 k v) := ⟨fun x hx hy => up_x hy, fun j hj => by rw [up_x (by decide)]⟩
/-- what is being read, on both sides -/
def Inv (T : Nat → Nat) (n a : Nat) (L : Nat → Nat) (σ τ : Mem) : Prop := HC T n a σ ∧ Live T n a τ ∧ LC σ 8 L ∧ LM τ 145 L
theorem Inv.step {e : Nat} (h : Inv T n a L σ τ) (hc : HC T n e σ') (hl : Live T n e τ') (hq : QF σ σ') (hp : PF τ τ') : Inv T n e L σ' τ' :=
  ⟨hc, hl, h.2.2.1.co (fun x h1 h2 => hq.1 x (by omega)), fun k hk => by rw [hp.1 145 (by decide)]; exact h.2.2.2 k hk⟩
theorem HC.up {c k : Nat} {v : Int32} (h : HC T n a σ) (hc : 8 ≤ c) : HC T n a (up σ c k v) := ⟨h.1, by rw [up_x (by omega)]; exact h.2.1, by rw [up_x (by omega)]; exact h.2.2.1, fun i hi => by rw [up_x (by omega)]; exact h.2.2.2 i hi⟩
theorem Live.wr {k : Nat} {v : Int32} (h : Live T n a τ) : Live T n a (up τ 145 k v) := by
  have e : up τ 145 k v 140 = τ 140 := up_x (by decide)
  obtain ⟨⟨h1, h2, h3⟩, h4, h5, h6⟩ := h
  refine ⟨⟨h1, by rw [e]; exact h2, fun i hi => by rw [up_x (by decide)]; exact h3 i hi⟩, h4, ?_, by rw [e]; exact h6⟩
  unfold Tok at h5 ⊢
  rw [e]
  exact h5
theorem Dead.up {k v : Nat} {p w : Int32} (h : Dead v p τ) : Dead v p (up τ 145 k w) := by
  exact ⟨by rw [up_x (by decide)]; exact h.1, h.2.1, by rw [up_x (by decide)]; exact h.2.2⟩
theorem LC_cnum {c v : Nat} (h : LC σ c L) : LC (up σ c 3 (nI v)) c (setL L 2 v) := by
  obtain ⟨a1, a2, a3, a4, a5, a6, a7, a8⟩ := h
  refine ⟨by rw [up_eq, setL_eq], by rw [up_ne (by omega), setL_ne (by omega)]; exact a2, by rw [up_ne (by omega), setL_ne (by omega)]; exact a3, by rw [up_ne (by omega), setL_ne (by omega)]; exact a4, by rw [up_ne (by omega), setL_ne (by omega)]; exact a5, by rw [up_ne (by omega), setL_ne (by omega)]; exact a6, fun f hf => ?_, fun s hs => ?_⟩
  · rw [setL_ne (by omega)] at hf
    rw [up_x (by omega), setL_ne (by omega)]
    exact a7 f hf
  · rw [setL_ne (by omega)] at hs
    rw [up_x (by omega), up_x (by omega), setL_ne (by omega), setL_ne (by omega)]
    exact a8 s hs
theorem LC_fnum {c f : Nat} (h : LC σ c L) (hf : L 1 = f) (h6 : f < 6) (ht : σ (c + 1) f = nI (L (6 + f))) : LC (up σ c 7 (nI (f + 1))) c (setL L 1 (f + 1)) := by
  obtain ⟨a1, a2, a3, a4, a5, a6, a7, a8⟩ := h
  refine ⟨by rw [up_ne (by omega), setL_ne (by omega)]; exact a1, by rw [up_ne (by omega), setL_ne (by omega)]; exact a2, by rw [up_ne (by omega), setL_ne (by omega)]; exact a3, by rw [up_ne (by omega), setL_ne (by omega)]; exact a4, by rw [up_eq, setL_eq], by rw [up_ne (by omega), setL_ne (by omega)]; exact a6, fun g hg => ?_, fun s hs => ?_⟩
  · rw [setL_eq] at hg
    rw [up_x (by omega), setL_ne (by omega)]
    by_cases q : g = f
    · rw [q]; exact ht
    · exact a7 g (by omega)
  · rw [setL_ne (by omega)] at hs
    rw [up_x (by omega), up_x (by omega), setL_ne (by omega), setL_ne (by omega)]
    exact a8 s hs
theorem LC_snum {c s : Nat} (h : LC σ c L) (hs : L 0 = s) (hk : σ (c + 2) s = nI (L (12 + 2 * s))) (hp : σ (c + 3) s = nI (L (13 + 2 * s))) : LC (up σ c 8 (nI (s + 1))) c (setL L 0 (s + 1)) := by
  obtain ⟨a1, a2, a3, a4, a5, a6, a7, a8⟩ := h
  refine ⟨by rw [up_ne (by omega), setL_ne (by omega)]; exact a1, by rw [up_ne (by omega), setL_ne (by omega)]; exact a2, by rw [up_ne (by omega), setL_ne (by omega)]; exact a3, by rw [up_ne (by omega), setL_ne (by omega)]; exact a4, by rw [up_ne (by omega), setL_ne (by omega)]; exact a5, by rw [up_eq, setL_eq], fun f hf => ?_, fun z hz => ?_⟩
  · rw [setL_ne (by omega)] at hf
    rw [up_x (by omega), setL_ne (by omega)]
    exact a7 f hf
  · rw [setL_eq] at hz
    rw [up_x (by omega), up_x (by omega), setL_ne (by omega), setL_ne (by omega)]
    by_cases q : z = s
    · rw [q]; exact ⟨hk, hp⟩
    · exact a8 z (by omega)
-- the law, from its end
def cS6 (σ : Mem) : Option (Int32 × Mem) := lm_bd2 (f_X3_readSign σ (59 : Int32)) fun r29 σ30 => if r29 = 0 then (some ((0 : Int32), σ30)) else (some ((1 : Int32), σ30))
def cS5 (σ : Mem) : Option (Int32 × Mem) := lm_bd2 (f_X3_readNumber σ (0 : Int32) (60 : Int32)) fun r24 σ25 => lm_nm (up σ25 8 5 r24) fun σ26 => if (σ26 8 5) < 0 then (some ((0 : Int32), σ26)) else cS6 σ26
def cS4 (σ : Mem) : Option (Int32 × Mem) := lm_bd2 (f_X3_readSign σ (44 : Int32)) fun r20 σ21 => if r20 = 0 then (some ((0 : Int32), σ21)) else cS5 σ21
def cS3 (σ : Mem) : Option (Int32 × Mem) := lm_bd2 (f_X3_readNumber σ (0 : Int32) (12 : Int32)) fun r15 σ16 => lm_nm (up σ16 8 4 r15) fun σ17 => if (σ17 8 4) < 0 then (some ((0 : Int32), σ17)) else cS4 σ17
def cS2 (σ : Mem) : Option (Int32 × Mem) := lm_bd2 (f_X3_readSign σ (44 : Int32)) fun r11 σ12 => if r11 = 0 then (some ((0 : Int32), σ12)) else cS3 σ12
def cS1 (σ : Mem) : Option (Int32 × Mem) := lm_bd2 (f_X3_readNumber σ (4 : Int32) (12 : Int32)) fun r6 σ7 => lm_nm (up σ7 8 3 r6) fun σ8 => if (σ8 8 3) < 0 then (some ((0 : Int32), σ8)) else cS2 σ8
def cS0 (σ : Mem) : Option (Int32 × Mem) := lm_bd2 (f_X3_readSign σ (108 : Int32)) fun r2 σ3 => if r2 = 0 then (some ((0 : Int32), σ3)) else cS1 σ3
theorem cS_eq : f_X3_readLaw 8 σ = cS0 σ := rfl
variable (K : Mem → Option (Int32 × Mem))
def mS6 (τ : Mem) : Option (Int32 × Mem) := lm_bd (f_X5_mustSign τ (59 : Int32)) K
def mS5 (τ : Mem) : Option (Int32 × Mem) := lm_bd2 (f_X5_number τ (0 : Int32) (60 : Int32)) fun r29 τ30 => mS6 K (up τ30 145 4 r29)
def mS4 (τ : Mem) : Option (Int32 × Mem) := lm_bd (f_X5_mustSign τ (44 : Int32)) fun τ27 => mS5 K τ27
def mS3 (τ : Mem) : Option (Int32 × Mem) := lm_bd2 (f_X5_number τ (0 : Int32) (12 : Int32)) fun r21 τ22 => mS4 K (up τ22 145 3 r21)
def mS2 (τ : Mem) : Option (Int32 × Mem) := lm_bd (f_X5_mustSign τ (44 : Int32)) fun τ19 => mS3 K τ19
def mS1 (τ : Mem) : Option (Int32 × Mem) := lm_bd2 (f_X5_number τ (4 : Int32) (12 : Int32)) fun r13 τ14 => mS2 K (up τ14 145 2 r13)
def mS0 (τ : Mem) : Option (Int32 × Mem) := lm_bd (f_X5_isLetter τ (108 : Int32)) fun r7 => lm_bd (f_X5_must τ r7) fun τ11 => mS1 K τ11
variable {K}
theorem dS6 {v : Nat} {p : Int32} (h : Dead v p τ) : mS6 K τ = K τ := by
  unfold mS6
  rw [d_sign h, lm_bd_s]
theorem dS5 {v : Nat} {p : Int32} (h : Dead v p τ) : ∃ τ', mS5 K τ = K τ' ∧ Dead v p τ' ∧ MF τ τ' := by
  unfold mS5
  rw [d_number h, lm_bd2_s]
  exact ⟨_, dS6 h.up, h.up, MF.up⟩
theorem dS4 {v : Nat} {p : Int32} (h : Dead v p τ) : ∃ τ', mS4 K τ = K τ' ∧ Dead v p τ' ∧ MF τ τ' := by
  unfold mS4
  rw [d_sign h, lm_bd_s]
  exact dS5 h
theorem dS3 {v : Nat} {p : Int32} (h : Dead v p τ) : ∃ τ', mS3 K τ = K τ' ∧ Dead v p τ' ∧ MF τ τ' := by
  unfold mS3
  rw [d_number h, lm_bd2_s]
  obtain ⟨τ', e1, e2, e3⟩ := dS4 (K := K) (h.up (k := 3) (w := 0))
  exact ⟨τ', e1, e2, MF.up.tr e3⟩
theorem dS2 {v : Nat} {p : Int32} (h : Dead v p τ) : ∃ τ', mS2 K τ = K τ' ∧ Dead v p τ' ∧ MF τ τ' := by
  unfold mS2
  rw [d_sign h, lm_bd_s]
  exact dS3 h
theorem dS1 {v : Nat} {p : Int32} (h : Dead v p τ) : ∃ τ', mS1 K τ = K τ' ∧ Dead v p τ' ∧ MF τ τ' := by
  unfold mS1
  rw [d_number h, lm_bd2_s]
  obtain ⟨τ', e1, e2, e3⟩ := dS2 (K := K) (h.up (k := 2) (w := 4))
  exact ⟨τ', e1, e2, MF.up.tr e3⟩
/-- either both read on, or both have found the same fault -/
def Bad (c : Option (Int32 × Mem)) (m : Option (Int32 × Mem)) (K : Mem → Option (Int32 × Mem)) (σ τ : Mem) : Prop := ∃ k p σ' τ', c = some (0, σ') ∧ m = K τ' ∧ Fl k p σ' ∧ Dead k (nI p) τ' ∧ CF σ σ' ∧ MF τ τ'
def Good (T : Nat → Nat) (n : Nat) (c : Option (Int32 × Mem)) (m : Option (Int32 × Mem)) (K : Mem → Option (Int32 × Mem)) (L : Nat → Nat) (σ τ : Mem) : Prop := ∃ e σ' τ', c = some (1, σ') ∧ m = K τ' ∧ Inv T n e L σ' τ' ∧ CF σ σ' ∧ MF τ τ'
theorem Bad.mv {c m : Option (Int32 × Mem)} (h : Bad c m K σ' τ') (hc : CF σ σ') (hm : MF τ τ') : Bad c m K σ τ := by
  obtain ⟨k, p, s2, t2, a1, a2, a3, a4, a5, a6⟩ := h
  exact ⟨k, p, s2, t2, a1, a2, a3, a4, hc.tr a5, hm.tr a6⟩
theorem Good.mv {c m : Option (Int32 × Mem)} (h : Good T n c m K L σ' τ') (hc : CF σ σ') (hm : MF τ τ') : Good T n c m K L σ τ := by
  obtain ⟨e, s2, t2, a1, a2, a3, a5, a6⟩ := h
  exact ⟨e, s2, t2, a1, a2, a3, hc.tr a5, hm.tr a6⟩
theorem jS6 (h : Inv T n a L σ τ) : Good T n (cS6 σ) (mS6 K τ) K L σ τ ∨ Bad (cS6 σ) (mS6 K τ) K σ τ := by
  unfold cS6 mS6
  rcases p_sign (w := 59) (Or.inr rfl) h.1 h.2.1 with ⟨σ', τ', e1, e2, e3, e4, e5, e6⟩ | ⟨σ', τ', e1, e2, e3, e4, e5, e6⟩
  · left
    rw [show f_X3_readSign σ 59 = _ from e1, show f_X5_mustSign τ 59 = _ from e2, lm_bd2_s, if_neg n10, lm_bd_s]
    exact ⟨a + 1, σ', τ', rfl, rfl, h.step e3 e4 e5 e6, CF.qf e5, MF.pf e6⟩
  · right
    rw [show f_X3_readSign σ 59 = _ from e1, show f_X5_mustSign τ 59 = _ from e2, lm_bd2_s, if_pos rfl, lm_bd_s]
    exact ⟨1, a, σ', τ', rfl, rfl, e3, e4, CF.qf e5, MF.pf e6⟩
theorem jS5 (h : Inv T n a L σ τ) : (∃ o, o ≤ 60 ∧ Good T n (cS5 σ) (mS5 K τ) K (setL L 4 o) σ τ) ∨ Bad (cS5 σ) (mS5 K τ) K σ τ := by
  unfold cS5 mS5
  rcases p_number (lo := 0) (hi := 60) (by decide) (by decide) h.1 h.2.1 with ⟨v, e, σ', τ', v1, v2, e1, e2, e3, e4, e5, e6⟩ | ⟨k, σ', τ', e1, e2, e3, e4, e5, e6⟩
  · rw [show f_X3_readNumber σ 0 60 = _ from e1, show f_X5_number τ 0 60 = _ from e2, lm_bd2_s, lm_bd2_s, lm_nm_s, up_eq, if_neg (nI_pos (by omega))]
    have I := h.step e3 e4 e5 e6
    have I2 : Inv T n e (setL L 4 v) (up σ' 8 5 (nI v)) (up τ' 145 4 (nI v)) := ⟨I.1.up (by omega), I.2.1.wr, LC_oil I.2.2.1, I.2.2.2.set⟩
    rcases jS6 (K := K) I2 with g | g
    · exact Or.inl ⟨v, v2, g.mv ((CF.qf e5).tr (CF.up (by omega))) ((MF.pf e6).tr MF.up)⟩
    · exact Or.inr (g.mv ((CF.qf e5).tr (CF.up (by omega))) ((MF.pf e6).tr MF.up))
  · right
    rw [show f_X3_readNumber σ 0 60 = _ from e1, show f_X5_number τ 0 60 = _ from e2, lm_bd2_s, lm_bd2_s, lm_nm_s, up_eq, if_pos (by decide), dS6 e4.up]
    exact ⟨k, a, _, _, rfl, rfl, ⟨by rw [up_x (by decide)]; exact e3.1, by rw [up_x (by decide)]; exact e3.2⟩, e4.up, (CF.qf e5).tr (CF.up (by omega)), (MF.pf e6).tr MF.up⟩
theorem jS4 (h : Inv T n a L σ τ) : (∃ o, o ≤ 60 ∧ Good T n (cS4 σ) (mS4 K τ) K (setL L 4 o) σ τ) ∨ Bad (cS4 σ) (mS4 K τ) K σ τ := by
  unfold cS4 mS4
  rcases p_sign (w := 44) (Or.inl rfl) h.1 h.2.1 with ⟨σ', τ', e1, e2, e3, e4, e5, e6⟩ | ⟨σ', τ', e1, e2, e3, e4, e5, e6⟩
  · rw [show f_X3_readSign σ 44 = _ from e1, show f_X5_mustSign τ 44 = _ from e2, lm_bd2_s, if_neg n10, lm_bd_s]
    rcases jS5 (K := K) (h.step e3 e4 e5 e6) with ⟨o, o1, g⟩ | g
    · exact Or.inl ⟨o, o1, g.mv (CF.qf e5) (MF.pf e6)⟩
    · exact Or.inr (g.mv (CF.qf e5) (MF.pf e6))
  · right
    obtain ⟨τ2, f1, f2, f3⟩ := dS5 (K := K) e4
    rw [show f_X3_readSign σ 44 = _ from e1, show f_X5_mustSign τ 44 = _ from e2, lm_bd2_s, if_pos rfl, lm_bd_s, f1]
    exact ⟨1, a, σ', τ2, rfl, rfl, e3, f2, CF.qf e5, (MF.pf e6).tr f3⟩
theorem jS3 (h : Inv T n a L σ τ) : (∃ y o, y ≤ 12 ∧ o ≤ 60 ∧ Good T n (cS3 σ) (mS3 K τ) K (setL (setL L 3 y) 4 o) σ τ) ∨ Bad (cS3 σ) (mS3 K τ) K σ τ := by
  unfold cS3 mS3
  rcases p_number (lo := 0) (hi := 12) (by decide) (by decide) h.1 h.2.1 with ⟨v, e, σ', τ', v1, v2, e1, e2, e3, e4, e5, e6⟩ | ⟨k, σ', τ', e1, e2, e3, e4, e5, e6⟩
  · rw [show f_X3_readNumber σ 0 12 = _ from e1, show f_X5_number τ 0 12 = _ from e2, lm_bd2_s, lm_bd2_s, lm_nm_s, up_eq, if_neg (nI_pos (by omega))]
    have I := h.step e3 e4 e5 e6
    have I2 : Inv T n e (setL L 3 v) (up σ' 8 4 (nI v)) (up τ' 145 3 (nI v)) := ⟨I.1.up (by omega), I.2.1.wr, LC_eyes I.2.2.1, I.2.2.2.set⟩
    rcases jS4 (K := K) I2 with ⟨o, o1, g⟩ | g
    · exact Or.inl ⟨v, o, v2, o1, g.mv ((CF.qf e5).tr (CF.up (by omega))) ((MF.pf e6).tr MF.up)⟩
    · exact Or.inr (g.mv ((CF.qf e5).tr (CF.up (by omega))) ((MF.pf e6).tr MF.up))
  · right
    obtain ⟨τ2, f1, f2, f3⟩ := dS4 (K := K) (e4.up (k := 3) (w := nI 0))
    rw [show f_X3_readNumber σ 0 12 = _ from e1, show f_X5_number τ 0 12 = _ from e2, lm_bd2_s, lm_bd2_s, lm_nm_s, up_eq, if_pos (by decide), f1]
    exact ⟨k, a, _, τ2, rfl, rfl, ⟨by rw [up_x (by decide)]; exact e3.1, by rw [up_x (by decide)]; exact e3.2⟩, f2, (CF.qf e5).tr (CF.up (by omega)), ((MF.pf e6).tr MF.up).tr f3⟩
theorem jS2 (h : Inv T n a L σ τ) : (∃ y o, y ≤ 12 ∧ o ≤ 60 ∧ Good T n (cS2 σ) (mS2 K τ) K (setL (setL L 3 y) 4 o) σ τ) ∨ Bad (cS2 σ) (mS2 K τ) K σ τ := by
  unfold cS2 mS2
  rcases p_sign (w := 44) (Or.inl rfl) h.1 h.2.1 with ⟨σ', τ', e1, e2, e3, e4, e5, e6⟩ | ⟨σ', τ', e1, e2, e3, e4, e5, e6⟩
  · rw [show f_X3_readSign σ 44 = _ from e1, show f_X5_mustSign τ 44 = _ from e2, lm_bd2_s, if_neg n10, lm_bd_s]
    rcases jS3 (K := K) (h.step e3 e4 e5 e6) with ⟨y, o, y1, o1, g⟩ | g
    · exact Or.inl ⟨y, o, y1, o1, g.mv (CF.qf e5) (MF.pf e6)⟩
    · exact Or.inr (g.mv (CF.qf e5) (MF.pf e6))
  · right
    obtain ⟨τ2, f1, f2, f3⟩ := dS3 (K := K) e4
    rw [show f_X3_readSign σ 44 = _ from e1, show f_X5_mustSign τ 44 = _ from e2, lm_bd2_s, if_pos rfl, lm_bd_s, f1]
    exact ⟨1, a, σ', τ2, rfl, rfl, e3, f2, CF.qf e5, (MF.pf e6).tr f3⟩
theorem jS1 (h : Inv T n a L σ τ) : (∃ c y o, (4 ≤ c ∧ c ≤ 12) ∧ y ≤ 12 ∧ o ≤ 60 ∧ Good T n (cS1 σ) (mS1 K τ) K (setL (setL (setL L 2 c) 3 y) 4 o) σ τ) ∨ Bad (cS1 σ) (mS1 K τ) K σ τ := by
  unfold cS1 mS1
  rcases p_number (lo := 4) (hi := 12) (by decide) (by decide) h.1 h.2.1 with ⟨v, e, σ', τ', v1, v2, e1, e2, e3, e4, e5, e6⟩ | ⟨k, σ', τ', e1, e2, e3, e4, e5, e6⟩
  · rw [show f_X3_readNumber σ 4 12 = _ from e1, show f_X5_number τ 4 12 = _ from e2, lm_bd2_s, lm_bd2_s, lm_nm_s, up_eq, if_neg (nI_pos (by omega))]
    have I := h.step e3 e4 e5 e6
    have I2 : Inv T n e (setL L 2 v) (up σ' 8 3 (nI v)) (up τ' 145 2 (nI v)) := ⟨I.1.up (by omega), I.2.1.wr, LC_cnum I.2.2.1, I.2.2.2.set⟩
    rcases jS2 (K := K) I2 with ⟨y, o, y1, o1, g⟩ | g
    · exact Or.inl ⟨v, y, o, ⟨v1, v2⟩, y1, o1, g.mv ((CF.qf e5).tr (CF.up (by omega))) ((MF.pf e6).tr MF.up)⟩
    · exact Or.inr (g.mv ((CF.qf e5).tr (CF.up (by omega))) ((MF.pf e6).tr MF.up))
  · right
    obtain ⟨τ2, f1, f2, f3⟩ := dS2 (K := K) (e4.up (k := 2) (w := nI 4))
    rw [show f_X3_readNumber σ 4 12 = _ from e1, show f_X5_number τ 4 12 = _ from e2, lm_bd2_s, lm_bd2_s, lm_nm_s, up_eq, if_pos (by decide), f1]
    exact ⟨k, a, _, τ2, rfl, rfl, ⟨by rw [up_x (by decide)]; exact e3.1, by rw [up_x (by decide)]; exact e3.2⟩, f2, (CF.qf e5).tr (CF.up (by omega)), ((MF.pf e6).tr MF.up).tr f3⟩
theorem jS0 (h : Inv T n a L σ τ) : (∃ c y o, (4 ≤ c ∧ c ≤ 12) ∧ y ≤ 12 ∧ o ≤ 60 ∧ Good T n (cS0 σ) (mS0 K τ) K (setL (setL (setL L 2 c) 3 y) 4 o) σ τ) ∨ Bad (cS0 σ) (mS0 K τ) K σ τ := by
  unfold cS0 mS0
  rcases p_letter (w := 108) (by decide) h.1 h.2.1 with ⟨σ', τ', _, e1, e2, e2b, e3, e4, e5, e6⟩ | ⟨σ', τ', _, e1, e2, e2b, e3, e4, e5, e6⟩
  · rw [show f_X3_readSign σ 108 = _ from e1, show f_X5_isLetter τ 108 = _ from e2, lm_bd2_s, if_neg n10, lm_bd_s, e2b, lm_bd_s]
    rcases jS1 (K := K) (h.step e3 e4 e5 e6) with ⟨c, y, o, c1, y1, o1, g⟩ | g
    · exact Or.inl ⟨c, y, o, c1, y1, o1, g.mv (CF.qf e5) (MF.pf e6)⟩
    · exact Or.inr (g.mv (CF.qf e5) (MF.pf e6))
  · right
    obtain ⟨τ2, f1, f2, f3⟩ := dS1 (K := K) e4
    rw [show f_X3_readSign σ 108 = _ from e1, show f_X5_isLetter τ 108 = _ from e2, lm_bd2_s, if_pos rfl, lm_bd_s, e2b, lm_bd_s, f1]
    exact ⟨1, a, σ', τ2, rfl, rfl, e3, f2, CF.qf e5, (MF.pf e6).tr f3⟩
end TPC
