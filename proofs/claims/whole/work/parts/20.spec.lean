/-! SPEC: a LIGHT as a row of 24 numbers (ships, fogs, cells, eyes, oil, watch, 6 thicks, kind and cell of each ship). -/
theorem lm_nm_s {α β : Type} (e : α) (k : α → Option β) : lm_nm e k = k e := rfl
theorem lm_bd_s {α β : Type} (a : α) (k : α → Option β) : lm_bd (some a) k = k a := rfl
theorem lm_bd2_s {α β : Type} (a : α) (m : Mem) (k : α → Mem → Option β) : lm_bd2 (some (a, m)) k = k a m := rfl
theorem lm_ck_s {α : Type} (k : Option α) : lm_ck true k = k := rfl
theorem lm_in_n {i n : Nat} (h : i < n) (hn : n < 2 ^ 31) : lm_in (nI i) n = true := decide_eq_true (nI_in h hn)
theorem lm_nz_n {i : Nat} (h0 : 0 < i) (h : i < 2 ^ 31) : lm_nz (nI i) = true := decide_eq_true (nI_ne0 h0 h)
theorem up_ap (σ : Mem) (c k : Nat) (v : Int32) (x j : Nat) : up σ c k v x j = if x = c ∧ j = k then v else σ x j := by
  unfold up upA
  by_cases h : x = c
  · subst h
    by_cases h2 : j = k
    · simp [upd, h2]
    · simp [upd, h2]
  · simp [h]
theorem up_x {σ : Mem} {c k : Nat} {v : Int32} {x : Nat} (h : x ≠ c) : up σ c k v x = σ x := upA_ne h
-- numbers
theorem sI_lt {a b c : Nat} (ha : a < 2 ^ 30) (hb : b < 2 ^ 30) (hc : c < 2 ^ 30) : nI a - nI b < nI c ↔ a < c + b := by
  rw [Int32.lt_iff_toInt_lt, pk_sub_toInt ha hb, nI_toInt (by omega)]
  omega
theorem sI_le {a b c : Nat} (ha : a < 2 ^ 30) (hb : b < 2 ^ 30) (hc : c < 2 ^ 30) : nI a - nI b ≤ nI c ↔ a ≤ c + b := by
  rw [Int32.le_iff_toInt_le, pk_sub_toInt ha hb, nI_toInt (by omega)]
  omega
theorem ltI_s {a b c : Nat} (ha : a < 2 ^ 30) (hb : b < 2 ^ 30) (hc : c < 2 ^ 30) : nI c < nI a - nI b ↔ c + b < a := by
  rw [Int32.lt_iff_toInt_lt, pk_sub_toInt ha hb, nI_toInt (by omega)]
  omega
theorem leI_s {a b c : Nat} (ha : a < 2 ^ 30) (hb : b < 2 ^ 30) (hc : c < 2 ^ 30) : nI c ≤ nI a - nI b ↔ c + b ≤ a := by
  rw [Int32.le_iff_toInt_le, pk_sub_toInt ha hb, nI_toInt (by omega)]
  omega
theorem lit_0 : (0 : Int32) = nI 0 := rfl
theorem lit_1 : (1 : Int32) = nI 1 := rfl
theorem lit_2 : (2 : Int32) = nI 2 := rfl
theorem lit_3 : (3 : Int32) = nI 3 := rfl
theorem lit_4 : (4 : Int32) = nI 4 := rfl
theorem lit_5 : (5 : Int32) = nI 5 := rfl
theorem lit_6 : (6 : Int32) = nI 6 := rfl
theorem lit_7 : (7 : Int32) = nI 7 := rfl
theorem lit_8 : (8 : Int32) = nI 8 := rfl
theorem lit_9 : (9 : Int32) = nI 9 := rfl
theorem lit_10 : (10 : Int32) = nI 10 := rfl
theorem lit_12 : (12 : Int32) = nI 12 := rfl
theorem lit_16 : (16 : Int32) = nI 16 := rfl
theorem lit_20 : (20 : Int32) = nI 20 := rfl
theorem lit_24 : (24 : Int32) = nI 24 := rfl
theorem lit_30 : (30 : Int32) = nI 30 := rfl
theorem lit_40 : (40 : Int32) = nI 40 := rfl
theorem lit_60 : (60 : Int32) = nI 60 := rfl
theorem lit_120 : (120 : Int32) = nI 120 := rfl
theorem lit_256 : (256 : Int32) = nI 256 := rfl
theorem lit_552 : (552 : Int32) = nI 552 := rfl
theorem lit_999 : (999 : Int32) = nI 999 := rfl
theorem fu_1 : lm_fu = 999 + 1 := rfl
-- the spec
def thk (L : Nat → Nat) (w : Nat) : Nat := L (6 + w % L 1)
def lgd (L : Nat → Nat) (s : Nat) : Nat :=
  if L (12 + 2 * s) = 5 ∧ 2 < L (13 + 2 * s) then 0 else if L (13 + 2 * s) = 0 ∧ L (12 + 2 * s) < 4 then 3
  else (if L (13 + 2 * s) + thk L (L 5) ≤ L 3 then 1 else 0) + (if 0 < L 4 ∧ L (13 + 2 * s) + thk L (L 5) / 2 ≤ 4 + L 4 / 10 then 2 else 0)
def vis (g who : Nat) : Bool := if who = 0 then decide (g = 1 ∨ g = 3) else if who = 1 then decide (g = 2 ∨ g = 3) else decide (g = 1 ∨ g = 2)
def seenN (L : Nat → Nat) (who : Nat) : Nat → Nat
  | 0 => 0
  | n + 1 => seenN L who n + if vis (lgd L n) who then 2 ^ n else 0
def seen (L : Nat → Nat) (who : Nat) : Nat := seenN L who (L 0)
def nxt (L : Nat → Nat) (s : Nat) : Nat :=
  if L (12 + 2 * s) = 1 then L (13 + 2 * s) - 1
  else if L (12 + 2 * s) = 2 then (if L 5 % 2 = 0 then L (13 + 2 * s) - 1 else L (13 + 2 * s))
  else if L (12 + 2 * s) = 3 then L (13 + 2 * s) - 2
  else if L (12 + 2 * s) = 4 then (if L 5 % 2 = 0 then (if L (13 + 2 * s) + 1 < L 2 then L (13 + 2 * s) + 1 else L 2 - 1) else L (13 + 2 * s) - 1)
  else (if L 5 % 2 = 0 then (if L (13 + 2 * s) + 2 < L 2 then L (13 + 2 * s) + 2 else L 2 - 1) else L (13 + 2 * s) - 2)
/-- the ships ahead of the k-th have gone -/
def prt (L : Nat → Nat) (k : Nat) : Nat → Nat := fun i => if 13 ≤ i ∧ i % 2 = 1 ∧ (i - 13) / 2 < k then nxt L ((i - 13) / 2) else L i
def step (L : Nat → Nat) : Nat → Nat := fun i => if i = 4 then L 4 - (if 5 ≤ thk L (L 5) then 2 else 1) else if i = 5 then L 5 + 1 else prt L (L 0) i
def stepN (L : Nat → Nat) : Nat → (Nat → Nat)
  | 0 => L
  | n + 1 => step (stepN L n)
def setL (L : Nat → Nat) (k v : Nat) : Nat → Nat := fun i => if i = k then v else L i
def pourL (L : Nat → Nat) (v : Nat) : Nat → Nat := setL L 4 (if L 4 + v ≤ 60 then L 4 + v else 60)
def oneL (L : Nat → Nat) (s : Nat) : Nat → Nat := fun i => if i = 0 then 1 else if i = 12 then L (12 + 2 * s) else if i = 13 then L (13 + 2 * s) else L i
def Ok (L : Nat → Nat) : Prop := (1 ≤ L 0 ∧ L 0 ≤ 6) ∧ (1 ≤ L 1 ∧ L 1 ≤ 6) ∧ (4 ≤ L 2 ∧ L 2 ≤ 12) ∧ L 3 ≤ 12 ∧ L 4 ≤ 60 ∧ (∀ f, f < 6 → L (6 + f) ≤ 9) ∧ (∀ s, s < L 0 → 1 ≤ L (12 + 2 * s) ∧ L (12 + 2 * s) ≤ 5 ∧ L (13 + 2 * s) < L 2)
theorem thk_le {L : Nat → Nat} (h : Ok L) (w : Nat) : thk L w ≤ 9 := by
  obtain ⟨-, h1, -, -, -, h6, -⟩ := h
  exact h6 _ (Nat.lt_of_lt_of_le (Nat.mod_lt w (by omega)) h1.2)
theorem lgd_le {L : Nat → Nat} {s : Nat} : lgd L s ≤ 3 := by
  unfold lgd
  repeat' split
  all_goals omega
theorem nxt_lt {L : Nat → Nat} (h : Ok L) {s : Nat} (hs : s < L 0) : nxt L s < L 2 := by
  obtain ⟨-, -, h2, -, -, -, h7⟩ := h
  obtain ⟨-, -, h8⟩ := h7 s hs
  unfold nxt
  repeat' split
  all_goals omega
theorem prt_0 {L : Nat → Nat} : prt L 0 = L := by
  funext i
  simp [prt]
theorem prt_lo {L : Nat → Nat} {k i : Nat} (h : i < 13) : prt L k i = L i := by
  unfold prt
  rw [if_neg (by omega)]
theorem prt_kind {L : Nat → Nat} {k s : Nat} : prt L k (12 + 2 * s) = L (12 + 2 * s) := by
  unfold prt
  rw [if_neg (by omega)]
theorem prt_cell {L : Nat → Nat} {k s : Nat} : prt L k (13 + 2 * s) = if s < k then nxt L s else L (13 + 2 * s) := by
  unfold prt
  by_cases h : s < k
  · rw [if_pos (by omega), if_pos h]
    congr 1
    omega
  · rw [if_neg (by omega), if_neg h]
theorem prt_nxt {L : Nat → Nat} {k : Nat} : nxt (prt L k) k = nxt L k := by
  unfold nxt
  rw [prt_kind, prt_cell, if_neg (Nat.lt_irrefl k), prt_lo (show 5 < 13 by decide), prt_lo (show 2 < 13 by decide)]
theorem prt_thk {L : Nat → Nat} {k w : Nat} (h : Ok L) : thk (prt L k) w = thk L w := by
  obtain ⟨-, h1, -⟩ := h
  have : w % L 1 < L 1 := Nat.mod_lt w (by omega)
  unfold thk
  rw [prt_lo (show 1 < 13 by decide), prt_lo (by omega)]
theorem prt_Ok {L : Nat → Nat} (h : Ok L) {k : Nat} (hk : k ≤ L 0) : Ok (prt L k) := by
  have h' := h
  obtain ⟨h0, h1, h2, h3, h4, h6, h7⟩ := h
  refine ⟨?_, ?_, ?_, ?_, ?_, ?_, ?_⟩
  · rw [prt_lo (by decide)]; exact h0
  · rw [prt_lo (by decide)]; exact h1
  · rw [prt_lo (by decide)]; exact h2
  · rw [prt_lo (by decide)]; exact h3
  · rw [prt_lo (by decide)]; exact h4
  · intro f hf
    rw [prt_lo (by omega)]; exact h6 f hf
  · intro s hs
    rw [prt_lo (by decide)] at hs
    rw [prt_kind, prt_cell, prt_lo (show 2 < 13 by decide)]
    refine ⟨(h7 s hs).1, (h7 s hs).2.1, ?_⟩
    split
    · exact nxt_lt h' hs
    · exact (h7 s hs).2.2
theorem prt_succ {L : Nat → Nat} {k : Nat} : prt L (k + 1) = setL (prt L k) (13 + 2 * k) (nxt L k) := by
  funext i
  unfold setL
  by_cases h : i = 13 + 2 * k
  · rw [if_pos h, h, prt_cell, if_pos (by omega)]
  · rw [if_neg h]
    unfold prt
    by_cases h2 : 13 ≤ i ∧ i % 2 = 1 ∧ (i - 13) / 2 < k
    · rw [if_pos h2, if_pos (by omega)]
    · rw [if_neg h2, if_neg (by omega)]
theorem step_lo {L : Nat → Nat} {i : Nat} (h : i < 13) (h4 : i ≠ 4) (h5 : i ≠ 5) : step L i = L i := by
  unfold step
  rw [if_neg h4, if_neg h5, prt_lo h]
theorem step_4 {L : Nat → Nat} : step L 4 = L 4 - (if 5 ≤ thk L (L 5) then 2 else 1) := rfl
theorem step_5 {L : Nat → Nat} : step L 5 = L 5 + 1 := rfl
theorem step_kind {L : Nat → Nat} {s : Nat} : step L (12 + 2 * s) = L (12 + 2 * s) := by
  unfold step
  rw [if_neg (by omega), if_neg (by omega), prt_kind]
theorem step_cell {L : Nat → Nat} {s : Nat} : step L (13 + 2 * s) = if s < L 0 then nxt L s else L (13 + 2 * s) := by
  unfold step
  rw [if_neg (by omega), if_neg (by omega), prt_cell]
theorem step_Ok {L : Nat → Nat} (h : Ok L) : Ok (step L) := by
  have h' := h
  obtain ⟨h0, h1, h2, h3, h4, h6, h7⟩ := h
  refine ⟨?_, ?_, ?_, ?_, ?_, ?_, ?_⟩
  · rw [step_lo (by decide) (by decide) (by decide)]; exact h0
  · rw [step_lo (by decide) (by decide) (by decide)]; exact h1
  · rw [step_lo (by decide) (by decide) (by decide)]; exact h2
  · rw [step_lo (by decide) (by decide) (by decide)]; exact h3
  · rw [step_4]; omega
  · intro f hf
    rw [step_lo (by omega) (by omega) (by omega)]; exact h6 f hf
  · intro s hs
    rw [step_lo (by decide) (by decide) (by decide)] at hs
    rw [step_kind, step_cell, if_pos hs, step_lo (show 2 < 13 by decide) (by decide) (by decide)]
    exact ⟨(h7 s hs).1, (h7 s hs).2.1, nxt_lt h' hs⟩
theorem stepN_Ok {L : Nat → Nat} (h : Ok L) : ∀ n, Ok (stepN L n)
  | 0 => h
  | n + 1 => step_Ok (stepN_Ok h n)
theorem stepN_5 {L : Nat → Nat} : ∀ n, stepN L n 5 = L 5 + n
  | 0 => rfl
  | n + 1 => by
    show step (stepN L n) 5 = _
    rw [step_5, stepN_5 n]
    omega
theorem stepN_0 {L : Nat → Nat} : ∀ n, stepN L n 0 = L 0
  | 0 => rfl
  | n + 1 => by
    show step (stepN L n) 0 = _
    rw [step_lo (by decide) (by decide) (by decide), stepN_0 n]
theorem stepN_lo {L : Nat → Nat} {i : Nat} (h : i < 13) (h4 : i ≠ 4) (h5 : i ≠ 5) : ∀ n, stepN L n i = L i
  | 0 => rfl
  | n + 1 => by
    show step (stepN L n) i = _
    rw [step_lo h h4 h5, stepN_lo h h4 h5 n]
theorem seenN_lt {L : Nat → Nat} {who : Nat} : ∀ n, seenN L who n < 2 ^ n
  | 0 => Nat.zero_lt_one
  | n + 1 => by
    have := seenN_lt (L := L) (who := who) n
    unfold seenN
    rw [Nat.pow_succ]
    split <;> omega
theorem seen_lt {L : Nat → Nat} {who : Nat} (h : Ok L) : seen L who < 64 := by
  have h1 := seenN_lt (L := L) (who := who) (L 0)
  have h2 : 2 ^ L 0 ≤ 2 ^ 6 := Nat.pow_le_pow_right (by decide) h.1.2
  unfold seen
  omega
-- one ship by itself
theorem one_lo {L : Nat → Nat} {s i : Nat} (h : i < 12) (h0 : i ≠ 0) : oneL L s i = L i := by
  unfold oneL
  rw [if_neg h0, if_neg (by omega), if_neg (by omega)]
theorem one_Ok {L : Nat → Nat} (h : Ok L) {s : Nat} (hs : s < L 0) : Ok (oneL L s) := by
  obtain ⟨h0, h1, h2, h3, h4, h6, h7⟩ := h
  refine ⟨⟨Nat.le_refl 1, by show 1 ≤ 6; decide⟩, ?_, ?_, ?_, ?_, ?_, ?_⟩
  · rw [one_lo (by decide) (by decide)]; exact h1
  · rw [one_lo (by decide) (by decide)]; exact h2
  · rw [one_lo (by decide) (by decide)]; exact h3
  · rw [one_lo (by decide) (by decide)]; exact h4
  · intro f hf
    rw [one_lo (by omega) (by omega)]; exact h6 f hf
  · intro z hz
    obtain rfl : z = 0 := by
      have : oneL L s 0 = 1 := rfl
      omega
    rw [one_lo (show 2 < 12 by decide) (by decide)]
    exact h7 s hs
/-- two rows are alike for a ship of each -/
def Same (L : Nat → Nat) (s : Nat) (M : Nat → Nat) (z : Nat) : Prop := (∀ i, 1 ≤ i → i < 12 → M i = L i) ∧ M (12 + 2 * z) = L (12 + 2 * s) ∧ M (13 + 2 * z) = L (13 + 2 * s)
theorem one_same {L : Nat → Nat} {s : Nat} : Same L s (oneL L s) 0 := ⟨fun i h1 h2 => one_lo h2 (by omega), rfl, rfl⟩
theorem same_thk {L M : Nat → Nat} {s z w : Nat} (h : Same L s M z) (ho : Ok L) : thk M w = thk L w := by
  have : w % L 1 < L 1 := Nat.mod_lt w ho.2.1.1
  have h6 := ho.2.1.2
  unfold thk
  rw [h.1 1 (by decide) (by decide), h.1 _ (by omega) (by omega)]
theorem same_lgd {L M : Nat → Nat} {s z : Nat} (h : Same L s M z) (ho : Ok L) : lgd M z = lgd L s := by
  unfold lgd
  rw [same_thk h ho, h.2.1, h.2.2, h.1 3 (by decide) (by decide), h.1 4 (by decide) (by decide), h.1 5 (by decide) (by decide)]
theorem same_nxt {L M : Nat → Nat} {s z : Nat} (h : Same L s M z) : nxt M z = nxt L s := by
  unfold nxt
  rw [h.2.1, h.2.2, h.1 2 (by decide) (by decide), h.1 5 (by decide) (by decide)]
theorem same_step {L M : Nat → Nat} {s z : Nat} (h : Same L s M z) (ho : Ok L) (hs : s < L 0) (hz : z < M 0) : Same (step L) s (step M) z := by
  refine ⟨fun i h1 h2 => ?_, ?_, ?_⟩
  · by_cases h4 : i = 4
    · subst h4
      rw [step_4, step_4, h.1 4 (by decide) (by decide), h.1 5 (by decide) (by decide), same_thk h ho]
    · by_cases h5 : i = 5
      · subst h5
        rw [step_5, step_5, h.1 5 (by decide) (by decide)]
      · rw [step_lo (by omega) h4 h5, step_lo (by omega) h4 h5, h.1 i h1 h2]
  · rw [step_kind, step_kind, h.2.1]
  · rw [step_cell, step_cell, if_pos hs, if_pos hz, same_nxt h]
theorem same_stepN {L M : Nat → Nat} {s z : Nat} (h : Same L s M z) (ho : Ok L) (hs : s < L 0) (hz : z < M 0) : ∀ n, Same (stepN L n) s (stepN M n) z
  | 0 => h
  | n + 1 => same_step (same_stepN h ho hs hz n) (stepN_Ok ho n) (by rw [stepN_0]; exact hs) (by rw [stepN_0]; exact hz)
