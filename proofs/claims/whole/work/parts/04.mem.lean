/-! MEMORY: a cell's number is its place behind the base B; what the ints of a cell are is a function. -/
abbrev Mem : Type := Nat → Nat → Int32
def upA (σ : Mem) (c : Nat) (f : Nat → Int32) : Mem := fun x => if x = c then f else σ x
def up (σ : Mem) (c k : Nat) (v : Int32) : Mem := upA σ c (upd (σ c) k v)
def lm_ck {α : Type} (b : Bool) (k : Option α) : Option α := match b with
  | true => k
  | false => none
theorem lm_ck_e {α : Type} {b : Bool} {k : Option α} {r : α} (h : lm_ck b k = some r) : b = true ∧ k = some r := by
  cases b with
  | true => exact ⟨rfl, h⟩
  | false => cases h
def lm_nm {α β : Type} (e : α) (k : α → Option β) : Option β := k e
theorem lm_nm_e {α β : Type} {e : α} {k : α → Option β} {r : β} (h : lm_nm e k = some r) : ∃ x, x = e ∧ k x = some r := ⟨e, rfl, h⟩
def lm_bd {α β : Type} (o : Option α) (k : α → Option β) : Option β := match o with
  | some a => k a
  | none => none
theorem lm_bd_e {α β : Type} {o : Option α} {k : α → Option β} {r : β} (h : lm_bd o k = some r) : ∃ a, o = some a ∧ k a = some r := by
  cases o with
  | some a => exact ⟨a, rfl, h⟩
  | none => cases h
def lm_bd2 {α β : Type} (o : Option (α × Mem)) (k : α → Mem → Option β) : Option β := match o with
  | some (a, m) => k a m
  | none => none
theorem lm_bd2_e {α β : Type} {o : Option (α × Mem)} {k : α → Mem → Option β} {r : β} (h : lm_bd2 o k = some r) : ∃ a m, o = some (a, m) ∧ k a m = some r := by
  cases o with
  | some a => exact ⟨a.1, a.2, rfl, h⟩
  | none => cases h
theorem lm_T {c : Prop} {i : Decidable c} {α : Type} {a b : Option α} {r : α} (hc : c) (h : @ite _ c i a b = some r) : a = some r := by
  rw [if_pos hc] at h
  exact h
theorem lm_F {c : Prop} {i : Decidable c} {α : Type} {a b : Option α} {r : α} (hc : ¬ c) (h : @ite _ c i a b = some r) : b = some r := by
  rw [if_neg hc] at h
  exact h
def lm_in (i : Int32) (n : Nat) : Bool := decide (¬ (i < 0 ∨ n ≤ i.toNatClampNeg))
theorem lm_inT {i : Int32} {n : Nat} (h : lm_in i n = true) : vp_in i n := (of_decide_eq_true h : ¬ (i < 0 ∨ n ≤ i.toNatClampNeg))
def lm_nz (y : Int32) : Bool := decide (¬ y = 0)
theorem lm_nzT {y : Int32} (h : lm_nz y = true) : ¬ y = 0 := of_decide_eq_true h
def lm_nzl (y : Int64) : Bool := decide (¬ y = 0)
theorem lm_nzlT {y : Int64} (h : lm_nzl y = true) : ¬ y = 0 := of_decide_eq_true h
def lm_bo (y : Int32) : Bool := decide (y = 0 ∨ y = 1)
theorem lm_boT {y : Int32} (h : lm_bo y = true) : narrow .boolean (.int y) = .int y := by
  rcases (of_decide_eq_true h : y = 0 ∨ y = 1) with rfl | rfl <;> rfl
theorem lm_lt {i : Int32} {n : Nat} (h : lm_in i n = true) : i.toNatClampNeg < n := Nat.not_le.mp fun q => (lm_inT h) (Or.inr q)
/-! ===== the cells ===== -/
def isL (c : Nat) : Prop := (4 ≤ c ∧ c < 16 ∧ c % 4 = 0) ∨ (18 ≤ c ∧ c < 114 ∧ c % 4 = 2) ∨ (132 ≤ c ∧ c < 140 ∧ c % 4 = 0)
def isR (c : Nat) : Prop := 116 ≤ c ∧ c < 132 ∧ c % 2 = 0
def isM (c : Nat) : Prop := c = 144 ∨ c = 146
abbrev e_obj (ci : Nat) (fs : List Value) : va_E := .inr (ci, fs)
abbrev e_int (cI : ClassId) (n : Nat) (f : Nat → Int32) : va_E := .inl (cI, n, .inl f)
abbrev e_ref (cR : ClassId) (n : Nat) (f : Nat → Option Nat) : va_E := .inl (cR, n, .inr (.inr (.inr (.inr f))))
def e_light (B : Nat) (f : Nat → Int32) (c : Nat) : va_E := e_obj 1 [.ref (B + (c + 1)), .ref (B + (c + 2)), .ref (B + (c + 3)), .int (f 3), .int (f 4), .int (f 5), .int (f 6), .int (f 7), .int (f 8)]
def e_row (B : Nat) (f : Nat → Int32) (c : Nat) : va_E := e_obj 2 [.ref (B + (c + 1)), .int (f 1), .int (f 2), .int (f 3)]
def e_main (B : Nat) (f : Nat → Int32) : va_E := e_obj 4 [.ref (B + 1), .ref (B + 2), .ref (B + 4), .ref (B + 8), .ref (B + 12), .ref (B + 16), .ref (B + 114), .ref (B + 115), .int (f 8), .int (f 9), .int (f 10)]
def e_tape (B : Nat) (f : Nat → Int32) : va_E := e_obj 3 [.ref (B + 3), .int (f 1), .int (f 2), .int (f 3), .int (f 4)]
def e_acts (B : Nat) (f : Nat → Int32) : va_E := e_obj 0 [.ref (B + 17), .int (f 1), .int (f 2)]
def e_model (B : Nat) (f : Nat → Int32) : va_E := e_obj 5 [.int (f 0), .int (f 1), .ref (B + 141), .ref (B + 142), .ref (B + 143), .ref (B + 144), .ref (B + 145), .ref (B + 146), .ref (B + 147), .int (f 9), .ref (B + 148), .int (f 11), .int (f 12), .int (f 13), .int (f 14), .int (f 15), .int (f 16), .int (f 17), .int (f 18), .ref (B + 149), .int (f 20), .int (f 21), .int (f 22), .ref (B + 150), .ref (B + 151), .ref (B + 152), .int (f 26)]
/-- what stands in cell c, by the two memories -/
def cellA (cI cZ cL cR : ClassId) (B : Nat) (σ τ : Mem) (c : Nat) : va_E :=
  if c < 4 then (if c = 0 then e_main B (σ c) else if c = 1 then e_ref cR 8 (fun i => some (B + (116 + 2 * i))) else if c = 2 then e_tape B (σ c) else e_int cI 120 (σ c))
  else if c < 16 then (if c % 4 = 0 then e_light B (σ c) c else e_int cI 6 (σ c))
  else if c < 18 then (if c = 16 then e_acts B (σ c) else e_ref cL 24 (fun i => some (B + (18 + 4 * i))))
  else if c < 114 then (if c % 4 = 2 then e_light B (σ c) c else e_int cI 6 (σ c))
  else if c < 116 then (if c = 114 then e_ref cL 2 (fun i => some (B + (132 + 4 * i))) else e_int cI 16 (σ c))
  else if c < 132 then (if c % 2 = 0 then e_row B (σ c) c else e_int cI 40 (σ c))
  else if c < 140 then (if c % 4 = 0 then e_light B (σ c) c else e_int cI 6 (σ c))
  else if c = 140 then e_model B (τ c)
  else if c < 143 then e_int cI 8 (τ c)
  else if c = 143 then e_int cI 320 (τ c)
  else if c < 147 then e_int cI 24 (τ c)
  else if c = 147 then e_int cI 576 (τ c)
  else if c = 148 then e_int cI 120 (τ c)
  else if c = 149 then e_int cI 16 (τ c)
  else if c = 150 then e_int cZ 2 (τ c)
  else if c = 151 then e_int cI 48 (τ c)
  else e_int cI 16 (τ c)
def wl (cI cZ cL cR : ClassId) (B : Nat) (σ τ : Mem) : va_W := (List.range 153).map (fun c => (B + c, cellA cI cZ cL cR B σ τ c))
def tyl (cI cZ cL cR : ClassId) : List (ClassId × FieldType) := [(cI, .int), (cZ, .boolean), (cL, .object "LampLogs$Light"), (cR, .object "LampLogs$Row")]
section LMA
variable {cI cZ cL cR : ClassId} {B : Nat} {σ τ σ' τ' : Mem}
theorem wl_get {c : Nat} (h : c < 153) : (wl cI cZ cL cR B σ τ)[c]? = some (B + c, cellA cI cZ cL cR B σ τ c) := by
  simp [wl, h]
theorem wl_at {c : Nat} {E : va_E} (h : c < 153) (he : cellA cI cZ cL cR B σ τ c = E) : (wl cI cZ cL cR B σ τ)[c]? = some (B + c, E) := by
  rw [wl_get h, he]
theorem wl_lt {k : Nat} {q : Nat × va_E} (h : (wl cI cZ cL cR B σ τ)[k]? = some q) : k < 153 ∧ q = (B + k, cellA cI cZ cL cR B σ τ k) := by
  have hk : k < 153 := by
    have := (List.getElem?_eq_some_iff.mp h).1
    simpa [wl] using this
  rw [wl_get hk] at h
  exact ⟨hk, (Option.some.inj h).symm⟩
theorem wl_D : va_D (fun q => B ≤ q) (wl cI cZ cL cR B σ τ) := by
  refine ⟨fun i j p q hi hj e => ?_, fun k q hk => ?_⟩
  · obtain ⟨-, rfl⟩ := wl_lt hi
    obtain ⟨-, rfl⟩ := wl_lt hj
    exact Nat.add_left_cancel e
  · obtain ⟨-, rfl⟩ := wl_lt hk
    exact Nat.le_add_right B k
theorem wl_set {c : Nat} {E : va_E} (hn : cellA cI cZ cL cR B σ' τ' c = E) (ho : ∀ x, x ≠ c → cellA cI cZ cL cR B σ' τ' x = cellA cI cZ cL cR B σ τ x) : (wl cI cZ cL cR B σ τ).set c (B + c, E) = wl cI cZ cL cR B σ' τ' := by
  apply List.ext_getElem?
  intro k
  by_cases hk : k < 153
  · rw [wl_get hk]
    by_cases hc : k = c
    · subst hc
      rw [List.getElem?_set_self (by simpa [wl] using hk), hn]
    · rw [List.getElem?_set_ne (Ne.symm hc), wl_get hk, ho k hc]
  · rw [List.getElem?_eq_none (by simpa [wl] using Nat.not_lt.mp hk), List.getElem?_eq_none (by simpa [wl] using Nat.not_lt.mp hk)]
theorem cellA_congr {x : Nat} (h1 : σ' x = σ x) (h2 : τ' x = τ x) : cellA cI cZ cL cR B σ' τ' x = cellA cI cZ cL cR B σ τ x := by
  unfold cellA
  rw [h1, h2]
theorem upA_ne {c x : Nat} {f : Nat → Int32} (h : x ≠ c) : upA σ c f x = σ x := if_neg h
theorem upA_eq {c : Nat} {f : Nat → Int32} : upA σ c f c = f := if_pos rfl
theorem cellA_oC {c : Nat} {f : Nat → Int32} : ∀ x, x ≠ c → cellA cI cZ cL cR B (upA σ c f) τ x = cellA cI cZ cL cR B σ τ x := fun _ h => cellA_congr (upA_ne h) rfl
theorem cellA_oM {c : Nat} {f : Nat → Int32} : ∀ x, x ≠ c → cellA cI cZ cL cR B σ (upA τ c f) x = cellA cI cZ cL cR B σ τ x := fun _ h => cellA_congr rfl (upA_ne h)
-- what each cell is
theorem isL_lt {c : Nat} (h : isL c) : c < 153 := by unfold isL at h; omega
theorem isL_lt1 {c : Nat} (h : isL c) : c + 1 < 153 := by unfold isL at h; omega
theorem isL_lt2 {c : Nat} (h : isL c) : c + 2 < 153 := by unfold isL at h; omega
theorem isL_lt3 {c : Nat} (h : isL c) : c + 3 < 153 := by unfold isL at h; omega
theorem isR_lt {c : Nat} (h : isR c) : c < 153 := by unfold isR at h; omega
theorem isR_lt1 {c : Nat} (h : isR c) : c + 1 < 153 := by unfold isR at h; omega
theorem isM_lt {c : Nat} (h : isM c) : c < 153 := by unfold isM at h; omega
theorem cell_L {c : Nat} (h : isL c) : cellA cI cZ cL cR B σ τ c = e_light B (σ c) c := by
  unfold isL at h
  unfold cellA
  rcases h with ⟨h1, h2, h3⟩ | ⟨h1, h2, h3⟩ | ⟨h1, h2, h3⟩
  · rw [if_neg (by omega), if_pos (by omega), if_pos (by omega)]
  · rw [if_neg (by omega), if_neg (by omega), if_neg (by omega), if_pos (by omega), if_pos (by omega)]
  · rw [if_neg (by omega), if_neg (by omega), if_neg (by omega), if_neg (by omega), if_neg (by omega), if_neg (by omega), if_pos (by omega), if_pos (by omega)]
theorem cell_L1 {c : Nat} (h : isL c) : cellA cI cZ cL cR B σ τ (c + 1) = e_int cI 6 (σ (c + 1)) := by
  unfold isL at h
  unfold cellA
  rcases h with ⟨h1, h2, h3⟩ | ⟨h1, h2, h3⟩ | ⟨h1, h2, h3⟩
  · rw [if_neg (by omega), if_pos (by omega), if_neg (by omega)]
  · rw [if_neg (by omega), if_neg (by omega), if_neg (by omega), if_pos (by omega), if_neg (by omega)]
  · rw [if_neg (by omega), if_neg (by omega), if_neg (by omega), if_neg (by omega), if_neg (by omega), if_neg (by omega), if_pos (by omega), if_neg (by omega)]
theorem cell_L2 {c : Nat} (h : isL c) : cellA cI cZ cL cR B σ τ (c + 2) = e_int cI 6 (σ (c + 2)) := by
  unfold isL at h
  unfold cellA
  rcases h with ⟨h1, h2, h3⟩ | ⟨h1, h2, h3⟩ | ⟨h1, h2, h3⟩
  · rw [if_neg (by omega), if_pos (by omega), if_neg (by omega)]
  · rw [if_neg (by omega), if_neg (by omega), if_neg (by omega), if_pos (by omega), if_neg (by omega)]
  · rw [if_neg (by omega), if_neg (by omega), if_neg (by omega), if_neg (by omega), if_neg (by omega), if_neg (by omega), if_pos (by omega), if_neg (by omega)]
theorem cell_L3 {c : Nat} (h : isL c) : cellA cI cZ cL cR B σ τ (c + 3) = e_int cI 6 (σ (c + 3)) := by
  unfold isL at h
  unfold cellA
  rcases h with ⟨h1, h2, h3⟩ | ⟨h1, h2, h3⟩ | ⟨h1, h2, h3⟩
  · rw [if_neg (by omega), if_pos (by omega), if_neg (by omega)]
  · rw [if_neg (by omega), if_neg (by omega), if_neg (by omega), if_pos (by omega), if_neg (by omega)]
  · rw [if_neg (by omega), if_neg (by omega), if_neg (by omega), if_neg (by omega), if_neg (by omega), if_neg (by omega), if_pos (by omega), if_neg (by omega)]
theorem cell_R {c : Nat} (h : isR c) : cellA cI cZ cL cR B σ τ c = e_row B (σ c) c := by
  unfold isR at h
  unfold cellA
  obtain ⟨h1, h2, h3⟩ := h
  rw [if_neg (by omega), if_neg (by omega), if_neg (by omega), if_neg (by omega), if_neg (by omega), if_pos (by omega), if_pos (by omega)]
theorem cell_R1 {c : Nat} (h : isR c) : cellA cI cZ cL cR B σ τ (c + 1) = e_int cI 40 (σ (c + 1)) := by
  unfold isR at h
  unfold cellA
  obtain ⟨h1, h2, h3⟩ := h
  rw [if_neg (by omega), if_neg (by omega), if_neg (by omega), if_neg (by omega), if_neg (by omega), if_pos (by omega), if_neg (by omega)]
theorem cell_M {c : Nat} (h : isM c) : cellA cI cZ cL cR B σ τ c = e_int cI 24 (τ c) := by
  rcases h with rfl | rfl <;> rfl
theorem isL_ring {i : Int32} (h : lm_in i 24 = true) : isL (18 + 4 * i.toNatClampNeg) := by
  have := lm_lt h
  unfold isL
  omega
theorem isL_image {i : Int32} (h : lm_in i 2 = true) : isL (132 + 4 * i.toNatClampNeg) := by
  have := lm_lt h
  unfold isL
  omega
theorem isR_row {i : Int32} (h : lm_in i 8 = true) : isR (116 + 2 * i.toNatClampNeg) := by
  have := lm_lt h
  unfold isR
  omega
theorem isL_4 : isL 4 := by unfold isL; omega
theorem isL_8 : isL 8 := by unfold isL; omega
theorem isL_12 : isL 12 := by unfold isL; omega
theorem isM_144 : isM 144 := Or.inl rfl
theorem isM_146 : isM 146 := Or.inr rfl
end LMA
