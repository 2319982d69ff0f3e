/-! the constructors' contracts -/
theorem ct_ne {E : Nat → va_E} {x d : Nat} {e : va_E} (h : x ≠ d) : va_up E d e x = E x := if_neg h
theorem ct_eq {E : Nat → va_E} {d : Nat} {e : va_E} : va_up E d e d = e := if_pos rfl
abbrev ct_fL : va_E := e_obj 1 [.null, .null, .null, .int 0, .int 0, .int 0, .int 0, .int 0, .int 0]
abbrev ct_fR : va_E := e_obj 2 [.null, .int 0, .int 0, .int 0]
abbrev ct_fT : va_E := e_obj 3 [.null, .int 0, .int 0, .int 0, .int 0]
abbrev ct_fA : va_E := e_obj 0 [.null, .int 0, .int 0]
abbrev ct_fM : va_E := e_obj 4 [.null, .null, .null, .null, .null, .null, .null, .null, .int 0, .int 0, .int 0]
abbrev ct_z : Nat → Int32 := fun _ => 0
def ct_EL (cI : ClassId) (B : Nat) (E : Nat → va_E) (N c : Nat) : Nat → va_E := fun x => if x = c then e_obj 1 [.ref (B + N), .ref (B + (N + 1)), .ref (B + (N + 2)), .int 0, .int 0, .int 0, .int 0, .int 0, .int 0] else if N ≤ x then e_int cI 6 ct_z else E x
def ct_ER (cI : ClassId) (B : Nat) (E : Nat → va_E) (N c : Nat) : Nat → va_E := fun x => if x = c then e_obj 2 [.ref (B + N), .int 1, .int 0, .int 0] else if x = N then e_int cI 40 ct_z else E x
def ct_ET (cI : ClassId) (B : Nat) (E : Nat → va_E) (N c : Nat) : Nat → va_E := fun x => if x = c then e_obj 3 [.ref (B + N), .int 0, .int 0, .int 0, .int 0] else if x = N then e_int cI 120 ct_z else E x
def ct_EA (cI cL : ClassId) (B : Nat) (E : Nat → va_E) (N c k : Nat) : Nat → va_E := fun x => if x = c then e_obj 0 [.ref (B + N), .int 0, .int 0] else if x = N then e_ref cL 24 (fun i => if i < k then some (B + (N + 1 + 4 * i)) else none) else if N < x then (if (x - (N + 1)) % 4 = 0 then e_light B ct_z x else e_int cI 6 ct_z) else E x
abbrev rmX1_init : Room := { frames := 1, cells := 3, slots := 18, locals := 20 }
abbrev rmX2_init : Room := { frames := 1, cells := 1, slots := 40, locals := 20 }
abbrev rmX3_init : Room := { frames := 1, cells := 1, slots := 120, locals := 20 }
abbrev rmX0_init : Room := { frames := 2, cells := 97, slots := 672, locals := 60 }
abbrev rmX4_init : Room := { frames := 3, cells := 139, slots := 1364, locals := 120 }
abbrev rmX5_init : Room := { frames := 1, cells := 12, slots := 1202, locals := 60 }
theorem mi_X0 : Cond.instanceMethod yX0_init ∈ lw_u ∧ Cond.initialized yX0_init.cls ∈ lw_u ∧ Cond.code yX0_init cX0_init 2 none ∈ lw_u := ⟨uw_67, uw_4, uw_68⟩
theorem hi_X0 : yX0_init.cls ≠ "java/lang/invoke/MethodHandle" ∧ yX0_init.cls ≠ "java/lang/invoke/VarHandle" ∧ (parseMethodDescriptor yX0_init.desc).map (fun d => d.parameters.length) = some 0 := by decide +kernel
theorem mi_X1 : Cond.instanceMethod yX1_init ∈ lw_u ∧ Cond.initialized yX1_init.cls ∈ lw_u ∧ Cond.code yX1_init cX1_init 1 none ∈ lw_u := ⟨uw_35, uw_3, uw_36⟩
theorem hi_X1 : yX1_init.cls ≠ "java/lang/invoke/MethodHandle" ∧ yX1_init.cls ≠ "java/lang/invoke/VarHandle" ∧ (parseMethodDescriptor yX1_init.desc).map (fun d => d.parameters.length) = some 0 := by decide +kernel
theorem mi_X2 : Cond.instanceMethod yX2_init ∈ lw_u ∧ Cond.initialized yX2_init.cls ∈ lw_u ∧ Cond.code yX2_init cX2_init 1 none ∈ lw_u := ⟨uw_76, uw_5, uw_77⟩
theorem hi_X2 : yX2_init.cls ≠ "java/lang/invoke/MethodHandle" ∧ yX2_init.cls ≠ "java/lang/invoke/VarHandle" ∧ (parseMethodDescriptor yX2_init.desc).map (fun d => d.parameters.length) = some 0 := by decide +kernel
theorem mi_X3 : Cond.instanceMethod yX3_init ∈ lw_u ∧ Cond.initialized yX3_init.cls ∈ lw_u ∧ Cond.code yX3_init cX3_init 1 none ∈ lw_u := ⟨uw_21, uw_2, uw_22⟩
theorem hi_X3 : yX3_init.cls ≠ "java/lang/invoke/MethodHandle" ∧ yX3_init.cls ≠ "java/lang/invoke/VarHandle" ∧ (parseMethodDescriptor yX3_init.desc).map (fun d => d.parameters.length) = some 0 := by decide +kernel
theorem mi_X4 : Cond.instanceMethod yX4_init ∈ lw_u ∧ Cond.initialized yX4_init.cls ∈ lw_u ∧ Cond.code yX4_init cX4_init 2 none ∈ lw_u := ⟨uw_13, uw_1, uw_14⟩
theorem hi_X4 : yX4_init.cls ≠ "java/lang/invoke/MethodHandle" ∧ yX4_init.cls ≠ "java/lang/invoke/VarHandle" ∧ (parseMethodDescriptor yX4_init.desc).map (fun d => d.parameters.length) = some 0 := by decide +kernel
theorem mi_X5 : Cond.instanceMethod yX5_init ∈ lw_u ∧ Cond.initialized yX5_init.cls ∈ lw_u ∧ Cond.code yX5_init cX5_init 1 none ∈ lw_u := ⟨uw_505, uw_6, uw_506⟩
theorem hi_X5 : yX5_init.cls ≠ "java/lang/invoke/MethodHandle" ∧ yX5_init.cls ≠ "java/lang/invoke/VarHandle" ∧ (parseMethodDescriptor yX5_init.desc).map (fun d => d.parameters.length) = some 0 := by decide +kernel
section
variable {l : Launch} {D : va_G} {cI cZ cL cR : ClassId} {B : Nat} {E : Nat → va_E}
set_option maxRecDepth 100000 in
set_option maxHeartbeats 4000000 in
theorem k_X1_init {N c : Nat} (hc : c < N) (he : E c = ct_fL) : ct_C l yX1_init (Cond.code yX1_init cX1_init 1 none :: lw_u) rmX1_init D cI cZ cL cR B [.ref (B + c)] N E (N + 3) (ct_EL cI B E N c) 3 18 := by
  refine ct_of (cc := cX1_init) (maxL := 1) (own := RX1) (by decide) rfl rfl (Nat.le_of_ble_eq_true rfl) (fun p e s m below meth c0 C0 hR ls hl => ?_)
  have hS : va_S (lm_A B) s.heap s.heap [] := va_S.rf
  have hl : lv_has ls 1 [(0, .ref (B + c))] := hl
  obtain ⟨hx, hb, hml, hr, hlk, hown, hts, hK, hY, hin, hBs⟩ := id C0
  refine lv_aload_n hx hb dX1_init_0 rfl (lv_at hl 0 rfl) ?_
  refine ct_obj C0 hl uw_37 dX1_init_1 (Nat.le_of_ble_eq_true rfl) (Nat.le_of_ble_eq_true rfl) ?_
  refine lv_aload_n hx hb dX1_init_4 rfl (lv_at hl 0 rfl) ?_
  refine lv_bipush (v := 6) hx hb dX1_init_5 (by decide) ?_
  refine ct_newi C0 hR hS (n := 6) (by decide) rfl (by decide) (Nat.le_of_ble_eq_true rfl) (Nat.le_of_ble_eq_true rfl) dX1_init_7 (fun H hR hS => ?_)
  refine ct_putF C0 hR hS (x := c) (by omega) ((ct_ne (by omega)).trans he) rfl lw_in_X1 tyX1 tyX1_ok nmX1 0 (by decide) uw_38 rfl rfl rfl rfl rfl rfl (Nat.le_of_ble_eq_true rfl) dX1_init_9 (fun H locs hR hS => ?_)
  refine lv_aload_n hx hb dX1_init_12 rfl (lv_at hl 0 rfl) ?_
  refine lv_bipush (v := 6) hx hb dX1_init_13 (by decide) ?_
  refine ct_newi C0 hR hS (n := 6) (by decide) rfl (by decide) (Nat.le_of_ble_eq_true rfl) (Nat.le_of_ble_eq_true rfl) dX1_init_15 (fun H hR hS => ?_)
  refine ct_putF C0 hR hS (x := c) (by omega) ((ct_ne (by omega)).trans ct_eq) rfl lw_in_X1 tyX1 tyX1_ok nmX1 1 (by decide) uw_41 rfl rfl rfl rfl rfl rfl (Nat.le_of_ble_eq_true rfl) dX1_init_17 (fun H locs hR hS => ?_)
  refine lv_aload_n hx hb dX1_init_20 rfl (lv_at hl 0 rfl) ?_
  refine lv_bipush (v := 6) hx hb dX1_init_21 (by decide) ?_
  refine ct_newi C0 hR hS (n := 6) (by decide) rfl (by decide) (Nat.le_of_ble_eq_true rfl) (Nat.le_of_ble_eq_true rfl) dX1_init_23 (fun H hR hS => ?_)
  refine ct_putF C0 hR hS (x := c) (by omega) ((ct_ne (by omega)).trans ct_eq) rfl lw_in_X1 tyX1 tyX1_ok nmX1 2 (by decide) uw_44 rfl rfl rfl rfl rfl rfl (Nat.le_of_ble_eq_true rfl) dX1_init_25 (fun H locs hR hS => ?_)
  refine ct_ret C0 hR hS (fun x hx => ?_) dX1_init_28
  unfold ct_EL
  by_cases h1 : x = c
  · subst h1
    simp [va_up]
  · by_cases h2 : N ≤ x
    · rcases (show x = N ∨ x = N + 1 ∨ x = N + 2 by omega) with rfl | rfl | rfl <;> simp [va_up, h1]
    · simp [va_up, h1, h2, show x ≠ N by omega, show x ≠ N + 1 by omega, show x ≠ N + 2 by omega]
set_option maxRecDepth 100000 in
set_option maxHeartbeats 4000000 in
theorem k_X2_init {N c : Nat} (hc : c < N) (he : E c = ct_fR) : ct_C l yX2_init (Cond.code yX2_init cX2_init 1 none :: lw_u) rmX2_init D cI cZ cL cR B [.ref (B + c)] N E (N + 1) (ct_ER cI B E N c) 1 40 := by
  refine ct_of (cc := cX2_init) (maxL := 1) (own := RX2) (by decide) rfl rfl (Nat.le_of_ble_eq_true rfl) (fun p e s m below meth c0 C0 hR ls hl => ?_)
  have hS : va_S (lm_A B) s.heap s.heap [] := va_S.rf
  have hl : lv_has ls 1 [(0, .ref (B + c))] := hl
  obtain ⟨hx, hb, hml, hr, hlk, hown, hts, hK, hY, hin, hBs⟩ := id C0
  refine lv_aload_n hx hb dX2_init_0 rfl (lv_at hl 0 rfl) ?_
  refine ct_obj C0 hl uw_78 dX2_init_1 (Nat.le_of_ble_eq_true rfl) (Nat.le_of_ble_eq_true rfl) ?_
  refine lv_aload_n hx hb dX2_init_4 rfl (lv_at hl 0 rfl) ?_
  refine lv_bipush (v := 40) hx hb dX2_init_5 (by decide) ?_
  refine ct_newi C0 hR hS (n := 40) (by decide) rfl (by decide) (Nat.le_of_ble_eq_true rfl) (Nat.le_of_ble_eq_true rfl) dX2_init_7 (fun H hR hS => ?_)
  refine ct_putF C0 hR hS (x := c) (by omega) ((ct_ne (by omega)).trans he) rfl lw_in_X2 tyX2 tyX2_ok nmX2 0 (by decide) uw_79 rfl rfl rfl rfl rfl rfl (Nat.le_of_ble_eq_true rfl) dX2_init_9 (fun H locs hR hS => ?_)
  refine lv_aload_n hx hb dX2_init_12 rfl (lv_at hl 0 rfl) ?_
  refine lv_iconst (v := 1) hx hb dX2_init_13 (by decide) ?_
  refine ct_put C0 hR hS (x := c) (by omega) ct_eq rfl lw_in_X2 tyX2 tyX2_ok nmX2 1 (by decide) uw_81 rfl rfl rfl rfl rfl (Nat.le_of_ble_eq_true rfl) dX2_init_14 (fun H locs hR hS => ?_)
  refine ct_ret C0 hR hS (fun x hx => ?_) dX2_init_17
  unfold ct_ER
  by_cases h1 : x = c
  · subst h1
    simp [va_up]
  · by_cases h2 : x = N
    · subst h2
      simp [va_up, h1]
    · simp [va_up, h1, h2]
set_option maxRecDepth 100000 in
set_option maxHeartbeats 4000000 in
theorem k_X3_init {N c : Nat} (hc : c < N) (he : E c = ct_fT) : ct_C l yX3_init (Cond.code yX3_init cX3_init 1 none :: lw_u) rmX3_init D cI cZ cL cR B [.ref (B + c)] N E (N + 1) (ct_ET cI B E N c) 1 120 := by
  refine ct_of (cc := cX3_init) (maxL := 1) (own := RX3) (by decide) rfl rfl (Nat.le_of_ble_eq_true rfl) (fun p e s m below meth c0 C0 hR ls hl => ?_)
  have hS : va_S (lm_A B) s.heap s.heap [] := va_S.rf
  have hl : lv_has ls 1 [(0, .ref (B + c))] := hl
  obtain ⟨hx, hb, hml, hr, hlk, hown, hts, hK, hY, hin, hBs⟩ := id C0
  refine lv_aload_n hx hb dX3_init_0 rfl (lv_at hl 0 rfl) ?_
  refine ct_obj C0 hl uw_23 dX3_init_1 (Nat.le_of_ble_eq_true rfl) (Nat.le_of_ble_eq_true rfl) ?_
  refine lv_aload_n hx hb dX3_init_4 rfl (lv_at hl 0 rfl) ?_
  refine lv_bipush (v := 120) hx hb dX3_init_5 (by decide) ?_
  refine ct_newi C0 hR hS (n := 120) (by decide) rfl (by decide) (Nat.le_of_ble_eq_true rfl) (Nat.le_of_ble_eq_true rfl) dX3_init_7 (fun H hR hS => ?_)
  refine ct_putF C0 hR hS (x := c) (by omega) ((ct_ne (by omega)).trans he) rfl lw_in_X3 tyX3 tyX3_ok nmX3 0 (by decide) uw_24 rfl rfl rfl rfl rfl rfl (Nat.le_of_ble_eq_true rfl) dX3_init_9 (fun H locs hR hS => ?_)
  refine ct_ret C0 hR hS (fun x hx => ?_) dX3_init_12
  unfold ct_ET
  by_cases h1 : x = c
  · subst h1
    simp [va_up]
  · by_cases h2 : x = N
    · subst h2
      simp [va_up, h1]
    · simp [va_up, h1, h2]
set_option maxRecDepth 100000 in
set_option maxHeartbeats 4000000 in
theorem k_X0_loop {N a : Nat} (ha : a < N) {p : Program} {e : Env} {s : State} {m : MethodId} {args : Array Value} {below : List Frame} {meth : Method} {c0 : Code} (C0 : ct_Cx D cI cZ cL cR B p s m args meth c0 cX0_init 2 RX0) : ∀ (n k : Nat), k + n = 24 → ∀ (H : Heap) (locs : List Loc) (ls : Array Slot), ct_S D B (N + 1 + 4 * k) (ct_EA cI cL B E N a k) H → va_S (lm_A B) s.heap H locs → lv_has ls 2 [(0, .ref (B + a)), (1, .int (nI k))] → W p l e rmX0_init s m args below meth c0 H locs (1 + 4 * k) (24 + 27 * k) (MQ below (ct_Q D B (N + 97) (ct_EA cI cL B E N a 24)) args s 97 672 (lm_A B)) (F0 m 15 ls []) := by
  obtain ⟨hx, hb, hml, hr, hlk, hown, hts, hK, hY, hin, hBs⟩ := id C0
  intro n
  induction n with
  | zero =>
    intro k hk H locs ls hR hS hl
    obtain rfl : k = 24 := by omega
    refine lv_iload_n hx hb dX0_init_15 rfl (lv_at hl 1 rfl) ?_
    refine lv_bipush (v := 24) hx hb dX0_init_16 (by decide) ?_
    refine lv_icmp_ge (tgt := 40) hx hb dX0_init_18 (by decide) (fun b1 => ?_) (fun b1 => absurd (show (24 : Int32) ≤ nI 24 by decide) b1)
    exact ct_ret C0 hR hS (fun _ _ => rfl) dX0_init_40
  | succ n ih =>
    intro k hk H locs ls hR hS hl
    have hk24 : k < 24 := by omega
    have hki : lm_in (nI k) 24 = true := by
      refine decide_eq_true ?_
      exact nI_in hk24 (by decide)
    have hkc : (nI k).toNatClampNeg = k := nI_clamp (by omega)
    refine lv_iload_n hx hb dX0_init_15 rfl (lv_at hl 1 rfl) ?_
    refine lv_bipush (v := 24) hx hb dX0_init_16 (by decide) ?_
    refine lv_icmp_ge (tgt := 40) hx hb dX0_init_18 (by decide) (fun b1 => absurd b1 (nI_ge (b := 24) hk24 (by decide))) (fun b1 => ?_)
    refine lv_aload_n hx hb dX0_init_21 rfl (lv_at hl 0 rfl) ?_
    refine ct_get C0 hR (x := a) (by omega) (show ct_EA cI cL B E N a k a = .inr (0, [.ref (B + N), .int 0, .int 0]) by simp [ct_EA]) rfl lw_in_X0 0 (by decide) uw_71 rfl rfl dX0_init_22 ?_
    refine lv_iload_n hx hb dX0_init_25 rfl (lv_at hl 1 rfl) ?_
    refine ct_new C0 hR hS (ci := 1) (fs := [.null, .null, .null, .int 0, .int 0, .int 0, .int 0, .int 0, .int 0]) lw_in_X1 tyX1 tyX1_ok uw_70 uw_34 uw_3 rfl (fun j hj => by rcases (show j = 0 ∨ j = 1 ∨ j = 2 ∨ j = 3 ∨ j = 4 ∨ j = 5 ∨ j = 6 ∨ j = 7 ∨ j = 8 by omega) with rfl | rfl | rfl | rfl | rfl | rfl | rfl | rfl | rfl <;> rfl) (by show 1 + 4 * k + 1 ≤ 97; omega) (by show 24 + 27 * k + 9 ≤ 672; omega) dX0_init_26 (fun H hR hS => ?_)
    refine lv_dup hx hb dX0_init_29 rfl ?_
    refine ct_end (ct_runN C0 hR (k_X1_init (by omega) ct_eq) hY.2.2.1 mi_X1 rfl rfl rfl hi_X1 ⟨(Nat.le_of_ble_eq_true rfl), (Nat.le_of_ble_eq_true rfl)⟩ hl (Nat.le_of_ble_eq_true rfl) dX0_init_30 ⟨by show 1 + 4 * k + 1 + 3 ≤ 97; omega, by show 24 + 27 * k + 9 + 18 ≤ 672; omega⟩) hS (fun H locs hR hS => ?_)
    refine ct_ast C0 hR hS (x := N) (y := N + 1 + 4 * k) (t0 := 2) (r := (RX1, TX1, 9)) (ci := 1) (n := 24) (f := fun i => if i < k then some (B + (N + 1 + 4 * i)) else none) (by omega) ?_ rfl (by omega) (vs := [.ref (B + (N + 1 + 4 * k + 1)), .ref (B + (N + 1 + 4 * k + 1 + 1)), .ref (B + (N + 1 + 4 * k + 1 + 2)), .int 0, .int 0, .int 0, .int 0, .int 0, .int 0]) ?_ rfl hki dX0_init_33 (fun H locs hR hS => ?_)
    · simp [ct_EL, va_up, ct_EA, show N ≠ N + 1 + 4 * k by omega, show ¬ (N + 1 + 4 * k + 1 ≤ N) by omega, show N ≠ a by omega]
    · simp [ct_EL]
    refine lv_iinc (v := nI (k + 1)) (lv' := [(1, .int (nI (k + 1))), (0, .ref (B + a))]) hx hb dX0_init_34 hl (k := 1) rfl (nI_1 k) (by decide) rfl (fun ls hl => ?_)
    refine lv_goto (tgt := 15) hx hb dX0_init_37 (by decide) ?_
    refine W.widen (k := 1 + 4 * (k + 1)) (n := 24 + 27 * (k + 1)) (by omega) (by omega) ?_
    refine ih (k + 1) (by omega) H locs ls ⟨?_, by rw [hR.2]; omega⟩ hS (lv_sub hl [1, 0] rfl)
    have hw := hR.1
    rw [hkc, show N + 1 + 4 * k + 1 + 3 = N + 1 + 4 * (k + 1) by omega] at hw
    rw [wF_congr (E' := ct_EA cI cL B E N a (k + 1)) (fun x hx => ?_)] at hw
    · exact hw
    · by_cases h1 : x = a
      · subst h1
        simp [va_up, ct_EL, ct_EA, show x ≠ N by omega, show x ≠ N + 1 + 4 * k by omega, show ¬ (N + 1 + 4 * k + 1 ≤ x) by omega]
      · by_cases h2 : x = N
        · subst h2
          have : (va_up (fun i => if i < k then some (B + (x + 1 + 4 * i)) else none) k (some (B + (x + 1 + 4 * k)))) = (fun i => if i < k + 1 then some (B + (x + 1 + 4 * i)) else none) := by
            funext i
            unfold va_up
            by_cases hi : i = k
            · subst hi
              simp
            · simp only [hi, if_false]
              by_cases hi2 : i < k
              · simp [hi2, show i < k + 1 by omega]
              · simp [hi2, show ¬ i < k + 1 by omega]
          simp [va_up, ct_EA, h1] at this ⊢
          exact this
        · by_cases h3 : x = N + 1 + 4 * k
          · subst h3
            have h4 : (N + 1 + 4 * k - (N + 1)) % 4 = 0 := by omega
            simp only [va_up, ct_EL, ct_EA, h1, h2, if_false, if_true, h4, show N < N + 1 + 4 * k by omega]
            rfl
          · by_cases h4 : N + 1 + 4 * k + 1 ≤ x
            · have h5 : ¬ (x - (N + 1)) % 4 = 0 := by omega
              simp [va_up, ct_EL, ct_EA, h1, h2, h3, h4, h5, show N < x by omega]
            · simp [va_up, ct_EL, ct_EA, h1, h2, h3, h4]
set_option maxRecDepth 100000 in
set_option maxHeartbeats 4000000 in
theorem k_X0_init {N c : Nat} (hc : c < N) (he : E c = ct_fA) : ct_C l yX0_init (Cond.code yX0_init cX0_init 2 none :: lw_u) rmX0_init D cI cZ cL cR B [.ref (B + c)] N E (N + 97) (ct_EA cI cL B E N c 24) 97 672 := by
  refine ct_of (cc := cX0_init) (maxL := 2) (own := RX0) (by decide) rfl rfl (Nat.le_of_ble_eq_true rfl) (fun p e s m below meth c0 C0 hR ls hl => ?_)
  have hS : va_S (lm_A B) s.heap s.heap [] := va_S.rf
  have hl : lv_has ls 2 [(0, .ref (B + c))] := hl
  obtain ⟨hx, hb, hml, hr, hlk, hown, hts, hK, hY, hin, hBs⟩ := id C0
  refine lv_aload_n hx hb dX0_init_0 rfl (lv_at hl 0 rfl) ?_
  refine ct_obj C0 hl uw_69 dX0_init_1 (Nat.le_of_ble_eq_true rfl) (Nat.le_of_ble_eq_true rfl) ?_
  refine lv_aload_n hx hb dX0_init_4 rfl (lv_at hl 0 rfl) ?_
  refine lv_bipush (v := 24) hx hb dX0_init_5 (by decide) ?_
  refine ct_newq C0 hR hS (t0 := 2) (n := 24) uw_70 hY.2.2.2.2.1 rfl (by decide) rfl (by decide) (Nat.le_of_ble_eq_true rfl) (Nat.le_of_ble_eq_true rfl) dX0_init_7 (fun H hR hS => ?_)
  refine ct_putF C0 hR hS (x := c) (by omega) ((ct_ne (by omega)).trans he) rfl lw_in_X0 tyX0 tyX0_ok nmX0 0 (by decide) uw_71 rfl rfl rfl rfl rfl rfl (Nat.le_of_ble_eq_true rfl) dX0_init_10 (fun H locs hR hS => ?_)
  refine lv_iconst (v := 0) hx hb dX0_init_13 (by decide) ?_
  refine lv_istore_n (lv' := [(1, .int (nI 0)), (0, .ref (B + c))]) hx hb dX0_init_14 rfl hl (by decide) rfl (fun ls hl => ?_)
  refine k_X0_loop (E := E) hc C0 24 0 rfl H locs ls ⟨?_, by rw [hR.2]⟩ hS (lv_sub hl [1, 0] rfl)
  have hw := hR.1
  rw [wF_congr (E' := ct_EA cI cL B E N c 0) (fun x hx => ?_)] at hw
  · exact hw
  · by_cases h1 : x = c
    · subst h1
      simp [va_up, ct_EA]
    · by_cases h2 : x = N
      · subst h2
        simp [va_up, ct_EA, h1]
      · simp [va_up, ct_EA, h1, h2, show ¬ N < x by omega]
end
