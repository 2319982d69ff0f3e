/-! ===== X4_when ===== -/
abbrev rmX4_when : Room := { frames := 4, cells := 0, slots := 0, locals := 125 }
def f_X4_when_77 (k39 : Int32 → Int32 → Mem → Option (Int32 × Mem)) (x2 : Int32) (x3 : Int32) (y0 : Int32) (σ : Mem) : Option (Int32 × Mem) := if y0 = 0 then (lm_bd (f_X1_passWatch 8 σ) fun σ22 => lm_nm (x3 + (1 : Int32)) fun v23 => k39 x2 v23 σ22) else (some (x3, σ))
def f_X4_when_39 : Nat → Int32 → Int32 → Mem → Option (Int32 × Mem)
  | 0, _, _, _ => none
  | n + 1, x2, x3, σ => if (60 : Int32) < x3 then (some ((-1000000 : Int32), σ)) else (if x2 = 0 then (lm_ck (lm_in (0 : Int32) 6) (if (σ (8 + 3) (0 : Int32).toNatClampNeg) = 0 then (f_X4_when_77 (f_X4_when_39 n) x2 x3 (1 : Int32) σ) else (f_X4_when_77 (f_X4_when_39 n) x2 x3 (0 : Int32) σ))) else (lm_bd (f_X1_differOn 8 σ (0 : Int32)) fun r15 => f_X4_when_77 (f_X4_when_39 n) x2 x3 r15 σ))
def f_X4_when (σ : Mem) (p1 : Int32) (p2 : Int32) : Option (Int32 × Mem) := lm_bd (f_X4_isBelow p1 (σ 4 8)) fun r2 => if r2 = 0 then (some ((-1000001 : Int32), σ)) else (lm_bd (f_X4_isBelow p2 (2 : Int32)) fun r6 => if r6 = 0 then (some ((-1000001 : Int32), σ)) else (lm_bd (f_X1_takeOneShip 8 4 σ p1) fun σ11 => f_X4_when_39 lm_fu p2 (0 : Int32) σ11))
abbrev wsX4_when : List Cond := Cond.code yX4_when cX4_when 5 (some .int) :: lw_u
theorem mv_X4_when : Cond.instanceMethod yX4_when ∈ lw_u ∧ Cond.selects yX4_when.cls yX4_when yX4_when ∈ lw_u ∧ Cond.initialized yX4_when.cls ∈ lw_u ∧ Cond.code yX4_when cX4_when 5 (some .int) ∈ lw_u := ⟨uw_325, uw_326, uw_1, uw_327⟩
theorem hd_X4_when : yX4_when.cls ≠ "java/lang/invoke/MethodHandle" ∧ yX4_when.cls ≠ "java/lang/invoke/VarHandle" ∧ (parseMethodDescriptor yX4_when.desc).map (fun d => d.parameters.length) = some 2 := by decide +kernel
section
variable {l : Launch} {D : va_G} {cI cZ cL cR : ClassId} {B : Nat}
set_option maxRecDepth 100000 in
set_option maxHeartbeats 4000000 in
theorem w_X4_when_77 {p : Program} {e : Env} {s : State} {m : MethodId} {args : Array Value} {below : List Frame} {meth : Method} {c0 : Code} {τ σ' : Mem} {r : Int32} (C0 : lm_Cx D cI cZ cL cR B p s m args meth c0 cX4_when 5 (some .int) RX4) {k39 : Int32 → Int32 → Mem → Option (Int32 × Mem)} (hk39 : ∀ (x2 : Int32) (x3 : Int32) (σ : Mem) (H : Heap) (locs : List Loc) (ls : Array Slot), va_P D vwCl (wl cI cZ cL cR B σ τ) H → va_S (lm_A B) s.heap H locs → lv_has ls 5 [(0, .ref (B + 0)), (2, .int x2), (3, .int x3)] → k39 x2 x3 σ = some (r, σ') → W p l e rmX4_when s m args below meth c0 H locs 0 0 (MQ below (lm_QI D cI cZ cL cR B r σ' τ) args s 0 0 (lm_A B)) (F0 m 39 ls [])) : ∀ (x2 : Int32) (x3 : Int32) (y0 : Int32) (σ : Mem) (H : Heap) (locs : List Loc) (ls : Array Slot), va_P D vwCl (wl cI cZ cL cR B σ τ) H → va_S (lm_A B) s.heap H locs → lv_has ls 5 [(0, .ref (B + 0)), (2, .int x2), (3, .int x3)] → f_X4_when_77 k39 x2 x3 y0 σ = some (r, σ') → W p l e rmX4_when s m args below meth c0 H locs 0 0 (MQ below (lm_QI D cI cZ cL cR B r σ' τ) args s 0 0 (lm_A B)) (F0 m 77 ls [.int y0]) := by
  obtain ⟨hx, hb, hml, hr, hlk, hown, hts, hK, hX⟩ := id C0
  intro x2 x3 y0 σ H locs ls hR hS hl hf
  unfold f_X4_when_77 at hf
  refine lv_istore (lv' := [(4, .int y0), (0, .ref (B + 0)), (2, .int x2), (3, .int x3)]) hx hb dX4_when_77 hl (by decide) rfl (fun ls hl => ?_)
  refine lv_iload hx hb dX4_when_79 (lv_at hl 0 rfl) ?_
  refine lv_if_eq (tgt := 86) hx hb dX4_when_81 (by decide) (fun b19 => ?_) (fun b19 => ?_)
  · have hf := lm_T b19 hf
    refine lv_aload_n hx hb dX4_when_86 rfl (lv_at hl 1 rfl) ?_
    refine lm_get C0 hR (by decide) cell_0 rfl lw_in_X4 3 (by decide) uw_90 rfl rfl dX4_when_87 ?_
    obtain ⟨σ22, u20, hf⟩ := lm_bd_e hf
    refine lm_endv (lm_runV C0 hR hS (c_X1_passWatch isL_8 u20) (lw_cV 0 hts uw_238 mv_X1_passWatch rfl rfl hd_X1_passWatch ⟨Nat.le_of_ble_eq_true rfl, Nat.le_of_ble_eq_true rfl⟩) (isL_lt isL_8) (cell_L isL_8) rfl rfl hl rfl (Nat.le_of_ble_eq_true rfl) dX4_when_90) hS (fun H locs hR hS => ?_)
    obtain ⟨v23, ev23, hf⟩ := lm_nm_e hf
    refine lv_iinc (v := v23) (lv' := [(3, .int v23), (4, .int y0), (0, .ref (B + 0)), (2, .int x2)]) hx hb dX4_when_93 hl (k := 3) rfl (by rw [ev23]; rfl) (by decide) rfl (fun ls hl => ?_)
    refine lv_goto (tgt := 39) hx hb dX4_when_96 (by decide) ?_
    exact hk39 _ _ _ _ _ _ hR hS (lv_sub hl [2, 3, 0] rfl) hf
  · have hf := lm_F b19 hf
    refine lv_iload_n hx hb dX4_when_84 rfl (lv_at hl 3 rfl) ?_
    exact lm_riC C0 hR hS hf dX4_when_85
set_option maxRecDepth 100000 in
set_option maxHeartbeats 4000000 in
theorem w_X4_when_39 {p : Program} {e : Env} {s : State} {m : MethodId} {args : Array Value} {below : List Frame} {meth : Method} {c0 : Code} {τ σ' : Mem} {r : Int32} (C0 : lm_Cx D cI cZ cL cR B p s m args meth c0 cX4_when 5 (some .int) RX4) : ∀ (n : Nat), ∀ (x2 : Int32) (x3 : Int32) (σ : Mem) (H : Heap) (locs : List Loc) (ls : Array Slot), va_P D vwCl (wl cI cZ cL cR B σ τ) H → va_S (lm_A B) s.heap H locs → lv_has ls 5 [(0, .ref (B + 0)), (2, .int x2), (3, .int x3)] → f_X4_when_39 n x2 x3 σ = some (r, σ') → W p l e rmX4_when s m args below meth c0 H locs 0 0 (MQ below (lm_QI D cI cZ cL cR B r σ' τ) args s 0 0 (lm_A B)) (F0 m 39 ls []) := by
  obtain ⟨hx, hb, hml, hr, hlk, hown, hts, hK, hX⟩ := id C0
  intro n
  induction n with
  | zero =>
    intro x2 x3 σ H locs ls hR hS hl hf
    cases hf
  | succ n ih =>
    intro x2 x3 σ H locs ls hR hS hl hf
    rw [f_X4_when_39] at hf
    refine lv_iload_n hx hb dX4_when_39 rfl (lv_at hl 2 rfl) ?_
    refine lv_bipush (v := (60 : Int32)) hx hb dX4_when_40 (by decide) ?_
    refine lv_icmp_gt (tgt := 99) hx hb dX4_when_42 (by decide) (fun b12 => ?_) (fun b12 => ?_)
    · have hf := lm_T b12 hf
      refine lv_ldc hx hb hown (hts _ uw_332) dX4_when_99 ?_
      exact lm_riC C0 hR hS hf dX4_when_101
    · have hf := lm_F b12 hf
      refine lv_iload_n hx hb dX4_when_45 rfl (lv_at hl 1 rfl) ?_
      refine lv_if_ne (tgt := 69) hx hb dX4_when_46 (by decide) (fun b13 => ?_) (fun b13 => ?_)
      · have hf := lm_F b13 hf
        refine lv_aload_n hx hb dX4_when_69 rfl (lv_at hl 0 rfl) ?_
        refine lm_get C0 hR (by decide) cell_0 rfl lw_in_X4 3 (by decide) uw_90 rfl rfl dX4_when_70 ?_
        refine lv_iconst (v := (0 : Int32)) hx hb dX4_when_73 (by decide) ?_
        obtain ⟨r15, u14, hf⟩ := lm_bd_e hf
        refine lm_endi (lm_runV C0 hR hS (c_X1_differOn isL_8 u14) (lw_cV 1 hts uw_328 mv_X1_differOn rfl rfl hd_X1_differOn ⟨Nat.le_of_ble_eq_true rfl, Nat.le_of_ble_eq_true rfl⟩) (isL_lt isL_8) (cell_L isL_8) rfl rfl hl rfl (Nat.le_of_ble_eq_true rfl) dX4_when_74) hS (fun H locs hR hS => ?_)
        exact w_X4_when_77 C0 ih _ _ _ _ _ _ _ hR hS (lv_sub hl [0, 1, 2] rfl) hf
      · have hf := lm_T b13 hf
        refine lv_aload_n hx hb dX4_when_49 rfl (lv_at hl 0 rfl) ?_
        refine lm_get C0 hR (by decide) cell_0 rfl lw_in_X4 3 (by decide) uw_90 rfl rfl dX4_when_50 ?_
        refine lm_get C0 hR (isL_lt isL_8) (cell_L isL_8) rfl lw_in_X1 2 (by decide) uw_46 rfl rfl dX4_when_53 ?_
        refine lv_iconst (v := (0 : Int32)) hx hb dX4_when_56 (by decide) ?_
        obtain ⟨z17, hf⟩ := lm_ck_e hf
        refine lm_ild C0 hR (isL_lt3 isL_8) (cell_L3 isL_8) z17 dX4_when_57 ?_
        refine lv_if_ne (tgt := 65) hx hb dX4_when_58 (by decide) (fun b18 => ?_) (fun b18 => ?_)
        · have hf := lm_F b18 hf
          refine lv_iconst (v := (0 : Int32)) hx hb dX4_when_65 (by decide) ?_
          refine lv_goto (tgt := 77) hx hb dX4_when_66 (by decide) ?_
          exact w_X4_when_77 C0 ih _ _ _ _ _ _ _ hR hS (lv_sub hl [0, 1, 2] rfl) hf
        · have hf := lm_T b18 hf
          refine lv_iconst (v := (1 : Int32)) hx hb dX4_when_61 (by decide) ?_
          refine lv_goto (tgt := 77) hx hb dX4_when_62 (by decide) ?_
          exact w_X4_when_77 C0 ih _ _ _ _ _ _ _ hR hS (lv_sub hl [0, 1, 2] rfl) hf
set_option maxRecDepth 100000 in
set_option maxHeartbeats 4000000 in
theorem c_X4_when {σ τ σ' : Mem} {p1 : Int32} {p2 : Int32} {r : Int32}  (hf : f_X4_when σ p1 p2 = some (r, σ')) : lm_CI l yX4_when wsX4_when rmX4_when D cI cZ cL cR B [.ref (B + 0), .int p1, .int p2] σ τ r σ' τ := by
  unfold f_X4_when at hf
  refine lm_of (cc := cX4_when) (maxL := 5) (ret := (some .int)) (own := RX4) (by decide) rfl (Nat.le_of_ble_eq_true rfl) (fun p e s m below meth c0 C0 hR ls hl => ?_)
  have hS : va_S (lm_A B) s.heap s.heap [] := va_S.rf
  have hl : lv_has ls 5 [(0, .ref (B + 0)), (1, .int p1), (2, .int p2)] := hl
  obtain ⟨hx, hb, hml, hr, hlk, hown, hts, hK, hX⟩ := id C0
  refine lv_iload_n hx hb dX4_when_0 rfl (lv_at hl 1 rfl) ?_
  refine lv_aload_n hx hb dX4_when_1 rfl (lv_at hl 0 rfl) ?_
  refine lm_get C0 hR (by decide) cell_0 rfl lw_in_X4 2 (by decide) uw_89 rfl rfl dX4_when_2 ?_
  refine lm_get C0 hR (isL_lt isL_4) (cell_L isL_4) rfl lw_in_X1 8 (by decide) uw_62 rfl rfl dX4_when_5 ?_
  obtain ⟨r2, u1, hf⟩ := lm_bd_e hf
  refine lm_endi (lm_runS C0 hR hS (c_X4_isBelow u1) (lw_cS 2 hts uw_102 mv_X4_isBelow rfl rfl hd_X4_isBelow ⟨Nat.le_of_ble_eq_true rfl, Nat.le_of_ble_eq_true rfl⟩) rfl hl rfl (Nat.le_of_ble_eq_true rfl) dX4_when_8) hS (fun H locs hR hS => ?_)
  refine lv_if_eq (tgt := 22) hx hb dX4_when_11 (by decide) (fun b4 => ?_) (fun b4 => ?_)
  · have hf := lm_T b4 hf
    refine lv_ldc hx hb hown (hts _ uw_105) dX4_when_22 ?_
    exact lm_riC C0 hR hS hf dX4_when_24
  · have hf := lm_F b4 hf
    refine lv_iload_n hx hb dX4_when_14 rfl (lv_at hl 2 rfl) ?_
    refine lv_iconst (v := (2 : Int32)) hx hb dX4_when_15 (by decide) ?_
    obtain ⟨r6, u5, hf⟩ := lm_bd_e hf
    refine lm_endi (lm_runS C0 hR hS (c_X4_isBelow u5) (lw_cS 2 hts uw_102 mv_X4_isBelow rfl rfl hd_X4_isBelow ⟨Nat.le_of_ble_eq_true rfl, Nat.le_of_ble_eq_true rfl⟩) rfl hl rfl (Nat.le_of_ble_eq_true rfl) dX4_when_16) hS (fun H locs hR hS => ?_)
    refine lv_if_ne (tgt := 25) hx hb dX4_when_19 (by decide) (fun b8 => ?_) (fun b8 => ?_)
    · have hf := lm_F b8 hf
      refine lv_aload_n hx hb dX4_when_25 rfl (lv_at hl 0 rfl) ?_
      refine lm_get C0 hR (by decide) cell_0 rfl lw_in_X4 3 (by decide) uw_90 rfl rfl dX4_when_26 ?_
      refine lv_aload_n hx hb dX4_when_29 rfl (lv_at hl 0 rfl) ?_
      refine lm_get C0 hR (by decide) cell_0 rfl lw_in_X4 2 (by decide) uw_89 rfl rfl dX4_when_30 ?_
      refine lv_iload_n hx hb dX4_when_33 rfl (lv_at hl 1 rfl) ?_
      obtain ⟨σ11, u9, hf⟩ := lm_bd_e hf
      refine lm_endv (lm_runV C0 hR hS (c_X1_takeOneShip isL_8 isL_4 u9) (lw_cV 2 hts uw_311 mv_X1_takeOneShip rfl rfl hd_X1_takeOneShip ⟨Nat.le_of_ble_eq_true rfl, Nat.le_of_ble_eq_true rfl⟩) (isL_lt isL_8) (cell_L isL_8) rfl rfl hl rfl (Nat.le_of_ble_eq_true rfl) dX4_when_34) hS (fun H locs hR hS => ?_)
      refine lv_iconst (v := (0 : Int32)) hx hb dX4_when_37 (by decide) ?_
      refine lv_istore_n (lv' := [(3, .int (0 : Int32)), (0, .ref (B + 0)), (1, .int p1), (2, .int p2)]) hx hb dX4_when_38 rfl hl (by decide) rfl (fun ls hl => ?_)
      exact w_X4_when_39 C0 _ _ _ _ _ _ _ hR hS (lv_sub hl [1, 3, 0] rfl) hf
    · have hf := lm_T b8 hf
      refine lv_ldc hx hb hown (hts _ uw_105) dX4_when_22 ?_
      exact lm_riC C0 hR hS hf dX4_when_24
end
/-! ===== J6_numberOfTrailingZeros_0f7a4 ===== -/
abbrev rmJ6_numberOfTrailingZeros_0f7a4 : Room := { frames := 0, cells := 0, slots := 0, locals := 0 }
def f_J6_numberOfTrailingZeros_0f7a4_62 (x0 : Int32) (x1 : Int32) : Option (Int32) := if x0 ≤ (4 : Int32) then (some (x1 + ((x0.toUInt32 >>> ((1 : Int32).toUInt32 &&& Int32.toUInt32 31)).toInt32))) else (lm_nm (x1 + (2 : Int32)) fun v13 => lm_nm ((x0.toUInt32 >>> ((2 : Int32).toUInt32 &&& Int32.toUInt32 31)).toInt32) fun v14 => some (v13 + ((v14.toUInt32 >>> ((1 : Int32).toUInt32 &&& Int32.toUInt32 31)).toInt32)))
def f_J6_numberOfTrailingZeros_0f7a4_49 (x0 : Int32) (x1 : Int32) : Option (Int32) := if x0 ≤ (16 : Int32) then (f_J6_numberOfTrailingZeros_0f7a4_62 x0 x1) else (lm_nm (x1 + (4 : Int32)) fun v10 => lm_nm ((x0.toUInt32 >>> ((4 : Int32).toUInt32 &&& Int32.toUInt32 31)).toInt32) fun v11 => f_J6_numberOfTrailingZeros_0f7a4_62 v11 v10)
def f_J6_numberOfTrailingZeros_0f7a4_34 (x0 : Int32) (x1 : Int32) : Option (Int32) := if x0 ≤ (256 : Int32) then (f_J6_numberOfTrailingZeros_0f7a4_49 x0 x1) else (lm_nm (x1 + (8 : Int32)) fun v7 => lm_nm ((x0.toUInt32 >>> ((8 : Int32).toUInt32 &&& Int32.toUInt32 31)).toInt32) fun v8 => f_J6_numberOfTrailingZeros_0f7a4_49 v8 v7)
def f_J6_numberOfTrailingZeros_0f7a4 (p0 : Int32) : Option (Int32) := lm_nm ((p0 ^^^ (-1 : Int32)) &&& (p0 - (1 : Int32))) fun v1 => if 0 < v1 then (if v1 ≤ (65536 : Int32) then (f_J6_numberOfTrailingZeros_0f7a4_34 v1 (1 : Int32)) else (lm_nm ((1 : Int32) + (16 : Int32)) fun v4 => lm_nm ((v1.toUInt32 >>> ((16 : Int32).toUInt32 &&& Int32.toUInt32 31)).toInt32) fun v5 => f_J6_numberOfTrailingZeros_0f7a4_34 v5 v4)) else (some (v1 &&& (32 : Int32)))
abbrev wsJ6_numberOfTrailingZeros_0f7a4 : List Cond := Cond.code yJ6_numberOfTrailingZeros_0f7a4 cJ6_numberOfTrailingZeros_0f7a4 2 (some .int) :: lw_u
theorem mv_J6_numberOfTrailingZeros_0f7a4 : Cond.static yJ6_numberOfTrailingZeros_0f7a4 ∈ lw_u ∧ Cond.initialized yJ6_numberOfTrailingZeros_0f7a4.cls ∈ lw_u ∧ Cond.code yJ6_numberOfTrailingZeros_0f7a4 cJ6_numberOfTrailingZeros_0f7a4 2 (some .int) ∈ lw_u := ⟨uw_338, uw_9, uw_339⟩
theorem hd_J6_numberOfTrailingZeros_0f7a4 : yJ6_numberOfTrailingZeros_0f7a4.cls ≠ "java/lang/invoke/MethodHandle" ∧ yJ6_numberOfTrailingZeros_0f7a4.cls ≠ "java/lang/invoke/VarHandle" ∧ (parseMethodDescriptor yJ6_numberOfTrailingZeros_0f7a4.desc).map (fun d => d.parameters.length) = some 1 := by decide +kernel
section
variable {l : Launch} {D : va_G} {cI cZ cL cR : ClassId} {B : Nat}
set_option maxRecDepth 100000 in
set_option maxHeartbeats 4000000 in
theorem w_J6_numberOfTrailingZeros_0f7a4_62 {p : Program} {e : Env} {s : State} {m : MethodId} {args : Array Value} {below : List Frame} {meth : Method} {c0 : Code} {τ σ : Mem} {r : Int32} (C0 : lm_Cx D cI cZ cL cR B p s m args meth c0 cJ6_numberOfTrailingZeros_0f7a4 2 (some .int) RJ6) : ∀ (x0 : Int32) (x1 : Int32) (H : Heap) (locs : List Loc) (ls : Array Slot), va_P D vwCl (wl cI cZ cL cR B σ τ) H → va_S (lm_A B) s.heap H locs → lv_has ls 2 [(0, .int x0), (1, .int x1)] → f_J6_numberOfTrailingZeros_0f7a4_62 x0 x1 = some r → W p l e rmJ6_numberOfTrailingZeros_0f7a4 s m args below meth c0 H locs 0 0 (MQ below (lm_QI D cI cZ cL cR B r σ τ) args s 0 0 (lm_A B)) (F0 m 62 ls []) := by
  obtain ⟨hx, hb, hml, hr, hlk, hown, hts, hK, hX⟩ := id C0
  intro x0 x1 H locs ls hR hS hl hf
  unfold f_J6_numberOfTrailingZeros_0f7a4_62 at hf
  refine lv_iload_n hx hb dJ6_numberOfTrailingZeros_0f7a4_62 rfl (lv_at hl 0 rfl) ?_
  refine lv_iconst (v := (4 : Int32)) hx hb dJ6_numberOfTrailingZeros_0f7a4_63 (by decide) ?_
  refine lv_icmp_le (tgt := 74) hx hb dJ6_numberOfTrailingZeros_0f7a4_64 (by decide) (fun b12 => ?_) (fun b12 => ?_)
  · have hf := lm_T b12 hf
    refine lv_iload_n hx hb dJ6_numberOfTrailingZeros_0f7a4_74 rfl (lv_at hl 1 rfl) ?_
    refine lv_iload_n hx hb dJ6_numberOfTrailingZeros_0f7a4_75 rfl (lv_at hl 0 rfl) ?_
    refine lv_iconst (v := (1 : Int32)) hx hb dJ6_numberOfTrailingZeros_0f7a4_76 (by decide) ?_
    refine lv_iushr hx hb dJ6_numberOfTrailingZeros_0f7a4_77 rfl ?_
    refine lv_iadd hx hb dJ6_numberOfTrailingZeros_0f7a4_78 ?_
    exact lm_riP C0 hR hS hf dJ6_numberOfTrailingZeros_0f7a4_79
  · have hf := lm_F b12 hf
    obtain ⟨v13, ev13, hf⟩ := lm_nm_e hf
    refine lv_iinc (v := v13) (lv' := [(1, .int v13), (0, .int x0)]) hx hb dJ6_numberOfTrailingZeros_0f7a4_67 hl (k := 1) rfl (by rw [ev13]; rfl) (by decide) rfl (fun ls hl => ?_)
    refine lv_iload_n hx hb dJ6_numberOfTrailingZeros_0f7a4_70 rfl (lv_at hl 1 rfl) ?_
    refine lv_iconst (v := (2 : Int32)) hx hb dJ6_numberOfTrailingZeros_0f7a4_71 (by decide) ?_
    refine lv_iushr hx hb dJ6_numberOfTrailingZeros_0f7a4_72 rfl ?_
    obtain ⟨v14, ev14, hf⟩ := lm_nm_e hf
    refine lm_topi ev14 ?_
    refine lv_istore_n (lv' := [(0, .int v14), (1, .int v13)]) hx hb dJ6_numberOfTrailingZeros_0f7a4_73 rfl hl (by decide) rfl (fun ls hl => ?_)
    refine lv_iload_n hx hb dJ6_numberOfTrailingZeros_0f7a4_74 rfl (lv_at hl 1 rfl) ?_
    refine lv_iload_n hx hb dJ6_numberOfTrailingZeros_0f7a4_75 rfl (lv_at hl 0 rfl) ?_
    refine lv_iconst (v := (1 : Int32)) hx hb dJ6_numberOfTrailingZeros_0f7a4_76 (by decide) ?_
    refine lv_iushr hx hb dJ6_numberOfTrailingZeros_0f7a4_77 rfl ?_
    refine lv_iadd hx hb dJ6_numberOfTrailingZeros_0f7a4_78 ?_
    exact lm_riP C0 hR hS hf dJ6_numberOfTrailingZeros_0f7a4_79
set_option maxRecDepth 100000 in
set_option maxHeartbeats 4000000 in
theorem w_J6_numberOfTrailingZeros_0f7a4_49 {p : Program} {e : Env} {s : State} {m : MethodId} {args : Array Value} {below : List Frame} {meth : Method} {c0 : Code} {τ σ : Mem} {r : Int32} (C0 : lm_Cx D cI cZ cL cR B p s m args meth c0 cJ6_numberOfTrailingZeros_0f7a4 2 (some .int) RJ6) : ∀ (x0 : Int32) (x1 : Int32) (H : Heap) (locs : List Loc) (ls : Array Slot), va_P D vwCl (wl cI cZ cL cR B σ τ) H → va_S (lm_A B) s.heap H locs → lv_has ls 2 [(0, .int x0), (1, .int x1)] → f_J6_numberOfTrailingZeros_0f7a4_49 x0 x1 = some r → W p l e rmJ6_numberOfTrailingZeros_0f7a4 s m args below meth c0 H locs 0 0 (MQ below (lm_QI D cI cZ cL cR B r σ τ) args s 0 0 (lm_A B)) (F0 m 49 ls []) := by
  obtain ⟨hx, hb, hml, hr, hlk, hown, hts, hK, hX⟩ := id C0
  intro x0 x1 H locs ls hR hS hl hf
  unfold f_J6_numberOfTrailingZeros_0f7a4_49 at hf
  refine lv_iload_n hx hb dJ6_numberOfTrailingZeros_0f7a4_49 rfl (lv_at hl 0 rfl) ?_
  refine lv_bipush (v := (16 : Int32)) hx hb dJ6_numberOfTrailingZeros_0f7a4_50 (by decide) ?_
  refine lv_icmp_le (tgt := 62) hx hb dJ6_numberOfTrailingZeros_0f7a4_52 (by decide) (fun b9 => ?_) (fun b9 => ?_)
  · have hf := lm_T b9 hf
    exact w_J6_numberOfTrailingZeros_0f7a4_62 C0 _ _ _ _ _ hR hS (lv_sub hl [0, 1] rfl) hf
  · have hf := lm_F b9 hf
    obtain ⟨v10, ev10, hf⟩ := lm_nm_e hf
    refine lv_iinc (v := v10) (lv' := [(1, .int v10), (0, .int x0)]) hx hb dJ6_numberOfTrailingZeros_0f7a4_55 hl (k := 1) rfl (by rw [ev10]; rfl) (by decide) rfl (fun ls hl => ?_)
    refine lv_iload_n hx hb dJ6_numberOfTrailingZeros_0f7a4_58 rfl (lv_at hl 1 rfl) ?_
    refine lv_iconst (v := (4 : Int32)) hx hb dJ6_numberOfTrailingZeros_0f7a4_59 (by decide) ?_
    refine lv_iushr hx hb dJ6_numberOfTrailingZeros_0f7a4_60 rfl ?_
    obtain ⟨v11, ev11, hf⟩ := lm_nm_e hf
    refine lm_topi ev11 ?_
    refine lv_istore_n (lv' := [(0, .int v11), (1, .int v10)]) hx hb dJ6_numberOfTrailingZeros_0f7a4_61 rfl hl (by decide) rfl (fun ls hl => ?_)
    exact w_J6_numberOfTrailingZeros_0f7a4_62 C0 _ _ _ _ _ hR hS (lv_sub hl [0, 1] rfl) hf
set_option maxRecDepth 100000 in
set_option maxHeartbeats 4000000 in
theorem w_J6_numberOfTrailingZeros_0f7a4_34 {p : Program} {e : Env} {s : State} {m : MethodId} {args : Array Value} {below : List Frame} {meth : Method} {c0 : Code} {τ σ : Mem} {r : Int32} (C0 : lm_Cx D cI cZ cL cR B p s m args meth c0 cJ6_numberOfTrailingZeros_0f7a4 2 (some .int) RJ6) : ∀ (x0 : Int32) (x1 : Int32) (H : Heap) (locs : List Loc) (ls : Array Slot), va_P D vwCl (wl cI cZ cL cR B σ τ) H → va_S (lm_A B) s.heap H locs → lv_has ls 2 [(0, .int x0), (1, .int x1)] → f_J6_numberOfTrailingZeros_0f7a4_34 x0 x1 = some r → W p l e rmJ6_numberOfTrailingZeros_0f7a4 s m args below meth c0 H locs 0 0 (MQ below (lm_QI D cI cZ cL cR B r σ τ) args s 0 0 (lm_A B)) (F0 m 34 ls []) := by
  obtain ⟨hx, hb, hml, hr, hlk, hown, hts, hK, hX⟩ := id C0
  intro x0 x1 H locs ls hR hS hl hf
  unfold f_J6_numberOfTrailingZeros_0f7a4_34 at hf
  refine lv_iload_n hx hb dJ6_numberOfTrailingZeros_0f7a4_34 rfl (lv_at hl 0 rfl) ?_
  refine lv_sipush (v := (256 : Int32)) hx hb dJ6_numberOfTrailingZeros_0f7a4_35 (by decide) ?_
  refine lv_icmp_le (tgt := 49) hx hb dJ6_numberOfTrailingZeros_0f7a4_38 (by decide) (fun b6 => ?_) (fun b6 => ?_)
  · have hf := lm_T b6 hf
    exact w_J6_numberOfTrailingZeros_0f7a4_49 C0 _ _ _ _ _ hR hS (lv_sub hl [0, 1] rfl) hf
  · have hf := lm_F b6 hf
    obtain ⟨v7, ev7, hf⟩ := lm_nm_e hf
    refine lv_iinc (v := v7) (lv' := [(1, .int v7), (0, .int x0)]) hx hb dJ6_numberOfTrailingZeros_0f7a4_41 hl (k := 1) rfl (by rw [ev7]; rfl) (by decide) rfl (fun ls hl => ?_)
    refine lv_iload_n hx hb dJ6_numberOfTrailingZeros_0f7a4_44 rfl (lv_at hl 1 rfl) ?_
    refine lv_bipush (v := (8 : Int32)) hx hb dJ6_numberOfTrailingZeros_0f7a4_45 (by decide) ?_
    refine lv_iushr hx hb dJ6_numberOfTrailingZeros_0f7a4_47 rfl ?_
    obtain ⟨v8, ev8, hf⟩ := lm_nm_e hf
    refine lm_topi ev8 ?_
    refine lv_istore_n (lv' := [(0, .int v8), (1, .int v7)]) hx hb dJ6_numberOfTrailingZeros_0f7a4_48 rfl hl (by decide) rfl (fun ls hl => ?_)
    exact w_J6_numberOfTrailingZeros_0f7a4_49 C0 _ _ _ _ _ hR hS (lv_sub hl [0, 1] rfl) hf
set_option maxRecDepth 100000 in
set_option maxHeartbeats 4000000 in
theorem c_J6_numberOfTrailingZeros_0f7a4 {σ τ : Mem} {p0 : Int32} {r : Int32}  (hf : f_J6_numberOfTrailingZeros_0f7a4 p0 = some r) : lm_CI l yJ6_numberOfTrailingZeros_0f7a4 wsJ6_numberOfTrailingZeros_0f7a4 rmJ6_numberOfTrailingZeros_0f7a4 D cI cZ cL cR B [.int p0] σ τ r σ τ := by
  unfold f_J6_numberOfTrailingZeros_0f7a4 at hf
  refine lm_of (cc := cJ6_numberOfTrailingZeros_0f7a4) (maxL := 2) (ret := (some .int)) (own := RJ6) (by decide) rfl (Nat.le_of_ble_eq_true rfl) (fun p e s m below meth c0 C0 hR ls hl => ?_)
  have hS : va_S (lm_A B) s.heap s.heap [] := va_S.rf
  have hl : lv_has ls 2 [(0, .int p0)] := hl
  obtain ⟨hx, hb, hml, hr, hlk, hown, hts, hK, hX⟩ := id C0
  refine lv_iload_n hx hb dJ6_numberOfTrailingZeros_0f7a4_0 rfl (lv_at hl 0 rfl) ?_
  refine lv_iconst (v := (-1 : Int32)) hx hb dJ6_numberOfTrailingZeros_0f7a4_1 (by decide) ?_
  refine lv_ixor hx hb dJ6_numberOfTrailingZeros_0f7a4_2 ?_
  refine lv_iload_n hx hb dJ6_numberOfTrailingZeros_0f7a4_3 rfl (lv_at hl 0 rfl) ?_
  refine lv_iconst (v := (1 : Int32)) hx hb dJ6_numberOfTrailingZeros_0f7a4_4 (by decide) ?_
  refine lv_isub hx hb dJ6_numberOfTrailingZeros_0f7a4_5 ?_
  refine lv_iand hx hb dJ6_numberOfTrailingZeros_0f7a4_6 ?_
  obtain ⟨v1, ev1, hf⟩ := lm_nm_e hf
  refine lm_topi ev1 ?_
  refine lv_istore_n (lv' := [(0, .int v1)]) hx hb dJ6_numberOfTrailingZeros_0f7a4_7 rfl hl (by decide) rfl (fun ls hl => ?_)
  refine lv_iload_n hx hb dJ6_numberOfTrailingZeros_0f7a4_8 rfl (lv_at hl 0 rfl) ?_
  refine lv_if_gt (tgt := 17) hx hb dJ6_numberOfTrailingZeros_0f7a4_9 (by decide) (fun b2 => ?_) (fun b2 => ?_)
  · have hf := lm_T b2 hf
    refine lv_iconst (v := (1 : Int32)) hx hb dJ6_numberOfTrailingZeros_0f7a4_17 (by decide) ?_
    refine lv_istore_n (lv' := [(1, .int (1 : Int32)), (0, .int v1)]) hx hb dJ6_numberOfTrailingZeros_0f7a4_18 rfl hl (by decide) rfl (fun ls hl => ?_)
    refine lv_iload_n hx hb dJ6_numberOfTrailingZeros_0f7a4_19 rfl (lv_at hl 1 rfl) ?_
    refine lv_ldcw hx hb hown (hts _ uw_340) dJ6_numberOfTrailingZeros_0f7a4_20 ?_
    refine lv_icmp_le (tgt := 34) hx hb dJ6_numberOfTrailingZeros_0f7a4_23 (by decide) (fun b3 => ?_) (fun b3 => ?_)
    · have hf := lm_T b3 hf
      exact w_J6_numberOfTrailingZeros_0f7a4_34 C0 _ _ _ _ _ hR hS (lv_sub hl [1, 0] rfl) hf
    · have hf := lm_F b3 hf
      obtain ⟨v4, ev4, hf⟩ := lm_nm_e hf
      refine lv_iinc (v := v4) (lv' := [(1, .int v4), (0, .int v1)]) hx hb dJ6_numberOfTrailingZeros_0f7a4_26 hl (k := 0) rfl (by rw [ev4]; rfl) (by decide) rfl (fun ls hl => ?_)
      refine lv_iload_n hx hb dJ6_numberOfTrailingZeros_0f7a4_29 rfl (lv_at hl 1 rfl) ?_
      refine lv_bipush (v := (16 : Int32)) hx hb dJ6_numberOfTrailingZeros_0f7a4_30 (by decide) ?_
      refine lv_iushr hx hb dJ6_numberOfTrailingZeros_0f7a4_32 rfl ?_
      obtain ⟨v5, ev5, hf⟩ := lm_nm_e hf
      refine lm_topi ev5 ?_
      refine lv_istore_n (lv' := [(0, .int v5), (1, .int v4)]) hx hb dJ6_numberOfTrailingZeros_0f7a4_33 rfl hl (by decide) rfl (fun ls hl => ?_)
      exact w_J6_numberOfTrailingZeros_0f7a4_34 C0 _ _ _ _ _ hR hS (lv_sub hl [0, 1] rfl) hf
  · have hf := lm_F b2 hf
    refine lv_iload_n hx hb dJ6_numberOfTrailingZeros_0f7a4_12 rfl (lv_at hl 0 rfl) ?_
    refine lv_bipush (v := (32 : Int32)) hx hb dJ6_numberOfTrailingZeros_0f7a4_13 (by decide) ?_
    refine lv_iand hx hb dJ6_numberOfTrailingZeros_0f7a4_15 ?_
    exact lm_riP C0 hR hS hf dJ6_numberOfTrailingZeros_0f7a4_16
end
/-! ===== X4_quarrel ===== -/
abbrev rmX4_quarrel : Room := { frames := 4, cells := 0, slots := 0, locals := 125 }
def f_X4_quarrel_37 : Nat → Int32 → Int32 → Mem → Option (Int32 × Mem)
  | 0, _, _, _ => none
  | n + 1, x1, x2, σ => if (60 : Int32) < x2 then (some ((-1000000 : Int32), σ)) else (lm_bd (f_X1_shipsSeen 8 σ (2 : Int32)) fun r14 => if r14 = 0 then (lm_bd (f_X1_passWatch 8 σ) fun σ19 => lm_nm (x2 + (1 : Int32)) fun v20 => f_X4_quarrel_37 n x1 v20 σ19) else (if x1 = 0 then (some (x2, σ)) else (lm_bd (f_J6_numberOfTrailingZeros_0f7a4 r14) fun r23 => some (r23, σ))))
def f_X4_quarrel (σ : Mem) (p1 : Int32) : Option (Int32 × Mem) := lm_bd (f_X1_isLit 4 σ) fun r2 => if r2 = 0 then (some ((-1000002 : Int32), σ)) else (lm_bd (f_X4_isBelow p1 (2 : Int32)) fun r6 => if r6 = 0 then (some ((-1000001 : Int32), σ)) else (lm_bd (f_X1_takeFrom 8 4 σ) fun σ11 => f_X4_quarrel_37 lm_fu p1 (0 : Int32) σ11))
abbrev wsX4_quarrel : List Cond := Cond.code yX4_quarrel cX4_quarrel 4 (some .int) :: lw_u
theorem mv_X4_quarrel : Cond.instanceMethod yX4_quarrel ∈ lw_u ∧ Cond.selects yX4_quarrel.cls yX4_quarrel yX4_quarrel ∈ lw_u ∧ Cond.initialized yX4_quarrel.cls ∈ lw_u ∧ Cond.code yX4_quarrel cX4_quarrel 4 (some .int) ∈ lw_u := ⟨uw_334, uw_335, uw_1, uw_336⟩
theorem hd_X4_quarrel : yX4_quarrel.cls ≠ "java/lang/invoke/MethodHandle" ∧ yX4_quarrel.cls ≠ "java/lang/invoke/VarHandle" ∧ (parseMethodDescriptor yX4_quarrel.desc).map (fun d => d.parameters.length) = some 1 := by decide +kernel
section
variable {l : Launch} {D : va_G} {cI cZ cL cR : ClassId} {B : Nat}
set_option maxRecDepth 100000 in
set_option maxHeartbeats 4000000 in
theorem w_X4_quarrel_37 {p : Program} {e : Env} {s : State} {m : MethodId} {args : Array Value} {below : List Frame} {meth : Method} {c0 : Code} {τ σ' : Mem} {r : Int32} (C0 : lm_Cx D cI cZ cL cR B p s m args meth c0 cX4_quarrel 4 (some .int) RX4) : ∀ (n : Nat), ∀ (x1 : Int32) (x2 : Int32) (σ : Mem) (H : Heap) (locs : List Loc) (ls : Array Slot), va_P D vwCl (wl cI cZ cL cR B σ τ) H → va_S (lm_A B) s.heap H locs → lv_has ls 4 [(0, .ref (B + 0)), (1, .int x1), (2, .int x2)] → f_X4_quarrel_37 n x1 x2 σ = some (r, σ') → W p l e rmX4_quarrel s m args below meth c0 H locs 0 0 (MQ below (lm_QI D cI cZ cL cR B r σ' τ) args s 0 0 (lm_A B)) (F0 m 37 ls []) := by
  obtain ⟨hx, hb, hml, hr, hlk, hown, hts, hK, hX⟩ := id C0
  intro n
  induction n with
  | zero =>
    intro x1 x2 σ H locs ls hR hS hl hf
    cases hf
  | succ n ih =>
    intro x1 x2 σ H locs ls hR hS hl hf
    rw [f_X4_quarrel_37] at hf
    refine lv_iload_n hx hb dX4_quarrel_37 rfl (lv_at hl 2 rfl) ?_
    refine lv_bipush (v := (60 : Int32)) hx hb dX4_quarrel_38 (by decide) ?_
    refine lv_icmp_gt (tgt := 82) hx hb dX4_quarrel_40 (by decide) (fun b12 => ?_) (fun b12 => ?_)
    · have hf := lm_T b12 hf
      refine lv_ldc hx hb hown (hts _ uw_332) dX4_quarrel_82 ?_
      exact lm_riC C0 hR hS hf dX4_quarrel_84
    · have hf := lm_F b12 hf
      refine lv_aload_n hx hb dX4_quarrel_43 rfl (lv_at hl 0 rfl) ?_
      refine lm_get C0 hR (by decide) cell_0 rfl lw_in_X4 3 (by decide) uw_90 rfl rfl dX4_quarrel_44 ?_
      refine lv_iconst (v := (2 : Int32)) hx hb dX4_quarrel_47 (by decide) ?_
      obtain ⟨r14, u13, hf⟩ := lm_bd_e hf
      refine lm_endi (lm_runV C0 hR hS (c_X1_shipsSeen isL_8 u13) (lw_cV 1 hts uw_260 mv_X1_shipsSeen rfl rfl hd_X1_shipsSeen ⟨Nat.le_of_ble_eq_true rfl, Nat.le_of_ble_eq_true rfl⟩) (isL_lt isL_8) (cell_L isL_8) rfl rfl hl rfl (Nat.le_of_ble_eq_true rfl) dX4_quarrel_48) hS (fun H locs hR hS => ?_)
      refine lv_istore_n (lv' := [(3, .int r14), (0, .ref (B + 0)), (1, .int x1), (2, .int x2)]) hx hb dX4_quarrel_51 rfl hl (by decide) rfl (fun ls hl => ?_)
      refine lv_iload_n hx hb dX4_quarrel_52 rfl (lv_at hl 0 rfl) ?_
      refine lv_if_eq (tgt := 69) hx hb dX4_quarrel_53 (by decide) (fun b16 => ?_) (fun b16 => ?_)
      · have hf := lm_T b16 hf
        refine lv_aload_n hx hb dX4_quarrel_69 rfl (lv_at hl 1 rfl) ?_
        refine lm_get C0 hR (by decide) cell_0 rfl lw_in_X4 3 (by decide) uw_90 rfl rfl dX4_quarrel_70 ?_
        obtain ⟨σ19, u17, hf⟩ := lm_bd_e hf
        refine lm_endv (lm_runV C0 hR hS (c_X1_passWatch isL_8 u17) (lw_cV 0 hts uw_238 mv_X1_passWatch rfl rfl hd_X1_passWatch ⟨Nat.le_of_ble_eq_true rfl, Nat.le_of_ble_eq_true rfl⟩) (isL_lt isL_8) (cell_L isL_8) rfl rfl hl rfl (Nat.le_of_ble_eq_true rfl) dX4_quarrel_73) hS (fun H locs hR hS => ?_)
        obtain ⟨v20, ev20, hf⟩ := lm_nm_e hf
        refine lv_iinc (v := v20) (lv' := [(2, .int v20), (3, .int r14), (0, .ref (B + 0)), (1, .int x1)]) hx hb dX4_quarrel_76 hl (k := 3) rfl (by rw [ev20]; rfl) (by decide) rfl (fun ls hl => ?_)
        refine lv_goto (tgt := 37) hx hb dX4_quarrel_79 (by decide) ?_
        exact ih _ _ _ _ _ _ hR hS (lv_sub hl [2, 3, 0] rfl) hf
      · have hf := lm_F b16 hf
        refine lv_iload_n hx hb dX4_quarrel_56 rfl (lv_at hl 2 rfl) ?_
        refine lv_if_ne (tgt := 64) hx hb dX4_quarrel_57 (by decide) (fun b21 => ?_) (fun b21 => ?_)
        · have hf := lm_F b21 hf
          refine lv_iload_n hx hb dX4_quarrel_64 rfl (lv_at hl 0 rfl) ?_
          obtain ⟨r23, u22, hf⟩ := lm_bd_e hf
          refine lm_endi (lm_runS C0 hR hS (c_J6_numberOfTrailingZeros_0f7a4 u22) (lw_cS 1 hts uw_337 mv_J6_numberOfTrailingZeros_0f7a4 rfl rfl hd_J6_numberOfTrailingZeros_0f7a4 ⟨Nat.le_of_ble_eq_true rfl, Nat.le_of_ble_eq_true rfl⟩) rfl hl rfl (Nat.le_of_ble_eq_true rfl) dX4_quarrel_65) hS (fun H locs hR hS => ?_)
          exact lm_riC C0 hR hS hf dX4_quarrel_68
        · have hf := lm_T b21 hf
          refine lv_iload_n hx hb dX4_quarrel_60 rfl (lv_at hl 3 rfl) ?_
          refine lv_goto (tgt := 68) hx hb dX4_quarrel_61 (by decide) ?_
          exact lm_riC C0 hR hS hf dX4_quarrel_68
set_option maxRecDepth 100000 in
set_option maxHeartbeats 4000000 in
theorem c_X4_quarrel {σ τ σ' : Mem} {p1 : Int32} {r : Int32}  (hf : f_X4_quarrel σ p1 = some (r, σ')) : lm_CI l yX4_quarrel wsX4_quarrel rmX4_quarrel D cI cZ cL cR B [.ref (B + 0), .int p1] σ τ r σ' τ := by
  unfold f_X4_quarrel at hf
  refine lm_of (cc := cX4_quarrel) (maxL := 4) (ret := (some .int)) (own := RX4) (by decide) rfl (Nat.le_of_ble_eq_true rfl) (fun p e s m below meth c0 C0 hR ls hl => ?_)
  have hS : va_S (lm_A B) s.heap s.heap [] := va_S.rf
  have hl : lv_has ls 4 [(0, .ref (B + 0)), (1, .int p1)] := hl
  obtain ⟨hx, hb, hml, hr, hlk, hown, hts, hK, hX⟩ := id C0
  refine lv_aload_n hx hb dX4_quarrel_0 rfl (lv_at hl 0 rfl) ?_
  refine lm_get C0 hR (by decide) cell_0 rfl lw_in_X4 2 (by decide) uw_89 rfl rfl dX4_quarrel_1 ?_
  obtain ⟨r2, u1, hf⟩ := lm_bd_e hf
  refine lm_endi (lm_runV C0 hR hS (c_X1_isLit isL_4 u1) (lw_cV 0 hts uw_226 mv_X1_isLit rfl rfl hd_X1_isLit ⟨Nat.le_of_ble_eq_true rfl, Nat.le_of_ble_eq_true rfl⟩) (isL_lt isL_4) (cell_L isL_4) rfl rfl hl rfl (Nat.le_of_ble_eq_true rfl) dX4_quarrel_4) hS (fun H locs hR hS => ?_)
  refine lv_if_ne (tgt := 13) hx hb dX4_quarrel_7 (by decide) (fun b4 => ?_) (fun b4 => ?_)
  · have hf := lm_F b4 hf
    refine lv_iload_n hx hb dX4_quarrel_13 rfl (lv_at hl 1 rfl) ?_
    refine lv_iconst (v := (2 : Int32)) hx hb dX4_quarrel_14 (by decide) ?_
    obtain ⟨r6, u5, hf⟩ := lm_bd_e hf
    refine lm_endi (lm_runS C0 hR hS (c_X4_isBelow u5) (lw_cS 2 hts uw_102 mv_X4_isBelow rfl rfl hd_X4_isBelow ⟨Nat.le_of_ble_eq_true rfl, Nat.le_of_ble_eq_true rfl⟩) rfl hl rfl (Nat.le_of_ble_eq_true rfl) dX4_quarrel_15) hS (fun H locs hR hS => ?_)
    refine lv_if_ne (tgt := 24) hx hb dX4_quarrel_18 (by decide) (fun b8 => ?_) (fun b8 => ?_)
    · have hf := lm_F b8 hf
      refine lv_aload_n hx hb dX4_quarrel_24 rfl (lv_at hl 0 rfl) ?_
      refine lm_get C0 hR (by decide) cell_0 rfl lw_in_X4 3 (by decide) uw_90 rfl rfl dX4_quarrel_25 ?_
      refine lv_aload_n hx hb dX4_quarrel_28 rfl (lv_at hl 0 rfl) ?_
      refine lm_get C0 hR (by decide) cell_0 rfl lw_in_X4 2 (by decide) uw_89 rfl rfl dX4_quarrel_29 ?_
      obtain ⟨σ11, u9, hf⟩ := lm_bd_e hf
      refine lm_endv (lm_runV C0 hR hS (c_X1_takeFrom isL_8 isL_4 u9) (lw_cV 1 hts uw_193 mv_X1_takeFrom rfl rfl hd_X1_takeFrom ⟨Nat.le_of_ble_eq_true rfl, Nat.le_of_ble_eq_true rfl⟩) (isL_lt isL_8) (cell_L isL_8) rfl rfl hl rfl (Nat.le_of_ble_eq_true rfl) dX4_quarrel_32) hS (fun H locs hR hS => ?_)
      refine lv_iconst (v := (0 : Int32)) hx hb dX4_quarrel_35 (by decide) ?_
      refine lv_istore_n (lv' := [(2, .int (0 : Int32)), (0, .ref (B + 0)), (1, .int p1)]) hx hb dX4_quarrel_36 rfl hl (by decide) rfl (fun ls hl => ?_)
      exact w_X4_quarrel_37 C0 _ _ _ _ _ _ _ hR hS (lv_sub hl [1, 2, 0] rfl) hf
    · have hf := lm_T b8 hf
      refine lv_ldc hx hb hown (hts _ uw_105) dX4_quarrel_21 ?_
      exact lm_riC C0 hR hS hf dX4_quarrel_23
  · have hf := lm_T b4 hf
    refine lv_ldc hx hb hown (hts _ uw_216) dX4_quarrel_10 ?_
    exact lm_riC C0 hR hS hf dX4_quarrel_12
end
/-! ===== X4_pours ===== -/
abbrev rmX4_pours : Room := { frames := 5, cells := 0, slots := 0, locals := 147 }
def f_X4_pours_29 : Nat → Int32 → Int32 → Int32 → Mem → Option (Int32 × Mem)
  | 0, _, _, _, _ => none
  | n + 1, x1, x2, x3, σ => if (60 : Int32) < x3 then (some ((-1000000 : Int32), σ)) else (lm_bd (f_X1_takeOneShip 8 4 σ x1) fun σ12 => lm_bd (f_X1_addOil 8 σ12 x3) fun σ15 => lm_bd (f_X1_passWatches 8 σ15 x2) fun σ18 => lm_bd (f_X1_loggedOf 8 σ18 (0 : Int32)) fun r20 => lm_bd (f_X4_isSeenBy r20 (1 : Int32)) fun r23 => if r23 = 0 then (lm_nm (x3 + (1 : Int32)) fun v26 => f_X4_pours_29 n x1 x2 v26 σ18) else (some (x3, σ18)))
def f_X4_pours (σ : Mem) (p1 : Int32) (p2 : Int32) : Option (Int32 × Mem) := lm_bd (f_X4_isBelow p1 (σ 4 8)) fun r2 => if r2 = 0 then (some ((-1000001 : Int32), σ)) else (lm_bd (f_X4_isWithin p2 (0 : Int32) (30 : Int32)) fun r6 => if r6 = 0 then (some ((-1000001 : Int32), σ)) else (f_X4_pours_29 lm_fu p1 p2 (0 : Int32) σ))
abbrev wsX4_pours : List Cond := Cond.code yX4_pours cX4_pours 4 (some .int) :: lw_u
theorem mv_X4_pours : Cond.instanceMethod yX4_pours ∈ lw_u ∧ Cond.selects yX4_pours.cls yX4_pours yX4_pours ∈ lw_u ∧ Cond.initialized yX4_pours.cls ∈ lw_u ∧ Cond.code yX4_pours cX4_pours 4 (some .int) ∈ lw_u := ⟨uw_342, uw_343, uw_1, uw_344⟩
theorem hd_X4_pours : yX4_pours.cls ≠ "java/lang/invoke/MethodHandle" ∧ yX4_pours.cls ≠ "java/lang/invoke/VarHandle" ∧ (parseMethodDescriptor yX4_pours.desc).map (fun d => d.parameters.length) = some 2 := by decide +kernel
section
variable {l : Launch} {D : va_G} {cI cZ cL cR : ClassId} {B : Nat}
set_option maxRecDepth 100000 in
set_option maxHeartbeats 4000000 in
theorem w_X4_pours_29 {p : Program} {e : Env} {s : State} {m : MethodId} {args : Array Value} {below : List Frame} {meth : Method} {c0 : Code} {τ σ' : Mem} {r : Int32} (C0 : lm_Cx D cI cZ cL cR B p s m args meth c0 cX4_pours 4 (some .int) RX4) : ∀ (n : Nat), ∀ (x1 : Int32) (x2 : Int32) (x3 : Int32) (σ : Mem) (H : Heap) (locs : List Loc) (ls : Array Slot), va_P D vwCl (wl cI cZ cL cR B σ τ) H → va_S (lm_A B) s.heap H locs → lv_has ls 4 [(0, .ref (B + 0)), (1, .int x1), (2, .int x2), (3, .int x3)] → f_X4_pours_29 n x1 x2 x3 σ = some (r, σ') → W p l e rmX4_pours s m args below meth c0 H locs 0 0 (MQ below (lm_QI D cI cZ cL cR B r σ' τ) args s 0 0 (lm_A B)) (F0 m 29 ls []) := by
  obtain ⟨hx, hb, hml, hr, hlk, hown, hts, hK, hX⟩ := id C0
  intro n
  induction n with
  | zero =>
    intro x1 x2 x3 σ H locs ls hR hS hl hf
    cases hf
  | succ n ih =>
    intro x1 x2 x3 σ H locs ls hR hS hl hf
    rw [f_X4_pours_29] at hf
    refine lv_iload_n hx hb dX4_pours_29 rfl (lv_at hl 3 rfl) ?_
    refine lv_bipush (v := (60 : Int32)) hx hb dX4_pours_30 (by decide) ?_
    refine lv_icmp_gt (tgt := 86) hx hb dX4_pours_32 (by decide) (fun b9 => ?_) (fun b9 => ?_)
    · have hf := lm_T b9 hf
      refine lv_ldc hx hb hown (hts _ uw_332) dX4_pours_86 ?_
      exact lm_riC C0 hR hS hf dX4_pours_88
    · have hf := lm_F b9 hf
      refine lv_aload_n hx hb dX4_pours_35 rfl (lv_at hl 0 rfl) ?_
      refine lm_get C0 hR (by decide) cell_0 rfl lw_in_X4 3 (by decide) uw_90 rfl rfl dX4_pours_36 ?_
      refine lv_aload_n hx hb dX4_pours_39 rfl (lv_at hl 0 rfl) ?_
      refine lm_get C0 hR (by decide) cell_0 rfl lw_in_X4 2 (by decide) uw_89 rfl rfl dX4_pours_40 ?_
      refine lv_iload_n hx hb dX4_pours_43 rfl (lv_at hl 1 rfl) ?_
      obtain ⟨σ12, u10, hf⟩ := lm_bd_e hf
      refine lm_endv (lm_runV C0 hR hS (c_X1_takeOneShip isL_8 isL_4 u10) (lw_cV 2 hts uw_311 mv_X1_takeOneShip rfl rfl hd_X1_takeOneShip ⟨Nat.le_of_ble_eq_true rfl, Nat.le_of_ble_eq_true rfl⟩) (isL_lt isL_8) (cell_L isL_8) rfl rfl hl rfl (Nat.le_of_ble_eq_true rfl) dX4_pours_44) hS (fun H locs hR hS => ?_)
      refine lv_aload_n hx hb dX4_pours_47 rfl (lv_at hl 0 rfl) ?_
      refine lm_get C0 hR (by decide) cell_0 rfl lw_in_X4 3 (by decide) uw_90 rfl rfl dX4_pours_48 ?_
      refine lv_iload_n hx hb dX4_pours_51 rfl (lv_at hl 3 rfl) ?_
      obtain ⟨σ15, u13, hf⟩ := lm_bd_e hf
      refine lm_endv (lm_runV C0 hR hS (c_X1_addOil isL_8 u13) (lw_cV 1 hts uw_276 mv_X1_addOil rfl rfl hd_X1_addOil ⟨Nat.le_of_ble_eq_true rfl, Nat.le_of_ble_eq_true rfl⟩) (isL_lt isL_8) (cell_L isL_8) rfl rfl hl rfl (Nat.le_of_ble_eq_true rfl) dX4_pours_52) hS (fun H locs hR hS => ?_)
      refine lv_aload_n hx hb dX4_pours_55 rfl (lv_at hl 0 rfl) ?_
      refine lm_get C0 hR (by decide) cell_0 rfl lw_in_X4 3 (by decide) uw_90 rfl rfl dX4_pours_56 ?_
      refine lv_iload_n hx hb dX4_pours_59 rfl (lv_at hl 2 rfl) ?_
      obtain ⟨σ18, u16, hf⟩ := lm_bd_e hf
      refine lm_endv (lm_runV C0 hR hS (c_X1_passWatches isL_8 u16) (lw_cV 1 hts uw_315 mv_X1_passWatches rfl rfl hd_X1_passWatches ⟨Nat.le_of_ble_eq_true rfl, Nat.le_of_ble_eq_true rfl⟩) (isL_lt isL_8) (cell_L isL_8) rfl rfl hl rfl (Nat.le_of_ble_eq_true rfl) dX4_pours_60) hS (fun H locs hR hS => ?_)
      refine lv_aload_n hx hb dX4_pours_63 rfl (lv_at hl 0 rfl) ?_
      refine lm_get C0 hR (by decide) cell_0 rfl lw_in_X4 3 (by decide) uw_90 rfl rfl dX4_pours_64 ?_
      refine lv_iconst (v := (0 : Int32)) hx hb dX4_pours_67 (by decide) ?_
      obtain ⟨r20, u19, hf⟩ := lm_bd_e hf
      refine lm_endi (lm_runV C0 hR hS (c_X1_loggedOf isL_8 u19) (lw_cV 1 hts uw_296 mv_X1_loggedOf rfl rfl hd_X1_loggedOf ⟨Nat.le_of_ble_eq_true rfl, Nat.le_of_ble_eq_true rfl⟩) (isL_lt isL_8) (cell_L isL_8) rfl rfl hl rfl (Nat.le_of_ble_eq_true rfl) dX4_pours_68) hS (fun H locs hR hS => ?_)
      refine lv_iconst (v := (1 : Int32)) hx hb dX4_pours_71 (by decide) ?_
      obtain ⟨r23, u22, hf⟩ := lm_bd_e hf
      refine lm_endi (lm_runS C0 hR hS (c_X4_isSeenBy u22) (lw_cS 2 hts uw_345 mv_X4_isSeenBy rfl rfl hd_X4_isSeenBy ⟨Nat.le_of_ble_eq_true rfl, Nat.le_of_ble_eq_true rfl⟩) rfl hl rfl (Nat.le_of_ble_eq_true rfl) dX4_pours_72) hS (fun H locs hR hS => ?_)
      refine lv_if_eq (tgt := 80) hx hb dX4_pours_75 (by decide) (fun b25 => ?_) (fun b25 => ?_)
      · have hf := lm_T b25 hf
        obtain ⟨v26, ev26, hf⟩ := lm_nm_e hf
        refine lv_iinc (v := v26) (lv' := [(3, .int v26), (0, .ref (B + 0)), (1, .int x1), (2, .int x2)]) hx hb dX4_pours_80 hl (k := 3) rfl (by rw [ev26]; rfl) (by decide) rfl (fun ls hl => ?_)
        refine lv_goto (tgt := 29) hx hb dX4_pours_83 (by decide) ?_
        exact ih _ _ _ _ _ _ _ hR hS (lv_sub hl [1, 2, 3, 0] rfl) hf
      · have hf := lm_F b25 hf
        refine lv_iload_n hx hb dX4_pours_78 rfl (lv_at hl 3 rfl) ?_
        exact lm_riC C0 hR hS hf dX4_pours_79
set_option maxRecDepth 100000 in
set_option maxHeartbeats 4000000 in
theorem c_X4_pours {σ τ σ' : Mem} {p1 : Int32} {p2 : Int32} {r : Int32}  (hf : f_X4_pours σ p1 p2 = some (r, σ')) : lm_CI l yX4_pours wsX4_pours rmX4_pours D cI cZ cL cR B [.ref (B + 0), .int p1, .int p2] σ τ r σ' τ := by
  unfold f_X4_pours at hf
  refine lm_of (cc := cX4_pours) (maxL := 4) (ret := (some .int)) (own := RX4) (by decide) rfl (Nat.le_of_ble_eq_true rfl) (fun p e s m below meth c0 C0 hR ls hl => ?_)
  have hS : va_S (lm_A B) s.heap s.heap [] := va_S.rf
  have hl : lv_has ls 4 [(0, .ref (B + 0)), (1, .int p1), (2, .int p2)] := hl
  obtain ⟨hx, hb, hml, hr, hlk, hown, hts, hK, hX⟩ := id C0
  refine lv_iload_n hx hb dX4_pours_0 rfl (lv_at hl 1 rfl) ?_
  refine lv_aload_n hx hb dX4_pours_1 rfl (lv_at hl 0 rfl) ?_
  refine lm_get C0 hR (by decide) cell_0 rfl lw_in_X4 2 (by decide) uw_89 rfl rfl dX4_pours_2 ?_
  refine lm_get C0 hR (isL_lt isL_4) (cell_L isL_4) rfl lw_in_X1 8 (by decide) uw_62 rfl rfl dX4_pours_5 ?_
  obtain ⟨r2, u1, hf⟩ := lm_bd_e hf
  refine lm_endi (lm_runS C0 hR hS (c_X4_isBelow u1) (lw_cS 2 hts uw_102 mv_X4_isBelow rfl rfl hd_X4_isBelow ⟨Nat.le_of_ble_eq_true rfl, Nat.le_of_ble_eq_true rfl⟩) rfl hl rfl (Nat.le_of_ble_eq_true rfl) dX4_pours_8) hS (fun H locs hR hS => ?_)
  refine lv_if_eq (tgt := 24) hx hb dX4_pours_11 (by decide) (fun b4 => ?_) (fun b4 => ?_)
  · have hf := lm_T b4 hf
    refine lv_ldc hx hb hown (hts _ uw_105) dX4_pours_24 ?_
    exact lm_riC C0 hR hS hf dX4_pours_26
  · have hf := lm_F b4 hf
    refine lv_iload_n hx hb dX4_pours_14 rfl (lv_at hl 2 rfl) ?_
    refine lv_iconst (v := (0 : Int32)) hx hb dX4_pours_15 (by decide) ?_
    refine lv_bipush (v := (30 : Int32)) hx hb dX4_pours_16 (by decide) ?_
    obtain ⟨r6, u5, hf⟩ := lm_bd_e hf
    refine lm_endi (lm_runS C0 hR hS (c_X4_isWithin u5) (lw_cS 3 hts uw_230 mv_X4_isWithin rfl rfl hd_X4_isWithin ⟨Nat.le_of_ble_eq_true rfl, Nat.le_of_ble_eq_true rfl⟩) rfl hl rfl (Nat.le_of_ble_eq_true rfl) dX4_pours_18) hS (fun H locs hR hS => ?_)
    refine lv_if_ne (tgt := 27) hx hb dX4_pours_21 (by decide) (fun b8 => ?_) (fun b8 => ?_)
    · have hf := lm_F b8 hf
      refine lv_iconst (v := (0 : Int32)) hx hb dX4_pours_27 (by decide) ?_
      refine lv_istore_n (lv' := [(3, .int (0 : Int32)), (0, .ref (B + 0)), (1, .int p1), (2, .int p2)]) hx hb dX4_pours_28 rfl hl (by decide) rfl (fun ls hl => ?_)
      exact w_X4_pours_29 C0 _ _ _ _ _ _ _ _ hR hS (lv_sub hl [1, 2, 3, 0] rfl) hf
    · have hf := lm_T b8 hf
      refine lv_ldc hx hb hown (hts _ uw_105) dX4_pours_24 ?_
      exact lm_riC C0 hR hS hf dX4_pours_26
end
/-! ===== J6_bitCount_0f7a4 ===== -/
abbrev rmJ6_bitCount_0f7a4 : Room := { frames := 0, cells := 0, slots := 0, locals := 0 }
def f_J6_bitCount_0f7a4 (p0 : Int32) : Option (Int32) := lm_nm (p0 - (((p0.toUInt32 >>> ((1 : Int32).toUInt32 &&& Int32.toUInt32 31)).toInt32) &&& (1431655765 : Int32))) fun v1 => lm_nm ((v1 &&& (858993459 : Int32)) + (((v1.toUInt32 >>> ((2 : Int32).toUInt32 &&& Int32.toUInt32 31)).toInt32) &&& (858993459 : Int32))) fun v2 => lm_nm ((v2 + ((v2.toUInt32 >>> ((4 : Int32).toUInt32 &&& Int32.toUInt32 31)).toInt32)) &&& (252645135 : Int32)) fun v3 => lm_nm (v3 + ((v3.toUInt32 >>> ((8 : Int32).toUInt32 &&& Int32.toUInt32 31)).toInt32)) fun v4 => lm_nm (v4 + ((v4.toUInt32 >>> ((16 : Int32).toUInt32 &&& Int32.toUInt32 31)).toInt32)) fun v5 => some (v5 &&& (63 : Int32))
abbrev wsJ6_bitCount_0f7a4 : List Cond := Cond.code yJ6_bitCount_0f7a4 cJ6_bitCount_0f7a4 1 (some .int) :: lw_u
theorem mv_J6_bitCount_0f7a4 : Cond.static yJ6_bitCount_0f7a4 ∈ lw_u ∧ Cond.initialized yJ6_bitCount_0f7a4.cls ∈ lw_u ∧ Cond.code yJ6_bitCount_0f7a4 cJ6_bitCount_0f7a4 1 (some .int) ∈ lw_u := ⟨uw_354, uw_9, uw_355⟩
theorem hd_J6_bitCount_0f7a4 : yJ6_bitCount_0f7a4.cls ≠ "java/lang/invoke/MethodHandle" ∧ yJ6_bitCount_0f7a4.cls ≠ "java/lang/invoke/VarHandle" ∧ (parseMethodDescriptor yJ6_bitCount_0f7a4.desc).map (fun d => d.parameters.length) = some 1 := by decide +kernel
section
variable {l : Launch} {D : va_G} {cI cZ cL cR : ClassId} {B : Nat}
set_option maxRecDepth 100000 in
set_option maxHeartbeats 4000000 in
theorem c_J6_bitCount_0f7a4 {σ τ : Mem} {p0 : Int32} {r : Int32}  (hf : f_J6_bitCount_0f7a4 p0 = some r) : lm_CI l yJ6_bitCount_0f7a4 wsJ6_bitCount_0f7a4 rmJ6_bitCount_0f7a4 D cI cZ cL cR B [.int p0] σ τ r σ τ := by
  unfold f_J6_bitCount_0f7a4 at hf
  refine lm_of (cc := cJ6_bitCount_0f7a4) (maxL := 1) (ret := (some .int)) (own := RJ6) (by decide) rfl (Nat.le_of_ble_eq_true rfl) (fun p e s m below meth c0 C0 hR ls hl => ?_)
  have hS : va_S (lm_A B) s.heap s.heap [] := va_S.rf
  have hl : lv_has ls 1 [(0, .int p0)] := hl
  obtain ⟨hx, hb, hml, hr, hlk, hown, hts, hK, hX⟩ := id C0
  refine lv_iload_n hx hb dJ6_bitCount_0f7a4_0 rfl (lv_at hl 0 rfl) ?_
  refine lv_iload_n hx hb dJ6_bitCount_0f7a4_1 rfl (lv_at hl 0 rfl) ?_
  refine lv_iconst (v := (1 : Int32)) hx hb dJ6_bitCount_0f7a4_2 (by decide) ?_
  refine lv_iushr hx hb dJ6_bitCount_0f7a4_3 rfl ?_
  refine lv_ldcw hx hb hown (hts _ uw_356) dJ6_bitCount_0f7a4_4 ?_
  refine lv_iand hx hb dJ6_bitCount_0f7a4_7 ?_
  refine lv_isub hx hb dJ6_bitCount_0f7a4_8 ?_
  obtain ⟨v1, ev1, hf⟩ := lm_nm_e hf
  refine lm_topi ev1 ?_
  refine lv_istore_n (lv' := [(0, .int v1)]) hx hb dJ6_bitCount_0f7a4_9 rfl hl (by decide) rfl (fun ls hl => ?_)
  refine lv_iload_n hx hb dJ6_bitCount_0f7a4_10 rfl (lv_at hl 0 rfl) ?_
  refine lv_ldcw hx hb hown (hts _ uw_357) dJ6_bitCount_0f7a4_11 ?_
  refine lv_iand hx hb dJ6_bitCount_0f7a4_14 ?_
  refine lv_iload_n hx hb dJ6_bitCount_0f7a4_15 rfl (lv_at hl 0 rfl) ?_
  refine lv_iconst (v := (2 : Int32)) hx hb dJ6_bitCount_0f7a4_16 (by decide) ?_
  refine lv_iushr hx hb dJ6_bitCount_0f7a4_17 rfl ?_
  refine lv_ldcw hx hb hown (hts _ uw_357) dJ6_bitCount_0f7a4_18 ?_
  refine lv_iand hx hb dJ6_bitCount_0f7a4_21 ?_
  refine lv_iadd hx hb dJ6_bitCount_0f7a4_22 ?_
  obtain ⟨v2, ev2, hf⟩ := lm_nm_e hf
  refine lm_topi ev2 ?_
  refine lv_istore_n (lv' := [(0, .int v2)]) hx hb dJ6_bitCount_0f7a4_23 rfl hl (by decide) rfl (fun ls hl => ?_)
  refine lv_iload_n hx hb dJ6_bitCount_0f7a4_24 rfl (lv_at hl 0 rfl) ?_
  refine lv_iload_n hx hb dJ6_bitCount_0f7a4_25 rfl (lv_at hl 0 rfl) ?_
  refine lv_iconst (v := (4 : Int32)) hx hb dJ6_bitCount_0f7a4_26 (by decide) ?_
  refine lv_iushr hx hb dJ6_bitCount_0f7a4_27 rfl ?_
  refine lv_iadd hx hb dJ6_bitCount_0f7a4_28 ?_
  refine lv_ldcw hx hb hown (hts _ uw_358) dJ6_bitCount_0f7a4_29 ?_
  refine lv_iand hx hb dJ6_bitCount_0f7a4_32 ?_
  obtain ⟨v3, ev3, hf⟩ := lm_nm_e hf
  refine lm_topi ev3 ?_
  refine lv_istore_n (lv' := [(0, .int v3)]) hx hb dJ6_bitCount_0f7a4_33 rfl hl (by decide) rfl (fun ls hl => ?_)
  refine lv_iload_n hx hb dJ6_bitCount_0f7a4_34 rfl (lv_at hl 0 rfl) ?_
  refine lv_iload_n hx hb dJ6_bitCount_0f7a4_35 rfl (lv_at hl 0 rfl) ?_
  refine lv_bipush (v := (8 : Int32)) hx hb dJ6_bitCount_0f7a4_36 (by decide) ?_
  refine lv_iushr hx hb dJ6_bitCount_0f7a4_38 rfl ?_
  refine lv_iadd hx hb dJ6_bitCount_0f7a4_39 ?_
  obtain ⟨v4, ev4, hf⟩ := lm_nm_e hf
  refine lm_topi ev4 ?_
  refine lv_istore_n (lv' := [(0, .int v4)]) hx hb dJ6_bitCount_0f7a4_40 rfl hl (by decide) rfl (fun ls hl => ?_)
  refine lv_iload_n hx hb dJ6_bitCount_0f7a4_41 rfl (lv_at hl 0 rfl) ?_
  refine lv_iload_n hx hb dJ6_bitCount_0f7a4_42 rfl (lv_at hl 0 rfl) ?_
  refine lv_bipush (v := (16 : Int32)) hx hb dJ6_bitCount_0f7a4_43 (by decide) ?_
  refine lv_iushr hx hb dJ6_bitCount_0f7a4_45 rfl ?_
  refine lv_iadd hx hb dJ6_bitCount_0f7a4_46 ?_
  obtain ⟨v5, ev5, hf⟩ := lm_nm_e hf
  refine lm_topi ev5 ?_
  refine lv_istore_n (lv' := [(0, .int v5)]) hx hb dJ6_bitCount_0f7a4_47 rfl hl (by decide) rfl (fun ls hl => ?_)
  refine lv_iload_n hx hb dJ6_bitCount_0f7a4_48 rfl (lv_at hl 0 rfl) ?_
  refine lv_bipush (v := (63 : Int32)) hx hb dJ6_bitCount_0f7a4_49 (by decide) ?_
  refine lv_iand hx hb dJ6_bitCount_0f7a4_51 ?_
  exact lm_riP C0 hR hS hf dJ6_bitCount_0f7a4_52
end
/-! ===== X4_differencesIfLifted ===== -/
abbrev rmX4_differencesIfLifted : Room := { frames := 4, cells := 0, slots := 0, locals := 125 }
def f_X4_differencesIfLifted_26 : Nat → Int32 → Int32 → Int32 → Mem → Option (Int32 × Mem)
  | 0, _, _, _, _ => none
  | n + 1, x2, x3, x4, σ => if x2 ≤ x4 then (some (x3, σ)) else (lm_bd (f_X1_passWatch 8 σ) fun σ9 => lm_bd (f_X1_shipsSeen 8 σ9 (2 : Int32)) fun r11 => lm_bd (f_J6_bitCount_0f7a4 r11) fun r14 => lm_nm (x3 + r14) fun v16 => lm_nm (x4 + (1 : Int32)) fun v17 => f_X4_differencesIfLifted_26 n x2 v16 v17 σ9)
def f_X4_differencesIfLifted (σ : Mem) (p1 : Int32) (p2 : Int32) : Option (Int32 × Mem) := lm_bd (f_X1_takeFrom 8 4 σ) fun σ3 => lm_ck (lm_in p1 6) (lm_nm (up σ3 (8 + 1) p1.toNatClampNeg (0 : Int32)) fun σ5 => f_X4_differencesIfLifted_26 lm_fu p2 (0 : Int32) (0 : Int32) σ5)
abbrev wsX4_differencesIfLifted : List Cond := Cond.code yX4_differencesIfLifted cX4_differencesIfLifted 5 (some .int) :: lw_u
theorem mv_X4_differencesIfLifted : Cond.instanceMethod yX4_differencesIfLifted ∈ lw_u ∧ Cond.selects yX4_differencesIfLifted.cls yX4_differencesIfLifted yX4_differencesIfLifted ∈ lw_u ∧ Cond.initialized yX4_differencesIfLifted.cls ∈ lw_u ∧ Cond.code yX4_differencesIfLifted cX4_differencesIfLifted 5 (some .int) ∈ lw_u := ⟨uw_351, uw_857, uw_1, uw_352⟩
theorem hd_X4_differencesIfLifted : yX4_differencesIfLifted.cls ≠ "java/lang/invoke/MethodHandle" ∧ yX4_differencesIfLifted.cls ≠ "java/lang/invoke/VarHandle" ∧ (parseMethodDescriptor yX4_differencesIfLifted.desc).map (fun d => d.parameters.length) = some 2 := by decide +kernel
section
variable {l : Launch} {D : va_G} {cI cZ cL cR : ClassId} {B : Nat}
set_option maxRecDepth 100000 in
set_option maxHeartbeats 4000000 in
theorem w_X4_differencesIfLifted_26 {p : Program} {e : Env} {s : State} {m : MethodId} {args : Array Value} {below : List Frame} {meth : Method} {c0 : Code} {τ σ' : Mem} {r : Int32} (C0 : lm_Cx D cI cZ cL cR B p s m args meth c0 cX4_differencesIfLifted 5 (some .int) RX4) : ∀ (n : Nat), ∀ (x2 : Int32) (x3 : Int32) (x4 : Int32) (σ : Mem) (H : Heap) (locs : List Loc) (ls : Array Slot), va_P D vwCl (wl cI cZ cL cR B σ τ) H → va_S (lm_A B) s.heap H locs → lv_has ls 5 [(0, .ref (B + 0)), (2, .int x2), (3, .int x3), (4, .int x4)] → f_X4_differencesIfLifted_26 n x2 x3 x4 σ = some (r, σ') → W p l e rmX4_differencesIfLifted s m args below meth c0 H locs 0 0 (MQ below (lm_QI D cI cZ cL cR B r σ' τ) args s 0 0 (lm_A B)) (F0 m 26 ls []) := by
  obtain ⟨hx, hb, hml, hr, hlk, hown, hts, hK, hX⟩ := id C0
  intro n
  induction n with
  | zero =>
    intro x2 x3 x4 σ H locs ls hR hS hl hf
    cases hf
  | succ n ih =>
    intro x2 x3 x4 σ H locs ls hR hS hl hf
    rw [f_X4_differencesIfLifted_26] at hf
    refine lv_iload hx hb dX4_differencesIfLifted_26 (lv_at hl 3 rfl) ?_
    refine lv_iload_n hx hb dX4_differencesIfLifted_28 rfl (lv_at hl 1 rfl) ?_
    refine lv_icmp_ge (tgt := 59) hx hb dX4_differencesIfLifted_29 (by decide) (fun b6 => ?_) (fun b6 => ?_)
    · have hf := lm_T b6 hf
      refine lv_iload_n hx hb dX4_differencesIfLifted_59 rfl (lv_at hl 2 rfl) ?_
      exact lm_riC C0 hR hS hf dX4_differencesIfLifted_60
    · have hf := lm_F b6 hf
      refine lv_aload_n hx hb dX4_differencesIfLifted_32 rfl (lv_at hl 0 rfl) ?_
      refine lm_get C0 hR (by decide) cell_0 rfl lw_in_X4 3 (by decide) uw_90 rfl rfl dX4_differencesIfLifted_33 ?_
      obtain ⟨σ9, u7, hf⟩ := lm_bd_e hf
      refine lm_endv (lm_runV C0 hR hS (c_X1_passWatch isL_8 u7) (lw_cV 0 hts uw_238 mv_X1_passWatch rfl rfl hd_X1_passWatch ⟨Nat.le_of_ble_eq_true rfl, Nat.le_of_ble_eq_true rfl⟩) (isL_lt isL_8) (cell_L isL_8) rfl rfl hl rfl (Nat.le_of_ble_eq_true rfl) dX4_differencesIfLifted_36) hS (fun H locs hR hS => ?_)
      refine lv_iload_n hx hb dX4_differencesIfLifted_39 rfl (lv_at hl 2 rfl) ?_
      refine lv_aload_n hx hb dX4_differencesIfLifted_40 rfl (lv_at hl 0 rfl) ?_
      refine lm_get C0 hR (by decide) cell_0 rfl lw_in_X4 3 (by decide) uw_90 rfl rfl dX4_differencesIfLifted_41 ?_
      refine lv_iconst (v := (2 : Int32)) hx hb dX4_differencesIfLifted_44 (by decide) ?_
      obtain ⟨r11, u10, hf⟩ := lm_bd_e hf
      refine lm_endi (lm_runV C0 hR hS (c_X1_shipsSeen isL_8 u10) (lw_cV 1 hts uw_260 mv_X1_shipsSeen rfl rfl hd_X1_shipsSeen ⟨Nat.le_of_ble_eq_true rfl, Nat.le_of_ble_eq_true rfl⟩) (isL_lt isL_8) (cell_L isL_8) rfl rfl hl rfl (Nat.le_of_ble_eq_true rfl) dX4_differencesIfLifted_45) hS (fun H locs hR hS => ?_)
      obtain ⟨r14, u13, hf⟩ := lm_bd_e hf
      refine lm_endi (lm_runS C0 hR hS (c_J6_bitCount_0f7a4 u13) (lw_cS 1 hts uw_353 mv_J6_bitCount_0f7a4 rfl rfl hd_J6_bitCount_0f7a4 ⟨Nat.le_of_ble_eq_true rfl, Nat.le_of_ble_eq_true rfl⟩) rfl hl rfl (Nat.le_of_ble_eq_true rfl) dX4_differencesIfLifted_48) hS (fun H locs hR hS => ?_)
      refine lv_iadd hx hb dX4_differencesIfLifted_51 ?_
      obtain ⟨v16, ev16, hf⟩ := lm_nm_e hf
      refine lm_topi ev16 ?_
      refine lv_istore_n (lv' := [(3, .int v16), (0, .ref (B + 0)), (2, .int x2), (4, .int x4)]) hx hb dX4_differencesIfLifted_52 rfl hl (by decide) rfl (fun ls hl => ?_)
      obtain ⟨v17, ev17, hf⟩ := lm_nm_e hf
      refine lv_iinc (v := v17) (lv' := [(4, .int v17), (3, .int v16), (0, .ref (B + 0)), (2, .int x2)]) hx hb dX4_differencesIfLifted_53 hl (k := 3) rfl (by rw [ev17]; rfl) (by decide) rfl (fun ls hl => ?_)
      refine lv_goto (tgt := 26) hx hb dX4_differencesIfLifted_56 (by decide) ?_
      exact ih _ _ _ _ _ _ _ hR hS (lv_sub hl [2, 3, 1, 0] rfl) hf
set_option maxRecDepth 100000 in
set_option maxHeartbeats 4000000 in
theorem c_X4_differencesIfLifted {σ τ σ' : Mem} {p1 : Int32} {p2 : Int32} {r : Int32}  (hf : f_X4_differencesIfLifted σ p1 p2 = some (r, σ')) : lm_CI l yX4_differencesIfLifted wsX4_differencesIfLifted rmX4_differencesIfLifted D cI cZ cL cR B [.ref (B + 0), .int p1, .int p2] σ τ r σ' τ := by
  unfold f_X4_differencesIfLifted at hf
  refine lm_of (cc := cX4_differencesIfLifted) (maxL := 5) (ret := (some .int)) (own := RX4) (by decide) rfl (Nat.le_of_ble_eq_true rfl) (fun p e s m below meth c0 C0 hR ls hl => ?_)
  have hS : va_S (lm_A B) s.heap s.heap [] := va_S.rf
  have hl : lv_has ls 5 [(0, .ref (B + 0)), (1, .int p1), (2, .int p2)] := hl
  obtain ⟨hx, hb, hml, hr, hlk, hown, hts, hK, hX⟩ := id C0
  refine lv_aload_n hx hb dX4_differencesIfLifted_0 rfl (lv_at hl 0 rfl) ?_
  refine lm_get C0 hR (by decide) cell_0 rfl lw_in_X4 3 (by decide) uw_90 rfl rfl dX4_differencesIfLifted_1 ?_
  refine lv_aload_n hx hb dX4_differencesIfLifted_4 rfl (lv_at hl 0 rfl) ?_
  refine lm_get C0 hR (by decide) cell_0 rfl lw_in_X4 2 (by decide) uw_89 rfl rfl dX4_differencesIfLifted_5 ?_
  obtain ⟨σ3, u1, hf⟩ := lm_bd_e hf
  refine lm_endv (lm_runV C0 hR hS (c_X1_takeFrom isL_8 isL_4 u1) (lw_cV 1 hts uw_193 mv_X1_takeFrom rfl rfl hd_X1_takeFrom ⟨Nat.le_of_ble_eq_true rfl, Nat.le_of_ble_eq_true rfl⟩) (isL_lt isL_8) (cell_L isL_8) rfl rfl hl rfl (Nat.le_of_ble_eq_true rfl) dX4_differencesIfLifted_8) hS (fun H locs hR hS => ?_)
  refine lv_aload_n hx hb dX4_differencesIfLifted_11 rfl (lv_at hl 0 rfl) ?_
  refine lm_get C0 hR (by decide) cell_0 rfl lw_in_X4 3 (by decide) uw_90 rfl rfl dX4_differencesIfLifted_12 ?_
  refine lm_get C0 hR (isL_lt isL_8) (cell_L isL_8) rfl lw_in_X1 0 (by decide) uw_40 rfl rfl dX4_differencesIfLifted_15 ?_
  refine lv_iload_n hx hb dX4_differencesIfLifted_18 rfl (lv_at hl 1 rfl) ?_
  refine lv_iconst (v := (0 : Int32)) hx hb dX4_differencesIfLifted_19 (by decide) ?_
  obtain ⟨z4, hf⟩ := lm_ck_e hf
  obtain ⟨σ5, eσ5, hf⟩ := lm_nm_e hf
  refine lm_istC C0 hR hS (isL_lt1 isL_8) (cell_L1 isL_8) z4  eσ5 (cell_L1u isL_8) dX4_differencesIfLifted_20 (fun H locs hR hS => ?_)
  refine lv_iconst (v := (0 : Int32)) hx hb dX4_differencesIfLifted_21 (by decide) ?_
  refine lv_istore_n (lv' := [(3, .int (0 : Int32)), (0, .ref (B + 0)), (1, .int p1), (2, .int p2)]) hx hb dX4_differencesIfLifted_22 rfl hl (by decide) rfl (fun ls hl => ?_)
  refine lv_iconst (v := (0 : Int32)) hx hb dX4_differencesIfLifted_23 (by decide) ?_
  refine lv_istore (lv' := [(4, .int (0 : Int32)), (3, .int (0 : Int32)), (0, .ref (B + 0)), (1, .int p1), (2, .int p2)]) hx hb dX4_differencesIfLifted_24 hl (by decide) rfl (fun ls hl => ?_)
  exact w_X4_differencesIfLifted_26 C0 _ _ _ _ _ _ _ _ hR hS (lv_sub hl [2, 4, 1, 0] rfl) hf
end
/-! ===== X4_lift ===== -/
abbrev rmX4_lift : Room := { frames := 5, cells := 0, slots := 0, locals := 149 }
def f_X4_lift_47 : Nat → Int32 → Int32 → Int32 → Int32 → Int32 → Mem → Option (Int32 × Mem)
  | 0, _, _, _, _, _, _ => none
  | n + 1, x1, x2, x3, x4, x5, σ => if (σ 4 7) ≤ x5 then (if x2 = 0 then (some (x3, σ)) else (some (x4, σ))) else (lm_bd2 (f_X4_differencesIfLifted σ x5 x1) fun r19 σ20 => if x4 ≤ r19 then (lm_nm (x5 + (1 : Int32)) fun v22 => f_X4_lift_47 n x1 x2 x3 x4 v22 σ20) else (lm_nm (x5 + (1 : Int32)) fun v23 => f_X4_lift_47 n x1 x2 x5 r19 v23 σ20))
def f_X4_lift (σ : Mem) (p1 : Int32) (p2 : Int32) : Option (Int32 × Mem) := lm_bd (f_X1_isLit 4 σ) fun r2 => if r2 = 0 then (some ((-1000002 : Int32), σ)) else (lm_bd (f_X4_isWithin p1 (1 : Int32) (30 : Int32)) fun r6 => if r6 = 0 then (some ((-1000001 : Int32), σ)) else (lm_bd (f_X4_isBelow p2 (2 : Int32)) fun r10 => if r10 = 0 then (some ((-1000001 : Int32), σ)) else (lm_bd2 (f_X4_differencesIfLifted σ (0 : Int32) p1) fun r14 σ15 => f_X4_lift_47 lm_fu p1 p2 (0 : Int32) r14 (1 : Int32) σ15)))
abbrev wsX4_lift : List Cond := Cond.code yX4_lift cX4_lift 7 (some .int) :: lw_u
theorem mv_X4_lift : Cond.instanceMethod yX4_lift ∈ lw_u ∧ Cond.selects yX4_lift.cls yX4_lift yX4_lift ∈ lw_u ∧ Cond.initialized yX4_lift.cls ∈ lw_u ∧ Cond.code yX4_lift cX4_lift 7 (some .int) ∈ lw_u := ⟨uw_347, uw_348, uw_1, uw_349⟩
theorem hd_X4_lift : yX4_lift.cls ≠ "java/lang/invoke/MethodHandle" ∧ yX4_lift.cls ≠ "java/lang/invoke/VarHandle" ∧ (parseMethodDescriptor yX4_lift.desc).map (fun d => d.parameters.length) = some 2 := by decide +kernel
section
variable {l : Launch} {D : va_G} {cI cZ cL cR : ClassId} {B : Nat}
set_option maxRecDepth 100000 in
set_option maxHeartbeats 4000000 in
theorem w_X4_lift_47 {p : Program} {e : Env} {s : State} {m : MethodId} {args : Array Value} {below : List Frame} {meth : Method} {c0 : Code} {τ σ' : Mem} {r : Int32} (C0 : lm_Cx D cI cZ cL cR B p s m args meth c0 cX4_lift 7 (some .int) RX4) : ∀ (n : Nat), ∀ (x1 : Int32) (x2 : Int32) (x3 : Int32) (x4 : Int32) (x5 : Int32) (σ : Mem) (H : Heap) (locs : List Loc) (ls : Array Slot), va_P D vwCl (wl cI cZ cL cR B σ τ) H → va_S (lm_A B) s.heap H locs → lv_has ls 7 [(0, .ref (B + 0)), (1, .int x1), (2, .int x2), (3, .int x3), (4, .int x4), (5, .int x5)] → f_X4_lift_47 n x1 x2 x3 x4 x5 σ = some (r, σ') → W p l e rmX4_lift s m args below meth c0 H locs 0 0 (MQ below (lm_QI D cI cZ cL cR B r σ' τ) args s 0 0 (lm_A B)) (F0 m 47 ls []) := by
  obtain ⟨hx, hb, hml, hr, hlk, hown, hts, hK, hX⟩ := id C0
  intro n
  induction n with
  | zero =>
    intro x1 x2 x3 x4 x5 σ H locs ls hR hS hl hf
    cases hf
  | succ n ih =>
    intro x1 x2 x3 x4 x5 σ H locs ls hR hS hl hf
    rw [f_X4_lift_47] at hf
    refine lv_iload hx hb dX4_lift_47 (lv_at hl 5 rfl) ?_
    refine lv_aload_n hx hb dX4_lift_49 rfl (lv_at hl 0 rfl) ?_
    refine lm_get C0 hR (by decide) cell_0 rfl lw_in_X4 2 (by decide) uw_89 rfl rfl dX4_lift_50 ?_
    refine lm_get C0 hR (isL_lt isL_4) (cell_L isL_4) rfl lw_in_X1 7 (by decide) uw_60 rfl rfl dX4_lift_53 ?_
    refine lv_icmp_ge (tgt := 88) hx hb dX4_lift_56 (by decide) (fun b16 => ?_) (fun b16 => ?_)
    · have hf := lm_T b16 hf
      refine lv_iload_n hx hb dX4_lift_88 rfl (lv_at hl 2 rfl) ?_
      refine lv_if_ne (tgt := 96) hx hb dX4_lift_89 (by decide) (fun b17 => ?_) (fun b17 => ?_)
      · have hf := lm_F b17 hf
        refine lv_iload hx hb dX4_lift_96 (lv_at hl 4 rfl) ?_
        exact lm_riC C0 hR hS hf dX4_lift_98
      · have hf := lm_T b17 hf
        refine lv_iload_n hx hb dX4_lift_92 rfl (lv_at hl 3 rfl) ?_
        refine lv_goto (tgt := 98) hx hb dX4_lift_93 (by decide) ?_
        exact lm_riC C0 hR hS hf dX4_lift_98
    · have hf := lm_F b16 hf
      refine lv_aload_n hx hb dX4_lift_59 rfl (lv_at hl 0 rfl) ?_
      refine lv_iload hx hb dX4_lift_60 (lv_at hl 5 rfl) ?_
      refine lv_iload_n hx hb dX4_lift_62 rfl (lv_at hl 1 rfl) ?_
      obtain ⟨r19, σ20, u18, hf⟩ := lm_bd2_e hf
      refine lm_endi (lm_runV C0 hR hS (c_X4_differencesIfLifted u18) (lw_cV 2 hts uw_350 mv_X4_differencesIfLifted rfl rfl hd_X4_differencesIfLifted ⟨Nat.le_of_ble_eq_true rfl, Nat.le_of_ble_eq_true rfl⟩) (by decide) cell_0 rfl rfl hl rfl (Nat.le_of_ble_eq_true rfl) dX4_lift_63) hS (fun H locs hR hS => ?_)
      refine lv_istore (lv' := [(6, .int r19), (0, .ref (B + 0)), (1, .int x1), (2, .int x2), (3, .int x3), (4, .int x4), (5, .int x5)]) hx hb dX4_lift_66 hl (by decide) rfl (fun ls hl => ?_)
      refine lv_iload hx hb dX4_lift_68 (lv_at hl 0 rfl) ?_
      refine lv_iload hx hb dX4_lift_70 (lv_at hl 5 rfl) ?_
      refine lv_icmp_ge (tgt := 82) hx hb dX4_lift_72 (by decide) (fun b21 => ?_) (fun b21 => ?_)
      · have hf := lm_T b21 hf
        obtain ⟨v22, ev22, hf⟩ := lm_nm_e hf
        refine lv_iinc (v := v22) (lv' := [(5, .int v22), (6, .int r19), (0, .ref (B + 0)), (1, .int x1), (2, .int x2), (3, .int x3), (4, .int x4)]) hx hb dX4_lift_82 hl (k := 6) rfl (by rw [ev22]; rfl) (by decide) rfl (fun ls hl => ?_)
        refine lv_goto (tgt := 47) hx hb dX4_lift_85 (by decide) ?_
        exact ih _ _ _ _ _ _ _ _ _ hR hS (lv_sub hl [2, 3, 4, 5, 6, 0] rfl) hf
      · have hf := lm_F b21 hf
        refine lv_iload hx hb dX4_lift_75 (lv_at hl 6 rfl) ?_
        refine lv_istore_n (lv' := [(3, .int x5), (6, .int r19), (0, .ref (B + 0)), (1, .int x1), (2, .int x2), (4, .int x4), (5, .int x5)]) hx hb dX4_lift_77 rfl hl (by decide) rfl (fun ls hl => ?_)
        refine lv_iload hx hb dX4_lift_78 (lv_at hl 1 rfl) ?_
        refine lv_istore (lv' := [(4, .int r19), (3, .int x5), (6, .int r19), (0, .ref (B + 0)), (1, .int x1), (2, .int x2), (5, .int x5)]) hx hb dX4_lift_80 hl (by decide) rfl (fun ls hl => ?_)
        obtain ⟨v23, ev23, hf⟩ := lm_nm_e hf
        refine lv_iinc (v := v23) (lv' := [(5, .int v23), (4, .int r19), (3, .int x5), (6, .int r19), (0, .ref (B + 0)), (1, .int x1), (2, .int x2)]) hx hb dX4_lift_82 hl (k := 6) rfl (by rw [ev23]; rfl) (by decide) rfl (fun ls hl => ?_)
        refine lv_goto (tgt := 47) hx hb dX4_lift_85 (by decide) ?_
        exact ih _ _ _ _ _ _ _ _ _ hR hS (lv_sub hl [4, 5, 6, 2, 1, 0] rfl) hf
set_option maxRecDepth 100000 in
set_option maxHeartbeats 4000000 in
theorem c_X4_lift {σ τ σ' : Mem} {p1 : Int32} {p2 : Int32} {r : Int32}  (hf : f_X4_lift σ p1 p2 = some (r, σ')) : lm_CI l yX4_lift wsX4_lift rmX4_lift D cI cZ cL cR B [.ref (B + 0), .int p1, .int p2] σ τ r σ' τ := by
  unfold f_X4_lift at hf
  refine lm_of (cc := cX4_lift) (maxL := 7) (ret := (some .int)) (own := RX4) (by decide) rfl (Nat.le_of_ble_eq_true rfl) (fun p e s m below meth c0 C0 hR ls hl => ?_)
  have hS : va_S (lm_A B) s.heap s.heap [] := va_S.rf
  have hl : lv_has ls 7 [(0, .ref (B + 0)), (1, .int p1), (2, .int p2)] := hl
  obtain ⟨hx, hb, hml, hr, hlk, hown, hts, hK, hX⟩ := id C0
  refine lv_aload_n hx hb dX4_lift_0 rfl (lv_at hl 0 rfl) ?_
  refine lm_get C0 hR (by decide) cell_0 rfl lw_in_X4 2 (by decide) uw_89 rfl rfl dX4_lift_1 ?_
  obtain ⟨r2, u1, hf⟩ := lm_bd_e hf
  refine lm_endi (lm_runV C0 hR hS (c_X1_isLit isL_4 u1) (lw_cV 0 hts uw_226 mv_X1_isLit rfl rfl hd_X1_isLit ⟨Nat.le_of_ble_eq_true rfl, Nat.le_of_ble_eq_true rfl⟩) (isL_lt isL_4) (cell_L isL_4) rfl rfl hl rfl (Nat.le_of_ble_eq_true rfl) dX4_lift_4) hS (fun H locs hR hS => ?_)
  refine lv_if_ne (tgt := 13) hx hb dX4_lift_7 (by decide) (fun b4 => ?_) (fun b4 => ?_)
  · have hf := lm_F b4 hf
    refine lv_iload_n hx hb dX4_lift_13 rfl (lv_at hl 1 rfl) ?_
    refine lv_iconst (v := (1 : Int32)) hx hb dX4_lift_14 (by decide) ?_
    refine lv_bipush (v := (30 : Int32)) hx hb dX4_lift_15 (by decide) ?_
    obtain ⟨r6, u5, hf⟩ := lm_bd_e hf
    refine lm_endi (lm_runS C0 hR hS (c_X4_isWithin u5) (lw_cS 3 hts uw_230 mv_X4_isWithin rfl rfl hd_X4_isWithin ⟨Nat.le_of_ble_eq_true rfl, Nat.le_of_ble_eq_true rfl⟩) rfl hl rfl (Nat.le_of_ble_eq_true rfl) dX4_lift_17) hS (fun H locs hR hS => ?_)
    refine lv_if_eq (tgt := 31) hx hb dX4_lift_20 (by decide) (fun b8 => ?_) (fun b8 => ?_)
    · have hf := lm_T b8 hf
      refine lv_ldc hx hb hown (hts _ uw_105) dX4_lift_31 ?_
      exact lm_riC C0 hR hS hf dX4_lift_33
    · have hf := lm_F b8 hf
      refine lv_iload_n hx hb dX4_lift_23 rfl (lv_at hl 2 rfl) ?_
      refine lv_iconst (v := (2 : Int32)) hx hb dX4_lift_24 (by decide) ?_
      obtain ⟨r10, u9, hf⟩ := lm_bd_e hf
      refine lm_endi (lm_runS C0 hR hS (c_X4_isBelow u9) (lw_cS 2 hts uw_102 mv_X4_isBelow rfl rfl hd_X4_isBelow ⟨Nat.le_of_ble_eq_true rfl, Nat.le_of_ble_eq_true rfl⟩) rfl hl rfl (Nat.le_of_ble_eq_true rfl) dX4_lift_25) hS (fun H locs hR hS => ?_)
      refine lv_if_ne (tgt := 34) hx hb dX4_lift_28 (by decide) (fun b12 => ?_) (fun b12 => ?_)
      · have hf := lm_F b12 hf
        refine lv_iconst (v := (0 : Int32)) hx hb dX4_lift_34 (by decide) ?_
        refine lv_istore_n (lv' := [(3, .int (0 : Int32)), (0, .ref (B + 0)), (1, .int p1), (2, .int p2)]) hx hb dX4_lift_35 rfl hl (by decide) rfl (fun ls hl => ?_)
        refine lv_aload_n hx hb dX4_lift_36 rfl (lv_at hl 1 rfl) ?_
        refine lv_iconst (v := (0 : Int32)) hx hb dX4_lift_37 (by decide) ?_
        refine lv_iload_n hx hb dX4_lift_38 rfl (lv_at hl 2 rfl) ?_
        obtain ⟨r14, σ15, u13, hf⟩ := lm_bd2_e hf
        refine lm_endi (lm_runV C0 hR hS (c_X4_differencesIfLifted u13) (lw_cV 2 hts uw_350 mv_X4_differencesIfLifted rfl rfl hd_X4_differencesIfLifted ⟨Nat.le_of_ble_eq_true rfl, Nat.le_of_ble_eq_true rfl⟩) (by decide) cell_0 rfl rfl hl rfl (Nat.le_of_ble_eq_true rfl) dX4_lift_39) hS (fun H locs hR hS => ?_)
        refine lv_istore (lv' := [(4, .int r14), (3, .int (0 : Int32)), (0, .ref (B + 0)), (1, .int p1), (2, .int p2)]) hx hb dX4_lift_42 hl (by decide) rfl (fun ls hl => ?_)
        refine lv_iconst (v := (1 : Int32)) hx hb dX4_lift_44 (by decide) ?_
        refine lv_istore (lv' := [(5, .int (1 : Int32)), (4, .int r14), (3, .int (0 : Int32)), (0, .ref (B + 0)), (1, .int p1), (2, .int p2)]) hx hb dX4_lift_45 hl (by decide) rfl (fun ls hl => ?_)
        exact w_X4_lift_47 C0 _ _ _ _ _ _ _ _ _ _ hR hS (lv_sub hl [3, 4, 5, 2, 1, 0] rfl) hf
      · have hf := lm_T b12 hf
        refine lv_ldc hx hb hown (hts _ uw_105) dX4_lift_31 ?_
        exact lm_riC C0 hR hS hf dX4_lift_33
  · have hf := lm_T b4 hf
    refine lv_ldc hx hb hown (hts _ uw_216) dX4_lift_10 ?_
    exact lm_riC C0 hR hS hf dX4_lift_12
end
/-! ===== X4_sent ===== -/
abbrev rmX4_sent : Room := { frames := 4, cells := 0, slots := 0, locals := 125 }
def f_X4_sent_50 : Nat → Int32 → Int32 → Int32 → Int32 → Mem → Option (Int32 × Mem)
  | 0, _, _, _, _, _ => none
  | n + 1, x1, x2, x3, x4, σ => if x1 ≤ x4 then (if x2 = 0 then (lm_bd (f_J6_bitCount_0f7a4 x3) fun r19 => some (r19, σ)) else (some (x3, σ))) else (lm_bd (f_X1_passWatch 8 σ) fun σ23 => lm_bd (f_X1_shipsSeen 8 σ23 (2 : Int32)) fun r25 => lm_nm (x3 ||| r25) fun v27 => lm_nm (x4 + (1 : Int32)) fun v28 => f_X4_sent_50 n x1 x2 v27 v28 σ23)
def f_X4_sent (σ : Mem) (p1 : Int32) (p2 : Int32) : Option (Int32 × Mem) := lm_bd (f_X1_isLit 4 σ) fun r2 => if r2 = 0 then (some ((-1000002 : Int32), σ)) else (lm_bd (f_X4_isWithin p1 (1 : Int32) (30 : Int32)) fun r6 => if r6 = 0 then (some ((-1000001 : Int32), σ)) else (lm_bd (f_X4_isBelow p2 (2 : Int32)) fun r10 => if r10 = 0 then (some ((-1000001 : Int32), σ)) else (lm_bd (f_X1_takeFrom 8 4 σ) fun σ15 => f_X4_sent_50 lm_fu p1 p2 (0 : Int32) (0 : Int32) σ15)))
abbrev wsX4_sent : List Cond := Cond.code yX4_sent cX4_sent 5 (some .int) :: lw_u
theorem mv_X4_sent : Cond.instanceMethod yX4_sent ∈ lw_u ∧ Cond.selects yX4_sent.cls yX4_sent yX4_sent ∈ lw_u ∧ Cond.initialized yX4_sent.cls ∈ lw_u ∧ Cond.code yX4_sent cX4_sent 5 (some .int) ∈ lw_u := ⟨uw_360, uw_361, uw_1, uw_362⟩
theorem hd_X4_sent : yX4_sent.cls ≠ "java/lang/invoke/MethodHandle" ∧ yX4_sent.cls ≠ "java/lang/invoke/VarHandle" ∧ (parseMethodDescriptor yX4_sent.desc).map (fun d => d.parameters.length) = some 2 := by decide +kernel
section
variable {l : Launch} {D : va_G} {cI cZ cL cR : ClassId} {B : Nat}
set_option maxRecDepth 100000 in
set_option maxHeartbeats 4000000 in
theorem w_X4_sent_50 {p : Program} {e : Env} {s : State} {m : MethodId} {args : Array Value} {below : List Frame} {meth : Method} {c0 : Code} {τ σ' : Mem} {r : Int32} (C0 : lm_Cx D cI cZ cL cR B p s m args meth c0 cX4_sent 5 (some .int) RX4) : ∀ (n : Nat), ∀ (x1 : Int32) (x2 : Int32) (x3 : Int32) (x4 : Int32) (σ : Mem) (H : Heap) (locs : List Loc) (ls : Array Slot), va_P D vwCl (wl cI cZ cL cR B σ τ) H → va_S (lm_A B) s.heap H locs → lv_has ls 5 [(0, .ref (B + 0)), (1, .int x1), (2, .int x2), (3, .int x3), (4, .int x4)] → f_X4_sent_50 n x1 x2 x3 x4 σ = some (r, σ') → W p l e rmX4_sent s m args below meth c0 H locs 0 0 (MQ below (lm_QI D cI cZ cL cR B r σ' τ) args s 0 0 (lm_A B)) (F0 m 50 ls []) := by
  obtain ⟨hx, hb, hml, hr, hlk, hown, hts, hK, hX⟩ := id C0
  intro n
  induction n with
  | zero =>
    intro x1 x2 x3 x4 σ H locs ls hR hS hl hf
    cases hf
  | succ n ih =>
    intro x1 x2 x3 x4 σ H locs ls hR hS hl hf
    rw [f_X4_sent_50] at hf
    refine lv_iload hx hb dX4_sent_50 (lv_at hl 4 rfl) ?_
    refine lv_iload_n hx hb dX4_sent_52 rfl (lv_at hl 1 rfl) ?_
    refine lv_icmp_ge (tgt := 80) hx hb dX4_sent_53 (by decide) (fun b16 => ?_) (fun b16 => ?_)
    · have hf := lm_T b16 hf
      refine lv_iload_n hx hb dX4_sent_80 rfl (lv_at hl 2 rfl) ?_
      refine lv_if_ne (tgt := 91) hx hb dX4_sent_81 (by decide) (fun b17 => ?_) (fun b17 => ?_)
      · have hf := lm_F b17 hf
        refine lv_iload_n hx hb dX4_sent_91 rfl (lv_at hl 3 rfl) ?_
        exact lm_riC C0 hR hS hf dX4_sent_92
      · have hf := lm_T b17 hf
        refine lv_iload_n hx hb dX4_sent_84 rfl (lv_at hl 3 rfl) ?_
        obtain ⟨r19, u18, hf⟩ := lm_bd_e hf
        refine lm_endi (lm_runS C0 hR hS (c_J6_bitCount_0f7a4 u18) (lw_cS 1 hts uw_353 mv_J6_bitCount_0f7a4 rfl rfl hd_J6_bitCount_0f7a4 ⟨Nat.le_of_ble_eq_true rfl, Nat.le_of_ble_eq_true rfl⟩) rfl hl rfl (Nat.le_of_ble_eq_true rfl) dX4_sent_85) hS (fun H locs hR hS => ?_)
        refine lv_goto (tgt := 92) hx hb dX4_sent_88 (by decide) ?_
        exact lm_riC C0 hR hS hf dX4_sent_92
    · have hf := lm_F b16 hf
      refine lv_aload_n hx hb dX4_sent_56 rfl (lv_at hl 0 rfl) ?_
      refine lm_get C0 hR (by decide) cell_0 rfl lw_in_X4 3 (by decide) uw_90 rfl rfl dX4_sent_57 ?_
      obtain ⟨σ23, u21, hf⟩ := lm_bd_e hf
      refine lm_endv (lm_runV C0 hR hS (c_X1_passWatch isL_8 u21) (lw_cV 0 hts uw_238 mv_X1_passWatch rfl rfl hd_X1_passWatch ⟨Nat.le_of_ble_eq_true rfl, Nat.le_of_ble_eq_true rfl⟩) (isL_lt isL_8) (cell_L isL_8) rfl rfl hl rfl (Nat.le_of_ble_eq_true rfl) dX4_sent_60) hS (fun H locs hR hS => ?_)
      refine lv_iload_n hx hb dX4_sent_63 rfl (lv_at hl 3 rfl) ?_
      refine lv_aload_n hx hb dX4_sent_64 rfl (lv_at hl 0 rfl) ?_
      refine lm_get C0 hR (by decide) cell_0 rfl lw_in_X4 3 (by decide) uw_90 rfl rfl dX4_sent_65 ?_
      refine lv_iconst (v := (2 : Int32)) hx hb dX4_sent_68 (by decide) ?_
      obtain ⟨r25, u24, hf⟩ := lm_bd_e hf
      refine lm_endi (lm_runV C0 hR hS (c_X1_shipsSeen isL_8 u24) (lw_cV 1 hts uw_260 mv_X1_shipsSeen rfl rfl hd_X1_shipsSeen ⟨Nat.le_of_ble_eq_true rfl, Nat.le_of_ble_eq_true rfl⟩) (isL_lt isL_8) (cell_L isL_8) rfl rfl hl rfl (Nat.le_of_ble_eq_true rfl) dX4_sent_69) hS (fun H locs hR hS => ?_)
      refine lv_ior hx hb dX4_sent_72 ?_
      obtain ⟨v27, ev27, hf⟩ := lm_nm_e hf
      refine lm_topi ev27 ?_
      refine lv_istore_n (lv' := [(3, .int v27), (0, .ref (B + 0)), (1, .int x1), (2, .int x2), (4, .int x4)]) hx hb dX4_sent_73 rfl hl (by decide) rfl (fun ls hl => ?_)
      obtain ⟨v28, ev28, hf⟩ := lm_nm_e hf
      refine lv_iinc (v := v28) (lv' := [(4, .int v28), (3, .int v27), (0, .ref (B + 0)), (1, .int x1), (2, .int x2)]) hx hb dX4_sent_74 hl (k := 4) rfl (by rw [ev28]; rfl) (by decide) rfl (fun ls hl => ?_)
      refine lv_goto (tgt := 50) hx hb dX4_sent_77 (by decide) ?_
      exact ih _ _ _ _ _ _ _ _ hR hS (lv_sub hl [2, 3, 4, 1, 0] rfl) hf
set_option maxRecDepth 100000 in
set_option maxHeartbeats 4000000 in
theorem c_X4_sent {σ τ σ' : Mem} {p1 : Int32} {p2 : Int32} {r : Int32}  (hf : f_X4_sent σ p1 p2 = some (r, σ')) : lm_CI l yX4_sent wsX4_sent rmX4_sent D cI cZ cL cR B [.ref (B + 0), .int p1, .int p2] σ τ r σ' τ := by
  unfold f_X4_sent at hf
  refine lm_of (cc := cX4_sent) (maxL := 5) (ret := (some .int)) (own := RX4) (by decide) rfl (Nat.le_of_ble_eq_true rfl) (fun p e s m below meth c0 C0 hR ls hl => ?_)
  have hS : va_S (lm_A B) s.heap s.heap [] := va_S.rf
  have hl : lv_has ls 5 [(0, .ref (B + 0)), (1, .int p1), (2, .int p2)] := hl
  obtain ⟨hx, hb, hml, hr, hlk, hown, hts, hK, hX⟩ := id C0
  refine lv_aload_n hx hb dX4_sent_0 rfl (lv_at hl 0 rfl) ?_
  refine lm_get C0 hR (by decide) cell_0 rfl lw_in_X4 2 (by decide) uw_89 rfl rfl dX4_sent_1 ?_
  obtain ⟨r2, u1, hf⟩ := lm_bd_e hf
  refine lm_endi (lm_runV C0 hR hS (c_X1_isLit isL_4 u1) (lw_cV 0 hts uw_226 mv_X1_isLit rfl rfl hd_X1_isLit ⟨Nat.le_of_ble_eq_true rfl, Nat.le_of_ble_eq_true rfl⟩) (isL_lt isL_4) (cell_L isL_4) rfl rfl hl rfl (Nat.le_of_ble_eq_true rfl) dX4_sent_4) hS (fun H locs hR hS => ?_)
  refine lv_if_ne (tgt := 13) hx hb dX4_sent_7 (by decide) (fun b4 => ?_) (fun b4 => ?_)
  · have hf := lm_F b4 hf
    refine lv_iload_n hx hb dX4_sent_13 rfl (lv_at hl 1 rfl) ?_
    refine lv_iconst (v := (1 : Int32)) hx hb dX4_sent_14 (by decide) ?_
    refine lv_bipush (v := (30 : Int32)) hx hb dX4_sent_15 (by decide) ?_
    obtain ⟨r6, u5, hf⟩ := lm_bd_e hf
    refine lm_endi (lm_runS C0 hR hS (c_X4_isWithin u5) (lw_cS 3 hts uw_230 mv_X4_isWithin rfl rfl hd_X4_isWithin ⟨Nat.le_of_ble_eq_true rfl, Nat.le_of_ble_eq_true rfl⟩) rfl hl rfl (Nat.le_of_ble_eq_true rfl) dX4_sent_17) hS (fun H locs hR hS => ?_)
    refine lv_if_eq (tgt := 31) hx hb dX4_sent_20 (by decide) (fun b8 => ?_) (fun b8 => ?_)
    · have hf := lm_T b8 hf
      refine lv_ldc hx hb hown (hts _ uw_105) dX4_sent_31 ?_
      exact lm_riC C0 hR hS hf dX4_sent_33
    · have hf := lm_F b8 hf
      refine lv_iload_n hx hb dX4_sent_23 rfl (lv_at hl 2 rfl) ?_
      refine lv_iconst (v := (2 : Int32)) hx hb dX4_sent_24 (by decide) ?_
      obtain ⟨r10, u9, hf⟩ := lm_bd_e hf
      refine lm_endi (lm_runS C0 hR hS (c_X4_isBelow u9) (lw_cS 2 hts uw_102 mv_X4_isBelow rfl rfl hd_X4_isBelow ⟨Nat.le_of_ble_eq_true rfl, Nat.le_of_ble_eq_true rfl⟩) rfl hl rfl (Nat.le_of_ble_eq_true rfl) dX4_sent_25) hS (fun H locs hR hS => ?_)
      refine lv_if_ne (tgt := 34) hx hb dX4_sent_28 (by decide) (fun b12 => ?_) (fun b12 => ?_)
      · have hf := lm_F b12 hf
        refine lv_iconst (v := (0 : Int32)) hx hb dX4_sent_34 (by decide) ?_
        refine lv_istore_n (lv' := [(3, .int (0 : Int32)), (0, .ref (B + 0)), (1, .int p1), (2, .int p2)]) hx hb dX4_sent_35 rfl hl (by decide) rfl (fun ls hl => ?_)
        refine lv_aload_n hx hb dX4_sent_36 rfl (lv_at hl 1 rfl) ?_
        refine lm_get C0 hR (by decide) cell_0 rfl lw_in_X4 3 (by decide) uw_90 rfl rfl dX4_sent_37 ?_
        refine lv_aload_n hx hb dX4_sent_40 rfl (lv_at hl 1 rfl) ?_
        refine lm_get C0 hR (by decide) cell_0 rfl lw_in_X4 2 (by decide) uw_89 rfl rfl dX4_sent_41 ?_
        obtain ⟨σ15, u13, hf⟩ := lm_bd_e hf
        refine lm_endv (lm_runV C0 hR hS (c_X1_takeFrom isL_8 isL_4 u13) (lw_cV 1 hts uw_193 mv_X1_takeFrom rfl rfl hd_X1_takeFrom ⟨Nat.le_of_ble_eq_true rfl, Nat.le_of_ble_eq_true rfl⟩) (isL_lt isL_8) (cell_L isL_8) rfl rfl hl rfl (Nat.le_of_ble_eq_true rfl) dX4_sent_44) hS (fun H locs hR hS => ?_)
        refine lv_iconst (v := (0 : Int32)) hx hb dX4_sent_47 (by decide) ?_
        refine lv_istore (lv' := [(4, .int (0 : Int32)), (3, .int (0 : Int32)), (0, .ref (B + 0)), (1, .int p1), (2, .int p2)]) hx hb dX4_sent_48 hl (by decide) rfl (fun ls hl => ?_)
        exact w_X4_sent_50 C0 _ _ _ _ _ _ _ _ _ hR hS (lv_sub hl [2, 3, 4, 1, 0] rfl) hf
      · have hf := lm_T b12 hf
        refine lv_ldc hx hb hown (hts _ uw_105) dX4_sent_31 ?_
        exact lm_riC C0 hR hS hf dX4_sent_33
  · have hf := lm_T b4 hf
    refine lv_ldc hx hb hown (hts _ uw_216) dX4_sent_10 ?_
    exact lm_riC C0 hR hS hf dX4_sent_12
end
/-! ===== X4_share ===== -/
abbrev rmX4_share : Room := { frames := 1, cells := 0, slots := 0, locals := 22 }
def f_X4_share_64 (σ : Mem) : Nat → Int32 → Int32 → Int32 → Int32 → Int32 → Int32 → Option (Int32)
  | 0, _, _, _, _, _, _ => none
  | n + 1, x1, x2, x3, x4, x5, x6 => if (σ 4 7) ≤ x6 then (lm_ck (lm_in x1 6) (lm_ck (lm_nz x3) (lm_nm ((x2 * (σ (4 + 1) x1.toNatClampNeg)) / x3) fun v18 => if x4 ≤ x5 then (some v18) else (some (v18 + (1 : Int32)))))) else (lm_ck (lm_in x6 6) (lm_ck (lm_nz x3) (lm_nm (x4 - ((x2 * (σ (4 + 1) x6.toNatClampNeg)) / x3)) fun v22 => if x1 ≤ x6 then (lm_nm (x6 + (1 : Int32)) fun v24 => f_X4_share_64 σ n x1 x2 x3 v22 x5 v24) else (lm_ck (lm_in x6 6) (if (σ (4 + 1) x6.toNatClampNeg) ≤ 0 then (lm_nm (x6 + (1 : Int32)) fun v27 => f_X4_share_64 σ n x1 x2 x3 v22 x5 v27) else (lm_nm (x5 + (1 : Int32)) fun v28 => lm_nm (x6 + (1 : Int32)) fun v29 => f_X4_share_64 σ n x1 x2 x3 v22 v28 v29))))))
def f_X4_share (σ : Mem) (p1 : Int32) (p2 : Int32) : Option (Int32) := lm_bd (f_X4_isBelow p1 (σ 4 7)) fun r2 => if r2 = 0 then (some (-1000001 : Int32)) else (lm_bd (f_X4_isWithin p2 (0 : Int32) (999 : Int32)) fun r6 => if r6 = 0 then (some (-1000001 : Int32)) else (lm_bd (f_X1_allThick 4 σ) fun r10 => if r10 < (1 : Int32) then (some (0 : Int32)) else (lm_ck (lm_in p1 6) (if (σ (4 + 1) p1.toNatClampNeg) = 0 then (some (0 : Int32)) else (f_X4_share_64 σ lm_fu p1 p2 r10 p2 (0 : Int32) (0 : Int32))))))
abbrev wsX4_share : List Cond := Cond.code yX4_share cX4_share 7 (some .int) :: lw_u
theorem mv_X4_share : Cond.instanceMethod yX4_share ∈ lw_u ∧ Cond.selects yX4_share.cls yX4_share yX4_share ∈ lw_u ∧ Cond.initialized yX4_share.cls ∈ lw_u ∧ Cond.code yX4_share cX4_share 7 (some .int) ∈ lw_u := ⟨uw_364, uw_365, uw_1, uw_366⟩
theorem hd_X4_share : yX4_share.cls ≠ "java/lang/invoke/MethodHandle" ∧ yX4_share.cls ≠ "java/lang/invoke/VarHandle" ∧ (parseMethodDescriptor yX4_share.desc).map (fun d => d.parameters.length) = some 2 := by decide +kernel
section
variable {l : Launch} {D : va_G} {cI cZ cL cR : ClassId} {B : Nat}
set_option maxRecDepth 100000 in
set_option maxHeartbeats 4000000 in
theorem w_X4_share_64 {p : Program} {e : Env} {s : State} {m : MethodId} {args : Array Value} {below : List Frame} {meth : Method} {c0 : Code} {τ σ : Mem} {r : Int32} (C0 : lm_Cx D cI cZ cL cR B p s m args meth c0 cX4_share 7 (some .int) RX4) : ∀ (n : Nat), ∀ (x1 : Int32) (x2 : Int32) (x3 : Int32) (x4 : Int32) (x5 : Int32) (x6 : Int32) (H : Heap) (locs : List Loc) (ls : Array Slot), va_P D vwCl (wl cI cZ cL cR B σ τ) H → va_S (lm_A B) s.heap H locs → lv_has ls 7 [(0, .ref (B + 0)), (1, .int x1), (2, .int x2), (3, .int x3), (4, .int x4), (5, .int x5), (6, .int x6)] → f_X4_share_64 σ n x1 x2 x3 x4 x5 x6 = some r → W p l e rmX4_share s m args below meth c0 H locs 0 0 (MQ below (lm_QI D cI cZ cL cR B r σ τ) args s 0 0 (lm_A B)) (F0 m 64 ls []) := by
  obtain ⟨hx, hb, hml, hr, hlk, hown, hts, hK, hX⟩ := id C0
  intro n
  induction n with
  | zero =>
    intro x1 x2 x3 x4 x5 x6 H locs ls hR hS hl hf
    cases hf
  | succ n ih =>
    intro x1 x2 x3 x4 x5 x6 H locs ls hR hS hl hf
    rw [f_X4_share_64] at hf
    refine lv_iload hx hb dX4_share_64 (lv_at hl 6 rfl) ?_
    refine lv_aload_n hx hb dX4_share_66 rfl (lv_at hl 0 rfl) ?_
    refine lm_get C0 hR (by decide) cell_0 rfl lw_in_X4 2 (by decide) uw_89 rfl rfl dX4_share_67 ?_
    refine lm_get C0 hR (isL_lt isL_4) (cell_L isL_4) rfl lw_in_X1 7 (by decide) uw_60 rfl rfl dX4_share_70 ?_
    refine lv_icmp_ge (tgt := 123) hx hb dX4_share_73 (by decide) (fun b15 => ?_) (fun b15 => ?_)
    · have hf := lm_T b15 hf
      refine lv_iload_n hx hb dX4_share_123 rfl (lv_at hl 2 rfl) ?_
      refine lv_aload_n hx hb dX4_share_124 rfl (lv_at hl 0 rfl) ?_
      refine lm_get C0 hR (by decide) cell_0 rfl lw_in_X4 2 (by decide) uw_89 rfl rfl dX4_share_125 ?_
      refine lm_get C0 hR (isL_lt isL_4) (cell_L isL_4) rfl lw_in_X1 0 (by decide) uw_40 rfl rfl dX4_share_128 ?_
      refine lv_iload_n hx hb dX4_share_131 rfl (lv_at hl 1 rfl) ?_
      obtain ⟨z16, hf⟩ := lm_ck_e hf
      refine lm_ild C0 hR (isL_lt1 isL_4) (cell_L1 isL_4) z16 dX4_share_132 ?_
      refine lv_imul hx hb dX4_share_133 ?_
      refine lv_iload_n hx hb dX4_share_134 rfl (lv_at hl 3 rfl) ?_
      obtain ⟨z17, hf⟩ := lm_ck_e hf
      refine lv_idiv hx hb dX4_share_135 (lm_nzT z17) ?_
      obtain ⟨v18, ev18, hf⟩ := lm_nm_e hf
      refine lm_topi ev18 ?_
      refine lv_istore (lv' := [(6, .int v18), (0, .ref (B + 0)), (1, .int x1), (2, .int x2), (3, .int x3), (4, .int x4), (5, .int x5)]) hx hb dX4_share_136 hl (by decide) rfl (fun ls hl => ?_)
      refine lv_iload hx hb dX4_share_138 (lv_at hl 6 rfl) ?_
      refine lv_iload hx hb dX4_share_140 (lv_at hl 5 rfl) ?_
      refine lv_icmp_ge (tgt := 152) hx hb dX4_share_142 (by decide) (fun b19 => ?_) (fun b19 => ?_)
      · have hf := lm_T b19 hf
        refine lv_iload hx hb dX4_share_152 (lv_at hl 0 rfl) ?_
        exact lm_riP C0 hR hS hf dX4_share_154
      · have hf := lm_F b19 hf
        refine lv_iload hx hb dX4_share_145 (lv_at hl 0 rfl) ?_
        refine lv_iconst (v := (1 : Int32)) hx hb dX4_share_147 (by decide) ?_
        refine lv_iadd hx hb dX4_share_148 ?_
        refine lv_goto (tgt := 154) hx hb dX4_share_149 (by decide) ?_
        exact lm_riP C0 hR hS hf dX4_share_154
    · have hf := lm_F b15 hf
      refine lv_iload hx hb dX4_share_76 (lv_at hl 4 rfl) ?_
      refine lv_iload_n hx hb dX4_share_78 rfl (lv_at hl 2 rfl) ?_
      refine lv_aload_n hx hb dX4_share_79 rfl (lv_at hl 0 rfl) ?_
      refine lm_get C0 hR (by decide) cell_0 rfl lw_in_X4 2 (by decide) uw_89 rfl rfl dX4_share_80 ?_
      refine lm_get C0 hR (isL_lt isL_4) (cell_L isL_4) rfl lw_in_X1 0 (by decide) uw_40 rfl rfl dX4_share_83 ?_
      refine lv_iload hx hb dX4_share_86 (lv_at hl 6 rfl) ?_
      obtain ⟨z20, hf⟩ := lm_ck_e hf
      refine lm_ild C0 hR (isL_lt1 isL_4) (cell_L1 isL_4) z20 dX4_share_88 ?_
      refine lv_imul hx hb dX4_share_89 ?_
      refine lv_iload_n hx hb dX4_share_90 rfl (lv_at hl 3 rfl) ?_
      obtain ⟨z21, hf⟩ := lm_ck_e hf
      refine lv_idiv hx hb dX4_share_91 (lm_nzT z21) ?_
      refine lv_isub hx hb dX4_share_92 ?_
      obtain ⟨v22, ev22, hf⟩ := lm_nm_e hf
      refine lm_topi ev22 ?_
      refine lv_istore (lv' := [(4, .int v22), (0, .ref (B + 0)), (1, .int x1), (2, .int x2), (3, .int x3), (5, .int x5), (6, .int x6)]) hx hb dX4_share_93 hl (by decide) rfl (fun ls hl => ?_)
      refine lv_iload hx hb dX4_share_95 (lv_at hl 6 rfl) ?_
      refine lv_iload_n hx hb dX4_share_97 rfl (lv_at hl 2 rfl) ?_
      refine lv_icmp_ge (tgt := 117) hx hb dX4_share_98 (by decide) (fun b23 => ?_) (fun b23 => ?_)
      · have hf := lm_T b23 hf
        obtain ⟨v24, ev24, hf⟩ := lm_nm_e hf
        refine lv_iinc (v := v24) (lv' := [(6, .int v24), (4, .int v22), (0, .ref (B + 0)), (1, .int x1), (2, .int x2), (3, .int x3), (5, .int x5)]) hx hb dX4_share_117 hl (k := 6) rfl (by rw [ev24]; rfl) (by decide) rfl (fun ls hl => ?_)
        refine lv_goto (tgt := 64) hx hb dX4_share_120 (by decide) ?_
        exact ih _ _ _ _ _ _ _ _ _ hR hS (lv_sub hl [2, 3, 4, 5, 1, 6, 0] rfl) hf
      · have hf := lm_F b23 hf
        refine lv_aload_n hx hb dX4_share_101 rfl (lv_at hl 1 rfl) ?_
        refine lm_get C0 hR (by decide) cell_0 rfl lw_in_X4 2 (by decide) uw_89 rfl rfl dX4_share_102 ?_
        refine lm_get C0 hR (isL_lt isL_4) (cell_L isL_4) rfl lw_in_X1 0 (by decide) uw_40 rfl rfl dX4_share_105 ?_
        refine lv_iload hx hb dX4_share_108 (lv_at hl 6 rfl) ?_
        obtain ⟨z25, hf⟩ := lm_ck_e hf
        refine lm_ild C0 hR (isL_lt1 isL_4) (cell_L1 isL_4) z25 dX4_share_110 ?_
        refine lv_if_le (tgt := 117) hx hb dX4_share_111 (by decide) (fun b26 => ?_) (fun b26 => ?_)
        · have hf := lm_T b26 hf
          obtain ⟨v27, ev27, hf⟩ := lm_nm_e hf
          refine lv_iinc (v := v27) (lv' := [(6, .int v27), (4, .int v22), (0, .ref (B + 0)), (1, .int x1), (2, .int x2), (3, .int x3), (5, .int x5)]) hx hb dX4_share_117 hl (k := 6) rfl (by rw [ev27]; rfl) (by decide) rfl (fun ls hl => ?_)
          refine lv_goto (tgt := 64) hx hb dX4_share_120 (by decide) ?_
          exact ih _ _ _ _ _ _ _ _ _ hR hS (lv_sub hl [2, 3, 4, 5, 1, 6, 0] rfl) hf
        · have hf := lm_F b26 hf
          obtain ⟨v28, ev28, hf⟩ := lm_nm_e hf
          refine lv_iinc (v := v28) (lv' := [(5, .int v28), (4, .int v22), (0, .ref (B + 0)), (1, .int x1), (2, .int x2), (3, .int x3), (6, .int x6)]) hx hb dX4_share_114 hl (k := 5) rfl (by rw [ev28]; rfl) (by decide) rfl (fun ls hl => ?_)
          obtain ⟨v29, ev29, hf⟩ := lm_nm_e hf
          refine lv_iinc (v := v29) (lv' := [(6, .int v29), (5, .int v28), (4, .int v22), (0, .ref (B + 0)), (1, .int x1), (2, .int x2), (3, .int x3)]) hx hb dX4_share_117 hl (k := 6) rfl (by rw [ev29]; rfl) (by decide) rfl (fun ls hl => ?_)
          refine lv_goto (tgt := 64) hx hb dX4_share_120 (by decide) ?_
          exact ih _ _ _ _ _ _ _ _ _ hR hS (lv_sub hl [3, 4, 5, 6, 2, 1, 0] rfl) hf
set_option maxRecDepth 100000 in
set_option maxHeartbeats 4000000 in
theorem c_X4_share {σ τ : Mem} {p1 : Int32} {p2 : Int32} {r : Int32}  (hf : f_X4_share σ p1 p2 = some r) : lm_CI l yX4_share wsX4_share rmX4_share D cI cZ cL cR B [.ref (B + 0), .int p1, .int p2] σ τ r σ τ := by
  unfold f_X4_share at hf
  refine lm_of (cc := cX4_share) (maxL := 7) (ret := (some .int)) (own := RX4) (by decide) rfl (Nat.le_of_ble_eq_true rfl) (fun p e s m below meth c0 C0 hR ls hl => ?_)
  have hS : va_S (lm_A B) s.heap s.heap [] := va_S.rf
  have hl : lv_has ls 7 [(0, .ref (B + 0)), (1, .int p1), (2, .int p2)] := hl
  obtain ⟨hx, hb, hml, hr, hlk, hown, hts, hK, hX⟩ := id C0
  refine lv_iload_n hx hb dX4_share_0 rfl (lv_at hl 1 rfl) ?_
  refine lv_aload_n hx hb dX4_share_1 rfl (lv_at hl 0 rfl) ?_
  refine lm_get C0 hR (by decide) cell_0 rfl lw_in_X4 2 (by decide) uw_89 rfl rfl dX4_share_2 ?_
  refine lm_get C0 hR (isL_lt isL_4) (cell_L isL_4) rfl lw_in_X1 7 (by decide) uw_60 rfl rfl dX4_share_5 ?_
  obtain ⟨r2, u1, hf⟩ := lm_bd_e hf
  refine lm_endi (lm_runS C0 hR hS (c_X4_isBelow u1) (lw_cS 2 hts uw_102 mv_X4_isBelow rfl rfl hd_X4_isBelow ⟨Nat.le_of_ble_eq_true rfl, Nat.le_of_ble_eq_true rfl⟩) rfl hl rfl (Nat.le_of_ble_eq_true rfl) dX4_share_8) hS (fun H locs hR hS => ?_)
  refine lv_if_eq (tgt := 25) hx hb dX4_share_11 (by decide) (fun b4 => ?_) (fun b4 => ?_)
  · have hf := lm_T b4 hf
    refine lv_ldc hx hb hown (hts _ uw_105) dX4_share_25 ?_
    exact lm_riP C0 hR hS hf dX4_share_27
  · have hf := lm_F b4 hf
    refine lv_iload_n hx hb dX4_share_14 rfl (lv_at hl 2 rfl) ?_
    refine lv_iconst (v := (0 : Int32)) hx hb dX4_share_15 (by decide) ?_
    refine lv_sipush (v := (999 : Int32)) hx hb dX4_share_16 (by decide) ?_
    obtain ⟨r6, u5, hf⟩ := lm_bd_e hf
    refine lm_endi (lm_runS C0 hR hS (c_X4_isWithin u5) (lw_cS 3 hts uw_230 mv_X4_isWithin rfl rfl hd_X4_isWithin ⟨Nat.le_of_ble_eq_true rfl, Nat.le_of_ble_eq_true rfl⟩) rfl hl rfl (Nat.le_of_ble_eq_true rfl) dX4_share_19) hS (fun H locs hR hS => ?_)
    refine lv_if_ne (tgt := 28) hx hb dX4_share_22 (by decide) (fun b8 => ?_) (fun b8 => ?_)
    · have hf := lm_F b8 hf
      refine lv_aload_n hx hb dX4_share_28 rfl (lv_at hl 0 rfl) ?_
      refine lm_get C0 hR (by decide) cell_0 rfl lw_in_X4 2 (by decide) uw_89 rfl rfl dX4_share_29 ?_
      obtain ⟨r10, u9, hf⟩ := lm_bd_e hf
      refine lm_endi (lm_runV C0 hR hS (c_X1_allThick isL_4 u9) (lw_cV 0 hts uw_367 mv_X1_allThick rfl rfl hd_X1_allThick ⟨Nat.le_of_ble_eq_true rfl, Nat.le_of_ble_eq_true rfl⟩) (isL_lt isL_4) (cell_L isL_4) rfl rfl hl rfl (Nat.le_of_ble_eq_true rfl) dX4_share_32) hS (fun H locs hR hS => ?_)
      refine lv_istore_n (lv' := [(3, .int r10), (0, .ref (B + 0)), (1, .int p1), (2, .int p2)]) hx hb dX4_share_35 rfl hl (by decide) rfl (fun ls hl => ?_)
      refine lv_iload_n hx hb dX4_share_36 rfl (lv_at hl 0 rfl) ?_
      refine lv_iconst (v := (1 : Int32)) hx hb dX4_share_37 (by decide) ?_
      refine lv_icmp_lt (tgt := 53) hx hb dX4_share_38 (by decide) (fun b12 => ?_) (fun b12 => ?_)
      · have hf := lm_T b12 hf
        refine lv_iconst (v := (0 : Int32)) hx hb dX4_share_53 (by decide) ?_
        exact lm_riP C0 hR hS hf dX4_share_54
      · have hf := lm_F b12 hf
        refine lv_aload_n hx hb dX4_share_41 rfl (lv_at hl 1 rfl) ?_
        refine lm_get C0 hR (by decide) cell_0 rfl lw_in_X4 2 (by decide) uw_89 rfl rfl dX4_share_42 ?_
        refine lm_get C0 hR (isL_lt isL_4) (cell_L isL_4) rfl lw_in_X1 0 (by decide) uw_40 rfl rfl dX4_share_45 ?_
        refine lv_iload_n hx hb dX4_share_48 rfl (lv_at hl 2 rfl) ?_
        obtain ⟨z13, hf⟩ := lm_ck_e hf
        refine lm_ild C0 hR (isL_lt1 isL_4) (cell_L1 isL_4) z13 dX4_share_49 ?_
        refine lv_if_ne (tgt := 55) hx hb dX4_share_50 (by decide) (fun b14 => ?_) (fun b14 => ?_)
        · have hf := lm_F b14 hf
          refine lv_iload_n hx hb dX4_share_55 rfl (lv_at hl 3 rfl) ?_
          refine lv_istore (lv' := [(4, .int p2), (3, .int r10), (0, .ref (B + 0)), (1, .int p1), (2, .int p2)]) hx hb dX4_share_56 hl (by decide) rfl (fun ls hl => ?_)
          refine lv_iconst (v := (0 : Int32)) hx hb dX4_share_58 (by decide) ?_
          refine lv_istore (lv' := [(5, .int (0 : Int32)), (4, .int p2), (3, .int r10), (0, .ref (B + 0)), (1, .int p1), (2, .int p2)]) hx hb dX4_share_59 hl (by decide) rfl (fun ls hl => ?_)
          refine lv_iconst (v := (0 : Int32)) hx hb dX4_share_61 (by decide) ?_
          refine lv_istore (lv' := [(6, .int (0 : Int32)), (5, .int (0 : Int32)), (4, .int p2), (3, .int r10), (0, .ref (B + 0)), (1, .int p1), (2, .int p2)]) hx hb dX4_share_62 hl (by decide) rfl (fun ls hl => ?_)
          exact w_X4_share_64 C0 _ _ _ _ _ _ _ _ _ _ hR hS (lv_sub hl [4, 5, 6, 3, 2, 1, 0] rfl) hf
        · have hf := lm_T b14 hf
          refine lv_iconst (v := (0 : Int32)) hx hb dX4_share_53 (by decide) ?_
          exact lm_riP C0 hR hS hf dX4_share_54
    · have hf := lm_T b8 hf
      refine lv_ldc hx hb hown (hts _ uw_105) dX4_share_25 ?_
      exact lm_riP C0 hR hS hf dX4_share_27
end
/-! ===== X4_balanceBehind ===== -/
abbrev rmX4_balanceBehind : Room := { frames := 5, cells := 0, slots := 0, locals := 147 }
def f_X4_balanceBehind (σ : Mem) (p1 : Int32) : Option (Int32 × Mem) := lm_bd (f_X1_takeFrom 8 12 σ) fun σ3 => lm_bd (f_X1_passWatches 8 σ3 p1) fun σ6 => lm_bd (f_X1_shipsSeen 8 σ6 (1 : Int32)) fun r8 => lm_bd (f_J6_bitCount_0f7a4 r8) fun r11 => lm_bd (f_X1_shipsSeen 8 σ6 (0 : Int32)) fun r14 => lm_bd (f_J6_bitCount_0f7a4 r14) fun r17 => some ((r11 - r17), σ6)
abbrev wsX4_balanceBehind : List Cond := Cond.code yX4_balanceBehind cX4_balanceBehind 2 (some .int) :: lw_u
theorem mv_X4_balanceBehind : Cond.instanceMethod yX4_balanceBehind ∈ lw_u ∧ Cond.selects yX4_balanceBehind.cls yX4_balanceBehind yX4_balanceBehind ∈ lw_u ∧ Cond.initialized yX4_balanceBehind.cls ∈ lw_u ∧ Cond.code yX4_balanceBehind cX4_balanceBehind 2 (some .int) ∈ lw_u := ⟨uw_379, uw_859, uw_1, uw_380⟩
theorem hd_X4_balanceBehind : yX4_balanceBehind.cls ≠ "java/lang/invoke/MethodHandle" ∧ yX4_balanceBehind.cls ≠ "java/lang/invoke/VarHandle" ∧ (parseMethodDescriptor yX4_balanceBehind.desc).map (fun d => d.parameters.length) = some 1 := by decide +kernel
section
variable {l : Launch} {D : va_G} {cI cZ cL cR : ClassId} {B : Nat}
set_option maxRecDepth 100000 in
set_option maxHeartbeats 4000000 in
theorem c_X4_balanceBehind {σ τ σ' : Mem} {p1 : Int32} {r : Int32}  (hf : f_X4_balanceBehind σ p1 = some (r, σ')) : lm_CI l yX4_balanceBehind wsX4_balanceBehind rmX4_balanceBehind D cI cZ cL cR B [.ref (B + 0), .int p1] σ τ r σ' τ := by
  unfold f_X4_balanceBehind at hf
  refine lm_of (cc := cX4_balanceBehind) (maxL := 2) (ret := (some .int)) (own := RX4) (by decide) rfl (Nat.le_of_ble_eq_true rfl) (fun p e s m below meth c0 C0 hR ls hl => ?_)
  have hS : va_S (lm_A B) s.heap s.heap [] := va_S.rf
  have hl : lv_has ls 2 [(0, .ref (B + 0)), (1, .int p1)] := hl
  obtain ⟨hx, hb, hml, hr, hlk, hown, hts, hK, hX⟩ := id C0
  refine lv_aload_n hx hb dX4_balanceBehind_0 rfl (lv_at hl 0 rfl) ?_
  refine lm_get C0 hR (by decide) cell_0 rfl lw_in_X4 3 (by decide) uw_90 rfl rfl dX4_balanceBehind_1 ?_
  refine lv_aload_n hx hb dX4_balanceBehind_4 rfl (lv_at hl 0 rfl) ?_
  refine lm_get C0 hR (by decide) cell_0 rfl lw_in_X4 4 (by decide) uw_91 rfl rfl dX4_balanceBehind_5 ?_
  obtain ⟨σ3, u1, hf⟩ := lm_bd_e hf
  refine lm_endv (lm_runV C0 hR hS (c_X1_takeFrom isL_8 isL_12 u1) (lw_cV 1 hts uw_193 mv_X1_takeFrom rfl rfl hd_X1_takeFrom ⟨Nat.le_of_ble_eq_true rfl, Nat.le_of_ble_eq_true rfl⟩) (isL_lt isL_8) (cell_L isL_8) rfl rfl hl rfl (Nat.le_of_ble_eq_true rfl) dX4_balanceBehind_8) hS (fun H locs hR hS => ?_)
  refine lv_aload_n hx hb dX4_balanceBehind_11 rfl (lv_at hl 0 rfl) ?_
  refine lm_get C0 hR (by decide) cell_0 rfl lw_in_X4 3 (by decide) uw_90 rfl rfl dX4_balanceBehind_12 ?_
  refine lv_iload_n hx hb dX4_balanceBehind_15 rfl (lv_at hl 1 rfl) ?_
  obtain ⟨σ6, u4, hf⟩ := lm_bd_e hf
  refine lm_endv (lm_runV C0 hR hS (c_X1_passWatches isL_8 u4) (lw_cV 1 hts uw_315 mv_X1_passWatches rfl rfl hd_X1_passWatches ⟨Nat.le_of_ble_eq_true rfl, Nat.le_of_ble_eq_true rfl⟩) (isL_lt isL_8) (cell_L isL_8) rfl rfl hl rfl (Nat.le_of_ble_eq_true rfl) dX4_balanceBehind_16) hS (fun H locs hR hS => ?_)
  refine lv_aload_n hx hb dX4_balanceBehind_19 rfl (lv_at hl 0 rfl) ?_
  refine lm_get C0 hR (by decide) cell_0 rfl lw_in_X4 3 (by decide) uw_90 rfl rfl dX4_balanceBehind_20 ?_
  refine lv_iconst (v := (1 : Int32)) hx hb dX4_balanceBehind_23 (by decide) ?_
  obtain ⟨r8, u7, hf⟩ := lm_bd_e hf
  refine lm_endi (lm_runV C0 hR hS (c_X1_shipsSeen isL_8 u7) (lw_cV 1 hts uw_260 mv_X1_shipsSeen rfl rfl hd_X1_shipsSeen ⟨Nat.le_of_ble_eq_true rfl, Nat.le_of_ble_eq_true rfl⟩) (isL_lt isL_8) (cell_L isL_8) rfl rfl hl rfl (Nat.le_of_ble_eq_true rfl) dX4_balanceBehind_24) hS (fun H locs hR hS => ?_)
  obtain ⟨r11, u10, hf⟩ := lm_bd_e hf
  refine lm_endi (lm_runS C0 hR hS (c_J6_bitCount_0f7a4 u10) (lw_cS 1 hts uw_353 mv_J6_bitCount_0f7a4 rfl rfl hd_J6_bitCount_0f7a4 ⟨Nat.le_of_ble_eq_true rfl, Nat.le_of_ble_eq_true rfl⟩) rfl hl rfl (Nat.le_of_ble_eq_true rfl) dX4_balanceBehind_27) hS (fun H locs hR hS => ?_)
  refine lv_aload_n hx hb dX4_balanceBehind_30 rfl (lv_at hl 0 rfl) ?_
  refine lm_get C0 hR (by decide) cell_0 rfl lw_in_X4 3 (by decide) uw_90 rfl rfl dX4_balanceBehind_31 ?_
  refine lv_iconst (v := (0 : Int32)) hx hb dX4_balanceBehind_34 (by decide) ?_
  obtain ⟨r14, u13, hf⟩ := lm_bd_e hf
  refine lm_endi (lm_runV C0 hR hS (c_X1_shipsSeen isL_8 u13) (lw_cV 1 hts uw_260 mv_X1_shipsSeen rfl rfl hd_X1_shipsSeen ⟨Nat.le_of_ble_eq_true rfl, Nat.le_of_ble_eq_true rfl⟩) (isL_lt isL_8) (cell_L isL_8) rfl rfl hl rfl (Nat.le_of_ble_eq_true rfl) dX4_balanceBehind_35) hS (fun H locs hR hS => ?_)
  obtain ⟨r17, u16, hf⟩ := lm_bd_e hf
  refine lm_endi (lm_runS C0 hR hS (c_J6_bitCount_0f7a4 u16) (lw_cS 1 hts uw_353 mv_J6_bitCount_0f7a4 rfl rfl hd_J6_bitCount_0f7a4 ⟨Nat.le_of_ble_eq_true rfl, Nat.le_of_ble_eq_true rfl⟩) rfl hl rfl (Nat.le_of_ble_eq_true rfl) dX4_balanceBehind_38) hS (fun H locs hR hS => ?_)
  refine lv_isub hx hb dX4_balanceBehind_41 ?_
  exact lm_riC C0 hR hS hf dX4_balanceBehind_42
end
/-! ===== X4_bestTurn ===== -/
def rmX4_bestTurn (d : Nat) : Room := { frames := 6 + 2 * d, cells := 0, slots := 0, locals := 168 + 120 * d }
def f_X4_bestTurn_90 (fb : Mem → Int32 → Int32 → Int32 → Option (Int32 × Mem)) (x2 : Int32) (x3 : Int32) (x4 : Int32) (x5 : Int32) (x6 : Int32) (y0 : Int32) (y1 : Int32) (σ : Mem) : Option (Int32 × Mem) := lm_bd2 (fb σ y1 y0 x3) fun r18 σ19 => lm_nm (up σ19 12 5 x5) fun σ20 => lm_nm (up σ20 12 4 x6) fun σ21 => if x2 = 0 then (some ((if r18 < x4 then r18 else x4), σ21)) else (some ((if x4 < r18 then r18 else x4), σ21))
def f_X4_bestTurn_77 (fb : Mem → Int32 → Int32 → Int32 → Option (Int32 × Mem)) (x1 : Int32) (x2 : Int32) (x3 : Int32) (x4 : Int32) (x5 : Int32) (x6 : Int32) (σ : Mem) : Option (Int32 × Mem) := if x2 = 0 then (f_X4_bestTurn_90 fb x2 x3 x4 x5 x6 (1 : Int32) (x1 - (1 : Int32)) σ) else (f_X4_bestTurn_90 fb x2 x3 x4 x5 x6 (0 : Int32) (x1 - (1 : Int32)) σ)
def f_X4_bestTurn_23 (fb : Mem → Int32 → Int32 → Int32 → Option (Int32 × Mem)) (x1 : Int32) (x2 : Int32) (x3 : Int32) (y0 : Int32) (y1 : Int32) (σ : Mem) : Option (Int32 × Mem) := lm_bd2 (fb σ y1 y0 x3) fun r7 σ8 => lm_nm (σ8 12 5) fun v9 => lm_nm (σ8 12 4) fun v10 => if x2 = 0 then (lm_nm (up σ8 12 4 (if (0 : Int32) < (v10 - (1 : Int32)) then (v10 - (1 : Int32)) else (0 : Int32))) fun σ12 => f_X4_bestTurn_77 fb x1 x2 x3 r7 v9 v10 σ12) else (lm_bd (f_X1_addOil 12 σ8 (5 : Int32)) fun σ15 => f_X4_bestTurn_77 fb x1 x2 x3 r7 v9 v10 σ15)
def f_X4_bestTurn_of (fb : Mem → Int32 → Int32 → Int32 → Option (Int32 × Mem)) (σ : Mem) (p1 : Int32) (p2 : Int32) (p3 : Int32) : Option (Int32 × Mem) := if 0 < p1 then (if p2 = 0 then (f_X4_bestTurn_23 fb p1 p2 p3 (1 : Int32) (p1 - (1 : Int32)) σ) else (f_X4_bestTurn_23 fb p1 p2 p3 (0 : Int32) (p1 - (1 : Int32)) σ)) else (lm_bd2 (f_X4_balanceBehind σ p3) fun r4 σ5 => some (r4, σ5))
def f_X4_bestTurn : Nat → Mem → Int32 → Int32 → Int32 → Option (Int32 × Mem)
  | 0, _, _, _, _ => none
  | d + 1, m, a, b, c => f_X4_bestTurn_of (f_X4_bestTurn d) m a b c
abbrev wsX4_bestTurn : List Cond := Cond.code yX4_bestTurn cX4_bestTurn 8 (some .int) :: lw_u
theorem mv_X4_bestTurn : Cond.instanceMethod yX4_bestTurn ∈ lw_u ∧ Cond.selects yX4_bestTurn.cls yX4_bestTurn yX4_bestTurn ∈ lw_u ∧ Cond.initialized yX4_bestTurn.cls ∈ lw_u ∧ Cond.code yX4_bestTurn cX4_bestTurn 8 (some .int) ∈ lw_u := ⟨uw_376, uw_858, uw_1, uw_377⟩
theorem hd_X4_bestTurn : yX4_bestTurn.cls ≠ "java/lang/invoke/MethodHandle" ∧ yX4_bestTurn.cls ≠ "java/lang/invoke/VarHandle" ∧ (parseMethodDescriptor yX4_bestTurn.desc).map (fun d => d.parameters.length) = some 3 := by decide +kernel
section
variable {l : Launch} {D : va_G} {cI cZ cL cR : ClassId} {B : Nat}
set_option maxRecDepth 100000 in
set_option maxHeartbeats 4000000 in
theorem w_X4_bestTurn_90 {d : Nat} {fb : Mem → Int32 → Int32 → Int32 → Option (Int32 × Mem)} (hB : ∀ {σ σ' τ : Mem} {p1 p2 p3 r : Int32}, fb σ p1 p2 p3 = some (r, σ') → lm_CI l yX4_bestTurn wsX4_bestTurn (rmX4_bestTurn d) D cI cZ cL cR B [.ref (B + 0), .int p1, .int p2, .int p3] σ τ r σ' τ) {p : Program} {e : Env} {s : State} {m : MethodId} {args : Array Value} {below : List Frame} {meth : Method} {c0 : Code} {τ σ' : Mem} {r : Int32} (C0 : lm_Cx D cI cZ cL cR B p s m args meth c0 cX4_bestTurn 8 (some .int) RX4) : ∀ (x2 : Int32) (x3 : Int32) (x4 : Int32) (x5 : Int32) (x6 : Int32) (y0 : Int32) (y1 : Int32) (σ : Mem) (H : Heap) (locs : List Loc) (ls : Array Slot), va_P D vwCl (wl cI cZ cL cR B σ τ) H → va_S (lm_A B) s.heap H locs → lv_has ls 8 [(0, .ref (B + 0)), (2, .int x2), (3, .int x3), (4, .int x4), (5, .int x5), (6, .int x6)] → f_X4_bestTurn_90 fb x2 x3 x4 x5 x6 y0 y1 σ = some (r, σ') → W p l e (rmX4_bestTurn (d + 1)) s m args below meth c0 H locs 0 0 (MQ below (lm_QI D cI cZ cL cR B r σ' τ) args s 0 0 (lm_A B)) (F0 m 90 ls [.int y0, .int y1, .ref (B + 0)]) := by
  obtain ⟨hx, hb, hml, hr, hlk, hown, hts, hK, hX⟩ := id C0
  intro x2 x3 x4 x5 x6 y0 y1 σ H locs ls hR hS hl hf
  unfold f_X4_bestTurn_90 at hf
  refine lv_iload_n hx hb dX4_bestTurn_90 rfl (lv_at hl 2 rfl) ?_
  obtain ⟨r18, σ19, u17, hf⟩ := lm_bd2_e hf
  refine lm_endi (lm_runV C0 hR hS (hB u17) (lw_cV 3 hts uw_375 mv_X4_bestTurn rfl rfl hd_X4_bestTurn ⟨(by simp only [rmX4_bestTurn, rmX4_bestTurn]; omega), (by simp only [rmX4_bestTurn, rmX4_bestTurn]; omega)⟩) (by decide) cell_0 rfl rfl hl rfl (Nat.le_of_ble_eq_true rfl) dX4_bestTurn_91) hS (fun H locs hR hS => ?_)
  refine lv_istore (lv' := [(7, .int r18), (0, .ref (B + 0)), (2, .int x2), (3, .int x3), (4, .int x4), (5, .int x5), (6, .int x6)]) hx hb dX4_bestTurn_94 hl (by decide) rfl (fun ls hl => ?_)
  refine lv_aload_n hx hb dX4_bestTurn_96 rfl (lv_at hl 1 rfl) ?_
  refine lm_get C0 hR (by decide) cell_0 rfl lw_in_X4 4 (by decide) uw_91 rfl rfl dX4_bestTurn_97 ?_
  refine lv_iload hx hb dX4_bestTurn_100 (lv_at hl 5 rfl) ?_
  obtain ⟨σ20, eσ20, hf⟩ := lm_nm_e hf
  refine lm_putC C0 hR hS (isL_lt isL_12) (cell_L isL_12) rfl lw_in_X1 tyX1 tyX1_ok nmX1 5 (by decide) uw_55 rfl rfl rfl rfl rfl (Nat.le_of_ble_eq_true rfl) eσ20 (cell_Lu isL_12) dX4_bestTurn_102 (fun H locs hR hS => ?_)
  refine lv_aload_n hx hb dX4_bestTurn_105 rfl (lv_at hl 1 rfl) ?_
  refine lm_get C0 hR (by decide) cell_0 rfl lw_in_X4 4 (by decide) uw_91 rfl rfl dX4_bestTurn_106 ?_
  refine lv_iload hx hb dX4_bestTurn_109 (lv_at hl 6 rfl) ?_
  obtain ⟨σ21, eσ21, hf⟩ := lm_nm_e hf
  refine lm_putC C0 hR hS (isL_lt isL_12) (cell_L isL_12) rfl lw_in_X1 tyX1 tyX1_ok nmX1 4 (by decide) uw_52 rfl rfl rfl rfl rfl (Nat.le_of_ble_eq_true rfl) eσ21 (cell_Lu isL_12) dX4_bestTurn_111 (fun H locs hR hS => ?_)
  refine lv_iload_n hx hb dX4_bestTurn_114 rfl (lv_at hl 2 rfl) ?_
  refine lv_if_eq (tgt := 128) hx hb dX4_bestTurn_115 (by decide) (fun b22 => ?_) (fun b22 => ?_)
  · have hf := lm_T b22 hf
    refine lv_iload hx hb dX4_bestTurn_128 (lv_at hl 4 rfl) ?_
    refine lv_iload hx hb dX4_bestTurn_130 (lv_at hl 0 rfl) ?_
    refine va_mmin hx hb (hml.trans hl.1.symm) hown (hts _ uw_382) (hts _ uw_236) (hts _ uw_8) (hts _ uw_237) (Nat.le_of_ble_eq_true rfl) (Nat.le_of_ble_eq_true rfl) (Nat.zero_le _) (Nat.zero_le _) dX4_bestTurn_132 ?_
    exact lm_riC C0 hR hS hf dX4_bestTurn_135
  · have hf := lm_F b22 hf
    refine lv_iload hx hb dX4_bestTurn_118 (lv_at hl 4 rfl) ?_
    refine lv_iload hx hb dX4_bestTurn_120 (lv_at hl 0 rfl) ?_
    refine va_mmax hx hb (hml.trans hl.1.symm) hown (hts _ uw_381) (hts _ uw_250) (hts _ uw_8) (hts _ uw_251) (Nat.le_of_ble_eq_true rfl) (Nat.le_of_ble_eq_true rfl) (Nat.zero_le _) (Nat.zero_le _) dX4_bestTurn_122 ?_
    refine lv_goto (tgt := 135) hx hb dX4_bestTurn_125 (by decide) ?_
    exact lm_riC C0 hR hS hf dX4_bestTurn_135
set_option maxRecDepth 100000 in
set_option maxHeartbeats 4000000 in
theorem w_X4_bestTurn_77 {d : Nat} {fb : Mem → Int32 → Int32 → Int32 → Option (Int32 × Mem)} (hB : ∀ {σ σ' τ : Mem} {p1 p2 p3 r : Int32}, fb σ p1 p2 p3 = some (r, σ') → lm_CI l yX4_bestTurn wsX4_bestTurn (rmX4_bestTurn d) D cI cZ cL cR B [.ref (B + 0), .int p1, .int p2, .int p3] σ τ r σ' τ) {p : Program} {e : Env} {s : State} {m : MethodId} {args : Array Value} {below : List Frame} {meth : Method} {c0 : Code} {τ σ' : Mem} {r : Int32} (C0 : lm_Cx D cI cZ cL cR B p s m args meth c0 cX4_bestTurn 8 (some .int) RX4) : ∀ (x1 : Int32) (x2 : Int32) (x3 : Int32) (x4 : Int32) (x5 : Int32) (x6 : Int32) (σ : Mem) (H : Heap) (locs : List Loc) (ls : Array Slot), va_P D vwCl (wl cI cZ cL cR B σ τ) H → va_S (lm_A B) s.heap H locs → lv_has ls 8 [(0, .ref (B + 0)), (1, .int x1), (2, .int x2), (3, .int x3), (4, .int x4), (5, .int x5), (6, .int x6)] → f_X4_bestTurn_77 fb x1 x2 x3 x4 x5 x6 σ = some (r, σ') → W p l e (rmX4_bestTurn (d + 1)) s m args below meth c0 H locs 0 0 (MQ below (lm_QI D cI cZ cL cR B r σ' τ) args s 0 0 (lm_A B)) (F0 m 77 ls []) := by
  obtain ⟨hx, hb, hml, hr, hlk, hown, hts, hK, hX⟩ := id C0
  intro x1 x2 x3 x4 x5 x6 σ H locs ls hR hS hl hf
  unfold f_X4_bestTurn_77 at hf
  refine lv_aload_n hx hb dX4_bestTurn_77 rfl (lv_at hl 0 rfl) ?_
  refine lv_iload_n hx hb dX4_bestTurn_78 rfl (lv_at hl 1 rfl) ?_
  refine lv_iconst (v := (1 : Int32)) hx hb dX4_bestTurn_79 (by decide) ?_
  refine lv_isub hx hb dX4_bestTurn_80 ?_
  refine lv_iload_n hx hb dX4_bestTurn_81 rfl (lv_at hl 2 rfl) ?_
  refine lv_if_ne (tgt := 89) hx hb dX4_bestTurn_82 (by decide) (fun b16 => ?_) (fun b16 => ?_)
  · have hf := lm_F b16 hf
    refine lv_iconst (v := (0 : Int32)) hx hb dX4_bestTurn_89 (by decide) ?_
    exact w_X4_bestTurn_90 hB C0 _ _ _ _ _ _ _ _ _ _ _ hR hS (lv_sub hl [0, 2, 3, 4, 5, 6] rfl) hf
  · have hf := lm_T b16 hf
    refine lv_iconst (v := (1 : Int32)) hx hb dX4_bestTurn_85 (by decide) ?_
    refine lv_goto (tgt := 90) hx hb dX4_bestTurn_86 (by decide) ?_
    exact w_X4_bestTurn_90 hB C0 _ _ _ _ _ _ _ _ _ _ _ hR hS (lv_sub hl [0, 2, 3, 4, 5, 6] rfl) hf
set_option maxRecDepth 100000 in
set_option maxHeartbeats 4000000 in
theorem w_X4_bestTurn_23 {d : Nat} {fb : Mem → Int32 → Int32 → Int32 → Option (Int32 × Mem)} (hB : ∀ {σ σ' τ : Mem} {p1 p2 p3 r : Int32}, fb σ p1 p2 p3 = some (r, σ') → lm_CI l yX4_bestTurn wsX4_bestTurn (rmX4_bestTurn d) D cI cZ cL cR B [.ref (B + 0), .int p1, .int p2, .int p3] σ τ r σ' τ) {p : Program} {e : Env} {s : State} {m : MethodId} {args : Array Value} {below : List Frame} {meth : Method} {c0 : Code} {τ σ' : Mem} {r : Int32} (C0 : lm_Cx D cI cZ cL cR B p s m args meth c0 cX4_bestTurn 8 (some .int) RX4) : ∀ (x1 : Int32) (x2 : Int32) (x3 : Int32) (y0 : Int32) (y1 : Int32) (σ : Mem) (H : Heap) (locs : List Loc) (ls : Array Slot), va_P D vwCl (wl cI cZ cL cR B σ τ) H → va_S (lm_A B) s.heap H locs → lv_has ls 8 [(0, .ref (B + 0)), (1, .int x1), (2, .int x2), (3, .int x3)] → f_X4_bestTurn_23 fb x1 x2 x3 y0 y1 σ = some (r, σ') → W p l e (rmX4_bestTurn (d + 1)) s m args below meth c0 H locs 0 0 (MQ below (lm_QI D cI cZ cL cR B r σ' τ) args s 0 0 (lm_A B)) (F0 m 23 ls [.int y0, .int y1, .ref (B + 0)]) := by
  obtain ⟨hx, hb, hml, hr, hlk, hown, hts, hK, hX⟩ := id C0
  intro x1 x2 x3 y0 y1 σ H locs ls hR hS hl hf
  unfold f_X4_bestTurn_23 at hf
  refine lv_iload_n hx hb dX4_bestTurn_23 rfl (lv_at hl 3 rfl) ?_
  obtain ⟨r7, σ8, u6, hf⟩ := lm_bd2_e hf
  refine lm_endi (lm_runV C0 hR hS (hB u6) (lw_cV 3 hts uw_375 mv_X4_bestTurn rfl rfl hd_X4_bestTurn ⟨(by simp only [rmX4_bestTurn, rmX4_bestTurn]; omega), (by simp only [rmX4_bestTurn, rmX4_bestTurn]; omega)⟩) (by decide) cell_0 rfl rfl hl rfl (Nat.le_of_ble_eq_true rfl) dX4_bestTurn_24) hS (fun H locs hR hS => ?_)
  refine lv_istore (lv' := [(4, .int r7), (0, .ref (B + 0)), (1, .int x1), (2, .int x2), (3, .int x3)]) hx hb dX4_bestTurn_27 hl (by decide) rfl (fun ls hl => ?_)
  refine lv_aload_n hx hb dX4_bestTurn_29 rfl (lv_at hl 1 rfl) ?_
  refine lm_get C0 hR (by decide) cell_0 rfl lw_in_X4 4 (by decide) uw_91 rfl rfl dX4_bestTurn_30 ?_
  refine lm_get C0 hR (isL_lt isL_12) (cell_L isL_12) rfl lw_in_X1 5 (by decide) uw_55 rfl rfl dX4_bestTurn_33 ?_
  obtain ⟨v9, ev9, hf⟩ := lm_nm_e hf
  refine lm_topi ev9 ?_
  refine lv_istore (lv' := [(5, .int v9), (4, .int r7), (0, .ref (B + 0)), (1, .int x1), (2, .int x2), (3, .int x3)]) hx hb dX4_bestTurn_36 hl (by decide) rfl (fun ls hl => ?_)
  refine lv_aload_n hx hb dX4_bestTurn_38 rfl (lv_at hl 2 rfl) ?_
  refine lm_get C0 hR (by decide) cell_0 rfl lw_in_X4 4 (by decide) uw_91 rfl rfl dX4_bestTurn_39 ?_
  refine lm_get C0 hR (isL_lt isL_12) (cell_L isL_12) rfl lw_in_X1 4 (by decide) uw_52 rfl rfl dX4_bestTurn_42 ?_
  obtain ⟨v10, ev10, hf⟩ := lm_nm_e hf
  refine lm_topi ev10 ?_
  refine lv_istore (lv' := [(6, .int v10), (5, .int v9), (4, .int r7), (0, .ref (B + 0)), (1, .int x1), (2, .int x2), (3, .int x3)]) hx hb dX4_bestTurn_45 hl (by decide) rfl (fun ls hl => ?_)
  refine lv_iload_n hx hb dX4_bestTurn_47 rfl (lv_at hl 5 rfl) ?_
  refine lv_if_eq (tgt := 62) hx hb dX4_bestTurn_48 (by decide) (fun b11 => ?_) (fun b11 => ?_)
  · have hf := lm_T b11 hf
    refine lv_aload_n hx hb dX4_bestTurn_62 rfl (lv_at hl 3 rfl) ?_
    refine lm_get C0 hR (by decide) cell_0 rfl lw_in_X4 4 (by decide) uw_91 rfl rfl dX4_bestTurn_63 ?_
    refine lv_iconst (v := (0 : Int32)) hx hb dX4_bestTurn_66 (by decide) ?_
    refine lv_iload hx hb dX4_bestTurn_67 (lv_at hl 0 rfl) ?_
    refine lv_iconst (v := (1 : Int32)) hx hb dX4_bestTurn_69 (by decide) ?_
    refine lv_isub hx hb dX4_bestTurn_70 ?_
    refine va_mmax hx hb (hml.trans hl.1.symm) hown (hts _ uw_381) (hts _ uw_250) (hts _ uw_8) (hts _ uw_251) (Nat.le_of_ble_eq_true rfl) (Nat.le_of_ble_eq_true rfl) (Nat.zero_le _) (Nat.zero_le _) dX4_bestTurn_71 ?_
    obtain ⟨σ12, eσ12, hf⟩ := lm_nm_e hf
    refine lm_putC C0 hR hS (isL_lt isL_12) (cell_L isL_12) rfl lw_in_X1 tyX1 tyX1_ok nmX1 4 (by decide) uw_52 rfl rfl rfl rfl rfl (Nat.le_of_ble_eq_true rfl) eσ12 (cell_Lu isL_12) dX4_bestTurn_74 (fun H locs hR hS => ?_)
    exact w_X4_bestTurn_77 hB C0 _ _ _ _ _ _ _ _ _ _ hR hS (lv_sub hl [3, 4, 5, 6, 2, 1, 0] rfl) hf
  · have hf := lm_F b11 hf
    refine lv_aload_n hx hb dX4_bestTurn_51 rfl (lv_at hl 3 rfl) ?_
    refine lm_get C0 hR (by decide) cell_0 rfl lw_in_X4 4 (by decide) uw_91 rfl rfl dX4_bestTurn_52 ?_
    refine lv_iconst (v := (5 : Int32)) hx hb dX4_bestTurn_55 (by decide) ?_
    obtain ⟨σ15, u13, hf⟩ := lm_bd_e hf
    refine lm_endv (lm_runV C0 hR hS (c_X1_addOil isL_12 u13) (lw_cV 1 hts uw_276 mv_X1_addOil rfl rfl hd_X1_addOil ⟨(by simp only [rmX4_bestTurn, rmX1_addOil]; omega), (by simp only [rmX4_bestTurn, rmX1_addOil]; omega)⟩) (isL_lt isL_12) (cell_L isL_12) rfl rfl hl rfl (Nat.le_of_ble_eq_true rfl) dX4_bestTurn_56) hS (fun H locs hR hS => ?_)
    refine lv_goto (tgt := 77) hx hb dX4_bestTurn_59 (by decide) ?_
    exact w_X4_bestTurn_77 hB C0 _ _ _ _ _ _ _ _ _ _ hR hS (lv_sub hl [3, 4, 5, 6, 2, 1, 0] rfl) hf
set_option maxRecDepth 100000 in
set_option maxHeartbeats 4000000 in
theorem c_X4_bestTurn_of {d : Nat} {fb : Mem → Int32 → Int32 → Int32 → Option (Int32 × Mem)} (hB : ∀ {σ σ' τ : Mem} {p1 p2 p3 r : Int32}, fb σ p1 p2 p3 = some (r, σ') → lm_CI l yX4_bestTurn wsX4_bestTurn (rmX4_bestTurn d) D cI cZ cL cR B [.ref (B + 0), .int p1, .int p2, .int p3] σ τ r σ' τ) {σ τ σ' : Mem} {p1 : Int32} {p2 : Int32} {p3 : Int32} {r : Int32}  (hf : f_X4_bestTurn_of fb σ p1 p2 p3 = some (r, σ')) : lm_CI l yX4_bestTurn wsX4_bestTurn (rmX4_bestTurn (d + 1)) D cI cZ cL cR B [.ref (B + 0), .int p1, .int p2, .int p3] σ τ r σ' τ := by
  unfold f_X4_bestTurn_of at hf
  refine lm_of (cc := cX4_bestTurn) (maxL := 8) (ret := (some .int)) (own := RX4) (by decide) rfl (Nat.le_of_ble_eq_true rfl) (fun p e s m below meth c0 C0 hR ls hl => ?_)
  have hS : va_S (lm_A B) s.heap s.heap [] := va_S.rf
  have hl : lv_has ls 8 [(0, .ref (B + 0)), (1, .int p1), (2, .int p2), (3, .int p3)] := hl
  obtain ⟨hx, hb, hml, hr, hlk, hown, hts, hK, hX⟩ := id C0
  refine lv_iload_n hx hb dX4_bestTurn_0 rfl (lv_at hl 1 rfl) ?_
  refine lv_if_gt (tgt := 10) hx hb dX4_bestTurn_1 (by decide) (fun b1 => ?_) (fun b1 => ?_)
  · have hf := lm_T b1 hf
    refine lv_aload_n hx hb dX4_bestTurn_10 rfl (lv_at hl 0 rfl) ?_
    refine lv_iload_n hx hb dX4_bestTurn_11 rfl (lv_at hl 1 rfl) ?_
    refine lv_iconst (v := (1 : Int32)) hx hb dX4_bestTurn_12 (by decide) ?_
    refine lv_isub hx hb dX4_bestTurn_13 ?_
    refine lv_iload_n hx hb dX4_bestTurn_14 rfl (lv_at hl 2 rfl) ?_
    refine lv_if_ne (tgt := 22) hx hb dX4_bestTurn_15 (by decide) (fun b2 => ?_) (fun b2 => ?_)
    · have hf := lm_F b2 hf
      refine lv_iconst (v := (0 : Int32)) hx hb dX4_bestTurn_22 (by decide) ?_
      exact w_X4_bestTurn_23 hB C0 _ _ _ _ _ _ _ _ _ hR hS (lv_sub hl [0, 1, 2, 3] rfl) hf
    · have hf := lm_T b2 hf
      refine lv_iconst (v := (1 : Int32)) hx hb dX4_bestTurn_18 (by decide) ?_
      refine lv_goto (tgt := 23) hx hb dX4_bestTurn_19 (by decide) ?_
      exact w_X4_bestTurn_23 hB C0 _ _ _ _ _ _ _ _ _ hR hS (lv_sub hl [0, 1, 2, 3] rfl) hf
  · have hf := lm_F b1 hf
    refine lv_aload_n hx hb dX4_bestTurn_4 rfl (lv_at hl 0 rfl) ?_
    refine lv_iload_n hx hb dX4_bestTurn_5 rfl (lv_at hl 3 rfl) ?_
    obtain ⟨r4, σ5, u3, hf⟩ := lm_bd2_e hf
    refine lm_endi (lm_runV C0 hR hS (c_X4_balanceBehind u3) (lw_cV 1 hts uw_378 mv_X4_balanceBehind rfl rfl hd_X4_balanceBehind ⟨(by simp only [rmX4_bestTurn, rmX4_balanceBehind]; omega), (by simp only [rmX4_bestTurn, rmX4_balanceBehind]; omega)⟩) (by decide) cell_0 rfl rfl hl rfl (Nat.le_of_ble_eq_true rfl) dX4_bestTurn_6) hS (fun H locs hR hS => ?_)
    exact lm_riC C0 hR hS hf dX4_bestTurn_9
theorem c_X4_bestTurn : ∀ (d : Nat) {σ σ' τ : Mem} {p1 p2 p3 r : Int32}, f_X4_bestTurn d σ p1 p2 p3 = some (r, σ') → lm_CI l yX4_bestTurn wsX4_bestTurn (rmX4_bestTurn d) D cI cZ cL cR B [.ref (B + 0), .int p1, .int p2, .int p3] σ τ r σ' τ := by
  intro d
  induction d with
  | zero =>
    intro σ σ' τ p1 p2 p3 r hf
    cases hf
  | succ d ih =>
    intro σ σ' τ p1 p2 p3 r hf
    exact c_X4_bestTurn_of (d := d) (fb := f_X4_bestTurn d) (fun h => ih h) hf
end
/-! ===== X4_byTurns ===== -/
abbrev rmX4_byTurns : Room := { frames := 19, cells := 0, slots := 0, locals := 915 }
def f_X4_byTurns (σ : Mem) (p1 : Int32) (p2 : Int32) : Option (Int32 × Mem) := lm_bd (f_X1_isLit 4 σ) fun r2 => if r2 = 0 then (some ((-1000002 : Int32), σ)) else (lm_bd (f_X4_isWithin p1 (0 : Int32) (4 : Int32)) fun r6 => if r6 = 0 then (some ((-1000001 : Int32), σ)) else (lm_bd (f_X4_isWithin p2 (1 : Int32) (20 : Int32)) fun r10 => if r10 = 0 then (some ((-1000001 : Int32), σ)) else (lm_bd (f_X1_takeFrom 12 4 σ) fun σ15 => lm_bd2 (f_X4_bestTurn 6 σ15 p1 (1 : Int32) p2) fun r17 σ18 => some (r17, σ18))))
abbrev wsX4_byTurns : List Cond := Cond.code yX4_byTurns cX4_byTurns 3 (some .int) :: lw_u
theorem mv_X4_byTurns : Cond.instanceMethod yX4_byTurns ∈ lw_u ∧ Cond.selects yX4_byTurns.cls yX4_byTurns yX4_byTurns ∈ lw_u ∧ Cond.initialized yX4_byTurns.cls ∈ lw_u ∧ Cond.code yX4_byTurns cX4_byTurns 3 (some .int) ∈ lw_u := ⟨uw_372, uw_373, uw_1, uw_374⟩
theorem hd_X4_byTurns : yX4_byTurns.cls ≠ "java/lang/invoke/MethodHandle" ∧ yX4_byTurns.cls ≠ "java/lang/invoke/VarHandle" ∧ (parseMethodDescriptor yX4_byTurns.desc).map (fun d => d.parameters.length) = some 2 := by decide +kernel
section
variable {l : Launch} {D : va_G} {cI cZ cL cR : ClassId} {B : Nat}
set_option maxRecDepth 100000 in
set_option maxHeartbeats 4000000 in
theorem c_X4_byTurns {σ τ σ' : Mem} {p1 : Int32} {p2 : Int32} {r : Int32}  (hf : f_X4_byTurns σ p1 p2 = some (r, σ')) : lm_CI l yX4_byTurns wsX4_byTurns rmX4_byTurns D cI cZ cL cR B [.ref (B + 0), .int p1, .int p2] σ τ r σ' τ := by
  unfold f_X4_byTurns at hf
  refine lm_of (cc := cX4_byTurns) (maxL := 3) (ret := (some .int)) (own := RX4) (by decide) rfl (Nat.le_of_ble_eq_true rfl) (fun p e s m below meth c0 C0 hR ls hl => ?_)
  have hS : va_S (lm_A B) s.heap s.heap [] := va_S.rf
  have hl : lv_has ls 3 [(0, .ref (B + 0)), (1, .int p1), (2, .int p2)] := hl
  obtain ⟨hx, hb, hml, hr, hlk, hown, hts, hK, hX⟩ := id C0
  refine lv_aload_n hx hb dX4_byTurns_0 rfl (lv_at hl 0 rfl) ?_
  refine lm_get C0 hR (by decide) cell_0 rfl lw_in_X4 2 (by decide) uw_89 rfl rfl dX4_byTurns_1 ?_
  obtain ⟨r2, u1, hf⟩ := lm_bd_e hf
  refine lm_endi (lm_runV C0 hR hS (c_X1_isLit isL_4 u1) (lw_cV 0 hts uw_226 mv_X1_isLit rfl rfl hd_X1_isLit ⟨Nat.le_of_ble_eq_true rfl, Nat.le_of_ble_eq_true rfl⟩) (isL_lt isL_4) (cell_L isL_4) rfl rfl hl rfl (Nat.le_of_ble_eq_true rfl) dX4_byTurns_4) hS (fun H locs hR hS => ?_)
  refine lv_if_ne (tgt := 13) hx hb dX4_byTurns_7 (by decide) (fun b4 => ?_) (fun b4 => ?_)
  · have hf := lm_F b4 hf
    refine lv_iload_n hx hb dX4_byTurns_13 rfl (lv_at hl 1 rfl) ?_
    refine lv_iconst (v := (0 : Int32)) hx hb dX4_byTurns_14 (by decide) ?_
    refine lv_iconst (v := (4 : Int32)) hx hb dX4_byTurns_15 (by decide) ?_
    obtain ⟨r6, u5, hf⟩ := lm_bd_e hf
    refine lm_endi (lm_runS C0 hR hS (c_X4_isWithin u5) (lw_cS 3 hts uw_230 mv_X4_isWithin rfl rfl hd_X4_isWithin ⟨Nat.le_of_ble_eq_true rfl, Nat.le_of_ble_eq_true rfl⟩) rfl hl rfl (Nat.le_of_ble_eq_true rfl) dX4_byTurns_16) hS (fun H locs hR hS => ?_)
    refine lv_if_eq (tgt := 32) hx hb dX4_byTurns_19 (by decide) (fun b8 => ?_) (fun b8 => ?_)
    · have hf := lm_T b8 hf
      refine lv_ldc hx hb hown (hts _ uw_105) dX4_byTurns_32 ?_
      exact lm_riC C0 hR hS hf dX4_byTurns_34
    · have hf := lm_F b8 hf
      refine lv_iload_n hx hb dX4_byTurns_22 rfl (lv_at hl 2 rfl) ?_
      refine lv_iconst (v := (1 : Int32)) hx hb dX4_byTurns_23 (by decide) ?_
      refine lv_bipush (v := (20 : Int32)) hx hb dX4_byTurns_24 (by decide) ?_
      obtain ⟨r10, u9, hf⟩ := lm_bd_e hf
      refine lm_endi (lm_runS C0 hR hS (c_X4_isWithin u9) (lw_cS 3 hts uw_230 mv_X4_isWithin rfl rfl hd_X4_isWithin ⟨Nat.le_of_ble_eq_true rfl, Nat.le_of_ble_eq_true rfl⟩) rfl hl rfl (Nat.le_of_ble_eq_true rfl) dX4_byTurns_26) hS (fun H locs hR hS => ?_)
      refine lv_if_ne (tgt := 35) hx hb dX4_byTurns_29 (by decide) (fun b12 => ?_) (fun b12 => ?_)
      · have hf := lm_F b12 hf
        refine lv_aload_n hx hb dX4_byTurns_35 rfl (lv_at hl 0 rfl) ?_
        refine lm_get C0 hR (by decide) cell_0 rfl lw_in_X4 4 (by decide) uw_91 rfl rfl dX4_byTurns_36 ?_
        refine lv_aload_n hx hb dX4_byTurns_39 rfl (lv_at hl 0 rfl) ?_
        refine lm_get C0 hR (by decide) cell_0 rfl lw_in_X4 2 (by decide) uw_89 rfl rfl dX4_byTurns_40 ?_
        obtain ⟨σ15, u13, hf⟩ := lm_bd_e hf
        refine lm_endv (lm_runV C0 hR hS (c_X1_takeFrom isL_12 isL_4 u13) (lw_cV 1 hts uw_193 mv_X1_takeFrom rfl rfl hd_X1_takeFrom ⟨Nat.le_of_ble_eq_true rfl, Nat.le_of_ble_eq_true rfl⟩) (isL_lt isL_12) (cell_L isL_12) rfl rfl hl rfl (Nat.le_of_ble_eq_true rfl) dX4_byTurns_43) hS (fun H locs hR hS => ?_)
        refine lv_aload_n hx hb dX4_byTurns_46 rfl (lv_at hl 0 rfl) ?_
        refine lv_iload_n hx hb dX4_byTurns_47 rfl (lv_at hl 1 rfl) ?_
        refine lv_iconst (v := (1 : Int32)) hx hb dX4_byTurns_48 (by decide) ?_
        refine lv_iload_n hx hb dX4_byTurns_49 rfl (lv_at hl 2 rfl) ?_
        obtain ⟨r17, σ18, u16, hf⟩ := lm_bd2_e hf
        refine lm_endi (lm_runV C0 hR hS (c_X4_bestTurn 6 u16) (lw_cV 3 hts uw_375 mv_X4_bestTurn rfl rfl hd_X4_bestTurn ⟨Nat.le_of_ble_eq_true rfl, Nat.le_of_ble_eq_true rfl⟩) (by decide) cell_0 rfl rfl hl rfl (Nat.le_of_ble_eq_true rfl) dX4_byTurns_50) hS (fun H locs hR hS => ?_)
        exact lm_riC C0 hR hS hf dX4_byTurns_53
      · have hf := lm_T b12 hf
        refine lv_ldc hx hb hown (hts _ uw_105) dX4_byTurns_32 ?_
        exact lm_riC C0 hR hS hf dX4_byTurns_34
  · have hf := lm_T b4 hf
    refine lv_ldc hx hb hown (hts _ uw_216) dX4_byTurns_10 ?_
    exact lm_riC C0 hR hS hf dX4_byTurns_12
end
/-! ===== X4_probeFits ===== -/
abbrev rmX4_probeFits : Room := { frames := 4, cells := 0, slots := 0, locals := 125 }
def f_X4_probeFits_3 (o1 : Nat) : Nat → Int32 → Int32 → Int32 → Mem → Option (Int32 × Mem)
  | 0, _, _, _, _ => none
  | n + 1, x2, x3, x4, σ => if x3 ≤ x4 then (some ((1 : Int32), σ)) else (lm_bd (f_X1_passWatch 8 σ) fun σ4 => lm_bd (f_X1_loggedOf 8 σ4 (0 : Int32)) fun r6 => lm_ck (lm_in (x2 + x4) 40) (if r6 = (σ4 (o1 + 1) (x2 + x4).toNatClampNeg) then (lm_nm (x4 + (1 : Int32)) fun v10 => f_X4_probeFits_3 o1 n x2 x3 v10 σ4) else (some ((0 : Int32), σ4))))
def f_X4_probeFits (o1 : Nat) (σ : Mem) (p2 : Int32) (p3 : Int32) : Option (Int32 × Mem) := f_X4_probeFits_3 o1 lm_fu p2 p3 (0 : Int32) σ
abbrev wsX4_probeFits : List Cond := Cond.code yX4_probeFits cX4_probeFits 5 (some .boolean) :: lw_u
theorem mv_X4_probeFits : Cond.instanceMethod yX4_probeFits ∈ lw_u ∧ Cond.selects yX4_probeFits.cls yX4_probeFits yX4_probeFits ∈ lw_u ∧ Cond.initialized yX4_probeFits.cls ∈ lw_u ∧ Cond.code yX4_probeFits cX4_probeFits 5 (some .boolean) ∈ lw_u := ⟨uw_394, uw_861, uw_1, uw_395⟩
theorem hd_X4_probeFits : yX4_probeFits.cls ≠ "java/lang/invoke/MethodHandle" ∧ yX4_probeFits.cls ≠ "java/lang/invoke/VarHandle" ∧ (parseMethodDescriptor yX4_probeFits.desc).map (fun d => d.parameters.length) = some 3 := by decide +kernel
section
variable {l : Launch} {D : va_G} {cI cZ cL cR : ClassId} {B : Nat}
set_option maxRecDepth 100000 in
set_option maxHeartbeats 4000000 in
theorem w_X4_probeFits_3 {o1 : Nat} (h1 : isR o1) {p : Program} {e : Env} {s : State} {m : MethodId} {args : Array Value} {below : List Frame} {meth : Method} {c0 : Code} {τ σ' : Mem} {r : Int32} (C0 : lm_Cx D cI cZ cL cR B p s m args meth c0 cX4_probeFits 5 (some .boolean) RX4) : ∀ (n : Nat), ∀ (x2 : Int32) (x3 : Int32) (x4 : Int32) (σ : Mem) (H : Heap) (locs : List Loc) (ls : Array Slot), va_P D vwCl (wl cI cZ cL cR B σ τ) H → va_S (lm_A B) s.heap H locs → lv_has ls 5 [(0, .ref (B + 0)), (1, .ref (B + o1)), (2, .int x2), (3, .int x3), (4, .int x4)] → f_X4_probeFits_3 o1 n x2 x3 x4 σ = some (r, σ') → W p l e rmX4_probeFits s m args below meth c0 H locs 0 0 (MQ below (lm_QI D cI cZ cL cR B r σ' τ) args s 0 0 (lm_A B)) (F0 m 3 ls []) := by
  obtain ⟨hx, hb, hml, hr, hlk, hown, hts, hK, hX⟩ := id C0
  intro n
  induction n with
  | zero =>
    intro x2 x3 x4 σ H locs ls hR hS hl hf
    cases hf
  | succ n ih =>
    intro x2 x3 x4 σ H locs ls hR hS hl hf
    rw [f_X4_probeFits_3] at hf
    refine lv_iload hx hb dX4_probeFits_3 (lv_at hl 4 rfl) ?_
    refine lv_iload_n hx hb dX4_probeFits_5 rfl (lv_at hl 3 rfl) ?_
    refine lv_icmp_ge (tgt := 44) hx hb dX4_probeFits_6 (by decide) (fun b1 => ?_) (fun b1 => ?_)
    · have hf := lm_T b1 hf
      refine lv_iconst (v := (1 : Int32)) hx hb dX4_probeFits_44 (by decide) ?_
      exact lm_rzC C0 hR hS hf rfl dX4_probeFits_45
    · have hf := lm_F b1 hf
      refine lv_aload_n hx hb dX4_probeFits_9 rfl (lv_at hl 0 rfl) ?_
      refine lm_get C0 hR (by decide) cell_0 rfl lw_in_X4 3 (by decide) uw_90 rfl rfl dX4_probeFits_10 ?_
      obtain ⟨σ4, u2, hf⟩ := lm_bd_e hf
      refine lm_endv (lm_runV C0 hR hS (c_X1_passWatch isL_8 u2) (lw_cV 0 hts uw_238 mv_X1_passWatch rfl rfl hd_X1_passWatch ⟨Nat.le_of_ble_eq_true rfl, Nat.le_of_ble_eq_true rfl⟩) (isL_lt isL_8) (cell_L isL_8) rfl rfl hl rfl (Nat.le_of_ble_eq_true rfl) dX4_probeFits_13) hS (fun H locs hR hS => ?_)
      refine lv_aload_n hx hb dX4_probeFits_16 rfl (lv_at hl 0 rfl) ?_
      refine lm_get C0 hR (by decide) cell_0 rfl lw_in_X4 3 (by decide) uw_90 rfl rfl dX4_probeFits_17 ?_
      refine lv_iconst (v := (0 : Int32)) hx hb dX4_probeFits_20 (by decide) ?_
      obtain ⟨r6, u5, hf⟩ := lm_bd_e hf
      refine lm_endi (lm_runV C0 hR hS (c_X1_loggedOf isL_8 u5) (lw_cV 1 hts uw_296 mv_X1_loggedOf rfl rfl hd_X1_loggedOf ⟨Nat.le_of_ble_eq_true rfl, Nat.le_of_ble_eq_true rfl⟩) (isL_lt isL_8) (cell_L isL_8) rfl rfl hl rfl (Nat.le_of_ble_eq_true rfl) dX4_probeFits_21) hS (fun H locs hR hS => ?_)
      refine lv_aload_n hx hb dX4_probeFits_24 rfl (lv_at hl 1 rfl) ?_
      refine lm_get C0 hR (isR_lt h1) (cell_R h1) rfl lw_in_X2 0 (by decide) uw_80 rfl rfl dX4_probeFits_25 ?_
      refine lv_iload_n hx hb dX4_probeFits_28 rfl (lv_at hl 2 rfl) ?_
      refine lv_iload hx hb dX4_probeFits_29 (lv_at hl 4 rfl) ?_
      refine lv_iadd hx hb dX4_probeFits_31 ?_
      obtain ⟨z8, hf⟩ := lm_ck_e hf
      refine lm_ild C0 hR (isR_lt1 h1) (cell_R1 h1) z8 dX4_probeFits_32 ?_
      refine lv_icmp_eq (tgt := 38) hx hb dX4_probeFits_33 (by decide) (fun b9 => ?_) (fun b9 => ?_)
      · have hf := lm_T b9 hf
        obtain ⟨v10, ev10, hf⟩ := lm_nm_e hf
        refine lv_iinc (v := v10) (lv' := [(4, .int v10), (0, .ref (B + 0)), (1, .ref (B + o1)), (2, .int x2), (3, .int x3)]) hx hb dX4_probeFits_38 hl (k := 4) rfl (by rw [ev10]; rfl) (by decide) rfl (fun ls hl => ?_)
        refine lv_goto (tgt := 3) hx hb dX4_probeFits_41 (by decide) ?_
        exact ih _ _ _ _ _ _ _ hR hS (lv_sub hl [1, 2, 3, 4, 0] rfl) hf
      · have hf := lm_F b9 hf
        refine lv_iconst (v := (0 : Int32)) hx hb dX4_probeFits_36 (by decide) ?_
        exact lm_rzC C0 hR hS hf rfl dX4_probeFits_37
set_option maxRecDepth 100000 in
set_option maxHeartbeats 4000000 in
theorem c_X4_probeFits {o1 : Nat} (h1 : isR o1) {σ τ σ' : Mem} {p2 : Int32} {p3 : Int32} {r : Int32}  (hf : f_X4_probeFits o1 σ p2 p3 = some (r, σ')) : lm_CI l yX4_probeFits wsX4_probeFits rmX4_probeFits D cI cZ cL cR B [.ref (B + 0), .ref (B + o1), .int p2, .int p3] σ τ r σ' τ := by
  unfold f_X4_probeFits at hf
  refine lm_of (cc := cX4_probeFits) (maxL := 5) (ret := (some .boolean)) (own := RX4) (by decide) rfl (Nat.le_of_ble_eq_true rfl) (fun p e s m below meth c0 C0 hR ls hl => ?_)
  have hS : va_S (lm_A B) s.heap s.heap [] := va_S.rf
  have hl : lv_has ls 5 [(0, .ref (B + 0)), (1, .ref (B + o1)), (2, .int p2), (3, .int p3)] := hl
  obtain ⟨hx, hb, hml, hr, hlk, hown, hts, hK, hX⟩ := id C0
  refine lv_iconst (v := (0 : Int32)) hx hb dX4_probeFits_0 (by decide) ?_
  refine lv_istore (lv' := [(4, .int (0 : Int32)), (0, .ref (B + 0)), (1, .ref (B + o1)), (2, .int p2), (3, .int p3)]) hx hb dX4_probeFits_1 hl (by decide) rfl (fun ls hl => ?_)
  exact w_X4_probeFits_3 h1 C0 _ _ _ _ _ _ _ _ hR hS (lv_sub hl [1, 2, 3, 4, 0] rfl) hf
end
/-! ===== X4_cellsThatFit ===== -/
abbrev rmX4_cellsThatFit : Room := { frames := 5, cells := 0, slots := 0, locals := 149 }
def f_X4_cellsThatFit_6 (o2 : Nat) : Nat → Int32 → Int32 → Int32 → Int32 → Int32 → Mem → Option (Int32 × Mem)
  | 0, _, _, _, _, _, _ => none
  | n + 1, x1, x3, x4, x5, x6, σ => if (σ 4 3) ≤ x6 then (some (x5, σ)) else (lm_bd (f_X1_takeOneShip 8 4 σ x1) fun σ4 => lm_ck (lm_in (0 : Int32) 6) (lm_nm (up σ4 (8 + 3) (0 : Int32).toNatClampNeg x6) fun σ6 => lm_bd2 (f_X4_probeFits o2 σ6 x3 x4) fun r8 σ9 => lm_bd (f_X4_bitIf r8 x6) fun r11 => lm_nm (x5 ||| r11) fun v13 => lm_nm (x6 + (1 : Int32)) fun v14 => f_X4_cellsThatFit_6 o2 n x1 x3 x4 v13 v14 σ9))
def f_X4_cellsThatFit (o2 : Nat) (σ : Mem) (p1 : Int32) (p3 : Int32) (p4 : Int32) : Option (Int32 × Mem) := f_X4_cellsThatFit_6 o2 lm_fu p1 p3 p4 (0 : Int32) (0 : Int32) σ
abbrev wsX4_cellsThatFit : List Cond := Cond.code yX4_cellsThatFit cX4_cellsThatFit 7 (some .int) :: lw_u
theorem mv_X4_cellsThatFit : Cond.instanceMethod yX4_cellsThatFit ∈ lw_u ∧ Cond.selects yX4_cellsThatFit.cls yX4_cellsThatFit yX4_cellsThatFit ∈ lw_u ∧ Cond.initialized yX4_cellsThatFit.cls ∈ lw_u ∧ Cond.code yX4_cellsThatFit cX4_cellsThatFit 7 (some .int) ∈ lw_u := ⟨uw_398, uw_862, uw_1, uw_399⟩
theorem hd_X4_cellsThatFit : yX4_cellsThatFit.cls ≠ "java/lang/invoke/MethodHandle" ∧ yX4_cellsThatFit.cls ≠ "java/lang/invoke/VarHandle" ∧ (parseMethodDescriptor yX4_cellsThatFit.desc).map (fun d => d.parameters.length) = some 4 := by decide +kernel
section
variable {l : Launch} {D : va_G} {cI cZ cL cR : ClassId} {B : Nat}
set_option maxRecDepth 100000 in
set_option maxHeartbeats 4000000 in
theorem w_X4_cellsThatFit_6 {o2 : Nat} (h2 : isR o2) {p : Program} {e : Env} {s : State} {m : MethodId} {args : Array Value} {below : List Frame} {meth : Method} {c0 : Code} {τ σ' : Mem} {r : Int32} (C0 : lm_Cx D cI cZ cL cR B p s m args meth c0 cX4_cellsThatFit 7 (some .int) RX4) : ∀ (n : Nat), ∀ (x1 : Int32) (x3 : Int32) (x4 : Int32) (x5 : Int32) (x6 : Int32) (σ : Mem) (H : Heap) (locs : List Loc) (ls : Array Slot), va_P D vwCl (wl cI cZ cL cR B σ τ) H → va_S (lm_A B) s.heap H locs → lv_has ls 7 [(0, .ref (B + 0)), (1, .int x1), (2, .ref (B + o2)), (3, .int x3), (4, .int x4), (5, .int x5), (6, .int x6)] → f_X4_cellsThatFit_6 o2 n x1 x3 x4 x5 x6 σ = some (r, σ') → W p l e rmX4_cellsThatFit s m args below meth c0 H locs 0 0 (MQ below (lm_QI D cI cZ cL cR B r σ' τ) args s 0 0 (lm_A B)) (F0 m 6 ls []) := by
  obtain ⟨hx, hb, hml, hr, hlk, hown, hts, hK, hX⟩ := id C0
  intro n
  induction n with
  | zero =>
    intro x1 x3 x4 x5 x6 σ H locs ls hR hS hl hf
    cases hf
  | succ n ih =>
    intro x1 x3 x4 x5 x6 σ H locs ls hR hS hl hf
    rw [f_X4_cellsThatFit_6] at hf
    refine lv_iload hx hb dX4_cellsThatFit_6 (lv_at hl 6 rfl) ?_
    refine lv_aload_n hx hb dX4_cellsThatFit_8 rfl (lv_at hl 0 rfl) ?_
    refine lm_get C0 hR (by decide) cell_0 rfl lw_in_X4 2 (by decide) uw_89 rfl rfl dX4_cellsThatFit_9 ?_
    refine lm_get C0 hR (isL_lt isL_4) (cell_L isL_4) rfl lw_in_X1 3 (by decide) uw_49 rfl rfl dX4_cellsThatFit_12 ?_
    refine lv_icmp_ge (tgt := 65) hx hb dX4_cellsThatFit_15 (by decide) (fun b1 => ?_) (fun b1 => ?_)
    · have hf := lm_T b1 hf
      refine lv_iload hx hb dX4_cellsThatFit_65 (lv_at hl 5 rfl) ?_
      exact lm_riC C0 hR hS hf dX4_cellsThatFit_67
    · have hf := lm_F b1 hf
      refine lv_aload_n hx hb dX4_cellsThatFit_18 rfl (lv_at hl 0 rfl) ?_
      refine lm_get C0 hR (by decide) cell_0 rfl lw_in_X4 3 (by decide) uw_90 rfl rfl dX4_cellsThatFit_19 ?_
      refine lv_aload_n hx hb dX4_cellsThatFit_22 rfl (lv_at hl 0 rfl) ?_
      refine lm_get C0 hR (by decide) cell_0 rfl lw_in_X4 2 (by decide) uw_89 rfl rfl dX4_cellsThatFit_23 ?_
      refine lv_iload_n hx hb dX4_cellsThatFit_26 rfl (lv_at hl 1 rfl) ?_
      obtain ⟨σ4, u2, hf⟩ := lm_bd_e hf
      refine lm_endv (lm_runV C0 hR hS (c_X1_takeOneShip isL_8 isL_4 u2) (lw_cV 2 hts uw_311 mv_X1_takeOneShip rfl rfl hd_X1_takeOneShip ⟨Nat.le_of_ble_eq_true rfl, Nat.le_of_ble_eq_true rfl⟩) (isL_lt isL_8) (cell_L isL_8) rfl rfl hl rfl (Nat.le_of_ble_eq_true rfl) dX4_cellsThatFit_27) hS (fun H locs hR hS => ?_)
      refine lv_aload_n hx hb dX4_cellsThatFit_30 rfl (lv_at hl 0 rfl) ?_
      refine lm_get C0 hR (by decide) cell_0 rfl lw_in_X4 3 (by decide) uw_90 rfl rfl dX4_cellsThatFit_31 ?_
      refine lm_get C0 hR (isL_lt isL_8) (cell_L isL_8) rfl lw_in_X1 2 (by decide) uw_46 rfl rfl dX4_cellsThatFit_34 ?_
      refine lv_iconst (v := (0 : Int32)) hx hb dX4_cellsThatFit_37 (by decide) ?_
      refine lv_iload hx hb dX4_cellsThatFit_38 (lv_at hl 6 rfl) ?_
      obtain ⟨z5, hf⟩ := lm_ck_e hf
      obtain ⟨σ6, eσ6, hf⟩ := lm_nm_e hf
      refine lm_istC C0 hR hS (isL_lt3 isL_8) (cell_L3 isL_8) z5  eσ6 (cell_L3u isL_8) dX4_cellsThatFit_40 (fun H locs hR hS => ?_)
      refine lv_iload hx hb dX4_cellsThatFit_41 (lv_at hl 5 rfl) ?_
      refine lv_aload_n hx hb dX4_cellsThatFit_43 rfl (lv_at hl 0 rfl) ?_
      refine lv_aload_n hx hb dX4_cellsThatFit_44 rfl (lv_at hl 2 rfl) ?_
      refine lv_iload_n hx hb dX4_cellsThatFit_45 rfl (lv_at hl 3 rfl) ?_
      refine lv_iload hx hb dX4_cellsThatFit_46 (lv_at hl 4 rfl) ?_
      obtain ⟨r8, σ9, u7, hf⟩ := lm_bd2_e hf
      refine lm_endi (lm_runV C0 hR hS (c_X4_probeFits h2 u7) (lw_cV 3 hts uw_393 mv_X4_probeFits rfl rfl hd_X4_probeFits ⟨Nat.le_of_ble_eq_true rfl, Nat.le_of_ble_eq_true rfl⟩) (by decide) cell_0 rfl rfl hl rfl (Nat.le_of_ble_eq_true rfl) dX4_cellsThatFit_48) hS (fun H locs hR hS => ?_)
      refine lv_iload hx hb dX4_cellsThatFit_51 (lv_at hl 6 rfl) ?_
      obtain ⟨r11, u10, hf⟩ := lm_bd_e hf
      refine lm_endi (lm_runS C0 hR hS (c_X4_bitIf u10) (lw_cS 2 hts uw_396 mv_X4_bitIf rfl rfl hd_X4_bitIf ⟨Nat.le_of_ble_eq_true rfl, Nat.le_of_ble_eq_true rfl⟩) rfl hl rfl (Nat.le_of_ble_eq_true rfl) dX4_cellsThatFit_53) hS (fun H locs hR hS => ?_)
      refine lv_ior hx hb dX4_cellsThatFit_56 ?_
      obtain ⟨v13, ev13, hf⟩ := lm_nm_e hf
      refine lm_topi ev13 ?_
      refine lv_istore (lv' := [(5, .int v13), (0, .ref (B + 0)), (1, .int x1), (2, .ref (B + o2)), (3, .int x3), (4, .int x4), (6, .int x6)]) hx hb dX4_cellsThatFit_57 hl (by decide) rfl (fun ls hl => ?_)
      obtain ⟨v14, ev14, hf⟩ := lm_nm_e hf
      refine lv_iinc (v := v14) (lv' := [(6, .int v14), (5, .int v13), (0, .ref (B + 0)), (1, .int x1), (2, .ref (B + o2)), (3, .int x3), (4, .int x4)]) hx hb dX4_cellsThatFit_59 hl (k := 6) rfl (by rw [ev14]; rfl) (by decide) rfl (fun ls hl => ?_)
      refine lv_goto (tgt := 6) hx hb dX4_cellsThatFit_62 (by decide) ?_
      exact ih _ _ _ _ _ _ _ _ _ hR hS (lv_sub hl [2, 3, 4, 5, 6, 1, 0] rfl) hf
set_option maxRecDepth 100000 in
set_option maxHeartbeats 4000000 in
theorem c_X4_cellsThatFit {o2 : Nat} (h2 : isR o2) {σ τ σ' : Mem} {p1 : Int32} {p3 : Int32} {p4 : Int32} {r : Int32}  (hf : f_X4_cellsThatFit o2 σ p1 p3 p4 = some (r, σ')) : lm_CI l yX4_cellsThatFit wsX4_cellsThatFit rmX4_cellsThatFit D cI cZ cL cR B [.ref (B + 0), .int p1, .ref (B + o2), .int p3, .int p4] σ τ r σ' τ := by
  unfold f_X4_cellsThatFit at hf
  refine lm_of (cc := cX4_cellsThatFit) (maxL := 7) (ret := (some .int)) (own := RX4) (by decide) rfl (Nat.le_of_ble_eq_true rfl) (fun p e s m below meth c0 C0 hR ls hl => ?_)
  have hS : va_S (lm_A B) s.heap s.heap [] := va_S.rf
  have hl : lv_has ls 7 [(0, .ref (B + 0)), (1, .int p1), (2, .ref (B + o2)), (3, .int p3), (4, .int p4)] := hl
  obtain ⟨hx, hb, hml, hr, hlk, hown, hts, hK, hX⟩ := id C0
  refine lv_iconst (v := (0 : Int32)) hx hb dX4_cellsThatFit_0 (by decide) ?_
  refine lv_istore (lv' := [(5, .int (0 : Int32)), (0, .ref (B + 0)), (1, .int p1), (2, .ref (B + o2)), (3, .int p3), (4, .int p4)]) hx hb dX4_cellsThatFit_1 hl (by decide) rfl (fun ls hl => ?_)
  refine lv_iconst (v := (0 : Int32)) hx hb dX4_cellsThatFit_3 (by decide) ?_
  refine lv_istore (lv' := [(6, .int (0 : Int32)), (5, .int (0 : Int32)), (0, .ref (B + 0)), (1, .int p1), (2, .ref (B + o2)), (3, .int p3), (4, .int p4)]) hx hb dX4_cellsThatFit_4 hl (by decide) rfl (fun ls hl => ?_)
  exact w_X4_cellsThatFit_6 h2 C0 _ _ _ _ _ _ _ _ _ _ hR hS (lv_sub hl [2, 3, 4, 5, 6, 1, 0] rfl) hf
end
/-! ===== X4_isLog ===== -/
abbrev rmX4_isLog : Room := { frames := 1, cells := 0, slots := 0, locals := 22 }
def f_X4_isLog (p0 : Int32) (p1 : Int32) : Option (Int32) := lm_bd (f_X4_isBelow p0 (8 : Int32)) fun r2 => if r2 = 0 then (some (0 : Int32)) else (lm_bd (f_X4_isWithin p1 (1 : Int32) (12 : Int32)) fun r6 => if r6 = 0 then (some (0 : Int32)) else (some (1 : Int32)))
abbrev wsX4_isLog : List Cond := Cond.code yX4_isLog cX4_isLog 2 (some .boolean) :: lw_u
theorem mv_X4_isLog : Cond.static yX4_isLog ∈ lw_u ∧ Cond.initialized yX4_isLog.cls ∈ lw_u ∧ Cond.code yX4_isLog cX4_isLog 2 (some .boolean) ∈ lw_u := ⟨uw_388, uw_1, uw_389⟩
theorem hd_X4_isLog : yX4_isLog.cls ≠ "java/lang/invoke/MethodHandle" ∧ yX4_isLog.cls ≠ "java/lang/invoke/VarHandle" ∧ (parseMethodDescriptor yX4_isLog.desc).map (fun d => d.parameters.length) = some 2 := by decide +kernel
section
variable {l : Launch} {D : va_G} {cI cZ cL cR : ClassId} {B : Nat}
set_option maxRecDepth 100000 in
set_option maxHeartbeats 4000000 in
theorem c_X4_isLog {σ τ : Mem} {p0 : Int32} {p1 : Int32} {r : Int32}  (hf : f_X4_isLog p0 p1 = some r) : lm_CI l yX4_isLog wsX4_isLog rmX4_isLog D cI cZ cL cR B [.int p0, .int p1] σ τ r σ τ := by
  unfold f_X4_isLog at hf
  refine lm_of (cc := cX4_isLog) (maxL := 2) (ret := (some .boolean)) (own := RX4) (by decide) rfl (Nat.le_of_ble_eq_true rfl) (fun p e s m below meth c0 C0 hR ls hl => ?_)
  have hS : va_S (lm_A B) s.heap s.heap [] := va_S.rf
  have hl : lv_has ls 2 [(0, .int p0), (1, .int p1)] := hl
  obtain ⟨hx, hb, hml, hr, hlk, hown, hts, hK, hX⟩ := id C0
  refine lv_iload_n hx hb dX4_isLog_0 rfl (lv_at hl 0 rfl) ?_
  refine lv_bipush (v := (8 : Int32)) hx hb dX4_isLog_1 (by decide) ?_
  obtain ⟨r2, u1, hf⟩ := lm_bd_e hf
  refine lm_endi (lm_runS C0 hR hS (c_X4_isBelow u1) (lw_cS 2 hts uw_102 mv_X4_isBelow rfl rfl hd_X4_isBelow ⟨Nat.le_of_ble_eq_true rfl, Nat.le_of_ble_eq_true rfl⟩) rfl hl rfl (Nat.le_of_ble_eq_true rfl) dX4_isLog_3) hS (fun H locs hR hS => ?_)
  refine lv_if_eq (tgt := 23) hx hb dX4_isLog_6 (by decide) (fun b4 => ?_) (fun b4 => ?_)
  · have hf := lm_T b4 hf
    refine lv_iconst (v := (0 : Int32)) hx hb dX4_isLog_23 (by decide) ?_
    exact lm_rzP C0 hR hS hf rfl dX4_isLog_24
  · have hf := lm_F b4 hf
    refine lv_iload_n hx hb dX4_isLog_9 rfl (lv_at hl 1 rfl) ?_
    refine lv_iconst (v := (1 : Int32)) hx hb dX4_isLog_10 (by decide) ?_
    refine lv_bipush (v := (12 : Int32)) hx hb dX4_isLog_11 (by decide) ?_
    obtain ⟨r6, u5, hf⟩ := lm_bd_e hf
    refine lm_endi (lm_runS C0 hR hS (c_X4_isWithin u5) (lw_cS 3 hts uw_230 mv_X4_isWithin rfl rfl hd_X4_isWithin ⟨Nat.le_of_ble_eq_true rfl, Nat.le_of_ble_eq_true rfl⟩) rfl hl rfl (Nat.le_of_ble_eq_true rfl) dX4_isLog_13) hS (fun H locs hR hS => ?_)
    refine lv_if_eq (tgt := 23) hx hb dX4_isLog_16 (by decide) (fun b8 => ?_) (fun b8 => ?_)
    · have hf := lm_T b8 hf
      refine lv_iconst (v := (0 : Int32)) hx hb dX4_isLog_23 (by decide) ?_
      exact lm_rzP C0 hR hS hf rfl dX4_isLog_24
    · have hf := lm_F b8 hf
      refine lv_iconst (v := (1 : Int32)) hx hb dX4_isLog_19 (by decide) ?_
      refine lv_goto (tgt := 24) hx hb dX4_isLog_20 (by decide) ?_
      exact lm_rzP C0 hR hS hf rfl dX4_isLog_24
end
/-! ===== X4_kindsThatFit ===== -/
abbrev rmX4_kindsThatFit : Room := { frames := 5, cells := 0, slots := 0, locals := 149 }
def f_X4_kindsThatFit_6 (o2 : Nat) : Nat → Int32 → Int32 → Int32 → Int32 → Int32 → Mem → Option (Int32 × Mem)
  | 0, _, _, _, _, _, _ => none
  | n + 1, x1, x3, x4, x5, x6, σ => if (5 : Int32) < x6 then (some (x5, σ)) else (lm_bd (f_X1_takeOneShip 8 4 σ x1) fun σ4 => lm_ck (lm_in (0 : Int32) 6) (lm_nm (up σ4 (8 + 2) (0 : Int32).toNatClampNeg x6) fun σ6 => lm_bd2 (f_X4_probeFits o2 σ6 x3 x4) fun r8 σ9 => lm_bd (f_X4_bitIf r8 x6) fun r11 => lm_nm (x5 ||| r11) fun v13 => lm_nm (x6 + (1 : Int32)) fun v14 => f_X4_kindsThatFit_6 o2 n x1 x3 x4 v13 v14 σ9))
def f_X4_kindsThatFit (o2 : Nat) (σ : Mem) (p1 : Int32) (p3 : Int32) (p4 : Int32) : Option (Int32 × Mem) := f_X4_kindsThatFit_6 o2 lm_fu p1 p3 p4 (0 : Int32) (1 : Int32) σ
abbrev wsX4_kindsThatFit : List Cond := Cond.code yX4_kindsThatFit cX4_kindsThatFit 7 (some .int) :: lw_u
theorem mv_X4_kindsThatFit : Cond.instanceMethod yX4_kindsThatFit ∈ lw_u ∧ Cond.selects yX4_kindsThatFit.cls yX4_kindsThatFit yX4_kindsThatFit ∈ lw_u ∧ Cond.initialized yX4_kindsThatFit.cls ∈ lw_u ∧ Cond.code yX4_kindsThatFit cX4_kindsThatFit 7 (some .int) ∈ lw_u := ⟨uw_391, uw_860, uw_1, uw_392⟩
theorem hd_X4_kindsThatFit : yX4_kindsThatFit.cls ≠ "java/lang/invoke/MethodHandle" ∧ yX4_kindsThatFit.cls ≠ "java/lang/invoke/VarHandle" ∧ (parseMethodDescriptor yX4_kindsThatFit.desc).map (fun d => d.parameters.length) = some 4 := by decide +kernel
section
variable {l : Launch} {D : va_G} {cI cZ cL cR : ClassId} {B : Nat}
set_option maxRecDepth 100000 in
set_option maxHeartbeats 4000000 in
theorem w_X4_kindsThatFit_6 {o2 : Nat} (h2 : isR o2) {p : Program} {e : Env} {s : State} {m : MethodId} {args : Array Value} {below : List Frame} {meth : Method} {c0 : Code} {τ σ' : Mem} {r : Int32} (C0 : lm_Cx D cI cZ cL cR B p s m args meth c0 cX4_kindsThatFit 7 (some .int) RX4) : ∀ (n : Nat), ∀ (x1 : Int32) (x3 : Int32) (x4 : Int32) (x5 : Int32) (x6 : Int32) (σ : Mem) (H : Heap) (locs : List Loc) (ls : Array Slot), va_P D vwCl (wl cI cZ cL cR B σ τ) H → va_S (lm_A B) s.heap H locs → lv_has ls 7 [(0, .ref (B + 0)), (1, .int x1), (2, .ref (B + o2)), (3, .int x3), (4, .int x4), (5, .int x5), (6, .int x6)] → f_X4_kindsThatFit_6 o2 n x1 x3 x4 x5 x6 σ = some (r, σ') → W p l e rmX4_kindsThatFit s m args below meth c0 H locs 0 0 (MQ below (lm_QI D cI cZ cL cR B r σ' τ) args s 0 0 (lm_A B)) (F0 m 6 ls []) := by
  obtain ⟨hx, hb, hml, hr, hlk, hown, hts, hK, hX⟩ := id C0
  intro n
  induction n with
  | zero =>
    intro x1 x3 x4 x5 x6 σ H locs ls hR hS hl hf
    cases hf
  | succ n ih =>
    intro x1 x3 x4 x5 x6 σ H locs ls hR hS hl hf
    rw [f_X4_kindsThatFit_6] at hf
    refine lv_iload hx hb dX4_kindsThatFit_6 (lv_at hl 6 rfl) ?_
    refine lv_iconst (v := (5 : Int32)) hx hb dX4_kindsThatFit_8 (by decide) ?_
    refine lv_icmp_gt (tgt := 59) hx hb dX4_kindsThatFit_9 (by decide) (fun b1 => ?_) (fun b1 => ?_)
    · have hf := lm_T b1 hf
      refine lv_iload hx hb dX4_kindsThatFit_59 (lv_at hl 5 rfl) ?_
      exact lm_riC C0 hR hS hf dX4_kindsThatFit_61
    · have hf := lm_F b1 hf
      refine lv_aload_n hx hb dX4_kindsThatFit_12 rfl (lv_at hl 0 rfl) ?_
      refine lm_get C0 hR (by decide) cell_0 rfl lw_in_X4 3 (by decide) uw_90 rfl rfl dX4_kindsThatFit_13 ?_
      refine lv_aload_n hx hb dX4_kindsThatFit_16 rfl (lv_at hl 0 rfl) ?_
      refine lm_get C0 hR (by decide) cell_0 rfl lw_in_X4 2 (by decide) uw_89 rfl rfl dX4_kindsThatFit_17 ?_
      refine lv_iload_n hx hb dX4_kindsThatFit_20 rfl (lv_at hl 1 rfl) ?_
      obtain ⟨σ4, u2, hf⟩ := lm_bd_e hf
      refine lm_endv (lm_runV C0 hR hS (c_X1_takeOneShip isL_8 isL_4 u2) (lw_cV 2 hts uw_311 mv_X1_takeOneShip rfl rfl hd_X1_takeOneShip ⟨Nat.le_of_ble_eq_true rfl, Nat.le_of_ble_eq_true rfl⟩) (isL_lt isL_8) (cell_L isL_8) rfl rfl hl rfl (Nat.le_of_ble_eq_true rfl) dX4_kindsThatFit_21) hS (fun H locs hR hS => ?_)
      refine lv_aload_n hx hb dX4_kindsThatFit_24 rfl (lv_at hl 0 rfl) ?_
      refine lm_get C0 hR (by decide) cell_0 rfl lw_in_X4 3 (by decide) uw_90 rfl rfl dX4_kindsThatFit_25 ?_
      refine lm_get C0 hR (isL_lt isL_8) (cell_L isL_8) rfl lw_in_X1 1 (by decide) uw_43 rfl rfl dX4_kindsThatFit_28 ?_
      refine lv_iconst (v := (0 : Int32)) hx hb dX4_kindsThatFit_31 (by decide) ?_
      refine lv_iload hx hb dX4_kindsThatFit_32 (lv_at hl 6 rfl) ?_
      obtain ⟨z5, hf⟩ := lm_ck_e hf
      obtain ⟨σ6, eσ6, hf⟩ := lm_nm_e hf
      refine lm_istC C0 hR hS (isL_lt2 isL_8) (cell_L2 isL_8) z5  eσ6 (cell_L2u isL_8) dX4_kindsThatFit_34 (fun H locs hR hS => ?_)
      refine lv_iload hx hb dX4_kindsThatFit_35 (lv_at hl 5 rfl) ?_
      refine lv_aload_n hx hb dX4_kindsThatFit_37 rfl (lv_at hl 0 rfl) ?_
      refine lv_aload_n hx hb dX4_kindsThatFit_38 rfl (lv_at hl 2 rfl) ?_
      refine lv_iload_n hx hb dX4_kindsThatFit_39 rfl (lv_at hl 3 rfl) ?_
      refine lv_iload hx hb dX4_kindsThatFit_40 (lv_at hl 4 rfl) ?_
      obtain ⟨r8, σ9, u7, hf⟩ := lm_bd2_e hf
      refine lm_endi (lm_runV C0 hR hS (c_X4_probeFits h2 u7) (lw_cV 3 hts uw_393 mv_X4_probeFits rfl rfl hd_X4_probeFits ⟨Nat.le_of_ble_eq_true rfl, Nat.le_of_ble_eq_true rfl⟩) (by decide) cell_0 rfl rfl hl rfl (Nat.le_of_ble_eq_true rfl) dX4_kindsThatFit_42) hS (fun H locs hR hS => ?_)
      refine lv_iload hx hb dX4_kindsThatFit_45 (lv_at hl 6 rfl) ?_
      obtain ⟨r11, u10, hf⟩ := lm_bd_e hf
      refine lm_endi (lm_runS C0 hR hS (c_X4_bitIf u10) (lw_cS 2 hts uw_396 mv_X4_bitIf rfl rfl hd_X4_bitIf ⟨Nat.le_of_ble_eq_true rfl, Nat.le_of_ble_eq_true rfl⟩) rfl hl rfl (Nat.le_of_ble_eq_true rfl) dX4_kindsThatFit_47) hS (fun H locs hR hS => ?_)
      refine lv_ior hx hb dX4_kindsThatFit_50 ?_
      obtain ⟨v13, ev13, hf⟩ := lm_nm_e hf
      refine lm_topi ev13 ?_
      refine lv_istore (lv' := [(5, .int v13), (0, .ref (B + 0)), (1, .int x1), (2, .ref (B + o2)), (3, .int x3), (4, .int x4), (6, .int x6)]) hx hb dX4_kindsThatFit_51 hl (by decide) rfl (fun ls hl => ?_)
      obtain ⟨v14, ev14, hf⟩ := lm_nm_e hf
      refine lv_iinc (v := v14) (lv' := [(6, .int v14), (5, .int v13), (0, .ref (B + 0)), (1, .int x1), (2, .ref (B + o2)), (3, .int x3), (4, .int x4)]) hx hb dX4_kindsThatFit_53 hl (k := 6) rfl (by rw [ev14]; rfl) (by decide) rfl (fun ls hl => ?_)
      refine lv_goto (tgt := 6) hx hb dX4_kindsThatFit_56 (by decide) ?_
      exact ih _ _ _ _ _ _ _ _ _ hR hS (lv_sub hl [2, 3, 4, 5, 6, 1, 0] rfl) hf
set_option maxRecDepth 100000 in
set_option maxHeartbeats 4000000 in
theorem c_X4_kindsThatFit {o2 : Nat} (h2 : isR o2) {σ τ σ' : Mem} {p1 : Int32} {p3 : Int32} {p4 : Int32} {r : Int32}  (hf : f_X4_kindsThatFit o2 σ p1 p3 p4 = some (r, σ')) : lm_CI l yX4_kindsThatFit wsX4_kindsThatFit rmX4_kindsThatFit D cI cZ cL cR B [.ref (B + 0), .int p1, .ref (B + o2), .int p3, .int p4] σ τ r σ' τ := by
  unfold f_X4_kindsThatFit at hf
  refine lm_of (cc := cX4_kindsThatFit) (maxL := 7) (ret := (some .int)) (own := RX4) (by decide) rfl (Nat.le_of_ble_eq_true rfl) (fun p e s m below meth c0 C0 hR ls hl => ?_)
  have hS : va_S (lm_A B) s.heap s.heap [] := va_S.rf
  have hl : lv_has ls 7 [(0, .ref (B + 0)), (1, .int p1), (2, .ref (B + o2)), (3, .int p3), (4, .int p4)] := hl
  obtain ⟨hx, hb, hml, hr, hlk, hown, hts, hK, hX⟩ := id C0
  refine lv_iconst (v := (0 : Int32)) hx hb dX4_kindsThatFit_0 (by decide) ?_
  refine lv_istore (lv' := [(5, .int (0 : Int32)), (0, .ref (B + 0)), (1, .int p1), (2, .ref (B + o2)), (3, .int p3), (4, .int p4)]) hx hb dX4_kindsThatFit_1 hl (by decide) rfl (fun ls hl => ?_)
  refine lv_iconst (v := (1 : Int32)) hx hb dX4_kindsThatFit_3 (by decide) ?_
  refine lv_istore (lv' := [(6, .int (1 : Int32)), (5, .int (0 : Int32)), (0, .ref (B + 0)), (1, .int p1), (2, .ref (B + o2)), (3, .int p3), (4, .int p4)]) hx hb dX4_kindsThatFit_4 hl (by decide) rfl (fun ls hl => ?_)
  exact w_X4_kindsThatFit_6 h2 C0 _ _ _ _ _ _ _ _ _ _ hR hS (lv_sub hl [2, 3, 4, 5, 6, 1, 0] rfl) hf
end
/-! ===== X4_who ===== -/
abbrev rmX4_who : Room := { frames := 6, cells := 0, slots := 0, locals := 175 }
def f_X4_who (σ : Mem) (p1 : Int32) (p2 : Int32) (p3 : Int32) (p4 : Int32) (p5 : Int32) : Option (Int32 × Mem) := lm_bd (f_X4_isBelow p1 (σ 4 8)) fun r2 => if r2 = 0 then (some ((-1000001 : Int32), σ)) else (lm_bd (f_X4_isBelow p2 (2 : Int32)) fun r6 => if r6 = 0 then (some ((-1000001 : Int32), σ)) else (lm_bd (f_X4_isLog p3 p5) fun r10 => if r10 = 0 then (some ((-1000001 : Int32), σ)) else (lm_ck (lm_in p3 8) (lm_bd (f_X2_findingOf (116 + 2 * p3.toNatClampNeg) σ p4 p5) fun r15 => if r15 = 0 then (if p2 = 0 then (lm_bd2 (f_X4_kindsThatFit (116 + 2 * p3.toNatClampNeg) σ p1 p4 p5) fun r26 σ27 => lm_bd2 (f_X4_unfound σ27 r26) fun r29 σ30 => some (r29, σ30)) else (lm_bd2 (f_X4_cellsThatFit (116 + 2 * p3.toNatClampNeg) σ p1 p4 p5) fun r20 σ21 => lm_bd2 (f_X4_unfound σ21 r20) fun r23 σ24 => some (r23, σ24))) else (lm_bd2 (f_X4_found σ r15) fun r32 σ33 => some (r32, σ33))))))
abbrev wsX4_who : List Cond := Cond.code yX4_who cX4_who 8 (some .int) :: lw_u
theorem mv_X4_who : Cond.instanceMethod yX4_who ∈ lw_u ∧ Cond.selects yX4_who.cls yX4_who yX4_who ∈ lw_u ∧ Cond.initialized yX4_who.cls ∈ lw_u ∧ Cond.code yX4_who cX4_who 8 (some .int) ∈ lw_u := ⟨uw_384, uw_385, uw_1, uw_386⟩
theorem hd_X4_who : yX4_who.cls ≠ "java/lang/invoke/MethodHandle" ∧ yX4_who.cls ≠ "java/lang/invoke/VarHandle" ∧ (parseMethodDescriptor yX4_who.desc).map (fun d => d.parameters.length) = some 5 := by decide +kernel
section
variable {l : Launch} {D : va_G} {cI cZ cL cR : ClassId} {B : Nat}
set_option maxRecDepth 100000 in
set_option maxHeartbeats 4000000 in
theorem c_X4_who {σ τ σ' : Mem} {p1 : Int32} {p2 : Int32} {p3 : Int32} {p4 : Int32} {p5 : Int32} {r : Int32}  (hf : f_X4_who σ p1 p2 p3 p4 p5 = some (r, σ')) : lm_CI l yX4_who wsX4_who rmX4_who D cI cZ cL cR B [.ref (B + 0), .int p1, .int p2, .int p3, .int p4, .int p5] σ τ r σ' τ := by
  unfold f_X4_who at hf
  refine lm_of (cc := cX4_who) (maxL := 8) (ret := (some .int)) (own := RX4) (by decide) rfl (Nat.le_of_ble_eq_true rfl) (fun p e s m below meth c0 C0 hR ls hl => ?_)
  have hS : va_S (lm_A B) s.heap s.heap [] := va_S.rf
  have hl : lv_has ls 8 [(0, .ref (B + 0)), (1, .int p1), (2, .int p2), (3, .int p3), (4, .int p4), (5, .int p5)] := hl
  obtain ⟨hx, hb, hml, hr, hlk, hown, hts, hK, hX⟩ := id C0
  refine lv_iload_n hx hb dX4_who_0 rfl (lv_at hl 1 rfl) ?_
  refine lv_aload_n hx hb dX4_who_1 rfl (lv_at hl 0 rfl) ?_
  refine lm_get C0 hR (by decide) cell_0 rfl lw_in_X4 2 (by decide) uw_89 rfl rfl dX4_who_2 ?_
  refine lm_get C0 hR (isL_lt isL_4) (cell_L isL_4) rfl lw_in_X1 8 (by decide) uw_62 rfl rfl dX4_who_5 ?_
  obtain ⟨r2, u1, hf⟩ := lm_bd_e hf
  refine lm_endi (lm_runS C0 hR hS (c_X4_isBelow u1) (lw_cS 2 hts uw_102 mv_X4_isBelow rfl rfl hd_X4_isBelow ⟨Nat.le_of_ble_eq_true rfl, Nat.le_of_ble_eq_true rfl⟩) rfl hl rfl (Nat.le_of_ble_eq_true rfl) dX4_who_8) hS (fun H locs hR hS => ?_)
  refine lv_if_eq (tgt := 31) hx hb dX4_who_11 (by decide) (fun b4 => ?_) (fun b4 => ?_)
  · have hf := lm_T b4 hf
    refine lv_ldc hx hb hown (hts _ uw_105) dX4_who_31 ?_
    exact lm_riC C0 hR hS hf dX4_who_33
  · have hf := lm_F b4 hf
    refine lv_iload_n hx hb dX4_who_14 rfl (lv_at hl 2 rfl) ?_
    refine lv_iconst (v := (2 : Int32)) hx hb dX4_who_15 (by decide) ?_
    obtain ⟨r6, u5, hf⟩ := lm_bd_e hf
    refine lm_endi (lm_runS C0 hR hS (c_X4_isBelow u5) (lw_cS 2 hts uw_102 mv_X4_isBelow rfl rfl hd_X4_isBelow ⟨Nat.le_of_ble_eq_true rfl, Nat.le_of_ble_eq_true rfl⟩) rfl hl rfl (Nat.le_of_ble_eq_true rfl) dX4_who_16) hS (fun H locs hR hS => ?_)
    refine lv_if_eq (tgt := 31) hx hb dX4_who_19 (by decide) (fun b8 => ?_) (fun b8 => ?_)
    · have hf := lm_T b8 hf
      refine lv_ldc hx hb hown (hts _ uw_105) dX4_who_31 ?_
      exact lm_riC C0 hR hS hf dX4_who_33
    · have hf := lm_F b8 hf
      refine lv_iload_n hx hb dX4_who_22 rfl (lv_at hl 3 rfl) ?_
      refine lv_iload hx hb dX4_who_23 (lv_at hl 5 rfl) ?_
      obtain ⟨r10, u9, hf⟩ := lm_bd_e hf
      refine lm_endi (lm_runS C0 hR hS (c_X4_isLog u9) (lw_cS 2 hts uw_387 mv_X4_isLog rfl rfl hd_X4_isLog ⟨Nat.le_of_ble_eq_true rfl, Nat.le_of_ble_eq_true rfl⟩) rfl hl rfl (Nat.le_of_ble_eq_true rfl) dX4_who_25) hS (fun H locs hR hS => ?_)
      refine lv_if_ne (tgt := 34) hx hb dX4_who_28 (by decide) (fun b12 => ?_) (fun b12 => ?_)
      · have hf := lm_F b12 hf
        refine lv_aload_n hx hb dX4_who_34 rfl (lv_at hl 0 rfl) ?_
        refine lm_get C0 hR (by decide) cell_0 rfl lw_in_X4 0 (by decide) uw_87 rfl rfl dX4_who_35 ?_
        refine lv_iload_n hx hb dX4_who_38 rfl (lv_at hl 3 rfl) ?_
        obtain ⟨z13, hf⟩ := lm_ck_e hf
        refine lm_ald C0 hR (t0 := 3) (by decide) cell_1 rfl z13 rfl dX4_who_39 ?_
        refine lv_astore (lv' := [(6, .ref (B + (116 + 2 * p3.toNatClampNeg))), (0, .ref (B + 0)), (1, .int p1), (2, .int p2), (3, .int p3), (4, .int p4), (5, .int p5)]) hx hb dX4_who_40 hl (by decide) rfl (fun ls hl => ?_)
        refine lv_aload hx hb dX4_who_42 (lv_at hl 0 rfl) ?_
        refine lv_iload hx hb dX4_who_44 (lv_at hl 5 rfl) ?_
        refine lv_iload hx hb dX4_who_46 (lv_at hl 6 rfl) ?_
        obtain ⟨r15, u14, hf⟩ := lm_bd_e hf
        refine lm_endi (lm_runV C0 hR hS (c_X2_findingOf (isR_row z13) u14) (lw_cV 2 hts uw_121 mv_X2_findingOf rfl rfl hd_X2_findingOf ⟨Nat.le_of_ble_eq_true rfl, Nat.le_of_ble_eq_true rfl⟩) (isR_lt (isR_row z13)) (cell_R (isR_row z13)) rfl rfl hl rfl (Nat.le_of_ble_eq_true rfl) dX4_who_48) hS (fun H locs hR hS => ?_)
        refine lv_istore (lv' := [(7, .int r15), (6, .ref (B + (116 + 2 * p3.toNatClampNeg))), (0, .ref (B + 0)), (1, .int p1), (2, .int p2), (3, .int p3), (4, .int p4), (5, .int p5)]) hx hb dX4_who_51 hl (by decide) rfl (fun ls hl => ?_)
        refine lv_iload hx hb dX4_who_53 (lv_at hl 0 rfl) ?_
        refine lv_if_eq (tgt := 65) hx hb dX4_who_55 (by decide) (fun b17 => ?_) (fun b17 => ?_)
        · have hf := lm_T b17 hf
          refine lv_aload_n hx hb dX4_who_65 rfl (lv_at hl 2 rfl) ?_
          refine lv_iload_n hx hb dX4_who_66 rfl (lv_at hl 4 rfl) ?_
          refine lv_if_ne (tgt := 84) hx hb dX4_who_67 (by decide) (fun b18 => ?_) (fun b18 => ?_)
          · have hf := lm_F b18 hf
            refine lv_aload_n hx hb dX4_who_84 rfl (lv_at hl 2 rfl) ?_
            refine lv_iload_n hx hb dX4_who_85 rfl (lv_at hl 3 rfl) ?_
            refine lv_aload hx hb dX4_who_86 (lv_at hl 1 rfl) ?_
            refine lv_iload hx hb dX4_who_88 (lv_at hl 6 rfl) ?_
            refine lv_iload hx hb dX4_who_90 (lv_at hl 7 rfl) ?_
            obtain ⟨r20, σ21, u19, hf⟩ := lm_bd2_e hf
            refine lm_endi (lm_runV C0 hR hS (c_X4_cellsThatFit (isR_row z13) u19) (lw_cV 4 hts uw_397 mv_X4_cellsThatFit rfl rfl hd_X4_cellsThatFit ⟨Nat.le_of_ble_eq_true rfl, Nat.le_of_ble_eq_true rfl⟩) (by decide) cell_0 rfl rfl hl rfl (Nat.le_of_ble_eq_true rfl) dX4_who_92) hS (fun H locs hR hS => ?_)
            obtain ⟨r23, σ24, u22, hf⟩ := lm_bd2_e hf
            refine lm_endi (lm_runV C0 hR hS (c_X4_unfound u22) (lw_cV 1 hts uw_114 mv_X4_unfound rfl rfl hd_X4_unfound ⟨Nat.le_of_ble_eq_true rfl, Nat.le_of_ble_eq_true rfl⟩) (by decide) cell_0 rfl rfl hl rfl (Nat.le_of_ble_eq_true rfl) dX4_who_95) hS (fun H locs hR hS => ?_)
            exact lm_riC C0 hR hS hf dX4_who_98
          · have hf := lm_T b18 hf
            refine lv_aload_n hx hb dX4_who_70 rfl (lv_at hl 2 rfl) ?_
            refine lv_iload_n hx hb dX4_who_71 rfl (lv_at hl 3 rfl) ?_
            refine lv_aload hx hb dX4_who_72 (lv_at hl 1 rfl) ?_
            refine lv_iload hx hb dX4_who_74 (lv_at hl 6 rfl) ?_
            refine lv_iload hx hb dX4_who_76 (lv_at hl 7 rfl) ?_
            obtain ⟨r26, σ27, u25, hf⟩ := lm_bd2_e hf
            refine lm_endi (lm_runV C0 hR hS (c_X4_kindsThatFit (isR_row z13) u25) (lw_cV 4 hts uw_390 mv_X4_kindsThatFit rfl rfl hd_X4_kindsThatFit ⟨Nat.le_of_ble_eq_true rfl, Nat.le_of_ble_eq_true rfl⟩) (by decide) cell_0 rfl rfl hl rfl (Nat.le_of_ble_eq_true rfl) dX4_who_78) hS (fun H locs hR hS => ?_)
            refine lv_goto (tgt := 95) hx hb dX4_who_81 (by decide) ?_
            obtain ⟨r29, σ30, u28, hf⟩ := lm_bd2_e hf
            refine lm_endi (lm_runV C0 hR hS (c_X4_unfound u28) (lw_cV 1 hts uw_114 mv_X4_unfound rfl rfl hd_X4_unfound ⟨Nat.le_of_ble_eq_true rfl, Nat.le_of_ble_eq_true rfl⟩) (by decide) cell_0 rfl rfl hl rfl (Nat.le_of_ble_eq_true rfl) dX4_who_95) hS (fun H locs hR hS => ?_)
            exact lm_riC C0 hR hS hf dX4_who_98
        · have hf := lm_F b17 hf
          refine lv_aload_n hx hb dX4_who_58 rfl (lv_at hl 2 rfl) ?_
          refine lv_iload hx hb dX4_who_59 (lv_at hl 0 rfl) ?_
          obtain ⟨r32, σ33, u31, hf⟩ := lm_bd2_e hf
          refine lm_endi (lm_runV C0 hR hS (c_X4_found u31) (lw_cV 1 hts uw_106 mv_X4_found rfl rfl hd_X4_found ⟨Nat.le_of_ble_eq_true rfl, Nat.le_of_ble_eq_true rfl⟩) (by decide) cell_0 rfl rfl hl rfl (Nat.le_of_ble_eq_true rfl) dX4_who_61) hS (fun H locs hR hS => ?_)
          exact lm_riC C0 hR hS hf dX4_who_64
      · have hf := lm_T b12 hf
        refine lv_ldc hx hb hown (hts _ uw_105) dX4_who_31 ?_
        exact lm_riC C0 hR hS hf dX4_who_33
end
/-! ===== X4_fogs ===== -/
abbrev rmX4_fogs : Room := { frames := 5, cells := 0, slots := 0, locals := 149 }
def f_X4_fogs_77 : Nat → Int32 → Int32 → Int32 → Int32 → Nat → Int32 → Int32 → Mem → Option (Int32 × Mem)
  | 0, _, _, _, _, _, _, _, _ => none
  | n + 1, x1, x2, x4, x5, x6, x8, x9, σ => if (9 : Int32) < x9 then (lm_bd2 (f_X4_unfound σ x8) fun r23 σ24 => some (r23, σ24)) else (lm_bd (f_X1_takeOneShip 8 4 σ x2) fun σ27 => lm_ck (lm_in x1 6) (lm_nm (up σ27 (8 + 1) x1.toNatClampNeg x9) fun σ29 => lm_bd2 (f_X4_probeFits x6 σ29 x4 x5) fun r31 σ32 => lm_bd (f_X4_bitIf r31 x9) fun r34 => lm_nm (x8 ||| r34) fun v36 => lm_nm (x9 + (1 : Int32)) fun v37 => f_X4_fogs_77 n x1 x2 x4 x5 x6 v36 v37 σ32))
def f_X4_fogs (σ : Mem) (p1 : Int32) (p2 : Int32) (p3 : Int32) (p4 : Int32) (p5 : Int32) : Option (Int32 × Mem) := lm_bd (f_X4_isBelow p1 (σ 4 7)) fun r2 => if r2 = 0 then (some ((-1000001 : Int32), σ)) else (lm_bd (f_X4_isBelow p2 (σ 4 8)) fun r6 => if r6 = 0 then (some ((-1000001 : Int32), σ)) else (lm_bd (f_X4_isLog p3 p5) fun r10 => if r10 = 0 then (some ((-1000001 : Int32), σ)) else (lm_ck (lm_in p3 8) (lm_bd (f_X2_findingOf (116 + 2 * p3.toNatClampNeg) σ p4 p5) fun r15 => if r15 = 0 then (f_X4_fogs_77 lm_fu p1 p2 p4 p5 (116 + 2 * p3.toNatClampNeg) (0 : Int32) (0 : Int32) σ) else (lm_bd2 (f_X4_found σ r15) fun r19 σ20 => some (r19, σ20))))))
abbrev wsX4_fogs : List Cond := Cond.code yX4_fogs cX4_fogs 10 (some .int) :: lw_u
theorem mv_X4_fogs : Cond.instanceMethod yX4_fogs ∈ lw_u ∧ Cond.selects yX4_fogs.cls yX4_fogs yX4_fogs ∈ lw_u ∧ Cond.initialized yX4_fogs.cls ∈ lw_u ∧ Cond.code yX4_fogs cX4_fogs 10 (some .int) ∈ lw_u := ⟨uw_401, uw_402, uw_1, uw_403⟩
theorem hd_X4_fogs : yX4_fogs.cls ≠ "java/lang/invoke/MethodHandle" ∧ yX4_fogs.cls ≠ "java/lang/invoke/VarHandle" ∧ (parseMethodDescriptor yX4_fogs.desc).map (fun d => d.parameters.length) = some 5 := by decide +kernel
section
variable {l : Launch} {D : va_G} {cI cZ cL cR : ClassId} {B : Nat}
set_option maxRecDepth 100000 in
set_option maxHeartbeats 4000000 in
theorem w_X4_fogs_77 {p : Program} {e : Env} {s : State} {m : MethodId} {args : Array Value} {below : List Frame} {meth : Method} {c0 : Code} {τ σ' : Mem} {r : Int32} (C0 : lm_Cx D cI cZ cL cR B p s m args meth c0 cX4_fogs 10 (some .int) RX4) : ∀ (n : Nat), ∀ (x1 : Int32) (x2 : Int32) (x4 : Int32) (x5 : Int32) (x6 : Nat) (x8 : Int32) (x9 : Int32) (σ : Mem) (hx6 : isR x6) (H : Heap) (locs : List Loc) (ls : Array Slot), va_P D vwCl (wl cI cZ cL cR B σ τ) H → va_S (lm_A B) s.heap H locs → lv_has ls 10 [(0, .ref (B + 0)), (1, .int x1), (2, .int x2), (4, .int x4), (5, .int x5), (6, .ref (B + x6)), (8, .int x8), (9, .int x9)] → f_X4_fogs_77 n x1 x2 x4 x5 x6 x8 x9 σ = some (r, σ') → W p l e rmX4_fogs s m args below meth c0 H locs 0 0 (MQ below (lm_QI D cI cZ cL cR B r σ' τ) args s 0 0 (lm_A B)) (F0 m 77 ls []) := by
  obtain ⟨hx, hb, hml, hr, hlk, hown, hts, hK, hX⟩ := id C0
  intro n
  induction n with
  | zero =>
    intro x1 x2 x4 x5 x6 x8 x9 σ hx6 H locs ls hR hS hl hf
    cases hf
  | succ n ih =>
    intro x1 x2 x4 x5 x6 x8 x9 σ hx6 H locs ls hR hS hl hf
    rw [f_X4_fogs_77] at hf
    refine lv_iload hx hb dX4_fogs_77 (lv_at hl 7 rfl) ?_
    refine lv_bipush (v := (9 : Int32)) hx hb dX4_fogs_79 (by decide) ?_
    refine lv_icmp_gt (tgt := 133) hx hb dX4_fogs_81 (by decide) (fun b21 => ?_) (fun b21 => ?_)
    · have hf := lm_T b21 hf
      refine lv_aload_n hx hb dX4_fogs_133 rfl (lv_at hl 0 rfl) ?_
      refine lv_iload hx hb dX4_fogs_134 (lv_at hl 6 rfl) ?_
      obtain ⟨r23, σ24, u22, hf⟩ := lm_bd2_e hf
      refine lm_endi (lm_runV C0 hR hS (c_X4_unfound u22) (lw_cV 1 hts uw_114 mv_X4_unfound rfl rfl hd_X4_unfound ⟨Nat.le_of_ble_eq_true rfl, Nat.le_of_ble_eq_true rfl⟩) (by decide) cell_0 rfl rfl hl rfl (Nat.le_of_ble_eq_true rfl) dX4_fogs_136) hS (fun H locs hR hS => ?_)
      exact lm_riC C0 hR hS hf dX4_fogs_139
    · have hf := lm_F b21 hf
      refine lv_aload_n hx hb dX4_fogs_84 rfl (lv_at hl 0 rfl) ?_
      refine lm_get C0 hR (by decide) cell_0 rfl lw_in_X4 3 (by decide) uw_90 rfl rfl dX4_fogs_85 ?_
      refine lv_aload_n hx hb dX4_fogs_88 rfl (lv_at hl 0 rfl) ?_
      refine lm_get C0 hR (by decide) cell_0 rfl lw_in_X4 2 (by decide) uw_89 rfl rfl dX4_fogs_89 ?_
      refine lv_iload_n hx hb dX4_fogs_92 rfl (lv_at hl 2 rfl) ?_
      obtain ⟨σ27, u25, hf⟩ := lm_bd_e hf
      refine lm_endv (lm_runV C0 hR hS (c_X1_takeOneShip isL_8 isL_4 u25) (lw_cV 2 hts uw_311 mv_X1_takeOneShip rfl rfl hd_X1_takeOneShip ⟨Nat.le_of_ble_eq_true rfl, Nat.le_of_ble_eq_true rfl⟩) (isL_lt isL_8) (cell_L isL_8) rfl rfl hl rfl (Nat.le_of_ble_eq_true rfl) dX4_fogs_93) hS (fun H locs hR hS => ?_)
      refine lv_aload_n hx hb dX4_fogs_96 rfl (lv_at hl 0 rfl) ?_
      refine lm_get C0 hR (by decide) cell_0 rfl lw_in_X4 3 (by decide) uw_90 rfl rfl dX4_fogs_97 ?_
      refine lm_get C0 hR (isL_lt isL_8) (cell_L isL_8) rfl lw_in_X1 0 (by decide) uw_40 rfl rfl dX4_fogs_100 ?_
      refine lv_iload_n hx hb dX4_fogs_103 rfl (lv_at hl 1 rfl) ?_
      refine lv_iload hx hb dX4_fogs_104 (lv_at hl 7 rfl) ?_
      obtain ⟨z28, hf⟩ := lm_ck_e hf
      obtain ⟨σ29, eσ29, hf⟩ := lm_nm_e hf
      refine lm_istC C0 hR hS (isL_lt1 isL_8) (cell_L1 isL_8) z28  eσ29 (cell_L1u isL_8) dX4_fogs_106 (fun H locs hR hS => ?_)
      refine lv_iload hx hb dX4_fogs_107 (lv_at hl 6 rfl) ?_
      refine lv_aload_n hx hb dX4_fogs_109 rfl (lv_at hl 0 rfl) ?_
      refine lv_aload hx hb dX4_fogs_110 (lv_at hl 5 rfl) ?_
      refine lv_iload hx hb dX4_fogs_112 (lv_at hl 3 rfl) ?_
      refine lv_iload hx hb dX4_fogs_114 (lv_at hl 4 rfl) ?_
      obtain ⟨r31, σ32, u30, hf⟩ := lm_bd2_e hf
      refine lm_endi (lm_runV C0 hR hS (c_X4_probeFits hx6 u30) (lw_cV 3 hts uw_393 mv_X4_probeFits rfl rfl hd_X4_probeFits ⟨Nat.le_of_ble_eq_true rfl, Nat.le_of_ble_eq_true rfl⟩) (by decide) cell_0 rfl rfl hl rfl (Nat.le_of_ble_eq_true rfl) dX4_fogs_116) hS (fun H locs hR hS => ?_)
      refine lv_iload hx hb dX4_fogs_119 (lv_at hl 7 rfl) ?_
      obtain ⟨r34, u33, hf⟩ := lm_bd_e hf
      refine lm_endi (lm_runS C0 hR hS (c_X4_bitIf u33) (lw_cS 2 hts uw_396 mv_X4_bitIf rfl rfl hd_X4_bitIf ⟨Nat.le_of_ble_eq_true rfl, Nat.le_of_ble_eq_true rfl⟩) rfl hl rfl (Nat.le_of_ble_eq_true rfl) dX4_fogs_121) hS (fun H locs hR hS => ?_)
      refine lv_ior hx hb dX4_fogs_124 ?_
      obtain ⟨v36, ev36, hf⟩ := lm_nm_e hf
      refine lm_topi ev36 ?_
      refine lv_istore (lv' := [(8, .int v36), (0, .ref (B + 0)), (1, .int x1), (2, .int x2), (4, .int x4), (5, .int x5), (6, .ref (B + x6)), (9, .int x9)]) hx hb dX4_fogs_125 hl (by decide) rfl (fun ls hl => ?_)
      obtain ⟨v37, ev37, hf⟩ := lm_nm_e hf
      refine lv_iinc (v := v37) (lv' := [(9, .int v37), (8, .int v36), (0, .ref (B + 0)), (1, .int x1), (2, .int x2), (4, .int x4), (5, .int x5), (6, .ref (B + x6))]) hx hb dX4_fogs_127 hl (k := 7) rfl (by rw [ev37]; rfl) (by decide) rfl (fun ls hl => ?_)
      refine lv_goto (tgt := 77) hx hb dX4_fogs_130 (by decide) ?_
      exact ih _ _ _ _ _ _ _ _ hx6 _ _ _ hR hS (lv_sub hl [2, 3, 4, 5, 6, 7, 1, 0] rfl) hf
set_option maxRecDepth 100000 in
set_option maxHeartbeats 4000000 in
theorem c_X4_fogs {σ τ σ' : Mem} {p1 : Int32} {p2 : Int32} {p3 : Int32} {p4 : Int32} {p5 : Int32} {r : Int32}  (hf : f_X4_fogs σ p1 p2 p3 p4 p5 = some (r, σ')) : lm_CI l yX4_fogs wsX4_fogs rmX4_fogs D cI cZ cL cR B [.ref (B + 0), .int p1, .int p2, .int p3, .int p4, .int p5] σ τ r σ' τ := by
  unfold f_X4_fogs at hf
  refine lm_of (cc := cX4_fogs) (maxL := 10) (ret := (some .int)) (own := RX4) (by decide) rfl (Nat.le_of_ble_eq_true rfl) (fun p e s m below meth c0 C0 hR ls hl => ?_)
  have hS : va_S (lm_A B) s.heap s.heap [] := va_S.rf
  have hl : lv_has ls 10 [(0, .ref (B + 0)), (1, .int p1), (2, .int p2), (3, .int p3), (4, .int p4), (5, .int p5)] := hl
  obtain ⟨hx, hb, hml, hr, hlk, hown, hts, hK, hX⟩ := id C0
  refine lv_iload_n hx hb dX4_fogs_0 rfl (lv_at hl 1 rfl) ?_
  refine lv_aload_n hx hb dX4_fogs_1 rfl (lv_at hl 0 rfl) ?_
  refine lm_get C0 hR (by decide) cell_0 rfl lw_in_X4 2 (by decide) uw_89 rfl rfl dX4_fogs_2 ?_
  refine lm_get C0 hR (isL_lt isL_4) (cell_L isL_4) rfl lw_in_X1 7 (by decide) uw_60 rfl rfl dX4_fogs_5 ?_
  obtain ⟨r2, u1, hf⟩ := lm_bd_e hf
  refine lm_endi (lm_runS C0 hR hS (c_X4_isBelow u1) (lw_cS 2 hts uw_102 mv_X4_isBelow rfl rfl hd_X4_isBelow ⟨Nat.le_of_ble_eq_true rfl, Nat.le_of_ble_eq_true rfl⟩) rfl hl rfl (Nat.le_of_ble_eq_true rfl) dX4_fogs_8) hS (fun H locs hR hS => ?_)
  refine lv_if_eq (tgt := 37) hx hb dX4_fogs_11 (by decide) (fun b4 => ?_) (fun b4 => ?_)
  · have hf := lm_T b4 hf
    refine lv_ldc hx hb hown (hts _ uw_105) dX4_fogs_37 ?_
    exact lm_riC C0 hR hS hf dX4_fogs_39
  · have hf := lm_F b4 hf
    refine lv_iload_n hx hb dX4_fogs_14 rfl (lv_at hl 2 rfl) ?_
    refine lv_aload_n hx hb dX4_fogs_15 rfl (lv_at hl 0 rfl) ?_
    refine lm_get C0 hR (by decide) cell_0 rfl lw_in_X4 2 (by decide) uw_89 rfl rfl dX4_fogs_16 ?_
    refine lm_get C0 hR (isL_lt isL_4) (cell_L isL_4) rfl lw_in_X1 8 (by decide) uw_62 rfl rfl dX4_fogs_19 ?_
    obtain ⟨r6, u5, hf⟩ := lm_bd_e hf
    refine lm_endi (lm_runS C0 hR hS (c_X4_isBelow u5) (lw_cS 2 hts uw_102 mv_X4_isBelow rfl rfl hd_X4_isBelow ⟨Nat.le_of_ble_eq_true rfl, Nat.le_of_ble_eq_true rfl⟩) rfl hl rfl (Nat.le_of_ble_eq_true rfl) dX4_fogs_22) hS (fun H locs hR hS => ?_)
    refine lv_if_eq (tgt := 37) hx hb dX4_fogs_25 (by decide) (fun b8 => ?_) (fun b8 => ?_)
    · have hf := lm_T b8 hf
      refine lv_ldc hx hb hown (hts _ uw_105) dX4_fogs_37 ?_
      exact lm_riC C0 hR hS hf dX4_fogs_39
    · have hf := lm_F b8 hf
      refine lv_iload_n hx hb dX4_fogs_28 rfl (lv_at hl 3 rfl) ?_
      refine lv_iload hx hb dX4_fogs_29 (lv_at hl 5 rfl) ?_
      obtain ⟨r10, u9, hf⟩ := lm_bd_e hf
      refine lm_endi (lm_runS C0 hR hS (c_X4_isLog u9) (lw_cS 2 hts uw_387 mv_X4_isLog rfl rfl hd_X4_isLog ⟨Nat.le_of_ble_eq_true rfl, Nat.le_of_ble_eq_true rfl⟩) rfl hl rfl (Nat.le_of_ble_eq_true rfl) dX4_fogs_31) hS (fun H locs hR hS => ?_)
      refine lv_if_ne (tgt := 40) hx hb dX4_fogs_34 (by decide) (fun b12 => ?_) (fun b12 => ?_)
      · have hf := lm_F b12 hf
        refine lv_aload_n hx hb dX4_fogs_40 rfl (lv_at hl 0 rfl) ?_
        refine lm_get C0 hR (by decide) cell_0 rfl lw_in_X4 0 (by decide) uw_87 rfl rfl dX4_fogs_41 ?_
        refine lv_iload_n hx hb dX4_fogs_44 rfl (lv_at hl 3 rfl) ?_
        obtain ⟨z13, hf⟩ := lm_ck_e hf
        refine lm_ald C0 hR (t0 := 3) (by decide) cell_1 rfl z13 rfl dX4_fogs_45 ?_
        refine lv_astore (lv' := [(6, .ref (B + (116 + 2 * p3.toNatClampNeg))), (0, .ref (B + 0)), (1, .int p1), (2, .int p2), (3, .int p3), (4, .int p4), (5, .int p5)]) hx hb dX4_fogs_46 hl (by decide) rfl (fun ls hl => ?_)
        refine lv_aload hx hb dX4_fogs_48 (lv_at hl 0 rfl) ?_
        refine lv_iload hx hb dX4_fogs_50 (lv_at hl 5 rfl) ?_
        refine lv_iload hx hb dX4_fogs_52 (lv_at hl 6 rfl) ?_
        obtain ⟨r15, u14, hf⟩ := lm_bd_e hf
        refine lm_endi (lm_runV C0 hR hS (c_X2_findingOf (isR_row z13) u14) (lw_cV 2 hts uw_121 mv_X2_findingOf rfl rfl hd_X2_findingOf ⟨Nat.le_of_ble_eq_true rfl, Nat.le_of_ble_eq_true rfl⟩) (isR_lt (isR_row z13)) (cell_R (isR_row z13)) rfl rfl hl rfl (Nat.le_of_ble_eq_true rfl) dX4_fogs_54) hS (fun H locs hR hS => ?_)
        refine lv_istore (lv' := [(7, .int r15), (6, .ref (B + (116 + 2 * p3.toNatClampNeg))), (0, .ref (B + 0)), (1, .int p1), (2, .int p2), (3, .int p3), (4, .int p4), (5, .int p5)]) hx hb dX4_fogs_57 hl (by decide) rfl (fun ls hl => ?_)
        refine lv_iload hx hb dX4_fogs_59 (lv_at hl 0 rfl) ?_
        refine lv_if_eq (tgt := 71) hx hb dX4_fogs_61 (by decide) (fun b17 => ?_) (fun b17 => ?_)
        · have hf := lm_T b17 hf
          refine lv_iconst (v := (0 : Int32)) hx hb dX4_fogs_71 (by decide) ?_
          refine lv_istore (lv' := [(8, .int (0 : Int32)), (7, .int r15), (6, .ref (B + (116 + 2 * p3.toNatClampNeg))), (0, .ref (B + 0)), (1, .int p1), (2, .int p2), (3, .int p3), (4, .int p4), (5, .int p5)]) hx hb dX4_fogs_72 hl (by decide) rfl (fun ls hl => ?_)
          refine lv_iconst (v := (0 : Int32)) hx hb dX4_fogs_74 (by decide) ?_
          refine lv_istore (lv' := [(9, .int (0 : Int32)), (8, .int (0 : Int32)), (7, .int r15), (6, .ref (B + (116 + 2 * p3.toNatClampNeg))), (0, .ref (B + 0)), (1, .int p1), (2, .int p2), (3, .int p3), (4, .int p4), (5, .int p5)]) hx hb dX4_fogs_75 hl (by decide) rfl (fun ls hl => ?_)
          exact w_X4_fogs_77 C0 _ _ _ _ _ _ _ _ _ (isR_row z13) _ _ _ hR hS (lv_sub hl [4, 5, 6, 8, 9, 3, 1, 0] rfl) hf
        · have hf := lm_F b17 hf
          refine lv_aload_n hx hb dX4_fogs_64 rfl (lv_at hl 2 rfl) ?_
          refine lv_iload hx hb dX4_fogs_65 (lv_at hl 0 rfl) ?_
          obtain ⟨r19, σ20, u18, hf⟩ := lm_bd2_e hf
          refine lm_endi (lm_runV C0 hR hS (c_X4_found u18) (lw_cV 1 hts uw_106 mv_X4_found rfl rfl hd_X4_found ⟨Nat.le_of_ble_eq_true rfl, Nat.le_of_ble_eq_true rfl⟩) (by decide) cell_0 rfl rfl hl rfl (Nat.le_of_ble_eq_true rfl) dX4_fogs_67) hS (fun H locs hR hS => ?_)
          exact lm_riC C0 hR hS hf dX4_fogs_70
      · have hf := lm_T b12 hf
        refine lv_ldc hx hb hown (hts _ uw_105) dX4_fogs_37 ?_
        exact lm_riC C0 hR hS hf dX4_fogs_39
end
/-! ===== X4_eyesThatFit ===== -/
abbrev rmX4_eyesThatFit : Room := { frames := 5, cells := 0, slots := 0, locals := 149 }
def f_X4_eyesThatFit_6 (o2 : Nat) : Nat → Int32 → Int32 → Int32 → Int32 → Int32 → Mem → Option (Int32 × Mem)
  | 0, _, _, _, _, _, _ => none
  | n + 1, x1, x3, x4, x5, x6, σ => if (12 : Int32) < x6 then (some (x5, σ)) else (lm_bd (f_X1_takeOneShip 8 4 σ x1) fun σ4 => lm_nm (up σ4 8 4 x6) fun σ5 => lm_bd2 (f_X4_probeFits o2 σ5 x3 x4) fun r7 σ8 => lm_bd (f_X4_bitIf r7 x6) fun r10 => lm_nm (x5 ||| r10) fun v12 => lm_nm (x6 + (1 : Int32)) fun v13 => f_X4_eyesThatFit_6 o2 n x1 x3 x4 v12 v13 σ8)
def f_X4_eyesThatFit (o2 : Nat) (σ : Mem) (p1 : Int32) (p3 : Int32) (p4 : Int32) : Option (Int32 × Mem) := f_X4_eyesThatFit_6 o2 lm_fu p1 p3 p4 (0 : Int32) (0 : Int32) σ
abbrev wsX4_eyesThatFit : List Cond := Cond.code yX4_eyesThatFit cX4_eyesThatFit 7 (some .int) :: lw_u
theorem mv_X4_eyesThatFit : Cond.instanceMethod yX4_eyesThatFit ∈ lw_u ∧ Cond.selects yX4_eyesThatFit.cls yX4_eyesThatFit yX4_eyesThatFit ∈ lw_u ∧ Cond.initialized yX4_eyesThatFit.cls ∈ lw_u ∧ Cond.code yX4_eyesThatFit cX4_eyesThatFit 7 (some .int) ∈ lw_u := ⟨uw_409, uw_863, uw_1, uw_410⟩
theorem hd_X4_eyesThatFit : yX4_eyesThatFit.cls ≠ "java/lang/invoke/MethodHandle" ∧ yX4_eyesThatFit.cls ≠ "java/lang/invoke/VarHandle" ∧ (parseMethodDescriptor yX4_eyesThatFit.desc).map (fun d => d.parameters.length) = some 4 := by decide +kernel
section
variable {l : Launch} {D : va_G} {cI cZ cL cR : ClassId} {B : Nat}
set_option maxRecDepth 100000 in
set_option maxHeartbeats 4000000 in
theorem w_X4_eyesThatFit_6 {o2 : Nat} (h2 : isR o2) {p : Program} {e : Env} {s : State} {m : MethodId} {args : Array Value} {below : List Frame} {meth : Method} {c0 : Code} {τ σ' : Mem} {r : Int32} (C0 : lm_Cx D cI cZ cL cR B p s m args meth c0 cX4_eyesThatFit 7 (some .int) RX4) : ∀ (n : Nat), ∀ (x1 : Int32) (x3 : Int32) (x4 : Int32) (x5 : Int32) (x6 : Int32) (σ : Mem) (H : Heap) (locs : List Loc) (ls : Array Slot), va_P D vwCl (wl cI cZ cL cR B σ τ) H → va_S (lm_A B) s.heap H locs → lv_has ls 7 [(0, .ref (B + 0)), (1, .int x1), (2, .ref (B + o2)), (3, .int x3), (4, .int x4), (5, .int x5), (6, .int x6)] → f_X4_eyesThatFit_6 o2 n x1 x3 x4 x5 x6 σ = some (r, σ') → W p l e rmX4_eyesThatFit s m args below meth c0 H locs 0 0 (MQ below (lm_QI D cI cZ cL cR B r σ' τ) args s 0 0 (lm_A B)) (F0 m 6 ls []) := by
  obtain ⟨hx, hb, hml, hr, hlk, hown, hts, hK, hX⟩ := id C0
  intro n
  induction n with
  | zero =>
    intro x1 x3 x4 x5 x6 σ H locs ls hR hS hl hf
    cases hf
  | succ n ih =>
    intro x1 x3 x4 x5 x6 σ H locs ls hR hS hl hf
    rw [f_X4_eyesThatFit_6] at hf
    refine lv_iload hx hb dX4_eyesThatFit_6 (lv_at hl 6 rfl) ?_
    refine lv_bipush (v := (12 : Int32)) hx hb dX4_eyesThatFit_8 (by decide) ?_
    refine lv_icmp_gt (tgt := 58) hx hb dX4_eyesThatFit_10 (by decide) (fun b1 => ?_) (fun b1 => ?_)
    · have hf := lm_T b1 hf
      refine lv_iload hx hb dX4_eyesThatFit_58 (lv_at hl 5 rfl) ?_
      exact lm_riC C0 hR hS hf dX4_eyesThatFit_60
    · have hf := lm_F b1 hf
      refine lv_aload_n hx hb dX4_eyesThatFit_13 rfl (lv_at hl 0 rfl) ?_
      refine lm_get C0 hR (by decide) cell_0 rfl lw_in_X4 3 (by decide) uw_90 rfl rfl dX4_eyesThatFit_14 ?_
      refine lv_aload_n hx hb dX4_eyesThatFit_17 rfl (lv_at hl 0 rfl) ?_
      refine lm_get C0 hR (by decide) cell_0 rfl lw_in_X4 2 (by decide) uw_89 rfl rfl dX4_eyesThatFit_18 ?_
      refine lv_iload_n hx hb dX4_eyesThatFit_21 rfl (lv_at hl 1 rfl) ?_
      obtain ⟨σ4, u2, hf⟩ := lm_bd_e hf
      refine lm_endv (lm_runV C0 hR hS (c_X1_takeOneShip isL_8 isL_4 u2) (lw_cV 2 hts uw_311 mv_X1_takeOneShip rfl rfl hd_X1_takeOneShip ⟨Nat.le_of_ble_eq_true rfl, Nat.le_of_ble_eq_true rfl⟩) (isL_lt isL_8) (cell_L isL_8) rfl rfl hl rfl (Nat.le_of_ble_eq_true rfl) dX4_eyesThatFit_22) hS (fun H locs hR hS => ?_)
      refine lv_aload_n hx hb dX4_eyesThatFit_25 rfl (lv_at hl 0 rfl) ?_
      refine lm_get C0 hR (by decide) cell_0 rfl lw_in_X4 3 (by decide) uw_90 rfl rfl dX4_eyesThatFit_26 ?_
      refine lv_iload hx hb dX4_eyesThatFit_29 (lv_at hl 6 rfl) ?_
      obtain ⟨σ5, eσ5, hf⟩ := lm_nm_e hf
      refine lm_putC C0 hR hS (isL_lt isL_8) (cell_L isL_8) rfl lw_in_X1 tyX1 tyX1_ok nmX1 4 (by decide) uw_52 rfl rfl rfl rfl rfl (Nat.le_of_ble_eq_true rfl) eσ5 (cell_Lu isL_8) dX4_eyesThatFit_31 (fun H locs hR hS => ?_)
      refine lv_iload hx hb dX4_eyesThatFit_34 (lv_at hl 5 rfl) ?_
      refine lv_aload_n hx hb dX4_eyesThatFit_36 rfl (lv_at hl 0 rfl) ?_
      refine lv_aload_n hx hb dX4_eyesThatFit_37 rfl (lv_at hl 2 rfl) ?_
      refine lv_iload_n hx hb dX4_eyesThatFit_38 rfl (lv_at hl 3 rfl) ?_
      refine lv_iload hx hb dX4_eyesThatFit_39 (lv_at hl 4 rfl) ?_
      obtain ⟨r7, σ8, u6, hf⟩ := lm_bd2_e hf
      refine lm_endi (lm_runV C0 hR hS (c_X4_probeFits h2 u6) (lw_cV 3 hts uw_393 mv_X4_probeFits rfl rfl hd_X4_probeFits ⟨Nat.le_of_ble_eq_true rfl, Nat.le_of_ble_eq_true rfl⟩) (by decide) cell_0 rfl rfl hl rfl (Nat.le_of_ble_eq_true rfl) dX4_eyesThatFit_41) hS (fun H locs hR hS => ?_)
      refine lv_iload hx hb dX4_eyesThatFit_44 (lv_at hl 6 rfl) ?_
      obtain ⟨r10, u9, hf⟩ := lm_bd_e hf
      refine lm_endi (lm_runS C0 hR hS (c_X4_bitIf u9) (lw_cS 2 hts uw_396 mv_X4_bitIf rfl rfl hd_X4_bitIf ⟨Nat.le_of_ble_eq_true rfl, Nat.le_of_ble_eq_true rfl⟩) rfl hl rfl (Nat.le_of_ble_eq_true rfl) dX4_eyesThatFit_46) hS (fun H locs hR hS => ?_)
      refine lv_ior hx hb dX4_eyesThatFit_49 ?_
      obtain ⟨v12, ev12, hf⟩ := lm_nm_e hf
      refine lm_topi ev12 ?_
      refine lv_istore (lv' := [(5, .int v12), (0, .ref (B + 0)), (1, .int x1), (2, .ref (B + o2)), (3, .int x3), (4, .int x4), (6, .int x6)]) hx hb dX4_eyesThatFit_50 hl (by decide) rfl (fun ls hl => ?_)
      obtain ⟨v13, ev13, hf⟩ := lm_nm_e hf
      refine lv_iinc (v := v13) (lv' := [(6, .int v13), (5, .int v12), (0, .ref (B + 0)), (1, .int x1), (2, .ref (B + o2)), (3, .int x3), (4, .int x4)]) hx hb dX4_eyesThatFit_52 hl (k := 6) rfl (by rw [ev13]; rfl) (by decide) rfl (fun ls hl => ?_)
      refine lv_goto (tgt := 6) hx hb dX4_eyesThatFit_55 (by decide) ?_
      exact ih _ _ _ _ _ _ _ _ _ hR hS (lv_sub hl [2, 3, 4, 5, 6, 1, 0] rfl) hf
set_option maxRecDepth 100000 in
set_option maxHeartbeats 4000000 in
theorem c_X4_eyesThatFit {o2 : Nat} (h2 : isR o2) {σ τ σ' : Mem} {p1 : Int32} {p3 : Int32} {p4 : Int32} {r : Int32}  (hf : f_X4_eyesThatFit o2 σ p1 p3 p4 = some (r, σ')) : lm_CI l yX4_eyesThatFit wsX4_eyesThatFit rmX4_eyesThatFit D cI cZ cL cR B [.ref (B + 0), .int p1, .ref (B + o2), .int p3, .int p4] σ τ r σ' τ := by
  unfold f_X4_eyesThatFit at hf
  refine lm_of (cc := cX4_eyesThatFit) (maxL := 7) (ret := (some .int)) (own := RX4) (by decide) rfl (Nat.le_of_ble_eq_true rfl) (fun p e s m below meth c0 C0 hR ls hl => ?_)
  have hS : va_S (lm_A B) s.heap s.heap [] := va_S.rf
  have hl : lv_has ls 7 [(0, .ref (B + 0)), (1, .int p1), (2, .ref (B + o2)), (3, .int p3), (4, .int p4)] := hl
  obtain ⟨hx, hb, hml, hr, hlk, hown, hts, hK, hX⟩ := id C0
  refine lv_iconst (v := (0 : Int32)) hx hb dX4_eyesThatFit_0 (by decide) ?_
  refine lv_istore (lv' := [(5, .int (0 : Int32)), (0, .ref (B + 0)), (1, .int p1), (2, .ref (B + o2)), (3, .int p3), (4, .int p4)]) hx hb dX4_eyesThatFit_1 hl (by decide) rfl (fun ls hl => ?_)
  refine lv_iconst (v := (0 : Int32)) hx hb dX4_eyesThatFit_3 (by decide) ?_
  refine lv_istore (lv' := [(6, .int (0 : Int32)), (5, .int (0 : Int32)), (0, .ref (B + 0)), (1, .int p1), (2, .ref (B + o2)), (3, .int p3), (4, .int p4)]) hx hb dX4_eyesThatFit_4 hl (by decide) rfl (fun ls hl => ?_)
  exact w_X4_eyesThatFit_6 h2 C0 _ _ _ _ _ _ _ _ _ _ hR hS (lv_sub hl [2, 3, 4, 5, 6, 1, 0] rfl) hf
end
/-! ===== X4_oilsThatFit ===== -/
abbrev rmX4_oilsThatFit : Room := { frames := 5, cells := 0, slots := 0, locals := 149 }
def f_X4_oilsThatFit_11 (o3 : Nat) : Nat → Int32 → Int32 → Int32 → Int32 → Int32 → Int32 → Int32 → Mem → Option (Int32 × Mem)
  | 0, _, _, _, _, _, _, _, _ => none
  | n + 1, x1, x2, x4, x5, x6, x7, x8, σ => if x8 < 0 then (if x2 = (1 : Int32) then (some (x6, σ)) else (some (x7, σ))) else (lm_bd (f_X1_takeOneShip 8 4 σ x1) fun σ5 => lm_nm (up σ5 8 5 x8) fun σ6 => lm_bd2 (f_X4_probeFits o3 σ6 x4 x5) fun r8 σ9 => if r8 = 0 then (lm_nm (x8 + (-1 : Int32)) fun v11 => f_X4_oilsThatFit_11 o3 n x1 x2 x4 x5 x6 x7 v11 σ9) else (lm_nm (x6 + (1 : Int32)) fun v12 => lm_nm (x8 + (-1 : Int32)) fun v13 => f_X4_oilsThatFit_11 o3 n x1 x2 x4 x5 v12 x8 v13 σ9))
def f_X4_oilsThatFit (o3 : Nat) (σ : Mem) (p1 : Int32) (p2 : Int32) (p4 : Int32) (p5 : Int32) : Option (Int32 × Mem) := f_X4_oilsThatFit_11 o3 lm_fu p1 p2 p4 p5 (0 : Int32) (-1000000 : Int32) (60 : Int32) σ
abbrev wsX4_oilsThatFit : List Cond := Cond.code yX4_oilsThatFit cX4_oilsThatFit 9 (some .int) :: lw_u
theorem mv_X4_oilsThatFit : Cond.instanceMethod yX4_oilsThatFit ∈ lw_u ∧ Cond.selects yX4_oilsThatFit.cls yX4_oilsThatFit yX4_oilsThatFit ∈ lw_u ∧ Cond.initialized yX4_oilsThatFit.cls ∈ lw_u ∧ Cond.code yX4_oilsThatFit cX4_oilsThatFit 9 (some .int) ∈ lw_u := ⟨uw_412, uw_864, uw_1, uw_413⟩
theorem hd_X4_oilsThatFit : yX4_oilsThatFit.cls ≠ "java/lang/invoke/MethodHandle" ∧ yX4_oilsThatFit.cls ≠ "java/lang/invoke/VarHandle" ∧ (parseMethodDescriptor yX4_oilsThatFit.desc).map (fun d => d.parameters.length) = some 5 := by decide +kernel
section
variable {l : Launch} {D : va_G} {cI cZ cL cR : ClassId} {B : Nat}
set_option maxRecDepth 100000 in
set_option maxHeartbeats 4000000 in
theorem w_X4_oilsThatFit_11 {o3 : Nat} (h3 : isR o3) {p : Program} {e : Env} {s : State} {m : MethodId} {args : Array Value} {below : List Frame} {meth : Method} {c0 : Code} {τ σ' : Mem} {r : Int32} (C0 : lm_Cx D cI cZ cL cR B p s m args meth c0 cX4_oilsThatFit 9 (some .int) RX4) : ∀ (n : Nat), ∀ (x1 : Int32) (x2 : Int32) (x4 : Int32) (x5 : Int32) (x6 : Int32) (x7 : Int32) (x8 : Int32) (σ : Mem) (H : Heap) (locs : List Loc) (ls : Array Slot), va_P D vwCl (wl cI cZ cL cR B σ τ) H → va_S (lm_A B) s.heap H locs → lv_has ls 9 [(0, .ref (B + 0)), (1, .int x1), (2, .int x2), (3, .ref (B + o3)), (4, .int x4), (5, .int x5), (6, .int x6), (7, .int x7), (8, .int x8)] → f_X4_oilsThatFit_11 o3 n x1 x2 x4 x5 x6 x7 x8 σ = some (r, σ') → W p l e rmX4_oilsThatFit s m args below meth c0 H locs 0 0 (MQ below (lm_QI D cI cZ cL cR B r σ' τ) args s 0 0 (lm_A B)) (F0 m 11 ls []) := by
  obtain ⟨hx, hb, hml, hr, hlk, hown, hts, hK, hX⟩ := id C0
  intro n
  induction n with
  | zero =>
    intro x1 x2 x4 x5 x6 x7 x8 σ H locs ls hR hS hl hf
    cases hf
  | succ n ih =>
    intro x1 x2 x4 x5 x6 x7 x8 σ H locs ls hR hS hl hf
    rw [f_X4_oilsThatFit_11] at hf
    refine lv_iload hx hb dX4_oilsThatFit_11 (lv_at hl 8 rfl) ?_
    refine lv_if_lt (tgt := 62) hx hb dX4_oilsThatFit_13 (by decide) (fun b1 => ?_) (fun b1 => ?_)
    · have hf := lm_T b1 hf
      refine lv_iload_n hx hb dX4_oilsThatFit_62 rfl (lv_at hl 2 rfl) ?_
      refine lv_iconst (v := (1 : Int32)) hx hb dX4_oilsThatFit_63 (by decide) ?_
      refine lv_icmp_ne (tgt := 72) hx hb dX4_oilsThatFit_64 (by decide) (fun b2 => ?_) (fun b2 => ?_)
      · have hf := lm_F b2 hf
        refine lv_iload hx hb dX4_oilsThatFit_72 (lv_at hl 7 rfl) ?_
        exact lm_riC C0 hR hS hf dX4_oilsThatFit_74
      · have hf := lm_T b2 hf
        refine lv_iload hx hb dX4_oilsThatFit_67 (lv_at hl 6 rfl) ?_
        refine lv_goto (tgt := 74) hx hb dX4_oilsThatFit_69 (by decide) ?_
        exact lm_riC C0 hR hS hf dX4_oilsThatFit_74
    · have hf := lm_F b1 hf
      refine lv_aload_n hx hb dX4_oilsThatFit_16 rfl (lv_at hl 0 rfl) ?_
      refine lm_get C0 hR (by decide) cell_0 rfl lw_in_X4 3 (by decide) uw_90 rfl rfl dX4_oilsThatFit_17 ?_
      refine lv_aload_n hx hb dX4_oilsThatFit_20 rfl (lv_at hl 0 rfl) ?_
      refine lm_get C0 hR (by decide) cell_0 rfl lw_in_X4 2 (by decide) uw_89 rfl rfl dX4_oilsThatFit_21 ?_
      refine lv_iload_n hx hb dX4_oilsThatFit_24 rfl (lv_at hl 1 rfl) ?_
      obtain ⟨σ5, u3, hf⟩ := lm_bd_e hf
      refine lm_endv (lm_runV C0 hR hS (c_X1_takeOneShip isL_8 isL_4 u3) (lw_cV 2 hts uw_311 mv_X1_takeOneShip rfl rfl hd_X1_takeOneShip ⟨Nat.le_of_ble_eq_true rfl, Nat.le_of_ble_eq_true rfl⟩) (isL_lt isL_8) (cell_L isL_8) rfl rfl hl rfl (Nat.le_of_ble_eq_true rfl) dX4_oilsThatFit_25) hS (fun H locs hR hS => ?_)
      refine lv_aload_n hx hb dX4_oilsThatFit_28 rfl (lv_at hl 0 rfl) ?_
      refine lm_get C0 hR (by decide) cell_0 rfl lw_in_X4 3 (by decide) uw_90 rfl rfl dX4_oilsThatFit_29 ?_
      refine lv_iload hx hb dX4_oilsThatFit_32 (lv_at hl 8 rfl) ?_
      obtain ⟨σ6, eσ6, hf⟩ := lm_nm_e hf
      refine lm_putC C0 hR hS (isL_lt isL_8) (cell_L isL_8) rfl lw_in_X1 tyX1 tyX1_ok nmX1 5 (by decide) uw_55 rfl rfl rfl rfl rfl (Nat.le_of_ble_eq_true rfl) eσ6 (cell_Lu isL_8) dX4_oilsThatFit_34 (fun H locs hR hS => ?_)
      refine lv_aload_n hx hb dX4_oilsThatFit_37 rfl (lv_at hl 0 rfl) ?_
      refine lv_aload_n hx hb dX4_oilsThatFit_38 rfl (lv_at hl 3 rfl) ?_
      refine lv_iload hx hb dX4_oilsThatFit_39 (lv_at hl 4 rfl) ?_
      refine lv_iload hx hb dX4_oilsThatFit_41 (lv_at hl 5 rfl) ?_
      obtain ⟨r8, σ9, u7, hf⟩ := lm_bd2_e hf
      refine lm_endi (lm_runV C0 hR hS (c_X4_probeFits h3 u7) (lw_cV 3 hts uw_393 mv_X4_probeFits rfl rfl hd_X4_probeFits ⟨Nat.le_of_ble_eq_true rfl, Nat.le_of_ble_eq_true rfl⟩) (by decide) cell_0 rfl rfl hl rfl (Nat.le_of_ble_eq_true rfl) dX4_oilsThatFit_43) hS (fun H locs hR hS => ?_)
      refine lv_if_eq (tgt := 56) hx hb dX4_oilsThatFit_46 (by decide) (fun b10 => ?_) (fun b10 => ?_)
      · have hf := lm_T b10 hf
        obtain ⟨v11, ev11, hf⟩ := lm_nm_e hf
        refine lv_iinc (v := v11) (lv' := [(8, .int v11), (0, .ref (B + 0)), (1, .int x1), (2, .int x2), (3, .ref (B + o3)), (4, .int x4), (5, .int x5), (6, .int x6), (7, .int x7)]) hx hb dX4_oilsThatFit_56 hl (k := 8) rfl (by rw [ev11]; rfl) (by decide) rfl (fun ls hl => ?_)
        refine lv_goto (tgt := 11) hx hb dX4_oilsThatFit_59 (by decide) ?_
        exact ih _ _ _ _ _ _ _ _ _ _ _ hR hS (lv_sub hl [1, 2, 3, 4, 5, 6, 7, 8, 0] rfl) hf
      · have hf := lm_F b10 hf
        obtain ⟨v12, ev12, hf⟩ := lm_nm_e hf
        refine lv_iinc (v := v12) (lv' := [(6, .int v12), (0, .ref (B + 0)), (1, .int x1), (2, .int x2), (3, .ref (B + o3)), (4, .int x4), (5, .int x5), (7, .int x7), (8, .int x8)]) hx hb dX4_oilsThatFit_49 hl (k := 6) rfl (by rw [ev12]; rfl) (by decide) rfl (fun ls hl => ?_)
        refine lv_iload hx hb dX4_oilsThatFit_52 (lv_at hl 8 rfl) ?_
        refine lv_istore (lv' := [(7, .int x8), (6, .int v12), (0, .ref (B + 0)), (1, .int x1), (2, .int x2), (3, .ref (B + o3)), (4, .int x4), (5, .int x5), (8, .int x8)]) hx hb dX4_oilsThatFit_54 hl (by decide) rfl (fun ls hl => ?_)
        obtain ⟨v13, ev13, hf⟩ := lm_nm_e hf
        refine lv_iinc (v := v13) (lv' := [(8, .int v13), (7, .int x8), (6, .int v12), (0, .ref (B + 0)), (1, .int x1), (2, .int x2), (3, .ref (B + o3)), (4, .int x4), (5, .int x5)]) hx hb dX4_oilsThatFit_56 hl (k := 8) rfl (by rw [ev13]; rfl) (by decide) rfl (fun ls hl => ?_)
        refine lv_goto (tgt := 11) hx hb dX4_oilsThatFit_59 (by decide) ?_
        exact ih _ _ _ _ _ _ _ _ _ _ _ hR hS (lv_sub hl [3, 4, 5, 6, 7, 8, 2, 1, 0] rfl) hf
set_option maxRecDepth 100000 in
set_option maxHeartbeats 4000000 in
theorem c_X4_oilsThatFit {o3 : Nat} (h3 : isR o3) {σ τ σ' : Mem} {p1 : Int32} {p2 : Int32} {p4 : Int32} {p5 : Int32} {r : Int32}  (hf : f_X4_oilsThatFit o3 σ p1 p2 p4 p5 = some (r, σ')) : lm_CI l yX4_oilsThatFit wsX4_oilsThatFit rmX4_oilsThatFit D cI cZ cL cR B [.ref (B + 0), .int p1, .int p2, .ref (B + o3), .int p4, .int p5] σ τ r σ' τ := by
  unfold f_X4_oilsThatFit at hf
  refine lm_of (cc := cX4_oilsThatFit) (maxL := 9) (ret := (some .int)) (own := RX4) (by decide) rfl (Nat.le_of_ble_eq_true rfl) (fun p e s m below meth c0 C0 hR ls hl => ?_)
  have hS : va_S (lm_A B) s.heap s.heap [] := va_S.rf
  have hl : lv_has ls 9 [(0, .ref (B + 0)), (1, .int p1), (2, .int p2), (3, .ref (B + o3)), (4, .int p4), (5, .int p5)] := hl
  obtain ⟨hx, hb, hml, hr, hlk, hown, hts, hK, hX⟩ := id C0
  refine lv_iconst (v := (0 : Int32)) hx hb dX4_oilsThatFit_0 (by decide) ?_
  refine lv_istore (lv' := [(6, .int (0 : Int32)), (0, .ref (B + 0)), (1, .int p1), (2, .int p2), (3, .ref (B + o3)), (4, .int p4), (5, .int p5)]) hx hb dX4_oilsThatFit_1 hl (by decide) rfl (fun ls hl => ?_)
  refine lv_ldc hx hb hown (hts _ uw_332) dX4_oilsThatFit_3 ?_
  refine lv_istore (lv' := [(7, .int (-1000000 : Int32)), (6, .int (0 : Int32)), (0, .ref (B + 0)), (1, .int p1), (2, .int p2), (3, .ref (B + o3)), (4, .int p4), (5, .int p5)]) hx hb dX4_oilsThatFit_5 hl (by decide) rfl (fun ls hl => ?_)
  refine lv_bipush (v := (60 : Int32)) hx hb dX4_oilsThatFit_7 (by decide) ?_
  refine lv_istore (lv' := [(8, .int (60 : Int32)), (7, .int (-1000000 : Int32)), (6, .int (0 : Int32)), (0, .ref (B + 0)), (1, .int p1), (2, .int p2), (3, .ref (B + o3)), (4, .int p4), (5, .int p5)]) hx hb dX4_oilsThatFit_9 hl (by decide) rfl (fun ls hl => ?_)
  exact w_X4_oilsThatFit_11 h3 C0 _ _ _ _ _ _ _ _ _ _ _ _ hR hS (lv_sub hl [3, 4, 5, 6, 7, 8, 2, 1, 0] rfl) hf
end
/-! ===== X4_sights ===== -/
abbrev rmX4_sights : Room := { frames := 6, cells := 0, slots := 0, locals := 177 }
def f_X4_sights (σ : Mem) (p1 : Int32) (p2 : Int32) (p3 : Int32) (p4 : Int32) (p5 : Int32) : Option (Int32 × Mem) := lm_bd (f_X4_isBelow p1 (σ 4 8)) fun r2 => if r2 = 0 then (some ((-1000001 : Int32), σ)) else (lm_bd (f_X4_isBelow p2 (3 : Int32)) fun r6 => if r6 = 0 then (some ((-1000001 : Int32), σ)) else (lm_bd (f_X4_isLog p3 p5) fun r10 => if r10 = 0 then (some ((-1000001 : Int32), σ)) else (lm_ck (lm_in p3 8) (lm_bd (f_X2_findingOf (116 + 2 * p3.toNatClampNeg) σ p4 p5) fun r15 => if r15 = 0 then (if p2 = 0 then (lm_bd2 (f_X4_eyesThatFit (116 + 2 * p3.toNatClampNeg) σ p1 p4 p5) fun r26 σ27 => lm_bd2 (f_X4_unfound σ27 r26) fun r29 σ30 => some (r29, σ30)) else (lm_bd2 (f_X4_oilsThatFit (116 + 2 * p3.toNatClampNeg) σ p1 p2 p4 p5) fun r20 σ21 => lm_bd2 (f_X4_unfound σ21 r20) fun r23 σ24 => some (r23, σ24))) else (lm_bd2 (f_X4_found σ r15) fun r32 σ33 => some (r32, σ33))))))
abbrev wsX4_sights : List Cond := Cond.code yX4_sights cX4_sights 8 (some .int) :: lw_u
theorem mv_X4_sights : Cond.instanceMethod yX4_sights ∈ lw_u ∧ Cond.selects yX4_sights.cls yX4_sights yX4_sights ∈ lw_u ∧ Cond.initialized yX4_sights.cls ∈ lw_u ∧ Cond.code yX4_sights cX4_sights 8 (some .int) ∈ lw_u := ⟨uw_405, uw_406, uw_1, uw_407⟩
theorem hd_X4_sights : yX4_sights.cls ≠ "java/lang/invoke/MethodHandle" ∧ yX4_sights.cls ≠ "java/lang/invoke/VarHandle" ∧ (parseMethodDescriptor yX4_sights.desc).map (fun d => d.parameters.length) = some 5 := by decide +kernel
section
variable {l : Launch} {D : va_G} {cI cZ cL cR : ClassId} {B : Nat}
set_option maxRecDepth 100000 in
set_option maxHeartbeats 4000000 in
theorem c_X4_sights {σ τ σ' : Mem} {p1 : Int32} {p2 : Int32} {p3 : Int32} {p4 : Int32} {p5 : Int32} {r : Int32}  (hf : f_X4_sights σ p1 p2 p3 p4 p5 = some (r, σ')) : lm_CI l yX4_sights wsX4_sights rmX4_sights D cI cZ cL cR B [.ref (B + 0), .int p1, .int p2, .int p3, .int p4, .int p5] σ τ r σ' τ := by
  unfold f_X4_sights at hf
  refine lm_of (cc := cX4_sights) (maxL := 8) (ret := (some .int)) (own := RX4) (by decide) rfl (Nat.le_of_ble_eq_true rfl) (fun p e s m below meth c0 C0 hR ls hl => ?_)
  have hS : va_S (lm_A B) s.heap s.heap [] := va_S.rf
  have hl : lv_has ls 8 [(0, .ref (B + 0)), (1, .int p1), (2, .int p2), (3, .int p3), (4, .int p4), (5, .int p5)] := hl
  obtain ⟨hx, hb, hml, hr, hlk, hown, hts, hK, hX⟩ := id C0
  refine lv_iload_n hx hb dX4_sights_0 rfl (lv_at hl 1 rfl) ?_
  refine lv_aload_n hx hb dX4_sights_1 rfl (lv_at hl 0 rfl) ?_
  refine lm_get C0 hR (by decide) cell_0 rfl lw_in_X4 2 (by decide) uw_89 rfl rfl dX4_sights_2 ?_
  refine lm_get C0 hR (isL_lt isL_4) (cell_L isL_4) rfl lw_in_X1 8 (by decide) uw_62 rfl rfl dX4_sights_5 ?_
  obtain ⟨r2, u1, hf⟩ := lm_bd_e hf
  refine lm_endi (lm_runS C0 hR hS (c_X4_isBelow u1) (lw_cS 2 hts uw_102 mv_X4_isBelow rfl rfl hd_X4_isBelow ⟨Nat.le_of_ble_eq_true rfl, Nat.le_of_ble_eq_true rfl⟩) rfl hl rfl (Nat.le_of_ble_eq_true rfl) dX4_sights_8) hS (fun H locs hR hS => ?_)
  refine lv_if_eq (tgt := 31) hx hb dX4_sights_11 (by decide) (fun b4 => ?_) (fun b4 => ?_)
  · have hf := lm_T b4 hf
    refine lv_ldc hx hb hown (hts _ uw_105) dX4_sights_31 ?_
    exact lm_riC C0 hR hS hf dX4_sights_33
  · have hf := lm_F b4 hf
    refine lv_iload_n hx hb dX4_sights_14 rfl (lv_at hl 2 rfl) ?_
    refine lv_iconst (v := (3 : Int32)) hx hb dX4_sights_15 (by decide) ?_
    obtain ⟨r6, u5, hf⟩ := lm_bd_e hf
    refine lm_endi (lm_runS C0 hR hS (c_X4_isBelow u5) (lw_cS 2 hts uw_102 mv_X4_isBelow rfl rfl hd_X4_isBelow ⟨Nat.le_of_ble_eq_true rfl, Nat.le_of_ble_eq_true rfl⟩) rfl hl rfl (Nat.le_of_ble_eq_true rfl) dX4_sights_16) hS (fun H locs hR hS => ?_)
    refine lv_if_eq (tgt := 31) hx hb dX4_sights_19 (by decide) (fun b8 => ?_) (fun b8 => ?_)
    · have hf := lm_T b8 hf
      refine lv_ldc hx hb hown (hts _ uw_105) dX4_sights_31 ?_
      exact lm_riC C0 hR hS hf dX4_sights_33
    · have hf := lm_F b8 hf
      refine lv_iload_n hx hb dX4_sights_22 rfl (lv_at hl 3 rfl) ?_
      refine lv_iload hx hb dX4_sights_23 (lv_at hl 5 rfl) ?_
      obtain ⟨r10, u9, hf⟩ := lm_bd_e hf
      refine lm_endi (lm_runS C0 hR hS (c_X4_isLog u9) (lw_cS 2 hts uw_387 mv_X4_isLog rfl rfl hd_X4_isLog ⟨Nat.le_of_ble_eq_true rfl, Nat.le_of_ble_eq_true rfl⟩) rfl hl rfl (Nat.le_of_ble_eq_true rfl) dX4_sights_25) hS (fun H locs hR hS => ?_)
      refine lv_if_ne (tgt := 34) hx hb dX4_sights_28 (by decide) (fun b12 => ?_) (fun b12 => ?_)
      · have hf := lm_F b12 hf
        refine lv_aload_n hx hb dX4_sights_34 rfl (lv_at hl 0 rfl) ?_
        refine lm_get C0 hR (by decide) cell_0 rfl lw_in_X4 0 (by decide) uw_87 rfl rfl dX4_sights_35 ?_
        refine lv_iload_n hx hb dX4_sights_38 rfl (lv_at hl 3 rfl) ?_
        obtain ⟨z13, hf⟩ := lm_ck_e hf
        refine lm_ald C0 hR (t0 := 3) (by decide) cell_1 rfl z13 rfl dX4_sights_39 ?_
        refine lv_astore (lv' := [(6, .ref (B + (116 + 2 * p3.toNatClampNeg))), (0, .ref (B + 0)), (1, .int p1), (2, .int p2), (3, .int p3), (4, .int p4), (5, .int p5)]) hx hb dX4_sights_40 hl (by decide) rfl (fun ls hl => ?_)
        refine lv_aload hx hb dX4_sights_42 (lv_at hl 0 rfl) ?_
        refine lv_iload hx hb dX4_sights_44 (lv_at hl 5 rfl) ?_
        refine lv_iload hx hb dX4_sights_46 (lv_at hl 6 rfl) ?_
        obtain ⟨r15, u14, hf⟩ := lm_bd_e hf
        refine lm_endi (lm_runV C0 hR hS (c_X2_findingOf (isR_row z13) u14) (lw_cV 2 hts uw_121 mv_X2_findingOf rfl rfl hd_X2_findingOf ⟨Nat.le_of_ble_eq_true rfl, Nat.le_of_ble_eq_true rfl⟩) (isR_lt (isR_row z13)) (cell_R (isR_row z13)) rfl rfl hl rfl (Nat.le_of_ble_eq_true rfl) dX4_sights_48) hS (fun H locs hR hS => ?_)
        refine lv_istore (lv' := [(7, .int r15), (6, .ref (B + (116 + 2 * p3.toNatClampNeg))), (0, .ref (B + 0)), (1, .int p1), (2, .int p2), (3, .int p3), (4, .int p4), (5, .int p5)]) hx hb dX4_sights_51 hl (by decide) rfl (fun ls hl => ?_)
        refine lv_iload hx hb dX4_sights_53 (lv_at hl 0 rfl) ?_
        refine lv_if_eq (tgt := 65) hx hb dX4_sights_55 (by decide) (fun b17 => ?_) (fun b17 => ?_)
        · have hf := lm_T b17 hf
          refine lv_aload_n hx hb dX4_sights_65 rfl (lv_at hl 2 rfl) ?_
          refine lv_iload_n hx hb dX4_sights_66 rfl (lv_at hl 4 rfl) ?_
          refine lv_if_ne (tgt := 84) hx hb dX4_sights_67 (by decide) (fun b18 => ?_) (fun b18 => ?_)
          · have hf := lm_F b18 hf
            refine lv_aload_n hx hb dX4_sights_84 rfl (lv_at hl 2 rfl) ?_
            refine lv_iload_n hx hb dX4_sights_85 rfl (lv_at hl 3 rfl) ?_
            refine lv_iload_n hx hb dX4_sights_86 rfl (lv_at hl 4 rfl) ?_
            refine lv_aload hx hb dX4_sights_87 (lv_at hl 1 rfl) ?_
            refine lv_iload hx hb dX4_sights_89 (lv_at hl 6 rfl) ?_
            refine lv_iload hx hb dX4_sights_91 (lv_at hl 7 rfl) ?_
            obtain ⟨r20, σ21, u19, hf⟩ := lm_bd2_e hf
            refine lm_endi (lm_runV C0 hR hS (c_X4_oilsThatFit (isR_row z13) u19) (lw_cV 5 hts uw_411 mv_X4_oilsThatFit rfl rfl hd_X4_oilsThatFit ⟨Nat.le_of_ble_eq_true rfl, Nat.le_of_ble_eq_true rfl⟩) (by decide) cell_0 rfl rfl hl rfl (Nat.le_of_ble_eq_true rfl) dX4_sights_93) hS (fun H locs hR hS => ?_)
            obtain ⟨r23, σ24, u22, hf⟩ := lm_bd2_e hf
            refine lm_endi (lm_runV C0 hR hS (c_X4_unfound u22) (lw_cV 1 hts uw_114 mv_X4_unfound rfl rfl hd_X4_unfound ⟨Nat.le_of_ble_eq_true rfl, Nat.le_of_ble_eq_true rfl⟩) (by decide) cell_0 rfl rfl hl rfl (Nat.le_of_ble_eq_true rfl) dX4_sights_96) hS (fun H locs hR hS => ?_)
            exact lm_riC C0 hR hS hf dX4_sights_99
          · have hf := lm_T b18 hf
            refine lv_aload_n hx hb dX4_sights_70 rfl (lv_at hl 2 rfl) ?_
            refine lv_iload_n hx hb dX4_sights_71 rfl (lv_at hl 3 rfl) ?_
            refine lv_aload hx hb dX4_sights_72 (lv_at hl 1 rfl) ?_
            refine lv_iload hx hb dX4_sights_74 (lv_at hl 6 rfl) ?_
            refine lv_iload hx hb dX4_sights_76 (lv_at hl 7 rfl) ?_
            obtain ⟨r26, σ27, u25, hf⟩ := lm_bd2_e hf
            refine lm_endi (lm_runV C0 hR hS (c_X4_eyesThatFit (isR_row z13) u25) (lw_cV 4 hts uw_408 mv_X4_eyesThatFit rfl rfl hd_X4_eyesThatFit ⟨Nat.le_of_ble_eq_true rfl, Nat.le_of_ble_eq_true rfl⟩) (by decide) cell_0 rfl rfl hl rfl (Nat.le_of_ble_eq_true rfl) dX4_sights_78) hS (fun H locs hR hS => ?_)
            refine lv_goto (tgt := 96) hx hb dX4_sights_81 (by decide) ?_
            obtain ⟨r29, σ30, u28, hf⟩ := lm_bd2_e hf
            refine lm_endi (lm_runV C0 hR hS (c_X4_unfound u28) (lw_cV 1 hts uw_114 mv_X4_unfound rfl rfl hd_X4_unfound ⟨Nat.le_of_ble_eq_true rfl, Nat.le_of_ble_eq_true rfl⟩) (by decide) cell_0 rfl rfl hl rfl (Nat.le_of_ble_eq_true rfl) dX4_sights_96) hS (fun H locs hR hS => ?_)
            exact lm_riC C0 hR hS hf dX4_sights_99
        · have hf := lm_F b17 hf
          refine lv_aload_n hx hb dX4_sights_58 rfl (lv_at hl 2 rfl) ?_
          refine lv_iload hx hb dX4_sights_59 (lv_at hl 0 rfl) ?_
          obtain ⟨r32, σ33, u31, hf⟩ := lm_bd2_e hf
          refine lm_endi (lm_runV C0 hR hS (c_X4_found u31) (lw_cV 1 hts uw_106 mv_X4_found rfl rfl hd_X4_found ⟨Nat.le_of_ble_eq_true rfl, Nat.le_of_ble_eq_true rfl⟩) (by decide) cell_0 rfl rfl hl rfl (Nat.le_of_ble_eq_true rfl) dX4_sights_61) hS (fun H locs hR hS => ?_)
          exact lm_riC C0 hR hS hf dX4_sights_64
      · have hf := lm_T b12 hf
        refine lv_ldc hx hb hown (hts _ uw_105) dX4_sights_31 ?_
        exact lm_riC C0 hR hS hf dX4_sights_33
end
/-! ===== X4_casesOf ===== -/
abbrev rmX4_casesOf : Room := { frames := 0, cells := 0, slots := 0, locals := 0 }
def f_X4_casesOf_5 (σ : Mem) : Nat → Int32 → Int32 → Int64 → Int32 → Option (Int64)
  | 0, _, _, _, _ => none
  | n + 1, x1, x2, x3, x5 => if (σ 4 7) ≤ x5 then (some x3) else (if ((x1 >>> (x5 &&& 31)) &&& (1 : Int32)) = 0 then (lm_nm (x3 * (((10 : Int32) - x2).toInt64)) fun v3 => lm_nm (x5 + (1 : Int32)) fun v4 => f_X4_casesOf_5 σ n x1 x2 v3 v4) else (lm_nm (x3 * x2.toInt64) fun v5 => lm_nm (x5 + (1 : Int32)) fun v6 => f_X4_casesOf_5 σ n x1 x2 v5 v6))
def f_X4_casesOf (σ : Mem) (p1 : Int32) (p2 : Int32) : Option (Int64) := f_X4_casesOf_5 σ lm_fu p1 p2 (1 : Int64) (0 : Int32)
abbrev wsX4_casesOf : List Cond := Cond.code yX4_casesOf cX4_casesOf 6 (some .long) :: lw_u
theorem mv_X4_casesOf : Cond.instanceMethod yX4_casesOf ∈ lw_u ∧ Cond.selects yX4_casesOf.cls yX4_casesOf yX4_casesOf ∈ lw_u ∧ Cond.initialized yX4_casesOf.cls ∈ lw_u ∧ Cond.code yX4_casesOf cX4_casesOf 6 (some .long) ∈ lw_u := ⟨uw_425, uw_866, uw_1, uw_426⟩
theorem hd_X4_casesOf : yX4_casesOf.cls ≠ "java/lang/invoke/MethodHandle" ∧ yX4_casesOf.cls ≠ "java/lang/invoke/VarHandle" ∧ (parseMethodDescriptor yX4_casesOf.desc).map (fun d => d.parameters.length) = some 2 := by decide +kernel
section
variable {l : Launch} {D : va_G} {cI cZ cL cR : ClassId} {B : Nat}
set_option maxRecDepth 100000 in
set_option maxHeartbeats 4000000 in
theorem w_X4_casesOf_5 {p : Program} {e : Env} {s : State} {m : MethodId} {args : Array Value} {below : List Frame} {meth : Method} {c0 : Code} {τ σ : Mem} {r : Int64} (C0 : lm_Cx D cI cZ cL cR B p s m args meth c0 cX4_casesOf 6 (some .long) RX4) : ∀ (n : Nat), ∀ (x1 : Int32) (x2 : Int32) (x3 : Int64) (x5 : Int32) (H : Heap) (locs : List Loc) (ls : Array Slot), va_P D vwCl (wl cI cZ cL cR B σ τ) H → va_S (lm_A B) s.heap H locs → lv_has ls 6 [(0, .ref (B + 0)), (1, .int x1), (2, .int x2), (3, .long x3), (5, .int x5)] → f_X4_casesOf_5 σ n x1 x2 x3 x5 = some r → W p l e rmX4_casesOf s m args below meth c0 H locs 0 0 (MQ below (lm_QJ D cI cZ cL cR B r σ τ) args s 0 0 (lm_A B)) (F0 m 5 ls []) := by
  obtain ⟨hx, hb, hml, hr, hlk, hown, hts, hK, hX⟩ := id C0
  intro n
  induction n with
  | zero =>
    intro x1 x2 x3 x5 H locs ls hR hS hl hf
    cases hf
  | succ n ih =>
    intro x1 x2 x3 x5 H locs ls hR hS hl hf
    rw [f_X4_casesOf_5] at hf
    refine lv_iload hx hb dX4_casesOf_5 (lv_at hl 4 rfl) ?_
    refine lv_aload_n hx hb dX4_casesOf_7 rfl (lv_at hl 0 rfl) ?_
    refine lm_get C0 hR (by decide) cell_0 rfl lw_in_X4 2 (by decide) uw_89 rfl rfl dX4_casesOf_8 ?_
    refine lm_get C0 hR (isL_lt isL_4) (cell_L isL_4) rfl lw_in_X1 7 (by decide) uw_60 rfl rfl dX4_casesOf_11 ?_
    refine lv_icmp_ge (tgt := 45) hx hb dX4_casesOf_14 (by decide) (fun b1 => ?_) (fun b1 => ?_)
    · have hf := lm_T b1 hf
      refine lv_lload_n hx hb dX4_casesOf_45 rfl (lv_at hl 3 rfl) ?_
      exact lm_rlP C0 hR hS hf dX4_casesOf_46
    · have hf := lm_F b1 hf
      refine lv_lload_n hx hb dX4_casesOf_17 rfl (lv_at hl 3 rfl) ?_
      refine lv_iload_n hx hb dX4_casesOf_18 rfl (lv_at hl 1 rfl) ?_
      refine lv_iload hx hb dX4_casesOf_19 (lv_at hl 4 rfl) ?_
      refine lv_ishr hx hb dX4_casesOf_21 ?_
      refine lv_iconst (v := (1 : Int32)) hx hb dX4_casesOf_22 (by decide) ?_
      refine lv_iand hx hb dX4_casesOf_23 ?_
      refine lv_if_eq (tgt := 32) hx hb dX4_casesOf_24 (by decide) (fun b2 => ?_) (fun b2 => ?_)
      · have hf := lm_T b2 hf
        refine lv_bipush (v := (10 : Int32)) hx hb dX4_casesOf_32 (by decide) ?_
        refine lv_iload_n hx hb dX4_casesOf_34 rfl (lv_at hl 2 rfl) ?_
        refine lv_isub hx hb dX4_casesOf_35 ?_
        refine lv_i2l hx hb dX4_casesOf_36 rfl ?_
        refine lv_lmul hx hb dX4_casesOf_37 ?_
        obtain ⟨v3, ev3, hf⟩ := lm_nm_e hf
        refine lm_topl ev3 ?_
        refine lv_lstore_n (lv' := [(3, .long v3), (0, .ref (B + 0)), (1, .int x1), (2, .int x2), (5, .int x5)]) hx hb dX4_casesOf_38 rfl hl (by decide) rfl (fun ls hl => ?_)
        obtain ⟨v4, ev4, hf⟩ := lm_nm_e hf
        refine lv_iinc (v := v4) (lv' := [(5, .int v4), (3, .long v3), (0, .ref (B + 0)), (1, .int x1), (2, .int x2)]) hx hb dX4_casesOf_39 hl (k := 4) rfl (by rw [ev4]; rfl) (by decide) rfl (fun ls hl => ?_)
        refine lv_goto (tgt := 5) hx hb dX4_casesOf_42 (by decide) ?_
        exact ih _ _ _ _ _ _ _ hR hS (lv_sub hl [2, 3, 4, 1, 0] rfl) hf
      · have hf := lm_F b2 hf
        refine lv_iload_n hx hb dX4_casesOf_27 rfl (lv_at hl 2 rfl) ?_
        refine lv_i2l hx hb dX4_casesOf_28 rfl ?_
        refine lv_goto (tgt := 37) hx hb dX4_casesOf_29 (by decide) ?_
        refine lv_lmul hx hb dX4_casesOf_37 ?_
        obtain ⟨v5, ev5, hf⟩ := lm_nm_e hf
        refine lm_topl ev5 ?_
        refine lv_lstore_n (lv' := [(3, .long v5), (0, .ref (B + 0)), (1, .int x1), (2, .int x2), (5, .int x5)]) hx hb dX4_casesOf_38 rfl hl (by decide) rfl (fun ls hl => ?_)
        obtain ⟨v6, ev6, hf⟩ := lm_nm_e hf
        refine lv_iinc (v := v6) (lv' := [(5, .int v6), (3, .long v5), (0, .ref (B + 0)), (1, .int x1), (2, .int x2)]) hx hb dX4_casesOf_39 hl (k := 4) rfl (by rw [ev6]; rfl) (by decide) rfl (fun ls hl => ?_)
        refine lv_goto (tgt := 5) hx hb dX4_casesOf_42 (by decide) ?_
        exact ih _ _ _ _ _ _ _ hR hS (lv_sub hl [2, 3, 4, 1, 0] rfl) hf
set_option maxRecDepth 100000 in
set_option maxHeartbeats 4000000 in
theorem c_X4_casesOf {σ τ : Mem} {p1 : Int32} {p2 : Int32} {r : Int64}  (hf : f_X4_casesOf σ p1 p2 = some r) : lm_CJ l yX4_casesOf wsX4_casesOf rmX4_casesOf D cI cZ cL cR B [.ref (B + 0), .int p1, .int p2] σ τ r σ τ := by
  unfold f_X4_casesOf at hf
  refine lm_of (cc := cX4_casesOf) (maxL := 6) (ret := (some .long)) (own := RX4) (by decide) rfl (Nat.le_of_ble_eq_true rfl) (fun p e s m below meth c0 C0 hR ls hl => ?_)
  have hS : va_S (lm_A B) s.heap s.heap [] := va_S.rf
  have hl : lv_has ls 6 [(0, .ref (B + 0)), (1, .int p1), (2, .int p2)] := hl
  obtain ⟨hx, hb, hml, hr, hlk, hown, hts, hK, hX⟩ := id C0
  refine lv_lconst (v := (1 : Int64)) hx hb dX4_casesOf_0 (by decide) ?_
  refine lv_lstore_n (lv' := [(3, .long (1 : Int64)), (0, .ref (B + 0)), (1, .int p1), (2, .int p2)]) hx hb dX4_casesOf_1 rfl hl (by decide) rfl (fun ls hl => ?_)
  refine lv_iconst (v := (0 : Int32)) hx hb dX4_casesOf_2 (by decide) ?_
  refine lv_istore (lv' := [(5, .int (0 : Int32)), (3, .long (1 : Int64)), (0, .ref (B + 0)), (1, .int p1), (2, .int p2)]) hx hb dX4_casesOf_3 hl (by decide) rfl (fun ls hl => ?_)
  exact w_X4_casesOf_5 C0 _ _ _ _ _ _ _ _ hR hS (lv_sub hl [2, 3, 4, 1, 0] rfl) hf
end
/-! ===== X4_commonDivisor ===== -/
abbrev rmX4_commonDivisor : Room := { frames := 0, cells := 0, slots := 0, locals := 0 }
def f_X4_commonDivisor_9 : Nat → Int64 → Int64 → Int32 → Option (Int64)
  | 0, _, _, _ => none
  | n + 1, x4, x6, x8 => if (100 : Int32) ≤ x8 then (some x4) else (if (lg_cmp x6 (0 : Int64)) = 0 then (some x4) else (lm_ck (lm_nzl x6) (lm_nm (x4 - x4 / x6 * x6) fun v4 => lm_nm (x8 + (1 : Int32)) fun v5 => f_X4_commonDivisor_9 n x6 v4 v5)))
def f_X4_commonDivisor (p0 : Int64) (p2 : Int64) : Option (Int64) := f_X4_commonDivisor_9 lm_fu p0 p2 (0 : Int32)
abbrev wsX4_commonDivisor : List Cond := Cond.code yX4_commonDivisor cX4_commonDivisor 11 (some .long) :: lw_u
theorem mv_X4_commonDivisor : Cond.static yX4_commonDivisor ∈ lw_u ∧ Cond.initialized yX4_commonDivisor.cls ∈ lw_u ∧ Cond.code yX4_commonDivisor cX4_commonDivisor 11 (some .long) ∈ lw_u := ⟨uw_429, uw_1, uw_430⟩
theorem hd_X4_commonDivisor : yX4_commonDivisor.cls ≠ "java/lang/invoke/MethodHandle" ∧ yX4_commonDivisor.cls ≠ "java/lang/invoke/VarHandle" ∧ (parseMethodDescriptor yX4_commonDivisor.desc).map (fun d => d.parameters.length) = some 2 := by decide +kernel
section
variable {l : Launch} {D : va_G} {cI cZ cL cR : ClassId} {B : Nat}
set_option maxRecDepth 100000 in
set_option maxHeartbeats 4000000 in
theorem w_X4_commonDivisor_9 {p : Program} {e : Env} {s : State} {m : MethodId} {args : Array Value} {below : List Frame} {meth : Method} {c0 : Code} {τ σ : Mem} {r : Int64} (C0 : lm_Cx D cI cZ cL cR B p s m args meth c0 cX4_commonDivisor 11 (some .long) RX4) : ∀ (n : Nat), ∀ (x4 : Int64) (x6 : Int64) (x8 : Int32) (H : Heap) (locs : List Loc) (ls : Array Slot), va_P D vwCl (wl cI cZ cL cR B σ τ) H → va_S (lm_A B) s.heap H locs → lv_has ls 11 [(4, .long x4), (6, .long x6), (8, .int x8)] → f_X4_commonDivisor_9 n x4 x6 x8 = some r → W p l e rmX4_commonDivisor s m args below meth c0 H locs 0 0 (MQ below (lm_QJ D cI cZ cL cR B r σ τ) args s 0 0 (lm_A B)) (F0 m 9 ls []) := by
  obtain ⟨hx, hb, hml, hr, hlk, hown, hts, hK, hX⟩ := id C0
  intro n
  induction n with
  | zero =>
    intro x4 x6 x8 H locs ls hR hS hl hf
    cases hf
  | succ n ih =>
    intro x4 x6 x8 H locs ls hR hS hl hf
    rw [f_X4_commonDivisor_9] at hf
    refine lv_iload hx hb dX4_commonDivisor_9 (lv_at hl 2 rfl) ?_
    refine lv_bipush (v := (100 : Int32)) hx hb dX4_commonDivisor_11 (by decide) ?_
    refine lv_icmp_ge (tgt := 44) hx hb dX4_commonDivisor_13 (by decide) (fun b1 => ?_) (fun b1 => ?_)
    · have hf := lm_T b1 hf
      refine lv_lload hx hb dX4_commonDivisor_44 (lv_at hl 0 rfl) ?_
      exact lm_rlP C0 hR hS hf dX4_commonDivisor_46
    · have hf := lm_F b1 hf
      refine lv_lload hx hb dX4_commonDivisor_16 (lv_at hl 1 rfl) ?_
      refine lv_lconst (v := (0 : Int64)) hx hb dX4_commonDivisor_18 (by decide) ?_
      refine W.lcmp hx hb dX4_commonDivisor_19 ?_
      refine lv_if_eq (tgt := 44) hx hb dX4_commonDivisor_20 (by decide) (fun b2 => ?_) (fun b2 => ?_)
      · have hf := lm_T b2 hf
        refine lv_lload hx hb dX4_commonDivisor_44 (lv_at hl 0 rfl) ?_
        exact lm_rlP C0 hR hS hf dX4_commonDivisor_46
      · have hf := lm_F b2 hf
        refine lv_lload hx hb dX4_commonDivisor_23 (lv_at hl 0 rfl) ?_
        refine lv_lload hx hb dX4_commonDivisor_25 (lv_at hl 1 rfl) ?_
        obtain ⟨z3, hf⟩ := lm_ck_e hf
        refine lv_lrem hx hb dX4_commonDivisor_27 (lm_nzlT z3) ?_
        obtain ⟨v4, ev4, hf⟩ := lm_nm_e hf
        refine lm_topl ev4 ?_
        refine lv_lstore (lv' := [(9, .long v4), (4, .long x4), (6, .long x6), (8, .int x8)]) hx hb dX4_commonDivisor_28 hl (by decide) rfl (fun ls hl => ?_)
        refine lv_lload hx hb dX4_commonDivisor_30 (lv_at hl 2 rfl) ?_
        refine lv_lstore (lv' := [(4, .long x6), (9, .long v4), (6, .long x6), (8, .int x8)]) hx hb dX4_commonDivisor_32 hl (by decide) rfl (fun ls hl => ?_)
        refine lv_lload hx hb dX4_commonDivisor_34 (lv_at hl 1 rfl) ?_
        refine lv_lstore (lv' := [(6, .long v4), (4, .long x6), (9, .long v4), (8, .int x8)]) hx hb dX4_commonDivisor_36 hl (by decide) rfl (fun ls hl => ?_)
        obtain ⟨v5, ev5, hf⟩ := lm_nm_e hf
        refine lv_iinc (v := v5) (lv' := [(8, .int v5), (6, .long v4), (4, .long x6), (9, .long v4)]) hx hb dX4_commonDivisor_38 hl (k := 3) rfl (by rw [ev5]; rfl) (by decide) rfl (fun ls hl => ?_)
        refine lv_goto (tgt := 9) hx hb dX4_commonDivisor_41 (by decide) ?_
        exact ih _ _ _ _ _ _ hR hS (lv_sub hl [2, 1, 0] rfl) hf
set_option maxRecDepth 100000 in
set_option maxHeartbeats 4000000 in
theorem c_X4_commonDivisor {σ τ : Mem} {p0 : Int64} {p2 : Int64} {r : Int64}  (hf : f_X4_commonDivisor p0 p2 = some r) : lm_CJ l yX4_commonDivisor wsX4_commonDivisor rmX4_commonDivisor D cI cZ cL cR B [.long p0, .long p2] σ τ r σ τ := by
  unfold f_X4_commonDivisor at hf
  refine lm_of (cc := cX4_commonDivisor) (maxL := 11) (ret := (some .long)) (own := RX4) (by decide) rfl (Nat.le_of_ble_eq_true rfl) (fun p e s m below meth c0 C0 hR ls hl => ?_)
  have hS : va_S (lm_A B) s.heap s.heap [] := va_S.rf
  have hl : lv_has ls 11 [(0, .long p0), (2, .long p2)] := hl
  obtain ⟨hx, hb, hml, hr, hlk, hown, hts, hK, hX⟩ := id C0
  refine lv_lload_n hx hb dX4_commonDivisor_0 rfl (lv_at hl 0 rfl) ?_
  refine lv_lstore (lv' := [(4, .long p0), (0, .long p0), (2, .long p2)]) hx hb dX4_commonDivisor_1 hl (by decide) rfl (fun ls hl => ?_)
  refine lv_lload_n hx hb dX4_commonDivisor_3 rfl (lv_at hl 2 rfl) ?_
  refine lv_lstore (lv' := [(6, .long p2), (4, .long p0), (0, .long p0), (2, .long p2)]) hx hb dX4_commonDivisor_4 hl (by decide) rfl (fun ls hl => ?_)
  refine lv_iconst (v := (0 : Int32)) hx hb dX4_commonDivisor_6 (by decide) ?_
  refine lv_istore (lv' := [(8, .int (0 : Int32)), (6, .long p2), (4, .long p0), (0, .long p0), (2, .long p2)]) hx hb dX4_commonDivisor_7 hl (by decide) rfl (fun ls hl => ?_)
  exact w_X4_commonDivisor_9 C0 _ _ _ _ _ _ _ hR hS (lv_sub hl [2, 1, 0] rfl) hf
end
/-! ===== X4_isSameIfLifted ===== -/
abbrev rmX4_isSameIfLifted : Room := { frames := 5, cells := 0, slots := 0, locals := 147 }
def f_X4_isSameIfLifted_21 : Nat → Int32 → Int32 → Int32 → Mem → Option (Int32 × Mem)
  | 0, _, _, _, _ => none
  | n + 1, x1, x2, x3, σ => if (σ 4 7) ≤ x3 then (lm_bd (f_X1_passWatches 8 σ x2) fun σ8 => lm_bd (f_X1_takeShips 8 12 σ8) fun σ11 => lm_bd (f_X1_shipsSeen 8 σ11 (2 : Int32)) fun r13 => if r13 = 0 then (some ((1 : Int32), σ11)) else (some ((0 : Int32), σ11))) else (if ((x1 >>> (x3 &&& 31)) &&& (1 : Int32)) = 0 then (lm_nm (x3 + (1 : Int32)) fun v17 => f_X4_isSameIfLifted_21 n x1 x2 v17 σ) else (lm_ck (lm_in x3 6) (lm_nm (up σ (8 + 1) x3.toNatClampNeg (0 : Int32)) fun σ19 => lm_nm (x3 + (1 : Int32)) fun v20 => f_X4_isSameIfLifted_21 n x1 x2 v20 σ19)))
def f_X4_isSameIfLifted (σ : Mem) (p1 : Int32) (p2 : Int32) : Option (Int32 × Mem) := lm_bd (f_X1_takeFrom 8 4 σ) fun σ3 => lm_nm (up σ3 8 8 (0 : Int32)) fun σ4 => f_X4_isSameIfLifted_21 lm_fu p1 p2 (0 : Int32) σ4
abbrev wsX4_isSameIfLifted : List Cond := Cond.code yX4_isSameIfLifted cX4_isSameIfLifted 4 (some .boolean) :: lw_u
theorem mv_X4_isSameIfLifted : Cond.instanceMethod yX4_isSameIfLifted ∈ lw_u ∧ Cond.selects yX4_isSameIfLifted.cls yX4_isSameIfLifted yX4_isSameIfLifted ∈ lw_u ∧ Cond.initialized yX4_isSameIfLifted.cls ∈ lw_u ∧ Cond.code yX4_isSameIfLifted cX4_isSameIfLifted 4 (some .boolean) ∈ lw_u := ⟨uw_421, uw_865, uw_1, uw_422⟩
theorem hd_X4_isSameIfLifted : yX4_isSameIfLifted.cls ≠ "java/lang/invoke/MethodHandle" ∧ yX4_isSameIfLifted.cls ≠ "java/lang/invoke/VarHandle" ∧ (parseMethodDescriptor yX4_isSameIfLifted.desc).map (fun d => d.parameters.length) = some 2 := by decide +kernel
section
variable {l : Launch} {D : va_G} {cI cZ cL cR : ClassId} {B : Nat}
set_option maxRecDepth 100000 in
set_option maxHeartbeats 4000000 in
theorem w_X4_isSameIfLifted_21 {p : Program} {e : Env} {s : State} {m : MethodId} {args : Array Value} {below : List Frame} {meth : Method} {c0 : Code} {τ σ' : Mem} {r : Int32} (C0 : lm_Cx D cI cZ cL cR B p s m args meth c0 cX4_isSameIfLifted 4 (some .boolean) RX4) : ∀ (n : Nat), ∀ (x1 : Int32) (x2 : Int32) (x3 : Int32) (σ : Mem) (H : Heap) (locs : List Loc) (ls : Array Slot), va_P D vwCl (wl cI cZ cL cR B σ τ) H → va_S (lm_A B) s.heap H locs → lv_has ls 4 [(0, .ref (B + 0)), (1, .int x1), (2, .int x2), (3, .int x3)] → f_X4_isSameIfLifted_21 n x1 x2 x3 σ = some (r, σ') → W p l e rmX4_isSameIfLifted s m args below meth c0 H locs 0 0 (MQ below (lm_QI D cI cZ cL cR B r σ' τ) args s 0 0 (lm_A B)) (F0 m 21 ls []) := by
  obtain ⟨hx, hb, hml, hr, hlk, hown, hts, hK, hX⟩ := id C0
  intro n
  induction n with
  | zero =>
    intro x1 x2 x3 σ H locs ls hR hS hl hf
    cases hf
  | succ n ih =>
    intro x1 x2 x3 σ H locs ls hR hS hl hf
    rw [f_X4_isSameIfLifted_21] at hf
    refine lv_iload_n hx hb dX4_isSameIfLifted_21 rfl (lv_at hl 3 rfl) ?_
    refine lv_aload_n hx hb dX4_isSameIfLifted_22 rfl (lv_at hl 0 rfl) ?_
    refine lm_get C0 hR (by decide) cell_0 rfl lw_in_X4 2 (by decide) uw_89 rfl rfl dX4_isSameIfLifted_23 ?_
    refine lm_get C0 hR (isL_lt isL_4) (cell_L isL_4) rfl lw_in_X1 7 (by decide) uw_60 rfl rfl dX4_isSameIfLifted_26 ?_
    refine lv_icmp_ge (tgt := 56) hx hb dX4_isSameIfLifted_29 (by decide) (fun b5 => ?_) (fun b5 => ?_)
    · have hf := lm_T b5 hf
      refine lv_aload_n hx hb dX4_isSameIfLifted_56 rfl (lv_at hl 0 rfl) ?_
      refine lm_get C0 hR (by decide) cell_0 rfl lw_in_X4 3 (by decide) uw_90 rfl rfl dX4_isSameIfLifted_57 ?_
      refine lv_iload_n hx hb dX4_isSameIfLifted_60 rfl (lv_at hl 2 rfl) ?_
      obtain ⟨σ8, u6, hf⟩ := lm_bd_e hf
      refine lm_endv (lm_runV C0 hR hS (c_X1_passWatches isL_8 u6) (lw_cV 1 hts uw_315 mv_X1_passWatches rfl rfl hd_X1_passWatches ⟨Nat.le_of_ble_eq_true rfl, Nat.le_of_ble_eq_true rfl⟩) (isL_lt isL_8) (cell_L isL_8) rfl rfl hl rfl (Nat.le_of_ble_eq_true rfl) dX4_isSameIfLifted_61) hS (fun H locs hR hS => ?_)
      refine lv_aload_n hx hb dX4_isSameIfLifted_64 rfl (lv_at hl 0 rfl) ?_
      refine lm_get C0 hR (by decide) cell_0 rfl lw_in_X4 3 (by decide) uw_90 rfl rfl dX4_isSameIfLifted_65 ?_
      refine lv_aload_n hx hb dX4_isSameIfLifted_68 rfl (lv_at hl 0 rfl) ?_
      refine lm_get C0 hR (by decide) cell_0 rfl lw_in_X4 4 (by decide) uw_91 rfl rfl dX4_isSameIfLifted_69 ?_
      obtain ⟨σ11, u9, hf⟩ := lm_bd_e hf
      refine lm_endv (lm_runV C0 hR hS (c_X1_takeShips isL_8 isL_12 u9) (lw_cV 1 hts uw_423 mv_X1_takeShips rfl rfl hd_X1_takeShips ⟨Nat.le_of_ble_eq_true rfl, Nat.le_of_ble_eq_true rfl⟩) (isL_lt isL_8) (cell_L isL_8) rfl rfl hl rfl (Nat.le_of_ble_eq_true rfl) dX4_isSameIfLifted_72) hS (fun H locs hR hS => ?_)
      refine lv_aload_n hx hb dX4_isSameIfLifted_75 rfl (lv_at hl 0 rfl) ?_
      refine lm_get C0 hR (by decide) cell_0 rfl lw_in_X4 3 (by decide) uw_90 rfl rfl dX4_isSameIfLifted_76 ?_
      refine lv_iconst (v := (2 : Int32)) hx hb dX4_isSameIfLifted_79 (by decide) ?_
      obtain ⟨r13, u12, hf⟩ := lm_bd_e hf
      refine lm_endi (lm_runV C0 hR hS (c_X1_shipsSeen isL_8 u12) (lw_cV 1 hts uw_260 mv_X1_shipsSeen rfl rfl hd_X1_shipsSeen ⟨Nat.le_of_ble_eq_true rfl, Nat.le_of_ble_eq_true rfl⟩) (isL_lt isL_8) (cell_L isL_8) rfl rfl hl rfl (Nat.le_of_ble_eq_true rfl) dX4_isSameIfLifted_80) hS (fun H locs hR hS => ?_)
      refine lv_if_ne (tgt := 90) hx hb dX4_isSameIfLifted_83 (by decide) (fun b15 => ?_) (fun b15 => ?_)
      · have hf := lm_F b15 hf
        refine lv_iconst (v := (0 : Int32)) hx hb dX4_isSameIfLifted_90 (by decide) ?_
        exact lm_rzC C0 hR hS hf rfl dX4_isSameIfLifted_91
      · have hf := lm_T b15 hf
        refine lv_iconst (v := (1 : Int32)) hx hb dX4_isSameIfLifted_86 (by decide) ?_
        refine lv_goto (tgt := 91) hx hb dX4_isSameIfLifted_87 (by decide) ?_
        exact lm_rzC C0 hR hS hf rfl dX4_isSameIfLifted_91
    · have hf := lm_F b5 hf
      refine lv_iload_n hx hb dX4_isSameIfLifted_32 rfl (lv_at hl 1 rfl) ?_
      refine lv_iload_n hx hb dX4_isSameIfLifted_33 rfl (lv_at hl 3 rfl) ?_
      refine lv_ishr hx hb dX4_isSameIfLifted_34 ?_
      refine lv_iconst (v := (1 : Int32)) hx hb dX4_isSameIfLifted_35 (by decide) ?_
      refine lv_iand hx hb dX4_isSameIfLifted_36 ?_
      refine lv_if_eq (tgt := 50) hx hb dX4_isSameIfLifted_37 (by decide) (fun b16 => ?_) (fun b16 => ?_)
      · have hf := lm_T b16 hf
        obtain ⟨v17, ev17, hf⟩ := lm_nm_e hf
        refine lv_iinc (v := v17) (lv' := [(3, .int v17), (0, .ref (B + 0)), (1, .int x1), (2, .int x2)]) hx hb dX4_isSameIfLifted_50 hl (k := 3) rfl (by rw [ev17]; rfl) (by decide) rfl (fun ls hl => ?_)
        refine lv_goto (tgt := 21) hx hb dX4_isSameIfLifted_53 (by decide) ?_
        exact ih _ _ _ _ _ _ _ hR hS (lv_sub hl [1, 2, 3, 0] rfl) hf
      · have hf := lm_F b16 hf
        refine lv_aload_n hx hb dX4_isSameIfLifted_40 rfl (lv_at hl 0 rfl) ?_
        refine lm_get C0 hR (by decide) cell_0 rfl lw_in_X4 3 (by decide) uw_90 rfl rfl dX4_isSameIfLifted_41 ?_
        refine lm_get C0 hR (isL_lt isL_8) (cell_L isL_8) rfl lw_in_X1 0 (by decide) uw_40 rfl rfl dX4_isSameIfLifted_44 ?_
        refine lv_iload_n hx hb dX4_isSameIfLifted_47 rfl (lv_at hl 3 rfl) ?_
        refine lv_iconst (v := (0 : Int32)) hx hb dX4_isSameIfLifted_48 (by decide) ?_
        obtain ⟨z18, hf⟩ := lm_ck_e hf
        obtain ⟨σ19, eσ19, hf⟩ := lm_nm_e hf
        refine lm_istC C0 hR hS (isL_lt1 isL_8) (cell_L1 isL_8) z18  eσ19 (cell_L1u isL_8) dX4_isSameIfLifted_49 (fun H locs hR hS => ?_)
        obtain ⟨v20, ev20, hf⟩ := lm_nm_e hf
        refine lv_iinc (v := v20) (lv' := [(3, .int v20), (0, .ref (B + 0)), (1, .int x1), (2, .int x2)]) hx hb dX4_isSameIfLifted_50 hl (k := 3) rfl (by rw [ev20]; rfl) (by decide) rfl (fun ls hl => ?_)
        refine lv_goto (tgt := 21) hx hb dX4_isSameIfLifted_53 (by decide) ?_
        exact ih _ _ _ _ _ _ _ hR hS (lv_sub hl [1, 2, 3, 0] rfl) hf
set_option maxRecDepth 100000 in
set_option maxHeartbeats 4000000 in
theorem c_X4_isSameIfLifted {σ τ σ' : Mem} {p1 : Int32} {p2 : Int32} {r : Int32}  (hf : f_X4_isSameIfLifted σ p1 p2 = some (r, σ')) : lm_CI l yX4_isSameIfLifted wsX4_isSameIfLifted rmX4_isSameIfLifted D cI cZ cL cR B [.ref (B + 0), .int p1, .int p2] σ τ r σ' τ := by
  unfold f_X4_isSameIfLifted at hf
  refine lm_of (cc := cX4_isSameIfLifted) (maxL := 4) (ret := (some .boolean)) (own := RX4) (by decide) rfl (Nat.le_of_ble_eq_true rfl) (fun p e s m below meth c0 C0 hR ls hl => ?_)
  have hS : va_S (lm_A B) s.heap s.heap [] := va_S.rf
  have hl : lv_has ls 4 [(0, .ref (B + 0)), (1, .int p1), (2, .int p2)] := hl
  obtain ⟨hx, hb, hml, hr, hlk, hown, hts, hK, hX⟩ := id C0
  refine lv_aload_n hx hb dX4_isSameIfLifted_0 rfl (lv_at hl 0 rfl) ?_
  refine lm_get C0 hR (by decide) cell_0 rfl lw_in_X4 3 (by decide) uw_90 rfl rfl dX4_isSameIfLifted_1 ?_
  refine lv_aload_n hx hb dX4_isSameIfLifted_4 rfl (lv_at hl 0 rfl) ?_
  refine lm_get C0 hR (by decide) cell_0 rfl lw_in_X4 2 (by decide) uw_89 rfl rfl dX4_isSameIfLifted_5 ?_
  obtain ⟨σ3, u1, hf⟩ := lm_bd_e hf
  refine lm_endv (lm_runV C0 hR hS (c_X1_takeFrom isL_8 isL_4 u1) (lw_cV 1 hts uw_193 mv_X1_takeFrom rfl rfl hd_X1_takeFrom ⟨Nat.le_of_ble_eq_true rfl, Nat.le_of_ble_eq_true rfl⟩) (isL_lt isL_8) (cell_L isL_8) rfl rfl hl rfl (Nat.le_of_ble_eq_true rfl) dX4_isSameIfLifted_8) hS (fun H locs hR hS => ?_)
  refine lv_aload_n hx hb dX4_isSameIfLifted_11 rfl (lv_at hl 0 rfl) ?_
  refine lm_get C0 hR (by decide) cell_0 rfl lw_in_X4 3 (by decide) uw_90 rfl rfl dX4_isSameIfLifted_12 ?_
  refine lv_iconst (v := (0 : Int32)) hx hb dX4_isSameIfLifted_15 (by decide) ?_
  obtain ⟨σ4, eσ4, hf⟩ := lm_nm_e hf
  refine lm_putC C0 hR hS (isL_lt isL_8) (cell_L isL_8) rfl lw_in_X1 tyX1 tyX1_ok nmX1 8 (by decide) uw_62 rfl rfl rfl rfl rfl (Nat.le_of_ble_eq_true rfl) eσ4 (cell_Lu isL_8) dX4_isSameIfLifted_16 (fun H locs hR hS => ?_)
  refine lv_iconst (v := (0 : Int32)) hx hb dX4_isSameIfLifted_19 (by decide) ?_
  refine lv_istore_n (lv' := [(3, .int (0 : Int32)), (0, .ref (B + 0)), (1, .int p1), (2, .int p2)]) hx hb dX4_isSameIfLifted_20 rfl hl (by decide) rfl (fun ls hl => ?_)
  exact w_X4_isSameIfLifted_21 C0 _ _ _ _ _ _ _ _ hR hS (lv_sub hl [1, 2, 3, 0] rfl) hf
end
/-! ===== X4_fair ===== -/
abbrev rmX4_fair : Room := { frames := 6, cells := 0, slots := 0, locals := 170 }
def f_X4_fair_119 : Nat → Int32 → Int64 → Int64 → Int32 → Mem → Option (Int64 × Mem)
  | 0, _, _, _, _, _ => none
  | n + 1, x3, x4, x6, x8, σ => if (σ 4 7) ≤ x8 then (lm_bd (f_X4_commonDivisor x6 x4) fun r36 => lm_nm (if r36 < (1 : Int64) then (1 : Int64) else r36) fun v38 => if x3 = 0 then (lm_ck (lm_nzl v38) (some ((x4 / v38), σ))) else (lm_ck (lm_nzl v38) (some ((x6 / v38), σ)))) else (lm_nm (x6 * (10 : Int64)) fun v42 => lm_nm (x8 + (1 : Int32)) fun v43 => f_X4_fair_119 n x3 x4 v42 v43 σ)
def f_X4_fair_71 : Nat → Int32 → Int32 → Int32 → Int64 → Int32 → Mem → Option (Int64 × Mem)
  | 0, _, _, _, _, _, _ => none
  | n + 1, x1, x2, x3, x4, x6, σ => if ((1 : Int32) <<< ((σ 4 7) &&& 31)) ≤ x6 then (f_X4_fair_119 lm_fu x3 x4 (1 : Int64) (0 : Int32) σ) else (lm_bd2 (f_X4_isSameIfLifted σ x6 x1) fun r25 σ26 => if r25 = 0 then (lm_nm (x6 + (1 : Int32)) fun v28 => f_X4_fair_71 n x1 x2 x3 x4 v28 σ26) else (lm_bd (f_X4_casesOf σ26 x6 x2) fun r30 => lm_nm (x4 + r30) fun v32 => lm_nm (x6 + (1 : Int32)) fun v33 => f_X4_fair_71 n x1 x2 x3 v32 v33 σ26))
def f_X4_fair (σ : Mem) (p1 : Int32) (p2 : Int32) (p3 : Int32) : Option (Int64 × Mem) := lm_bd (f_X1_isLit 4 σ) fun r2 => if r2 = 0 then (some ((-1000002 : Int64), σ)) else (lm_bd (f_X4_isWithin p1 (0 : Int32) (60 : Int32)) fun r6 => if r6 = 0 then (some ((-1000001 : Int64), σ)) else (lm_bd (f_X4_isWithin p2 (0 : Int32) (10 : Int32)) fun r10 => if r10 = 0 then (some ((-1000001 : Int64), σ)) else (lm_bd (f_X4_isBelow p3 (2 : Int32)) fun r14 => if r14 = 0 then (some ((-1000001 : Int64), σ)) else (lm_bd (f_X1_takeFrom 12 4 σ) fun σ19 => lm_bd (f_X1_passWatches 12 σ19 p1) fun σ22 => f_X4_fair_71 lm_fu p1 p2 p3 (0 : Int64) (0 : Int32) σ22))))
abbrev wsX4_fair : List Cond := Cond.code yX4_fair cX4_fair 10 (some .long) :: lw_u
theorem mv_X4_fair : Cond.instanceMethod yX4_fair ∈ lw_u ∧ Cond.selects yX4_fair.cls yX4_fair yX4_fair ∈ lw_u ∧ Cond.initialized yX4_fair.cls ∈ lw_u ∧ Cond.code yX4_fair cX4_fair 10 (some .long) ∈ lw_u := ⟨uw_415, uw_416, uw_1, uw_417⟩
theorem hd_X4_fair : yX4_fair.cls ≠ "java/lang/invoke/MethodHandle" ∧ yX4_fair.cls ≠ "java/lang/invoke/VarHandle" ∧ (parseMethodDescriptor yX4_fair.desc).map (fun d => d.parameters.length) = some 3 := by decide +kernel
section
variable {l : Launch} {D : va_G} {cI cZ cL cR : ClassId} {B : Nat}
set_option maxRecDepth 100000 in
set_option maxHeartbeats 4000000 in
theorem w_X4_fair_119 {p : Program} {e : Env} {s : State} {m : MethodId} {args : Array Value} {below : List Frame} {meth : Method} {c0 : Code} {τ σ' : Mem} {r : Int64} (C0 : lm_Cx D cI cZ cL cR B p s m args meth c0 cX4_fair 10 (some .long) RX4) : ∀ (n : Nat), ∀ (x3 : Int32) (x4 : Int64) (x6 : Int64) (x8 : Int32) (σ : Mem) (H : Heap) (locs : List Loc) (ls : Array Slot), va_P D vwCl (wl cI cZ cL cR B σ τ) H → va_S (lm_A B) s.heap H locs → lv_has ls 10 [(0, .ref (B + 0)), (3, .int x3), (4, .long x4), (6, .long x6), (8, .int x8)] → f_X4_fair_119 n x3 x4 x6 x8 σ = some (r, σ') → W p l e rmX4_fair s m args below meth c0 H locs 0 0 (MQ below (lm_QJ D cI cZ cL cR B r σ' τ) args s 0 0 (lm_A B)) (F0 m 119 ls []) := by
  obtain ⟨hx, hb, hml, hr, hlk, hown, hts, hK, hX⟩ := id C0
  intro n
  induction n with
  | zero =>
    intro x3 x4 x6 x8 σ H locs ls hR hS hl hf
    cases hf
  | succ n ih =>
    intro x3 x4 x6 x8 σ H locs ls hR hS hl hf
    rw [f_X4_fair_119] at hf
    refine lv_iload hx hb dX4_fair_119 (lv_at hl 4 rfl) ?_
    refine lv_aload_n hx hb dX4_fair_121 rfl (lv_at hl 0 rfl) ?_
    refine lm_get C0 hR (by decide) cell_0 rfl lw_in_X4 2 (by decide) uw_89 rfl rfl dX4_fair_122 ?_
    refine lm_get C0 hR (isL_lt isL_4) (cell_L isL_4) rfl lw_in_X1 7 (by decide) uw_60 rfl rfl dX4_fair_125 ?_
    refine lv_icmp_ge (tgt := 145) hx hb dX4_fair_128 (by decide) (fun b34 => ?_) (fun b34 => ?_)
    · have hf := lm_T b34 hf
      refine lv_lconst (v := (1 : Int64)) hx hb dX4_fair_145 (by decide) ?_
      refine lv_lload hx hb dX4_fair_146 (lv_at hl 3 rfl) ?_
      refine lv_lload hx hb dX4_fair_148 (lv_at hl 2 rfl) ?_
      obtain ⟨r36, u35, hf⟩ := lm_bd_e hf
      refine lm_endj (lm_runS C0 hR hS (c_X4_commonDivisor u35) (lw_cS 2 hts uw_428 mv_X4_commonDivisor rfl rfl hd_X4_commonDivisor ⟨Nat.le_of_ble_eq_true rfl, Nat.le_of_ble_eq_true rfl⟩) rfl hl rfl (Nat.le_of_ble_eq_true rfl) dX4_fair_150) hS (fun H locs hR hS => ?_)
      refine va_mmax_long hx hb (hml.trans hl.1.symm) hown (hts _ uw_431) (hts _ uw_432) (hts _ uw_8) (hts _ uw_433) (Nat.le_of_ble_eq_true rfl) (Nat.le_of_ble_eq_true rfl) (Nat.zero_le _) (Nat.zero_le _) dX4_fair_153 ?_
      obtain ⟨v38, ev38, hf⟩ := lm_nm_e hf
      refine lm_topl ev38 ?_
      refine lv_lstore (lv' := [(8, .long v38), (0, .ref (B + 0)), (3, .int x3), (4, .long x4), (6, .long x6)]) hx hb dX4_fair_156 hl (by decide) rfl (fun ls hl => ?_)
      refine lv_iload_n hx hb dX4_fair_158 rfl (lv_at hl 2 rfl) ?_
      refine lv_if_ne (tgt := 170) hx hb dX4_fair_159 (by decide) (fun b39 => ?_) (fun b39 => ?_)
      · have hf := lm_F b39 hf
        refine lv_lload hx hb dX4_fair_170 (lv_at hl 4 rfl) ?_
        refine lv_lload hx hb dX4_fair_172 (lv_at hl 0 rfl) ?_
        obtain ⟨z40, hf⟩ := lm_ck_e hf
        refine lv_ldiv hx hb dX4_fair_174 (lm_nzlT z40) ?_
        exact lm_rlC C0 hR hS hf dX4_fair_175
      · have hf := lm_T b39 hf
        refine lv_lload hx hb dX4_fair_162 (lv_at hl 3 rfl) ?_
        refine lv_lload hx hb dX4_fair_164 (lv_at hl 0 rfl) ?_
        obtain ⟨z41, hf⟩ := lm_ck_e hf
        refine lv_ldiv hx hb dX4_fair_166 (lm_nzlT z41) ?_
        refine lv_goto (tgt := 175) hx hb dX4_fair_167 (by decide) ?_
        exact lm_rlC C0 hR hS hf dX4_fair_175
    · have hf := lm_F b34 hf
      refine lv_lload hx hb dX4_fair_131 (lv_at hl 3 rfl) ?_
      refine lv_ldc2 hx hb hown (hts _ uw_427) dX4_fair_133 ?_
      refine lv_lmul hx hb dX4_fair_136 ?_
      obtain ⟨v42, ev42, hf⟩ := lm_nm_e hf
      refine lm_topl ev42 ?_
      refine lv_lstore (lv' := [(6, .long v42), (0, .ref (B + 0)), (3, .int x3), (4, .long x4), (8, .int x8)]) hx hb dX4_fair_137 hl (by decide) rfl (fun ls hl => ?_)
      obtain ⟨v43, ev43, hf⟩ := lm_nm_e hf
      refine lv_iinc (v := v43) (lv' := [(8, .int v43), (6, .long v42), (0, .ref (B + 0)), (3, .int x3), (4, .long x4)]) hx hb dX4_fair_139 hl (k := 4) rfl (by rw [ev43]; rfl) (by decide) rfl (fun ls hl => ?_)
      refine lv_goto (tgt := 119) hx hb dX4_fair_142 (by decide) ?_
      exact ih _ _ _ _ _ _ _ _ hR hS (lv_sub hl [2, 3, 4, 1, 0] rfl) hf
set_option maxRecDepth 100000 in
set_option maxHeartbeats 4000000 in
theorem w_X4_fair_71 {p : Program} {e : Env} {s : State} {m : MethodId} {args : Array Value} {below : List Frame} {meth : Method} {c0 : Code} {τ σ' : Mem} {r : Int64} (C0 : lm_Cx D cI cZ cL cR B p s m args meth c0 cX4_fair 10 (some .long) RX4) : ∀ (n : Nat), ∀ (x1 : Int32) (x2 : Int32) (x3 : Int32) (x4 : Int64) (x6 : Int32) (σ : Mem) (H : Heap) (locs : List Loc) (ls : Array Slot), va_P D vwCl (wl cI cZ cL cR B σ τ) H → va_S (lm_A B) s.heap H locs → lv_has ls 10 [(0, .ref (B + 0)), (1, .int x1), (2, .int x2), (3, .int x3), (4, .long x4), (6, .int x6)] → f_X4_fair_71 n x1 x2 x3 x4 x6 σ = some (r, σ') → W p l e rmX4_fair s m args below meth c0 H locs 0 0 (MQ below (lm_QJ D cI cZ cL cR B r σ' τ) args s 0 0 (lm_A B)) (F0 m 71 ls []) := by
  obtain ⟨hx, hb, hml, hr, hlk, hown, hts, hK, hX⟩ := id C0
  intro n
  induction n with
  | zero =>
    intro x1 x2 x3 x4 x6 σ H locs ls hR hS hl hf
    cases hf
  | succ n ih =>
    intro x1 x2 x3 x4 x6 σ H locs ls hR hS hl hf
    rw [f_X4_fair_71] at hf
    refine lv_iload hx hb dX4_fair_71 (lv_at hl 5 rfl) ?_
    refine lv_iconst (v := (1 : Int32)) hx hb dX4_fair_73 (by decide) ?_
    refine lv_aload_n hx hb dX4_fair_74 rfl (lv_at hl 0 rfl) ?_
    refine lm_get C0 hR (by decide) cell_0 rfl lw_in_X4 2 (by decide) uw_89 rfl rfl dX4_fair_75 ?_
    refine lm_get C0 hR (isL_lt isL_4) (cell_L isL_4) rfl lw_in_X1 7 (by decide) uw_60 rfl rfl dX4_fair_78 ?_
    refine lv_ishl hx hb dX4_fair_81 ?_
    refine lv_icmp_ge (tgt := 113) hx hb dX4_fair_82 (by decide) (fun b23 => ?_) (fun b23 => ?_)
    · have hf := lm_T b23 hf
      refine lv_lconst (v := (1 : Int64)) hx hb dX4_fair_113 (by decide) ?_
      refine lv_lstore (lv' := [(6, .long (1 : Int64)), (0, .ref (B + 0)), (1, .int x1), (2, .int x2), (3, .int x3), (4, .long x4)]) hx hb dX4_fair_114 hl (by decide) rfl (fun ls hl => ?_)
      refine lv_iconst (v := (0 : Int32)) hx hb dX4_fair_116 (by decide) ?_
      refine lv_istore (lv' := [(8, .int (0 : Int32)), (6, .long (1 : Int64)), (0, .ref (B + 0)), (1, .int x1), (2, .int x2), (3, .int x3), (4, .long x4)]) hx hb dX4_fair_117 hl (by decide) rfl (fun ls hl => ?_)
      exact w_X4_fair_119 C0 _ _ _ _ _ _ _ _ _ hR hS (lv_sub hl [2, 5, 6, 1, 0] rfl) hf
    · have hf := lm_F b23 hf
      refine lv_aload_n hx hb dX4_fair_85 rfl (lv_at hl 0 rfl) ?_
      refine lv_iload hx hb dX4_fair_86 (lv_at hl 5 rfl) ?_
      refine lv_iload_n hx hb dX4_fair_88 rfl (lv_at hl 1 rfl) ?_
      obtain ⟨r25, σ26, u24, hf⟩ := lm_bd2_e hf
      refine lm_endi (lm_runV C0 hR hS (c_X4_isSameIfLifted u24) (lw_cV 2 hts uw_420 mv_X4_isSameIfLifted rfl rfl hd_X4_isSameIfLifted ⟨Nat.le_of_ble_eq_true rfl, Nat.le_of_ble_eq_true rfl⟩) (by decide) cell_0 rfl rfl hl rfl (Nat.le_of_ble_eq_true rfl) dX4_fair_89) hS (fun H locs hR hS => ?_)
      refine lv_if_eq (tgt := 107) hx hb dX4_fair_92 (by decide) (fun b27 => ?_) (fun b27 => ?_)
      · have hf := lm_T b27 hf
        obtain ⟨v28, ev28, hf⟩ := lm_nm_e hf
        refine lv_iinc (v := v28) (lv' := [(6, .int v28), (0, .ref (B + 0)), (1, .int x1), (2, .int x2), (3, .int x3), (4, .long x4)]) hx hb dX4_fair_107 hl (k := 5) rfl (by rw [ev28]; rfl) (by decide) rfl (fun ls hl => ?_)
        refine lv_goto (tgt := 71) hx hb dX4_fair_110 (by decide) ?_
        exact ih _ _ _ _ _ _ _ _ _ hR hS (lv_sub hl [1, 2, 3, 4, 5, 0] rfl) hf
      · have hf := lm_F b27 hf
        refine lv_lload hx hb dX4_fair_95 (lv_at hl 4 rfl) ?_
        refine lv_aload_n hx hb dX4_fair_97 rfl (lv_at hl 0 rfl) ?_
        refine lv_iload hx hb dX4_fair_98 (lv_at hl 5 rfl) ?_
        refine lv_iload_n hx hb dX4_fair_100 rfl (lv_at hl 2 rfl) ?_
        obtain ⟨r30, u29, hf⟩ := lm_bd_e hf
        refine lm_endj (lm_runV C0 hR hS (c_X4_casesOf u29) (lw_cV 2 hts uw_424 mv_X4_casesOf rfl rfl hd_X4_casesOf ⟨Nat.le_of_ble_eq_true rfl, Nat.le_of_ble_eq_true rfl⟩) (by decide) cell_0 rfl rfl hl rfl (Nat.le_of_ble_eq_true rfl) dX4_fair_101) hS (fun H locs hR hS => ?_)
        refine lv_ladd hx hb dX4_fair_104 ?_
        obtain ⟨v32, ev32, hf⟩ := lm_nm_e hf
        refine lm_topl ev32 ?_
        refine lv_lstore (lv' := [(4, .long v32), (0, .ref (B + 0)), (1, .int x1), (2, .int x2), (3, .int x3), (6, .int x6)]) hx hb dX4_fair_105 hl (by decide) rfl (fun ls hl => ?_)
        obtain ⟨v33, ev33, hf⟩ := lm_nm_e hf
        refine lv_iinc (v := v33) (lv' := [(6, .int v33), (4, .long v32), (0, .ref (B + 0)), (1, .int x1), (2, .int x2), (3, .int x3)]) hx hb dX4_fair_107 hl (k := 5) rfl (by rw [ev33]; rfl) (by decide) rfl (fun ls hl => ?_)
        refine lv_goto (tgt := 71) hx hb dX4_fair_110 (by decide) ?_
        exact ih _ _ _ _ _ _ _ _ _ hR hS (lv_sub hl [2, 3, 4, 5, 1, 0] rfl) hf
set_option maxRecDepth 100000 in
set_option maxHeartbeats 4000000 in
theorem c_X4_fair {σ τ σ' : Mem} {p1 : Int32} {p2 : Int32} {p3 : Int32} {r : Int64}  (hf : f_X4_fair σ p1 p2 p3 = some (r, σ')) : lm_CJ l yX4_fair wsX4_fair rmX4_fair D cI cZ cL cR B [.ref (B + 0), .int p1, .int p2, .int p3] σ τ r σ' τ := by
  unfold f_X4_fair at hf
  refine lm_of (cc := cX4_fair) (maxL := 10) (ret := (some .long)) (own := RX4) (by decide) rfl (Nat.le_of_ble_eq_true rfl) (fun p e s m below meth c0 C0 hR ls hl => ?_)
  have hS : va_S (lm_A B) s.heap s.heap [] := va_S.rf
  have hl : lv_has ls 10 [(0, .ref (B + 0)), (1, .int p1), (2, .int p2), (3, .int p3)] := hl
  obtain ⟨hx, hb, hml, hr, hlk, hown, hts, hK, hX⟩ := id C0
  refine lv_aload_n hx hb dX4_fair_0 rfl (lv_at hl 0 rfl) ?_
  refine lm_get C0 hR (by decide) cell_0 rfl lw_in_X4 2 (by decide) uw_89 rfl rfl dX4_fair_1 ?_
  obtain ⟨r2, u1, hf⟩ := lm_bd_e hf
  refine lm_endi (lm_runV C0 hR hS (c_X1_isLit isL_4 u1) (lw_cV 0 hts uw_226 mv_X1_isLit rfl rfl hd_X1_isLit ⟨Nat.le_of_ble_eq_true rfl, Nat.le_of_ble_eq_true rfl⟩) (isL_lt isL_4) (cell_L isL_4) rfl rfl hl rfl (Nat.le_of_ble_eq_true rfl) dX4_fair_4) hS (fun H locs hR hS => ?_)
  refine lv_if_ne (tgt := 14) hx hb dX4_fair_7 (by decide) (fun b4 => ?_) (fun b4 => ?_)
  · have hf := lm_F b4 hf
    refine lv_iload_n hx hb dX4_fair_14 rfl (lv_at hl 1 rfl) ?_
    refine lv_iconst (v := (0 : Int32)) hx hb dX4_fair_15 (by decide) ?_
    refine lv_bipush (v := (60 : Int32)) hx hb dX4_fair_16 (by decide) ?_
    obtain ⟨r6, u5, hf⟩ := lm_bd_e hf
    refine lm_endi (lm_runS C0 hR hS (c_X4_isWithin u5) (lw_cS 3 hts uw_230 mv_X4_isWithin rfl rfl hd_X4_isWithin ⟨Nat.le_of_ble_eq_true rfl, Nat.le_of_ble_eq_true rfl⟩) rfl hl rfl (Nat.le_of_ble_eq_true rfl) dX4_fair_18) hS (fun H locs hR hS => ?_)
    refine lv_if_eq (tgt := 42) hx hb dX4_fair_21 (by decide) (fun b8 => ?_) (fun b8 => ?_)
    · have hf := lm_T b8 hf
      refine lv_ldc2 hx hb hown (hts _ uw_419) dX4_fair_42 ?_
      exact lm_rlC C0 hR hS hf dX4_fair_45
    · have hf := lm_F b8 hf
      refine lv_iload_n hx hb dX4_fair_24 rfl (lv_at hl 2 rfl) ?_
      refine lv_iconst (v := (0 : Int32)) hx hb dX4_fair_25 (by decide) ?_
      refine lv_bipush (v := (10 : Int32)) hx hb dX4_fair_26 (by decide) ?_
      obtain ⟨r10, u9, hf⟩ := lm_bd_e hf
      refine lm_endi (lm_runS C0 hR hS (c_X4_isWithin u9) (lw_cS 3 hts uw_230 mv_X4_isWithin rfl rfl hd_X4_isWithin ⟨Nat.le_of_ble_eq_true rfl, Nat.le_of_ble_eq_true rfl⟩) rfl hl rfl (Nat.le_of_ble_eq_true rfl) dX4_fair_28) hS (fun H locs hR hS => ?_)
      refine lv_if_eq (tgt := 42) hx hb dX4_fair_31 (by decide) (fun b12 => ?_) (fun b12 => ?_)
      · have hf := lm_T b12 hf
        refine lv_ldc2 hx hb hown (hts _ uw_419) dX4_fair_42 ?_
        exact lm_rlC C0 hR hS hf dX4_fair_45
      · have hf := lm_F b12 hf
        refine lv_iload_n hx hb dX4_fair_34 rfl (lv_at hl 3 rfl) ?_
        refine lv_iconst (v := (2 : Int32)) hx hb dX4_fair_35 (by decide) ?_
        obtain ⟨r14, u13, hf⟩ := lm_bd_e hf
        refine lm_endi (lm_runS C0 hR hS (c_X4_isBelow u13) (lw_cS 2 hts uw_102 mv_X4_isBelow rfl rfl hd_X4_isBelow ⟨Nat.le_of_ble_eq_true rfl, Nat.le_of_ble_eq_true rfl⟩) rfl hl rfl (Nat.le_of_ble_eq_true rfl) dX4_fair_36) hS (fun H locs hR hS => ?_)
        refine lv_if_ne (tgt := 46) hx hb dX4_fair_39 (by decide) (fun b16 => ?_) (fun b16 => ?_)
        · have hf := lm_F b16 hf
          refine lv_aload_n hx hb dX4_fair_46 rfl (lv_at hl 0 rfl) ?_
          refine lm_get C0 hR (by decide) cell_0 rfl lw_in_X4 4 (by decide) uw_91 rfl rfl dX4_fair_47 ?_
          refine lv_aload_n hx hb dX4_fair_50 rfl (lv_at hl 0 rfl) ?_
          refine lm_get C0 hR (by decide) cell_0 rfl lw_in_X4 2 (by decide) uw_89 rfl rfl dX4_fair_51 ?_
          obtain ⟨σ19, u17, hf⟩ := lm_bd_e hf
          refine lm_endv (lm_runV C0 hR hS (c_X1_takeFrom isL_12 isL_4 u17) (lw_cV 1 hts uw_193 mv_X1_takeFrom rfl rfl hd_X1_takeFrom ⟨Nat.le_of_ble_eq_true rfl, Nat.le_of_ble_eq_true rfl⟩) (isL_lt isL_12) (cell_L isL_12) rfl rfl hl rfl (Nat.le_of_ble_eq_true rfl) dX4_fair_54) hS (fun H locs hR hS => ?_)
          refine lv_aload_n hx hb dX4_fair_57 rfl (lv_at hl 0 rfl) ?_
          refine lm_get C0 hR (by decide) cell_0 rfl lw_in_X4 4 (by decide) uw_91 rfl rfl dX4_fair_58 ?_
          refine lv_iload_n hx hb dX4_fair_61 rfl (lv_at hl 1 rfl) ?_
          obtain ⟨σ22, u20, hf⟩ := lm_bd_e hf
          refine lm_endv (lm_runV C0 hR hS (c_X1_passWatches isL_12 u20) (lw_cV 1 hts uw_315 mv_X1_passWatches rfl rfl hd_X1_passWatches ⟨Nat.le_of_ble_eq_true rfl, Nat.le_of_ble_eq_true rfl⟩) (isL_lt isL_12) (cell_L isL_12) rfl rfl hl rfl (Nat.le_of_ble_eq_true rfl) dX4_fair_62) hS (fun H locs hR hS => ?_)
          refine lv_lconst (v := (0 : Int64)) hx hb dX4_fair_65 (by decide) ?_
          refine lv_lstore (lv' := [(4, .long (0 : Int64)), (0, .ref (B + 0)), (1, .int p1), (2, .int p2), (3, .int p3)]) hx hb dX4_fair_66 hl (by decide) rfl (fun ls hl => ?_)
          refine lv_iconst (v := (0 : Int32)) hx hb dX4_fair_68 (by decide) ?_
          refine lv_istore (lv' := [(6, .int (0 : Int32)), (4, .long (0 : Int64)), (0, .ref (B + 0)), (1, .int p1), (2, .int p2), (3, .int p3)]) hx hb dX4_fair_69 hl (by decide) rfl (fun ls hl => ?_)
          exact w_X4_fair_71 C0 _ _ _ _ _ _ _ _ _ _ hR hS (lv_sub hl [2, 3, 4, 5, 1, 0] rfl) hf
        · have hf := lm_T b16 hf
          refine lv_ldc2 hx hb hown (hts _ uw_419) dX4_fair_42 ?_
          exact lm_rlC C0 hR hS hf dX4_fair_45
  · have hf := lm_T b4 hf
    refine lv_ldc2 hx hb hown (hts _ uw_418) dX4_fair_10 ?_
    exact lm_rlC C0 hR hS hf dX4_fair_13
end
/-! ===== X4_drawn ===== -/
abbrev rmX4_drawn : Room := { frames := 4, cells := 0, slots := 0, locals := 125 }
def f_X4_drawn_66 : Nat → Int32 → Int32 → Int32 → Int64 → Int32 → Mem → Option (Int32 × Mem)
  | 0, _, _, _, _, _, _ => none
  | n + 1, x1, x3, x4, x5, x7, σ => if x1 ≤ x7 then (if x3 = 0 then (some (x4, σ)) else (some ((σ 8 5), σ))) else (lm_nm ((x5 * (16807 : Int64)) - (x5 * (16807 : Int64)) / (2147483647 : Int64) * (2147483647 : Int64)) fun v23 => lm_bd (f_X1_befall 8 σ v23) fun σ26 => lm_bd (f_X1_passWatch 8 σ26) fun σ29 => lm_bd (f_X1_shipsSeen 8 σ29 (2 : Int32)) fun r31 => lm_bd (f_J6_bitCount_0f7a4 r31) fun r34 => lm_nm (x4 + r34) fun v36 => lm_nm (x7 + (1 : Int32)) fun v37 => f_X4_drawn_66 n x1 x3 v36 v23 v37 σ29)
def f_X4_drawn (σ : Mem) (p1 : Int32) (p2 : Int32) (p3 : Int32) : Option (Int32 × Mem) := lm_bd (f_X1_isLit 4 σ) fun r2 => if r2 = 0 then (some ((-1000002 : Int32), σ)) else (lm_bd (f_X4_isWithin p1 (0 : Int32) (60 : Int32)) fun r6 => if r6 = 0 then (some ((-1000001 : Int32), σ)) else (lm_bd (f_X4_isWithin p2 (1 : Int32) (999999 : Int32)) fun r10 => if r10 = 0 then (some ((-1000001 : Int32), σ)) else (lm_bd (f_X4_isBelow p3 (2 : Int32)) fun r14 => if r14 = 0 then (some ((-1000001 : Int32), σ)) else (lm_bd (f_X1_takeFrom 8 4 σ) fun σ19 => lm_nm p2.toInt64 fun v20 => f_X4_drawn_66 lm_fu p1 p3 (0 : Int32) v20 (0 : Int32) σ19))))
abbrev wsX4_drawn : List Cond := Cond.code yX4_drawn cX4_drawn 8 (some .int) :: lw_u
theorem mv_X4_drawn : Cond.instanceMethod yX4_drawn ∈ lw_u ∧ Cond.selects yX4_drawn.cls yX4_drawn yX4_drawn ∈ lw_u ∧ Cond.initialized yX4_drawn.cls ∈ lw_u ∧ Cond.code yX4_drawn cX4_drawn 8 (some .int) ∈ lw_u := ⟨uw_435, uw_436, uw_1, uw_437⟩
theorem hd_X4_drawn : yX4_drawn.cls ≠ "java/lang/invoke/MethodHandle" ∧ yX4_drawn.cls ≠ "java/lang/invoke/VarHandle" ∧ (parseMethodDescriptor yX4_drawn.desc).map (fun d => d.parameters.length) = some 3 := by decide +kernel
section
variable {l : Launch} {D : va_G} {cI cZ cL cR : ClassId} {B : Nat}
set_option maxRecDepth 100000 in
set_option maxHeartbeats 4000000 in
theorem w_X4_drawn_66 {p : Program} {e : Env} {s : State} {m : MethodId} {args : Array Value} {below : List Frame} {meth : Method} {c0 : Code} {τ σ' : Mem} {r : Int32} (C0 : lm_Cx D cI cZ cL cR B p s m args meth c0 cX4_drawn 8 (some .int) RX4) : ∀ (n : Nat), ∀ (x1 : Int32) (x3 : Int32) (x4 : Int32) (x5 : Int64) (x7 : Int32) (σ : Mem) (H : Heap) (locs : List Loc) (ls : Array Slot), va_P D vwCl (wl cI cZ cL cR B σ τ) H → va_S (lm_A B) s.heap H locs → lv_has ls 8 [(0, .ref (B + 0)), (1, .int x1), (3, .int x3), (4, .int x4), (5, .long x5), (7, .int x7)] → f_X4_drawn_66 n x1 x3 x4 x5 x7 σ = some (r, σ') → W p l e rmX4_drawn s m args below meth c0 H locs 0 0 (MQ below (lm_QI D cI cZ cL cR B r σ' τ) args s 0 0 (lm_A B)) (F0 m 66 ls []) := by
  obtain ⟨hx, hb, hml, hr, hlk, hown, hts, hK, hX⟩ := id C0
  intro n
  induction n with
  | zero =>
    intro x1 x3 x4 x5 x7 σ H locs ls hR hS hl hf
    cases hf
  | succ n ih =>
    intro x1 x3 x4 x5 x7 σ H locs ls hR hS hl hf
    rw [f_X4_drawn_66] at hf
    refine lv_iload hx hb dX4_drawn_66 (lv_at hl 5 rfl) ?_
    refine lv_iload_n hx hb dX4_drawn_68 rfl (lv_at hl 1 rfl) ?_
    refine lv_icmp_ge (tgt := 122) hx hb dX4_drawn_69 (by decide) (fun b21 => ?_) (fun b21 => ?_)
    · have hf := lm_T b21 hf
      refine lv_iload_n hx hb dX4_drawn_122 rfl (lv_at hl 2 rfl) ?_
      refine lv_if_ne (tgt := 131) hx hb dX4_drawn_123 (by decide) (fun b22 => ?_) (fun b22 => ?_)
      · have hf := lm_F b22 hf
        refine lv_aload_n hx hb dX4_drawn_131 rfl (lv_at hl 0 rfl) ?_
        refine lm_get C0 hR (by decide) cell_0 rfl lw_in_X4 3 (by decide) uw_90 rfl rfl dX4_drawn_132 ?_
        refine lm_get C0 hR (isL_lt isL_8) (cell_L isL_8) rfl lw_in_X1 5 (by decide) uw_55 rfl rfl dX4_drawn_135 ?_
        exact lm_riC C0 hR hS hf dX4_drawn_138
      · have hf := lm_T b22 hf
        refine lv_iload hx hb dX4_drawn_126 (lv_at hl 3 rfl) ?_
        refine lv_goto (tgt := 138) hx hb dX4_drawn_128 (by decide) ?_
        exact lm_riC C0 hR hS hf dX4_drawn_138
    · have hf := lm_F b21 hf
      refine lv_lload hx hb dX4_drawn_72 (lv_at hl 4 rfl) ?_
      refine lv_ldc2 hx hb hown (hts _ uw_439) dX4_drawn_74 ?_
      refine lv_lmul hx hb dX4_drawn_77 ?_
      refine lv_ldc2 hx hb hown (hts _ uw_440) dX4_drawn_78 ?_
      refine lv_lrem hx hb dX4_drawn_81 (by decide) ?_
      obtain ⟨v23, ev23, hf⟩ := lm_nm_e hf
      refine lm_topl ev23 ?_
      refine lv_lstore (lv' := [(5, .long v23), (0, .ref (B + 0)), (1, .int x1), (3, .int x3), (4, .int x4), (7, .int x7)]) hx hb dX4_drawn_82 hl (by decide) rfl (fun ls hl => ?_)
      refine lv_aload_n hx hb dX4_drawn_84 rfl (lv_at hl 1 rfl) ?_
      refine lm_get C0 hR (by decide) cell_0 rfl lw_in_X4 3 (by decide) uw_90 rfl rfl dX4_drawn_85 ?_
      refine lv_lload hx hb dX4_drawn_88 (lv_at hl 0 rfl) ?_
      obtain ⟨σ26, u24, hf⟩ := lm_bd_e hf
      refine lm_endv (lm_runV C0 hR hS (c_X1_befall isL_8 u24) (lw_cV 1 hts uw_441 mv_X1_befall rfl rfl hd_X1_befall ⟨Nat.le_of_ble_eq_true rfl, Nat.le_of_ble_eq_true rfl⟩) (isL_lt isL_8) (cell_L isL_8) rfl rfl hl rfl (Nat.le_of_ble_eq_true rfl) dX4_drawn_90) hS (fun H locs hR hS => ?_)
      refine lv_aload_n hx hb dX4_drawn_93 rfl (lv_at hl 1 rfl) ?_
      refine lm_get C0 hR (by decide) cell_0 rfl lw_in_X4 3 (by decide) uw_90 rfl rfl dX4_drawn_94 ?_
      obtain ⟨σ29, u27, hf⟩ := lm_bd_e hf
      refine lm_endv (lm_runV C0 hR hS (c_X1_passWatch isL_8 u27) (lw_cV 0 hts uw_238 mv_X1_passWatch rfl rfl hd_X1_passWatch ⟨Nat.le_of_ble_eq_true rfl, Nat.le_of_ble_eq_true rfl⟩) (isL_lt isL_8) (cell_L isL_8) rfl rfl hl rfl (Nat.le_of_ble_eq_true rfl) dX4_drawn_97) hS (fun H locs hR hS => ?_)
      refine lv_iload hx hb dX4_drawn_100 (lv_at hl 4 rfl) ?_
      refine lv_aload_n hx hb dX4_drawn_102 rfl (lv_at hl 1 rfl) ?_
      refine lm_get C0 hR (by decide) cell_0 rfl lw_in_X4 3 (by decide) uw_90 rfl rfl dX4_drawn_103 ?_
      refine lv_iconst (v := (2 : Int32)) hx hb dX4_drawn_106 (by decide) ?_
      obtain ⟨r31, u30, hf⟩ := lm_bd_e hf
      refine lm_endi (lm_runV C0 hR hS (c_X1_shipsSeen isL_8 u30) (lw_cV 1 hts uw_260 mv_X1_shipsSeen rfl rfl hd_X1_shipsSeen ⟨Nat.le_of_ble_eq_true rfl, Nat.le_of_ble_eq_true rfl⟩) (isL_lt isL_8) (cell_L isL_8) rfl rfl hl rfl (Nat.le_of_ble_eq_true rfl) dX4_drawn_107) hS (fun H locs hR hS => ?_)
      obtain ⟨r34, u33, hf⟩ := lm_bd_e hf
      refine lm_endi (lm_runS C0 hR hS (c_J6_bitCount_0f7a4 u33) (lw_cS 1 hts uw_353 mv_J6_bitCount_0f7a4 rfl rfl hd_J6_bitCount_0f7a4 ⟨Nat.le_of_ble_eq_true rfl, Nat.le_of_ble_eq_true rfl⟩) rfl hl rfl (Nat.le_of_ble_eq_true rfl) dX4_drawn_110) hS (fun H locs hR hS => ?_)
      refine lv_iadd hx hb dX4_drawn_113 ?_
      obtain ⟨v36, ev36, hf⟩ := lm_nm_e hf
      refine lm_topi ev36 ?_
      refine lv_istore (lv' := [(4, .int v36), (5, .long v23), (0, .ref (B + 0)), (1, .int x1), (3, .int x3), (7, .int x7)]) hx hb dX4_drawn_114 hl (by decide) rfl (fun ls hl => ?_)
      obtain ⟨v37, ev37, hf⟩ := lm_nm_e hf
      refine lv_iinc (v := v37) (lv' := [(7, .int v37), (4, .int v36), (5, .long v23), (0, .ref (B + 0)), (1, .int x1), (3, .int x3)]) hx hb dX4_drawn_116 hl (k := 5) rfl (by rw [ev37]; rfl) (by decide) rfl (fun ls hl => ?_)
      refine lv_goto (tgt := 66) hx hb dX4_drawn_119 (by decide) ?_
      exact ih _ _ _ _ _ _ _ _ _ hR hS (lv_sub hl [3, 4, 5, 1, 2, 0] rfl) hf
set_option maxRecDepth 100000 in
set_option maxHeartbeats 4000000 in
theorem c_X4_drawn {σ τ σ' : Mem} {p1 : Int32} {p2 : Int32} {p3 : Int32} {r : Int32}  (hf : f_X4_drawn σ p1 p2 p3 = some (r, σ')) : lm_CI l yX4_drawn wsX4_drawn rmX4_drawn D cI cZ cL cR B [.ref (B + 0), .int p1, .int p2, .int p3] σ τ r σ' τ := by
  unfold f_X4_drawn at hf
  refine lm_of (cc := cX4_drawn) (maxL := 8) (ret := (some .int)) (own := RX4) (by decide) rfl (Nat.le_of_ble_eq_true rfl) (fun p e s m below meth c0 C0 hR ls hl => ?_)
  have hS : va_S (lm_A B) s.heap s.heap [] := va_S.rf
  have hl : lv_has ls 8 [(0, .ref (B + 0)), (1, .int p1), (2, .int p2), (3, .int p3)] := hl
  obtain ⟨hx, hb, hml, hr, hlk, hown, hts, hK, hX⟩ := id C0
  refine lv_aload_n hx hb dX4_drawn_0 rfl (lv_at hl 0 rfl) ?_
  refine lm_get C0 hR (by decide) cell_0 rfl lw_in_X4 2 (by decide) uw_89 rfl rfl dX4_drawn_1 ?_
  obtain ⟨r2, u1, hf⟩ := lm_bd_e hf
  refine lm_endi (lm_runV C0 hR hS (c_X1_isLit isL_4 u1) (lw_cV 0 hts uw_226 mv_X1_isLit rfl rfl hd_X1_isLit ⟨Nat.le_of_ble_eq_true rfl, Nat.le_of_ble_eq_true rfl⟩) (isL_lt isL_4) (cell_L isL_4) rfl rfl hl rfl (Nat.le_of_ble_eq_true rfl) dX4_drawn_4) hS (fun H locs hR hS => ?_)
  refine lv_if_ne (tgt := 13) hx hb dX4_drawn_7 (by decide) (fun b4 => ?_) (fun b4 => ?_)
  · have hf := lm_F b4 hf
    refine lv_iload_n hx hb dX4_drawn_13 rfl (lv_at hl 1 rfl) ?_
    refine lv_iconst (v := (0 : Int32)) hx hb dX4_drawn_14 (by decide) ?_
    refine lv_bipush (v := (60 : Int32)) hx hb dX4_drawn_15 (by decide) ?_
    obtain ⟨r6, u5, hf⟩ := lm_bd_e hf
    refine lm_endi (lm_runS C0 hR hS (c_X4_isWithin u5) (lw_cS 3 hts uw_230 mv_X4_isWithin rfl rfl hd_X4_isWithin ⟨Nat.le_of_ble_eq_true rfl, Nat.le_of_ble_eq_true rfl⟩) rfl hl rfl (Nat.le_of_ble_eq_true rfl) dX4_drawn_17) hS (fun H locs hR hS => ?_)
    refine lv_if_eq (tgt := 42) hx hb dX4_drawn_20 (by decide) (fun b8 => ?_) (fun b8 => ?_)
    · have hf := lm_T b8 hf
      refine lv_ldc hx hb hown (hts _ uw_105) dX4_drawn_42 ?_
      exact lm_riC C0 hR hS hf dX4_drawn_44
    · have hf := lm_F b8 hf
      refine lv_iload_n hx hb dX4_drawn_23 rfl (lv_at hl 2 rfl) ?_
      refine lv_iconst (v := (1 : Int32)) hx hb dX4_drawn_24 (by decide) ?_
      refine lv_ldcw hx hb hown (hts _ uw_438) dX4_drawn_25 ?_
      obtain ⟨r10, u9, hf⟩ := lm_bd_e hf
      refine lm_endi (lm_runS C0 hR hS (c_X4_isWithin u9) (lw_cS 3 hts uw_230 mv_X4_isWithin rfl rfl hd_X4_isWithin ⟨Nat.le_of_ble_eq_true rfl, Nat.le_of_ble_eq_true rfl⟩) rfl hl rfl (Nat.le_of_ble_eq_true rfl) dX4_drawn_28) hS (fun H locs hR hS => ?_)
      refine lv_if_eq (tgt := 42) hx hb dX4_drawn_31 (by decide) (fun b12 => ?_) (fun b12 => ?_)
      · have hf := lm_T b12 hf
        refine lv_ldc hx hb hown (hts _ uw_105) dX4_drawn_42 ?_
        exact lm_riC C0 hR hS hf dX4_drawn_44
      · have hf := lm_F b12 hf
        refine lv_iload_n hx hb dX4_drawn_34 rfl (lv_at hl 3 rfl) ?_
        refine lv_iconst (v := (2 : Int32)) hx hb dX4_drawn_35 (by decide) ?_
        obtain ⟨r14, u13, hf⟩ := lm_bd_e hf
        refine lm_endi (lm_runS C0 hR hS (c_X4_isBelow u13) (lw_cS 2 hts uw_102 mv_X4_isBelow rfl rfl hd_X4_isBelow ⟨Nat.le_of_ble_eq_true rfl, Nat.le_of_ble_eq_true rfl⟩) rfl hl rfl (Nat.le_of_ble_eq_true rfl) dX4_drawn_36) hS (fun H locs hR hS => ?_)
        refine lv_if_ne (tgt := 45) hx hb dX4_drawn_39 (by decide) (fun b16 => ?_) (fun b16 => ?_)
        · have hf := lm_F b16 hf
          refine lv_aload_n hx hb dX4_drawn_45 rfl (lv_at hl 0 rfl) ?_
          refine lm_get C0 hR (by decide) cell_0 rfl lw_in_X4 3 (by decide) uw_90 rfl rfl dX4_drawn_46 ?_
          refine lv_aload_n hx hb dX4_drawn_49 rfl (lv_at hl 0 rfl) ?_
          refine lm_get C0 hR (by decide) cell_0 rfl lw_in_X4 2 (by decide) uw_89 rfl rfl dX4_drawn_50 ?_
          obtain ⟨σ19, u17, hf⟩ := lm_bd_e hf
          refine lm_endv (lm_runV C0 hR hS (c_X1_takeFrom isL_8 isL_4 u17) (lw_cV 1 hts uw_193 mv_X1_takeFrom rfl rfl hd_X1_takeFrom ⟨Nat.le_of_ble_eq_true rfl, Nat.le_of_ble_eq_true rfl⟩) (isL_lt isL_8) (cell_L isL_8) rfl rfl hl rfl (Nat.le_of_ble_eq_true rfl) dX4_drawn_53) hS (fun H locs hR hS => ?_)
          refine lv_iconst (v := (0 : Int32)) hx hb dX4_drawn_56 (by decide) ?_
          refine lv_istore (lv' := [(4, .int (0 : Int32)), (0, .ref (B + 0)), (1, .int p1), (2, .int p2), (3, .int p3)]) hx hb dX4_drawn_57 hl (by decide) rfl (fun ls hl => ?_)
          refine lv_iload_n hx hb dX4_drawn_59 rfl (lv_at hl 3 rfl) ?_
          refine lv_i2l hx hb dX4_drawn_60 rfl ?_
          obtain ⟨v20, ev20, hf⟩ := lm_nm_e hf
          refine lm_topl ev20 ?_
          refine lv_lstore (lv' := [(5, .long v20), (4, .int (0 : Int32)), (0, .ref (B + 0)), (1, .int p1), (2, .int p2), (3, .int p3)]) hx hb dX4_drawn_61 hl (by decide) rfl (fun ls hl => ?_)
          refine lv_iconst (v := (0 : Int32)) hx hb dX4_drawn_63 (by decide) ?_
          refine lv_istore (lv' := [(7, .int (0 : Int32)), (5, .long v20), (4, .int (0 : Int32)), (0, .ref (B + 0)), (1, .int p1), (2, .int p2), (3, .int p3)]) hx hb dX4_drawn_64 hl (by decide) rfl (fun ls hl => ?_)
          exact w_X4_drawn_66 C0 _ _ _ _ _ _ _ _ _ _ hR hS (lv_sub hl [3, 4, 6, 2, 1, 0] rfl) hf
        · have hf := lm_T b16 hf
          refine lv_ldc hx hb hown (hts _ uw_105) dX4_drawn_42 ?_
          exact lm_riC C0 hR hS hf dX4_drawn_44
  · have hf := lm_T b4 hf
    refine lv_ldc hx hb hown (hts _ uw_216) dX4_drawn_10 ?_
    exact lm_riC C0 hR hS hf dX4_drawn_12
end
/-! ===== X4_image ===== -/
abbrev rmX4_image : Room := { frames := 2, cells := 0, slots := 0, locals := 43 }
def f_X4_image (σ : Mem) (p1 : Int32) : Option (Int32 × Mem) := lm_bd (f_X4_isBelow p1 (2 : Int32)) fun r2 => if r2 = 0 then (some ((-1000001 : Int32), σ)) else (lm_bd (f_X1_isLit 4 σ) fun r6 => if r6 = 0 then (some ((-1000002 : Int32), σ)) else (lm_ck (lm_in p1 2) (lm_bd (f_X1_takeFrom (132 + 4 * p1.toNatClampNeg) 4 σ) fun σ12 => some ((1 : Int32), σ12))))
abbrev wsX4_image : List Cond := Cond.code yX4_image cX4_image 2 (some .int) :: lw_u
theorem mv_X4_image : Cond.instanceMethod yX4_image ∈ lw_u ∧ Cond.selects yX4_image.cls yX4_image yX4_image ∈ lw_u ∧ Cond.initialized yX4_image.cls ∈ lw_u ∧ Cond.code yX4_image cX4_image 2 (some .int) ∈ lw_u := ⟨uw_449, uw_450, uw_1, uw_451⟩
theorem hd_X4_image : yX4_image.cls ≠ "java/lang/invoke/MethodHandle" ∧ yX4_image.cls ≠ "java/lang/invoke/VarHandle" ∧ (parseMethodDescriptor yX4_image.desc).map (fun d => d.parameters.length) = some 1 := by decide +kernel
section
variable {l : Launch} {D : va_G} {cI cZ cL cR : ClassId} {B : Nat}
set_option maxRecDepth 100000 in
set_option maxHeartbeats 4000000 in
theorem c_X4_image {σ τ σ' : Mem} {p1 : Int32} {r : Int32}  (hf : f_X4_image σ p1 = some (r, σ')) : lm_CI l yX4_image wsX4_image rmX4_image D cI cZ cL cR B [.ref (B + 0), .int p1] σ τ r σ' τ := by
  unfold f_X4_image at hf
  refine lm_of (cc := cX4_image) (maxL := 2) (ret := (some .int)) (own := RX4) (by decide) rfl (Nat.le_of_ble_eq_true rfl) (fun p e s m below meth c0 C0 hR ls hl => ?_)
  have hS : va_S (lm_A B) s.heap s.heap [] := va_S.rf
  have hl : lv_has ls 2 [(0, .ref (B + 0)), (1, .int p1)] := hl
  obtain ⟨hx, hb, hml, hr, hlk, hown, hts, hK, hX⟩ := id C0
  refine lv_iload_n hx hb dX4_image_0 rfl (lv_at hl 1 rfl) ?_
  refine lv_iconst (v := (2 : Int32)) hx hb dX4_image_1 (by decide) ?_
  obtain ⟨r2, u1, hf⟩ := lm_bd_e hf
  refine lm_endi (lm_runS C0 hR hS (c_X4_isBelow u1) (lw_cS 2 hts uw_102 mv_X4_isBelow rfl rfl hd_X4_isBelow ⟨Nat.le_of_ble_eq_true rfl, Nat.le_of_ble_eq_true rfl⟩) rfl hl rfl (Nat.le_of_ble_eq_true rfl) dX4_image_2) hS (fun H locs hR hS => ?_)
  refine lv_if_ne (tgt := 11) hx hb dX4_image_5 (by decide) (fun b4 => ?_) (fun b4 => ?_)
  · have hf := lm_F b4 hf
    refine lv_aload_n hx hb dX4_image_11 rfl (lv_at hl 0 rfl) ?_
    refine lm_get C0 hR (by decide) cell_0 rfl lw_in_X4 2 (by decide) uw_89 rfl rfl dX4_image_12 ?_
    obtain ⟨r6, u5, hf⟩ := lm_bd_e hf
    refine lm_endi (lm_runV C0 hR hS (c_X1_isLit isL_4 u5) (lw_cV 0 hts uw_226 mv_X1_isLit rfl rfl hd_X1_isLit ⟨Nat.le_of_ble_eq_true rfl, Nat.le_of_ble_eq_true rfl⟩) (isL_lt isL_4) (cell_L isL_4) rfl rfl hl rfl (Nat.le_of_ble_eq_true rfl) dX4_image_15) hS (fun H locs hR hS => ?_)
    refine lv_if_ne (tgt := 24) hx hb dX4_image_18 (by decide) (fun b8 => ?_) (fun b8 => ?_)
    · have hf := lm_F b8 hf
      refine lv_aload_n hx hb dX4_image_24 rfl (lv_at hl 0 rfl) ?_
      refine lm_get C0 hR (by decide) cell_0 rfl lw_in_X4 6 (by decide) uw_93 rfl rfl dX4_image_25 ?_
      refine lv_iload_n hx hb dX4_image_28 rfl (lv_at hl 1 rfl) ?_
      obtain ⟨z9, hf⟩ := lm_ck_e hf
      refine lm_ald C0 hR (t0 := 2) (by decide) cell_114 rfl z9 rfl dX4_image_29 ?_
      refine lv_aload_n hx hb dX4_image_30 rfl (lv_at hl 0 rfl) ?_
      refine lm_get C0 hR (by decide) cell_0 rfl lw_in_X4 2 (by decide) uw_89 rfl rfl dX4_image_31 ?_
      obtain ⟨σ12, u10, hf⟩ := lm_bd_e hf
      refine lm_endv (lm_runV C0 hR hS (c_X1_takeFrom (isL_image z9) isL_4 u10) (lw_cV 1 hts uw_193 mv_X1_takeFrom rfl rfl hd_X1_takeFrom ⟨Nat.le_of_ble_eq_true rfl, Nat.le_of_ble_eq_true rfl⟩) (isL_lt (isL_image z9)) (cell_L (isL_image z9)) rfl rfl hl rfl (Nat.le_of_ble_eq_true rfl) dX4_image_34) hS (fun H locs hR hS => ?_)
      refine lv_iconst (v := (1 : Int32)) hx hb dX4_image_37 (by decide) ?_
      exact lm_riC C0 hR hS hf dX4_image_38
    · have hf := lm_T b8 hf
      refine lv_ldc hx hb hown (hts _ uw_216) dX4_image_21 ?_
      exact lm_riC C0 hR hS hf dX4_image_23
  · have hf := lm_T b4 hf
    refine lv_ldc hx hb hown (hts _ uw_105) dX4_image_8 ?_
    exact lm_riC C0 hR hS hf dX4_image_10
end
/-! ===== X4_restore ===== -/
abbrev rmX4_restore : Room := { frames := 2, cells := 0, slots := 0, locals := 43 }
def f_X4_restore (σ : Mem) (p1 : Int32) : Option (Int32 × Mem) := lm_bd (f_X4_isBelow p1 (2 : Int32)) fun r2 => if r2 = 0 then (some ((-1000001 : Int32), σ)) else (lm_ck (lm_in p1 2) (lm_bd (f_X1_isLit (132 + 4 * p1.toNatClampNeg) σ) fun r7 => if r7 = 0 then (some ((-1000002 : Int32), σ)) else (lm_ck (lm_in p1 2) (lm_bd (f_X1_takeFrom 4 (132 + 4 * p1.toNatClampNeg) σ) fun σ13 => lm_bd (f_X0_forget σ13) fun σ16 => some ((1 : Int32), σ16)))))
abbrev wsX4_restore : List Cond := Cond.code yX4_restore cX4_restore 2 (some .int) :: lw_u
theorem mv_X4_restore : Cond.instanceMethod yX4_restore ∈ lw_u ∧ Cond.selects yX4_restore.cls yX4_restore yX4_restore ∈ lw_u ∧ Cond.initialized yX4_restore.cls ∈ lw_u ∧ Cond.code yX4_restore cX4_restore 2 (some .int) ∈ lw_u := ⟨uw_453, uw_454, uw_1, uw_455⟩
theorem hd_X4_restore : yX4_restore.cls ≠ "java/lang/invoke/MethodHandle" ∧ yX4_restore.cls ≠ "java/lang/invoke/VarHandle" ∧ (parseMethodDescriptor yX4_restore.desc).map (fun d => d.parameters.length) = some 1 := by decide +kernel
section
variable {l : Launch} {D : va_G} {cI cZ cL cR : ClassId} {B : Nat}
set_option maxRecDepth 100000 in
set_option maxHeartbeats 4000000 in
theorem c_X4_restore {σ τ σ' : Mem} {p1 : Int32} {r : Int32}  (hf : f_X4_restore σ p1 = some (r, σ')) : lm_CI l yX4_restore wsX4_restore rmX4_restore D cI cZ cL cR B [.ref (B + 0), .int p1] σ τ r σ' τ := by
  unfold f_X4_restore at hf
  refine lm_of (cc := cX4_restore) (maxL := 2) (ret := (some .int)) (own := RX4) (by decide) rfl (Nat.le_of_ble_eq_true rfl) (fun p e s m below meth c0 C0 hR ls hl => ?_)
  have hS : va_S (lm_A B) s.heap s.heap [] := va_S.rf
  have hl : lv_has ls 2 [(0, .ref (B + 0)), (1, .int p1)] := hl
  obtain ⟨hx, hb, hml, hr, hlk, hown, hts, hK, hX⟩ := id C0
  refine lv_iload_n hx hb dX4_restore_0 rfl (lv_at hl 1 rfl) ?_
  refine lv_iconst (v := (2 : Int32)) hx hb dX4_restore_1 (by decide) ?_
  obtain ⟨r2, u1, hf⟩ := lm_bd_e hf
  refine lm_endi (lm_runS C0 hR hS (c_X4_isBelow u1) (lw_cS 2 hts uw_102 mv_X4_isBelow rfl rfl hd_X4_isBelow ⟨Nat.le_of_ble_eq_true rfl, Nat.le_of_ble_eq_true rfl⟩) rfl hl rfl (Nat.le_of_ble_eq_true rfl) dX4_restore_2) hS (fun H locs hR hS => ?_)
  refine lv_if_ne (tgt := 11) hx hb dX4_restore_5 (by decide) (fun b4 => ?_) (fun b4 => ?_)
  · have hf := lm_F b4 hf
    refine lv_aload_n hx hb dX4_restore_11 rfl (lv_at hl 0 rfl) ?_
    refine lm_get C0 hR (by decide) cell_0 rfl lw_in_X4 6 (by decide) uw_93 rfl rfl dX4_restore_12 ?_
    refine lv_iload_n hx hb dX4_restore_15 rfl (lv_at hl 1 rfl) ?_
    obtain ⟨z5, hf⟩ := lm_ck_e hf
    refine lm_ald C0 hR (t0 := 2) (by decide) cell_114 rfl z5 rfl dX4_restore_16 ?_
    obtain ⟨r7, u6, hf⟩ := lm_bd_e hf
    refine lm_endi (lm_runV C0 hR hS (c_X1_isLit (isL_image z5) u6) (lw_cV 0 hts uw_226 mv_X1_isLit rfl rfl hd_X1_isLit ⟨Nat.le_of_ble_eq_true rfl, Nat.le_of_ble_eq_true rfl⟩) (isL_lt (isL_image z5)) (cell_L (isL_image z5)) rfl rfl hl rfl (Nat.le_of_ble_eq_true rfl) dX4_restore_17) hS (fun H locs hR hS => ?_)
    refine lv_if_ne (tgt := 26) hx hb dX4_restore_20 (by decide) (fun b9 => ?_) (fun b9 => ?_)
    · have hf := lm_F b9 hf
      refine lv_aload_n hx hb dX4_restore_26 rfl (lv_at hl 0 rfl) ?_
      refine lm_get C0 hR (by decide) cell_0 rfl lw_in_X4 2 (by decide) uw_89 rfl rfl dX4_restore_27 ?_
      refine lv_aload_n hx hb dX4_restore_30 rfl (lv_at hl 0 rfl) ?_
      refine lm_get C0 hR (by decide) cell_0 rfl lw_in_X4 6 (by decide) uw_93 rfl rfl dX4_restore_31 ?_
      refine lv_iload_n hx hb dX4_restore_34 rfl (lv_at hl 1 rfl) ?_
      obtain ⟨z10, hf⟩ := lm_ck_e hf
      refine lm_ald C0 hR (t0 := 2) (by decide) cell_114 rfl z10 rfl dX4_restore_35 ?_
      obtain ⟨σ13, u11, hf⟩ := lm_bd_e hf
      refine lm_endv (lm_runV C0 hR hS (c_X1_takeFrom isL_4 (isL_image z10) u11) (lw_cV 1 hts uw_193 mv_X1_takeFrom rfl rfl hd_X1_takeFrom ⟨Nat.le_of_ble_eq_true rfl, Nat.le_of_ble_eq_true rfl⟩) (isL_lt isL_4) (cell_L isL_4) rfl rfl hl rfl (Nat.le_of_ble_eq_true rfl) dX4_restore_36) hS (fun H locs hR hS => ?_)
      refine lv_aload_n hx hb dX4_restore_39 rfl (lv_at hl 0 rfl) ?_
      refine lm_get C0 hR (by decide) cell_0 rfl lw_in_X4 5 (by decide) uw_92 rfl rfl dX4_restore_40 ?_
      obtain ⟨σ16, u14, hf⟩ := lm_bd_e hf
      refine lm_endv (lm_runV C0 hR hS (c_X0_forget u14) (lw_cV 0 hts uw_204 mv_X0_forget rfl rfl hd_X0_forget ⟨Nat.le_of_ble_eq_true rfl, Nat.le_of_ble_eq_true rfl⟩) (by decide) cell_16 rfl rfl hl rfl (Nat.le_of_ble_eq_true rfl) dX4_restore_43) hS (fun H locs hR hS => ?_)
      refine lv_iconst (v := (1 : Int32)) hx hb dX4_restore_46 (by decide) ?_
      exact lm_riC C0 hR hS hf dX4_restore_47
    · have hf := lm_T b9 hf
      refine lv_ldc hx hb hown (hts _ uw_216) dX4_restore_23 ?_
      exact lm_riC C0 hR hS hf dX4_restore_25
  · have hf := lm_T b4 hf
    refine lv_ldc hx hb hown (hts _ uw_105) dX4_restore_8 ?_
    exact lm_riC C0 hR hS hf dX4_restore_10
end
/-! ===== X4_kind ===== -/
abbrev rmX4_kind : Room := { frames := 1, cells := 0, slots := 0, locals := 21 }
def f_X4_kind (σ : Mem) (p1 : Int32) : Option (Int32) := lm_bd (f_X4_isBelow p1 (σ 4 8)) fun r2 => if r2 = 0 then (some (-1000001 : Int32)) else (lm_ck (lm_in p1 6) (some (σ (4 + 2) p1.toNatClampNeg)))
abbrev wsX4_kind : List Cond := Cond.code yX4_kind cX4_kind 2 (some .int) :: lw_u
theorem mv_X4_kind : Cond.instanceMethod yX4_kind ∈ lw_u ∧ Cond.selects yX4_kind.cls yX4_kind yX4_kind ∈ lw_u ∧ Cond.initialized yX4_kind.cls ∈ lw_u ∧ Cond.code yX4_kind cX4_kind 2 (some .int) ∈ lw_u := ⟨uw_457, uw_458, uw_1, uw_459⟩
theorem hd_X4_kind : yX4_kind.cls ≠ "java/lang/invoke/MethodHandle" ∧ yX4_kind.cls ≠ "java/lang/invoke/VarHandle" ∧ (parseMethodDescriptor yX4_kind.desc).map (fun d => d.parameters.length) = some 1 := by decide +kernel
section
variable {l : Launch} {D : va_G} {cI cZ cL cR : ClassId} {B : Nat}
set_option maxRecDepth 100000 in
set_option maxHeartbeats 4000000 in
theorem c_X4_kind {σ τ : Mem} {p1 : Int32} {r : Int32}  (hf : f_X4_kind σ p1 = some r) : lm_CI l yX4_kind wsX4_kind rmX4_kind D cI cZ cL cR B [.ref (B + 0), .int p1] σ τ r σ τ := by
  unfold f_X4_kind at hf
  refine lm_of (cc := cX4_kind) (maxL := 2) (ret := (some .int)) (own := RX4) (by decide) rfl (Nat.le_of_ble_eq_true rfl) (fun p e s m below meth c0 C0 hR ls hl => ?_)
  have hS : va_S (lm_A B) s.heap s.heap [] := va_S.rf
  have hl : lv_has ls 2 [(0, .ref (B + 0)), (1, .int p1)] := hl
  obtain ⟨hx, hb, hml, hr, hlk, hown, hts, hK, hX⟩ := id C0
  refine lv_iload_n hx hb dX4_kind_0 rfl (lv_at hl 1 rfl) ?_
  refine lv_aload_n hx hb dX4_kind_1 rfl (lv_at hl 0 rfl) ?_
  refine lm_get C0 hR (by decide) cell_0 rfl lw_in_X4 2 (by decide) uw_89 rfl rfl dX4_kind_2 ?_
  refine lm_get C0 hR (isL_lt isL_4) (cell_L isL_4) rfl lw_in_X1 8 (by decide) uw_62 rfl rfl dX4_kind_5 ?_
  obtain ⟨r2, u1, hf⟩ := lm_bd_e hf
  refine lm_endi (lm_runS C0 hR hS (c_X4_isBelow u1) (lw_cS 2 hts uw_102 mv_X4_isBelow rfl rfl hd_X4_isBelow ⟨Nat.le_of_ble_eq_true rfl, Nat.le_of_ble_eq_true rfl⟩) rfl hl rfl (Nat.le_of_ble_eq_true rfl) dX4_kind_8) hS (fun H locs hR hS => ?_)
  refine lv_if_eq (tgt := 26) hx hb dX4_kind_11 (by decide) (fun b4 => ?_) (fun b4 => ?_)
  · have hf := lm_T b4 hf
    refine lv_ldc hx hb hown (hts _ uw_105) dX4_kind_26 ?_
    exact lm_riP C0 hR hS hf dX4_kind_28
  · have hf := lm_F b4 hf
    refine lv_aload_n hx hb dX4_kind_14 rfl (lv_at hl 0 rfl) ?_
    refine lm_get C0 hR (by decide) cell_0 rfl lw_in_X4 2 (by decide) uw_89 rfl rfl dX4_kind_15 ?_
    refine lm_get C0 hR (isL_lt isL_4) (cell_L isL_4) rfl lw_in_X1 1 (by decide) uw_43 rfl rfl dX4_kind_18 ?_
    refine lv_iload_n hx hb dX4_kind_21 rfl (lv_at hl 1 rfl) ?_
    obtain ⟨z5, hf⟩ := lm_ck_e hf
    refine lm_ild C0 hR (isL_lt2 isL_4) (cell_L2 isL_4) z5 dX4_kind_22 ?_
    refine lv_goto (tgt := 28) hx hb dX4_kind_23 (by decide) ?_
    exact lm_riP C0 hR hS hf dX4_kind_28
end
/-! ===== X4_isOfKind ===== -/
abbrev rmX4_isOfKind : Room := { frames := 1, cells := 0, slots := 0, locals := 21 }
def f_X4_isOfKind_4 (σ : Mem) : Nat → Int32 → Int32 → Int32 → Option (Int32)
  | 0, _, _, _ => none
  | n + 1, x1, x2, x3 => if (6 : Int32) ≤ x3 then (some (0 : Int32)) else (lm_bd (f_X4_isBelow x2 (6 : Int32)) fun r3 => if r3 = 0 then (some (0 : Int32)) else (if x2 = x1 then (some (1 : Int32)) else (lm_ck (lm_in x2 6) (lm_nm (lm_t1 x2.toNatClampNeg) fun v9 => lm_nm (x3 + (1 : Int32)) fun v10 => f_X4_isOfKind_4 σ n x1 v9 v10))))
def f_X4_isOfKind (σ : Mem) (p0 : Int32) (p1 : Int32) : Option (Int32) := f_X4_isOfKind_4 σ lm_fu p1 p0 (0 : Int32)
abbrev wsX4_isOfKind : List Cond := Cond.code yX4_isOfKind cX4_isOfKind 4 (some .boolean) :: lw_u
theorem mv_X4_isOfKind : Cond.static yX4_isOfKind ∈ lw_u ∧ Cond.initialized yX4_isOfKind.cls ∈ lw_u ∧ Cond.code yX4_isOfKind cX4_isOfKind 4 (some .boolean) ∈ lw_u := ⟨uw_465, uw_1, uw_466⟩
theorem hd_X4_isOfKind : yX4_isOfKind.cls ≠ "java/lang/invoke/MethodHandle" ∧ yX4_isOfKind.cls ≠ "java/lang/invoke/VarHandle" ∧ (parseMethodDescriptor yX4_isOfKind.desc).map (fun d => d.parameters.length) = some 2 := by decide +kernel
section
variable {l : Launch} {D : va_G} {cI cZ cL cR : ClassId} {B : Nat}
set_option maxRecDepth 100000 in
set_option maxHeartbeats 4000000 in
theorem w_X4_isOfKind_4 {p : Program} {e : Env} {s : State} {m : MethodId} {args : Array Value} {below : List Frame} {meth : Method} {c0 : Code} {τ σ : Mem} {r : Int32} (C0 : lm_Cx D cI cZ cL cR B p s m args meth c0 cX4_isOfKind 4 (some .boolean) RX4) : ∀ (n : Nat), ∀ (x1 : Int32) (x2 : Int32) (x3 : Int32) (H : Heap) (locs : List Loc) (ls : Array Slot), va_P D vwCl (wl cI cZ cL cR B σ τ) H → va_S (lm_A B) s.heap H locs → lv_has ls 4 [(1, .int x1), (2, .int x2), (3, .int x3)] → f_X4_isOfKind_4 σ n x1 x2 x3 = some r → W p l e rmX4_isOfKind s m args below meth c0 H locs 0 0 (MQ below (lm_QI D cI cZ cL cR B r σ τ) args s 0 0 (lm_A B)) (F0 m 4 ls []) := by
  obtain ⟨hx, hb, hml, hr, hlk, hown, hts, hK, hX⟩ := id C0
  intro n
  induction n with
  | zero =>
    intro x1 x2 x3 H locs ls hR hS hl hf
    cases hf
  | succ n ih =>
    intro x1 x2 x3 H locs ls hR hS hl hf
    rw [f_X4_isOfKind_4] at hf
    refine lv_iload_n hx hb dX4_isOfKind_4 rfl (lv_at hl 2 rfl) ?_
    refine lv_bipush (v := (6 : Int32)) hx hb dX4_isOfKind_5 (by decide) ?_
    refine lv_icmp_ge (tgt := 38) hx hb dX4_isOfKind_7 (by decide) (fun b1 => ?_) (fun b1 => ?_)
    · have hf := lm_T b1 hf
      refine lv_iconst (v := (0 : Int32)) hx hb dX4_isOfKind_38 (by decide) ?_
      exact lm_rzP C0 hR hS hf rfl dX4_isOfKind_39
    · have hf := lm_F b1 hf
      refine lv_iload_n hx hb dX4_isOfKind_10 rfl (lv_at hl 1 rfl) ?_
      refine lv_bipush (v := (6 : Int32)) hx hb dX4_isOfKind_11 (by decide) ?_
      obtain ⟨r3, u2, hf⟩ := lm_bd_e hf
      refine lm_endi (lm_runS C0 hR hS (c_X4_isBelow u2) (lw_cS 2 hts uw_102 mv_X4_isBelow rfl rfl hd_X4_isBelow ⟨Nat.le_of_ble_eq_true rfl, Nat.le_of_ble_eq_true rfl⟩) rfl hl rfl (Nat.le_of_ble_eq_true rfl) dX4_isOfKind_13) hS (fun H locs hR hS => ?_)
      refine lv_if_eq (tgt := 38) hx hb dX4_isOfKind_16 (by decide) (fun b5 => ?_) (fun b5 => ?_)
      · have hf := lm_T b5 hf
        refine lv_iconst (v := (0 : Int32)) hx hb dX4_isOfKind_38 (by decide) ?_
        exact lm_rzP C0 hR hS hf rfl dX4_isOfKind_39
      · have hf := lm_F b5 hf
        refine lv_iload_n hx hb dX4_isOfKind_19 rfl (lv_at hl 1 rfl) ?_
        refine lv_iload_n hx hb dX4_isOfKind_20 rfl (lv_at hl 0 rfl) ?_
        refine lv_icmp_ne (tgt := 26) hx hb dX4_isOfKind_21 (by decide) (fun b6 => ?_) (fun b6 => ?_)
        · have hf := lm_F b6 hf
          obtain ⟨t7, hZt7, hTt7⟩ := hX.1
          refine va_gets hx hb hZt7 hS hown (hts _ uw_467) (fun _ h => h) dX4_isOfKind_26 ?_
          refine lv_iload_n hx hb dX4_isOfKind_29 rfl (lv_at hl 1 rfl) ?_
          obtain ⟨z8, hf⟩ := lm_ck_e hf
          refine va_ti hx hb hTt7 hS (lm_inT z8) rfl dX4_isOfKind_30 ?_
          obtain ⟨v9, ev9, hf⟩ := lm_nm_e hf
          refine lm_topi ev9 ?_
          refine lv_istore_n (lv' := [(2, .int v9), (1, .int x1), (3, .int x3)]) hx hb dX4_isOfKind_31 rfl hl (by decide) rfl (fun ls hl => ?_)
          obtain ⟨v10, ev10, hf⟩ := lm_nm_e hf
          refine lv_iinc (v := v10) (lv' := [(3, .int v10), (2, .int v9), (1, .int x1)]) hx hb dX4_isOfKind_32 hl (k := 2) rfl (by rw [ev10]; rfl) (by decide) rfl (fun ls hl => ?_)
          refine lv_goto (tgt := 4) hx hb dX4_isOfKind_35 (by decide) ?_
          exact ih _ _ _ _ _ _ hR hS (lv_sub hl [2, 1, 0] rfl) hf
        · have hf := lm_T b6 hf
          refine lv_iconst (v := (1 : Int32)) hx hb dX4_isOfKind_24 (by decide) ?_
          exact lm_rzP C0 hR hS hf rfl dX4_isOfKind_25
set_option maxRecDepth 100000 in
set_option maxHeartbeats 4000000 in
theorem c_X4_isOfKind {σ τ : Mem} {p0 : Int32} {p1 : Int32} {r : Int32}  (hf : f_X4_isOfKind σ p0 p1 = some r) : lm_CI l yX4_isOfKind wsX4_isOfKind rmX4_isOfKind D cI cZ cL cR B [.int p0, .int p1] σ τ r σ τ := by
  unfold f_X4_isOfKind at hf
  refine lm_of (cc := cX4_isOfKind) (maxL := 4) (ret := (some .boolean)) (own := RX4) (by decide) rfl (Nat.le_of_ble_eq_true rfl) (fun p e s m below meth c0 C0 hR ls hl => ?_)
  have hS : va_S (lm_A B) s.heap s.heap [] := va_S.rf
  have hl : lv_has ls 4 [(0, .int p0), (1, .int p1)] := hl
  obtain ⟨hx, hb, hml, hr, hlk, hown, hts, hK, hX⟩ := id C0
  refine lv_iload_n hx hb dX4_isOfKind_0 rfl (lv_at hl 0 rfl) ?_
  refine lv_istore_n (lv' := [(2, .int p0), (0, .int p0), (1, .int p1)]) hx hb dX4_isOfKind_1 rfl hl (by decide) rfl (fun ls hl => ?_)
  refine lv_iconst (v := (0 : Int32)) hx hb dX4_isOfKind_2 (by decide) ?_
  refine lv_istore_n (lv' := [(3, .int (0 : Int32)), (2, .int p0), (0, .int p0), (1, .int p1)]) hx hb dX4_isOfKind_3 rfl hl (by decide) rfl (fun ls hl => ?_)
  exact w_X4_isOfKind_4 C0 _ _ _ _ _ _ _ hR hS (lv_sub hl [3, 1, 0] rfl) hf
end
/-! ===== X4_as ===== -/
abbrev rmX4_as : Room := { frames := 2, cells := 0, slots := 0, locals := 44 }
def f_X4_as (σ : Mem) (p1 : Int32) (p2 : Int32) : Option (Int32 × Mem) := lm_bd (f_X4_isBelow p1 (σ 4 8)) fun r2 => if r2 = 0 then (some ((-1000001 : Int32), σ)) else (lm_bd (f_X4_isBelow p2 (6 : Int32)) fun r6 => if r6 = 0 then (some ((-1000001 : Int32), σ)) else (lm_ck (lm_in p1 6) (lm_bd (f_X4_isOfKind σ (σ (4 + 2) p1.toNatClampNeg) p2) fun r11 => if r11 = 0 then (lm_bd2 (f_X4_found σ (3 : Int32)) fun r15 σ16 => some (r15, σ16)) else (lm_bd2 (f_X4_unfound σ p1) fun r18 σ19 => some (r18, σ19)))))
abbrev wsX4_as : List Cond := Cond.code yX4_as cX4_as 3 (some .int) :: lw_u
theorem mv_X4_as : Cond.instanceMethod yX4_as ∈ lw_u ∧ Cond.selects yX4_as.cls yX4_as yX4_as ∈ lw_u ∧ Cond.initialized yX4_as.cls ∈ lw_u ∧ Cond.code yX4_as cX4_as 3 (some .int) ∈ lw_u := ⟨uw_461, uw_462, uw_1, uw_463⟩
theorem hd_X4_as : yX4_as.cls ≠ "java/lang/invoke/MethodHandle" ∧ yX4_as.cls ≠ "java/lang/invoke/VarHandle" ∧ (parseMethodDescriptor yX4_as.desc).map (fun d => d.parameters.length) = some 2 := by decide +kernel
section
variable {l : Launch} {D : va_G} {cI cZ cL cR : ClassId} {B : Nat}
set_option maxRecDepth 100000 in
set_option maxHeartbeats 4000000 in
theorem c_X4_as {σ τ σ' : Mem} {p1 : Int32} {p2 : Int32} {r : Int32}  (hf : f_X4_as σ p1 p2 = some (r, σ')) : lm_CI l yX4_as wsX4_as rmX4_as D cI cZ cL cR B [.ref (B + 0), .int p1, .int p2] σ τ r σ' τ := by
  unfold f_X4_as at hf
  refine lm_of (cc := cX4_as) (maxL := 3) (ret := (some .int)) (own := RX4) (by decide) rfl (Nat.le_of_ble_eq_true rfl) (fun p e s m below meth c0 C0 hR ls hl => ?_)
  have hS : va_S (lm_A B) s.heap s.heap [] := va_S.rf
  have hl : lv_has ls 3 [(0, .ref (B + 0)), (1, .int p1), (2, .int p2)] := hl
  obtain ⟨hx, hb, hml, hr, hlk, hown, hts, hK, hX⟩ := id C0
  refine lv_iload_n hx hb dX4_as_0 rfl (lv_at hl 1 rfl) ?_
  refine lv_aload_n hx hb dX4_as_1 rfl (lv_at hl 0 rfl) ?_
  refine lm_get C0 hR (by decide) cell_0 rfl lw_in_X4 2 (by decide) uw_89 rfl rfl dX4_as_2 ?_
  refine lm_get C0 hR (isL_lt isL_4) (cell_L isL_4) rfl lw_in_X1 8 (by decide) uw_62 rfl rfl dX4_as_5 ?_
  obtain ⟨r2, u1, hf⟩ := lm_bd_e hf
  refine lm_endi (lm_runS C0 hR hS (c_X4_isBelow u1) (lw_cS 2 hts uw_102 mv_X4_isBelow rfl rfl hd_X4_isBelow ⟨Nat.le_of_ble_eq_true rfl, Nat.le_of_ble_eq_true rfl⟩) rfl hl rfl (Nat.le_of_ble_eq_true rfl) dX4_as_8) hS (fun H locs hR hS => ?_)
  refine lv_if_eq (tgt := 23) hx hb dX4_as_11 (by decide) (fun b4 => ?_) (fun b4 => ?_)
  · have hf := lm_T b4 hf
    refine lv_ldc hx hb hown (hts _ uw_105) dX4_as_23 ?_
    exact lm_riC C0 hR hS hf dX4_as_25
  · have hf := lm_F b4 hf
    refine lv_iload_n hx hb dX4_as_14 rfl (lv_at hl 2 rfl) ?_
    refine lv_bipush (v := (6 : Int32)) hx hb dX4_as_15 (by decide) ?_
    obtain ⟨r6, u5, hf⟩ := lm_bd_e hf
    refine lm_endi (lm_runS C0 hR hS (c_X4_isBelow u5) (lw_cS 2 hts uw_102 mv_X4_isBelow rfl rfl hd_X4_isBelow ⟨Nat.le_of_ble_eq_true rfl, Nat.le_of_ble_eq_true rfl⟩) rfl hl rfl (Nat.le_of_ble_eq_true rfl) dX4_as_17) hS (fun H locs hR hS => ?_)
    refine lv_if_ne (tgt := 26) hx hb dX4_as_20 (by decide) (fun b8 => ?_) (fun b8 => ?_)
    · have hf := lm_F b8 hf
      refine lv_aload_n hx hb dX4_as_26 rfl (lv_at hl 0 rfl) ?_
      refine lm_get C0 hR (by decide) cell_0 rfl lw_in_X4 2 (by decide) uw_89 rfl rfl dX4_as_27 ?_
      refine lm_get C0 hR (isL_lt isL_4) (cell_L isL_4) rfl lw_in_X1 1 (by decide) uw_43 rfl rfl dX4_as_30 ?_
      refine lv_iload_n hx hb dX4_as_33 rfl (lv_at hl 1 rfl) ?_
      obtain ⟨z9, hf⟩ := lm_ck_e hf
      refine lm_ild C0 hR (isL_lt2 isL_4) (cell_L2 isL_4) z9 dX4_as_34 ?_
      refine lv_iload_n hx hb dX4_as_35 rfl (lv_at hl 2 rfl) ?_
      obtain ⟨r11, u10, hf⟩ := lm_bd_e hf
      refine lm_endi (lm_runS C0 hR hS (c_X4_isOfKind u10) (lw_cS 2 hts uw_464 mv_X4_isOfKind rfl rfl hd_X4_isOfKind ⟨Nat.le_of_ble_eq_true rfl, Nat.le_of_ble_eq_true rfl⟩) rfl hl rfl (Nat.le_of_ble_eq_true rfl) dX4_as_36) hS (fun H locs hR hS => ?_)
      refine lv_if_eq (tgt := 50) hx hb dX4_as_39 (by decide) (fun b13 => ?_) (fun b13 => ?_)
      · have hf := lm_T b13 hf
        refine lv_aload_n hx hb dX4_as_50 rfl (lv_at hl 0 rfl) ?_
        refine lv_iconst (v := (3 : Int32)) hx hb dX4_as_51 (by decide) ?_
        obtain ⟨r15, σ16, u14, hf⟩ := lm_bd2_e hf
        refine lm_endi (lm_runV C0 hR hS (c_X4_found u14) (lw_cV 1 hts uw_106 mv_X4_found rfl rfl hd_X4_found ⟨Nat.le_of_ble_eq_true rfl, Nat.le_of_ble_eq_true rfl⟩) (by decide) cell_0 rfl rfl hl rfl (Nat.le_of_ble_eq_true rfl) dX4_as_52) hS (fun H locs hR hS => ?_)
        exact lm_riC C0 hR hS hf dX4_as_55
      · have hf := lm_F b13 hf
        refine lv_aload_n hx hb dX4_as_42 rfl (lv_at hl 0 rfl) ?_
        refine lv_iload_n hx hb dX4_as_43 rfl (lv_at hl 1 rfl) ?_
        obtain ⟨r18, σ19, u17, hf⟩ := lm_bd2_e hf
        refine lm_endi (lm_runV C0 hR hS (c_X4_unfound u17) (lw_cV 1 hts uw_114 mv_X4_unfound rfl rfl hd_X4_unfound ⟨Nat.le_of_ble_eq_true rfl, Nat.le_of_ble_eq_true rfl⟩) (by decide) cell_0 rfl rfl hl rfl (Nat.le_of_ble_eq_true rfl) dX4_as_44) hS (fun H locs hR hS => ?_)
        refine lv_goto (tgt := 55) hx hb dX4_as_47 (by decide) ?_
        exact lm_riC C0 hR hS hf dX4_as_55
    · have hf := lm_T b8 hf
      refine lv_ldc hx hb hown (hts _ uw_105) dX4_as_23 ?_
      exact lm_riC C0 hR hS hf dX4_as_25
end
/-! ===== X4_asked ===== -/
def rmX4_begun (d : Nat) : Room := { frames := 21 + 2 * d, cells := 0, slots := 0, locals := 500 + 120 * d }
abbrev wsX4_begun : List Cond := Cond.code yX4_begun cX4_begun 5 (some .int) :: lw_u
theorem mv_X4_begun : Cond.instanceMethod yX4_begun ∈ lw_u ∧ Cond.selects yX4_begun.cls yX4_begun yX4_begun ∈ lw_u ∧ Cond.initialized yX4_begun.cls ∈ lw_u ∧ Cond.code yX4_begun cX4_begun 5 (some .int) ∈ lw_u := ⟨uw_478, uw_868, uw_1, uw_479⟩
theorem hd_X4_begun : yX4_begun.cls ≠ "java/lang/invoke/MethodHandle" ∧ yX4_begun.cls ≠ "java/lang/invoke/VarHandle" ∧ (parseMethodDescriptor yX4_begun.desc).map (fun d => d.parameters.length) = some 3 := by decide +kernel
def rmX4_asked (d : Nat) : Room := { frames := 22 + 2 * d, cells := 0, slots := 0, locals := 560 + 120 * d }
def f_X4_asked (fb : Mem → Int32 → Int32 → Int32 → Option (Int32 × Mem)) (σ : Mem) (p1 : Int32) (p2 : Int32) (p3 : Int32) : Option (Int32 × Mem) := lm_ck (lm_in p2 6) (lm_nm (σ (4 + 2) p2.toNatClampNeg) fun v2 => lm_bd (f_X4_isBelow v2 (6 : Int32)) fun r4 => if r4 = 0 then (some ((0 : Int32), σ)) else (if p1 = 0 then (lm_ck (lm_in v2 6) (lm_bd2 (fb σ (lm_t2 v2.toNatClampNeg) p2 p3) fun r16 σ17 => some (r16, σ17))) else (lm_ck (lm_in v2 6) (lm_bd2 (fb σ (lm_t3 v2.toNatClampNeg) p2 p3) fun r11 σ12 => some (r11, σ12)))))
abbrev wsX4_asked : List Cond := Cond.code yX4_asked cX4_asked 5 (some .int) :: lw_u
theorem mv_X4_asked : Cond.instanceMethod yX4_asked ∈ lw_u ∧ Cond.selects yX4_asked.cls yX4_asked yX4_asked ∈ lw_u ∧ Cond.initialized yX4_asked.cls ∈ lw_u ∧ Cond.code yX4_asked cX4_asked 5 (some .int) ∈ lw_u := ⟨uw_473, uw_867, uw_1, uw_474⟩
theorem hd_X4_asked : yX4_asked.cls ≠ "java/lang/invoke/MethodHandle" ∧ yX4_asked.cls ≠ "java/lang/invoke/VarHandle" ∧ (parseMethodDescriptor yX4_asked.desc).map (fun d => d.parameters.length) = some 3 := by decide +kernel
section
variable {l : Launch} {D : va_G} {cI cZ cL cR : ClassId} {B : Nat}
set_option maxRecDepth 100000 in
set_option maxHeartbeats 4000000 in
theorem c_X4_asked {d : Nat} {fb : Mem → Int32 → Int32 → Int32 → Option (Int32 × Mem)} (hB : ∀ {σ σ' τ : Mem} {p1 p2 p3 r : Int32}, fb σ p1 p2 p3 = some (r, σ') → lm_CI l yX4_begun wsX4_begun (rmX4_begun d) D cI cZ cL cR B [.ref (B + 0), .int p1, .int p2, .int p3] σ τ r σ' τ) {σ τ σ' : Mem} {p1 : Int32} {p2 : Int32} {p3 : Int32} {r : Int32}  (hf : f_X4_asked fb σ p1 p2 p3 = some (r, σ')) : lm_CI l yX4_asked wsX4_asked (rmX4_asked d) D cI cZ cL cR B [.ref (B + 0), .int p1, .int p2, .int p3] σ τ r σ' τ := by
  unfold f_X4_asked at hf
  refine lm_of (cc := cX4_asked) (maxL := 5) (ret := (some .int)) (own := RX4) (by decide) rfl (Nat.le_of_ble_eq_true rfl) (fun p e s m below meth c0 C0 hR ls hl => ?_)
  have hS : va_S (lm_A B) s.heap s.heap [] := va_S.rf
  have hl : lv_has ls 5 [(0, .ref (B + 0)), (1, .int p1), (2, .int p2), (3, .int p3)] := hl
  obtain ⟨hx, hb, hml, hr, hlk, hown, hts, hK, hX⟩ := id C0
  refine lv_aload_n hx hb dX4_asked_0 rfl (lv_at hl 0 rfl) ?_
  refine lm_get C0 hR (by decide) cell_0 rfl lw_in_X4 2 (by decide) uw_89 rfl rfl dX4_asked_1 ?_
  refine lm_get C0 hR (isL_lt isL_4) (cell_L isL_4) rfl lw_in_X1 1 (by decide) uw_43 rfl rfl dX4_asked_4 ?_
  refine lv_iload_n hx hb dX4_asked_7 rfl (lv_at hl 2 rfl) ?_
  obtain ⟨z1, hf⟩ := lm_ck_e hf
  refine lm_ild C0 hR (isL_lt2 isL_4) (cell_L2 isL_4) z1 dX4_asked_8 ?_
  obtain ⟨v2, ev2, hf⟩ := lm_nm_e hf
  refine lm_topi ev2 ?_
  refine lv_istore (lv' := [(4, .int v2), (0, .ref (B + 0)), (1, .int p1), (2, .int p2), (3, .int p3)]) hx hb dX4_asked_9 hl (by decide) rfl (fun ls hl => ?_)
  refine lv_iload hx hb dX4_asked_11 (lv_at hl 0 rfl) ?_
  refine lv_bipush (v := (6 : Int32)) hx hb dX4_asked_13 (by decide) ?_
  obtain ⟨r4, u3, hf⟩ := lm_bd_e hf
  refine lm_endi (lm_runS C0 hR hS (c_X4_isBelow u3) (lw_cS 2 hts uw_102 mv_X4_isBelow rfl rfl hd_X4_isBelow ⟨(by simp only [rmX4_asked, rmX4_isBelow]; omega), (by simp only [rmX4_asked, rmX4_isBelow]; omega)⟩) rfl hl rfl (Nat.le_of_ble_eq_true rfl) dX4_asked_15) hS (fun H locs hR hS => ?_)
  refine lv_if_ne (tgt := 23) hx hb dX4_asked_18 (by decide) (fun b6 => ?_) (fun b6 => ?_)
  · have hf := lm_F b6 hf
    refine lv_aload_n hx hb dX4_asked_23 rfl (lv_at hl 1 rfl) ?_
    refine lv_iload_n hx hb dX4_asked_24 rfl (lv_at hl 2 rfl) ?_
    refine lv_if_ne (tgt := 37) hx hb dX4_asked_25 (by decide) (fun b7 => ?_) (fun b7 => ?_)
    · have hf := lm_F b7 hf
      obtain ⟨t8, hZt8, hTt8⟩ := hX.2.2.1
      refine va_gets hx hb hZt8 hS hown (hts _ uw_476) (fun _ h => h) dX4_asked_37 ?_
      refine lv_iload hx hb dX4_asked_40 (lv_at hl 0 rfl) ?_
      obtain ⟨z9, hf⟩ := lm_ck_e hf
      refine va_ti hx hb hTt8 hS (lm_inT z9) rfl dX4_asked_42 ?_
      refine lv_iload_n hx hb dX4_asked_43 rfl (lv_at hl 3 rfl) ?_
      refine lv_iload_n hx hb dX4_asked_44 rfl (lv_at hl 4 rfl) ?_
      obtain ⟨r11, σ12, u10, hf⟩ := lm_bd2_e hf
      refine lm_endi (lm_runV C0 hR hS (hB u10) (lw_cV 3 hts uw_477 mv_X4_begun rfl rfl hd_X4_begun ⟨(by simp only [rmX4_asked, rmX4_begun]; omega), (by simp only [rmX4_asked, rmX4_begun]; omega)⟩) (by decide) cell_0 rfl rfl hl rfl (Nat.le_of_ble_eq_true rfl) dX4_asked_45) hS (fun H locs hR hS => ?_)
      exact lm_riC C0 hR hS hf dX4_asked_48
    · have hf := lm_T b7 hf
      obtain ⟨t13, hZt13, hTt13⟩ := hX.2.1
      refine va_gets hx hb hZt13 hS hown (hts _ uw_475) (fun _ h => h) dX4_asked_28 ?_
      refine lv_iload hx hb dX4_asked_31 (lv_at hl 0 rfl) ?_
      obtain ⟨z14, hf⟩ := lm_ck_e hf
      refine va_ti hx hb hTt13 hS (lm_inT z14) rfl dX4_asked_33 ?_
      refine lv_goto (tgt := 43) hx hb dX4_asked_34 (by decide) ?_
      refine lv_iload_n hx hb dX4_asked_43 rfl (lv_at hl 3 rfl) ?_
      refine lv_iload_n hx hb dX4_asked_44 rfl (lv_at hl 4 rfl) ?_
      obtain ⟨r16, σ17, u15, hf⟩ := lm_bd2_e hf
      refine lm_endi (lm_runV C0 hR hS (hB u15) (lw_cV 3 hts uw_477 mv_X4_begun rfl rfl hd_X4_begun ⟨(by simp only [rmX4_asked, rmX4_begun]; omega), (by simp only [rmX4_asked, rmX4_begun]; omega)⟩) (by decide) cell_0 rfl rfl hl rfl (Nat.le_of_ble_eq_true rfl) dX4_asked_45) hS (fun H locs hR hS => ?_)
      exact lm_riC C0 hR hS hf dX4_asked_48
  · have hf := lm_T b6 hf
    refine lv_iconst (v := (0 : Int32)) hx hb dX4_asked_21 (by decide) ?_
    exact lm_riC C0 hR hS hf dX4_asked_22
end
/-! ===== X4_leave ===== -/
abbrev rmX4_leave : Room := { frames := 0, cells := 0, slots := 0, locals := 0 }
def f_X4_leave (σ : Mem) (p1 : Int32) : Option (Mem) := if (16 : Int32) ≤ (σ 0 8) then (some σ) else (lm_ck (lm_in (σ 0 8) 16) (lm_nm (up σ 115 (σ 0 8).toNatClampNeg p1) fun σ3 => lm_nm (up σ3 0 8 ((σ3 0 8) + (1 : Int32))) fun σ4 => some σ4))
abbrev wsX4_leave : List Cond := Cond.code yX4_leave cX4_leave 2 none :: lw_u
theorem mv_X4_leave : Cond.instanceMethod yX4_leave ∈ lw_u ∧ Cond.selects yX4_leave.cls yX4_leave yX4_leave ∈ lw_u ∧ Cond.initialized yX4_leave.cls ∈ lw_u ∧ Cond.code yX4_leave cX4_leave 2 none ∈ lw_u := ⟨uw_481, uw_869, uw_1, uw_482⟩
theorem hd_X4_leave : yX4_leave.cls ≠ "java/lang/invoke/MethodHandle" ∧ yX4_leave.cls ≠ "java/lang/invoke/VarHandle" ∧ (parseMethodDescriptor yX4_leave.desc).map (fun d => d.parameters.length) = some 1 := by decide +kernel
section
variable {l : Launch} {D : va_G} {cI cZ cL cR : ClassId} {B : Nat}
set_option maxRecDepth 100000 in
set_option maxHeartbeats 4000000 in
theorem c_X4_leave {σ τ σ' : Mem} {p1 : Int32}  (hf : f_X4_leave σ p1 = some σ') : lm_CV l yX4_leave wsX4_leave rmX4_leave D cI cZ cL cR B [.ref (B + 0), .int p1] σ τ σ' τ := by
  unfold f_X4_leave at hf
  refine lm_of (cc := cX4_leave) (maxL := 2) (ret := none) (own := RX4) (by decide) rfl (Nat.le_of_ble_eq_true rfl) (fun p e s m below meth c0 C0 hR ls hl => ?_)
  have hS : va_S (lm_A B) s.heap s.heap [] := va_S.rf
  have hl : lv_has ls 2 [(0, .ref (B + 0)), (1, .int p1)] := hl
  obtain ⟨hx, hb, hml, hr, hlk, hown, hts, hK, hX⟩ := id C0
  refine lv_aload_n hx hb dX4_leave_0 rfl (lv_at hl 0 rfl) ?_
  refine lm_get C0 hR (by decide) cell_0 rfl lw_in_X4 8 (by decide) uw_95 rfl rfl dX4_leave_1 ?_
  refine lv_bipush (v := (16 : Int32)) hx hb dX4_leave_4 (by decide) ?_
  refine lv_icmp_ge (tgt := 29) hx hb dX4_leave_6 (by decide) (fun b1 => ?_) (fun b1 => ?_)
  · have hf := lm_T b1 hf
    exact lm_rvC C0 hR hS hf dX4_leave_29
  · have hf := lm_F b1 hf
    refine lv_aload_n hx hb dX4_leave_9 rfl (lv_at hl 0 rfl) ?_
    refine lm_get C0 hR (by decide) cell_0 rfl lw_in_X4 7 (by decide) uw_94 rfl rfl dX4_leave_10 ?_
    refine lv_aload_n hx hb dX4_leave_13 rfl (lv_at hl 0 rfl) ?_
    refine lm_get C0 hR (by decide) cell_0 rfl lw_in_X4 8 (by decide) uw_95 rfl rfl dX4_leave_14 ?_
    refine lv_iload_n hx hb dX4_leave_17 rfl (lv_at hl 1 rfl) ?_
    obtain ⟨z2, hf⟩ := lm_ck_e hf
    obtain ⟨σ3, eσ3, hf⟩ := lm_nm_e hf
    refine lm_istC C0 hR hS (by decide) cell_115 z2  eσ3 cell_115u dX4_leave_18 (fun H locs hR hS => ?_)
    refine lv_aload_n hx hb dX4_leave_19 rfl (lv_at hl 0 rfl) ?_
    refine lv_dup hx hb dX4_leave_20 rfl ?_
    refine lm_get C0 hR (by decide) cell_0 rfl lw_in_X4 8 (by decide) uw_95 rfl rfl dX4_leave_21 ?_
    refine lv_iconst (v := (1 : Int32)) hx hb dX4_leave_24 (by decide) ?_
    refine lv_iadd hx hb dX4_leave_25 ?_
    obtain ⟨σ4, eσ4, hf⟩ := lm_nm_e hf
    refine lm_putC C0 hR hS (by decide) cell_0 rfl lw_in_X4 tyX4 tyX4_ok nmX4 8 (by decide) uw_95 rfl rfl rfl rfl rfl (Nat.le_of_ble_eq_true rfl) eσ4 cell_0u dX4_leave_26 (fun H locs hR hS => ?_)
    exact lm_rvC C0 hR hS hf dX4_leave_29
end
/-! ===== X4_begun ===== -/
def f_X4_begun_of (fb : Mem → Int32 → Int32 → Int32 → Option (Int32 × Mem)) (σ : Mem) (p1 : Int32) (p2 : Int32) (p3 : Int32) : Option (Int32 × Mem) := if p3 ≤ (12 : Int32) then (lm_bd (f_X4_leave σ p1) fun σ4 => lm_nm (p3 + (1 : Int32)) fun v5 => if p1 = (10 : Int32) then (lm_ck (lm_in p2 6) (some ((σ4 (4 + 3) p2.toNatClampNeg), σ4))) else (if p1 = (11 : Int32) then (lm_bd2 (fb σ4 (10 : Int32) p2 v5) fun r10 σ11 => lm_bd2 (f_X4_asked fb σ11 (1 : Int32) p2 v5) fun r13 σ14 => some ((r10 + r13), σ14)) else (if p1 = (12 : Int32) then (lm_bd2 (fb σ4 (11 : Int32) p2 v5) fun r17 σ18 => some (((0 : Int32) - r17), σ18)) else (if p1 = (13 : Int32) then (lm_bd2 (fb σ4 (10 : Int32) p2 v5) fun r21 σ22 => some ((r21 - (100 : Int32)), σ22)) else (if p1 = (14 : Int32) then (lm_bd2 (fb σ4 (13 : Int32) p2 v5) fun r25 σ26 => some ((r25 * (2 : Int32)), σ26)) else (if p1 = (15 : Int32) then (some ((0 : Int32), σ4)) else (if p1 = (16 : Int32) then (some ((0 : Int32), σ4)) else (if p1 = (17 : Int32) then (some ((0 : Int32), σ4)) else (if p1 = (18 : Int32) then (some ((0 : Int32), σ4)) else (if p1 = (19 : Int32) then (some ((0 : Int32), σ4)) else (if p1 = (20 : Int32) then (some (p2, σ4)) else (if p1 = (21 : Int32) then (lm_bd2 (fb σ4 (20 : Int32) p2 v5) fun r35 σ36 => lm_bd (f_X1_loggedOf 4 σ36 p2) fun r38 => some ((r35 + r38), σ36)) else (if p1 = (22 : Int32) then (lm_bd2 (fb σ4 (21 : Int32) p2 v5) fun r42 σ43 => some ((r42 - (1000 : Int32)), σ43)) else (if p1 = (23 : Int32) then (lm_bd2 (fb σ4 (20 : Int32) p2 v5) fun r46 σ47 => lm_bd2 (f_X4_asked fb σ47 (0 : Int32) p2 v5) fun r49 σ50 => some ((r46 - r49), σ50)) else (if p1 = (24 : Int32) then (lm_bd2 (fb σ4 (21 : Int32) p2 v5) fun r53 σ54 => some ((r53 * (2 : Int32)), σ54)) else (some ((0 : Int32), σ4))))))))))))))))) else (some ((0 : Int32), σ))
def f_X4_begun : Nat → Mem → Int32 → Int32 → Int32 → Option (Int32 × Mem)
  | 0, _, _, _, _ => none
  | d + 1, m, a, b, c => f_X4_begun_of (f_X4_begun d) m a b c
section
variable {l : Launch} {D : va_G} {cI cZ cL cR : ClassId} {B : Nat}
set_option maxRecDepth 100000 in
set_option maxHeartbeats 4000000 in
theorem c_X4_begun_of {d : Nat} {fb : Mem → Int32 → Int32 → Int32 → Option (Int32 × Mem)} (hB : ∀ {σ σ' τ : Mem} {p1 p2 p3 r : Int32}, fb σ p1 p2 p3 = some (r, σ') → lm_CI l yX4_begun wsX4_begun (rmX4_begun d) D cI cZ cL cR B [.ref (B + 0), .int p1, .int p2, .int p3] σ τ r σ' τ) {σ τ σ' : Mem} {p1 : Int32} {p2 : Int32} {p3 : Int32} {r : Int32}  (hf : f_X4_begun_of fb σ p1 p2 p3 = some (r, σ')) : lm_CI l yX4_begun wsX4_begun (rmX4_begun (d + 1)) D cI cZ cL cR B [.ref (B + 0), .int p1, .int p2, .int p3] σ τ r σ' τ := by
  unfold f_X4_begun_of at hf
  refine lm_of (cc := cX4_begun) (maxL := 5) (ret := (some .int)) (own := RX4) (by decide) rfl (Nat.le_of_ble_eq_true rfl) (fun p e s m below meth c0 C0 hR ls hl => ?_)
  have hS : va_S (lm_A B) s.heap s.heap [] := va_S.rf
  have hl : lv_has ls 5 [(0, .ref (B + 0)), (1, .int p1), (2, .int p2), (3, .int p3)] := hl
  obtain ⟨hx, hb, hml, hr, hlk, hown, hts, hK, hX⟩ := id C0
  refine lv_iload_n hx hb dX4_begun_0 rfl (lv_at hl 3 rfl) ?_
  refine lv_bipush (v := (12 : Int32)) hx hb dX4_begun_1 (by decide) ?_
  refine lv_icmp_le (tgt := 8) hx hb dX4_begun_3 (by decide) (fun b1 => ?_) (fun b1 => ?_)
  · have hf := lm_T b1 hf
    refine lv_aload_n hx hb dX4_begun_8 rfl (lv_at hl 0 rfl) ?_
    refine lv_iload_n hx hb dX4_begun_9 rfl (lv_at hl 1 rfl) ?_
    obtain ⟨σ4, u2, hf⟩ := lm_bd_e hf
    refine lm_endv (lm_runV C0 hR hS (c_X4_leave u2) (lw_cV 1 hts uw_480 mv_X4_leave rfl rfl hd_X4_leave ⟨(by simp only [rmX4_begun, rmX4_leave]; omega), (by simp only [rmX4_begun, rmX4_leave]; omega)⟩) (by decide) cell_0 rfl rfl hl rfl (Nat.le_of_ble_eq_true rfl) dX4_begun_10) hS (fun H locs hR hS => ?_)
    refine lv_iload_n hx hb dX4_begun_13 rfl (lv_at hl 3 rfl) ?_
    refine lv_iconst (v := (1 : Int32)) hx hb dX4_begun_14 (by decide) ?_
    refine lv_iadd hx hb dX4_begun_15 ?_
    obtain ⟨v5, ev5, hf⟩ := lm_nm_e hf
    refine lm_topi ev5 ?_
    refine lv_istore (lv' := [(4, .int v5), (0, .ref (B + 0)), (1, .int p1), (2, .int p2), (3, .int p3)]) hx hb dX4_begun_16 hl (by decide) rfl (fun ls hl => ?_)
    refine lv_iload_n hx hb dX4_begun_18 rfl (lv_at hl 2 rfl) ?_
    by_cases b6 : p1 = (10 : Int32)
    · have hf := lm_T b6 hf
      refine lv_tableIn (off := 73) (tgt := 92) hx hb dX4_begun_19 (by rw [b6]; decide) (by rw [b6]; decide) (by rw [b6]; decide) (by decide) ?_
      refine lv_aload_n hx hb dX4_begun_92 rfl (lv_at hl 1 rfl) ?_
      refine lm_get C0 hR (by decide) cell_0 rfl lw_in_X4 2 (by decide) uw_89 rfl rfl dX4_begun_93 ?_
      refine lm_get C0 hR (isL_lt isL_4) (cell_L isL_4) rfl lw_in_X1 2 (by decide) uw_46 rfl rfl dX4_begun_96 ?_
      refine lv_iload_n hx hb dX4_begun_99 rfl (lv_at hl 3 rfl) ?_
      obtain ⟨z7, hf⟩ := lm_ck_e hf
      refine lm_ild C0 hR (isL_lt3 isL_4) (cell_L3 isL_4) z7 dX4_begun_100 ?_
      exact lm_riC C0 hR hS hf dX4_begun_101
    have hf := lm_F b6 hf
    by_cases b8 : p1 = (11 : Int32)
    · have hf := lm_T b8 hf
      refine lv_tableIn (off := 83) (tgt := 102) hx hb dX4_begun_19 (by rw [b8]; decide) (by rw [b8]; decide) (by rw [b8]; decide) (by decide) ?_
      refine lv_aload_n hx hb dX4_begun_102 rfl (lv_at hl 1 rfl) ?_
      refine lv_bipush (v := (10 : Int32)) hx hb dX4_begun_103 (by decide) ?_
      refine lv_iload_n hx hb dX4_begun_105 rfl (lv_at hl 3 rfl) ?_
      refine lv_iload hx hb dX4_begun_106 (lv_at hl 0 rfl) ?_
      obtain ⟨r10, σ11, u9, hf⟩ := lm_bd2_e hf
      refine lm_endi (lm_runV C0 hR hS (hB u9) (lw_cV 3 hts uw_477 mv_X4_begun rfl rfl hd_X4_begun ⟨(by simp only [rmX4_begun, rmX4_begun]; omega), (by simp only [rmX4_begun, rmX4_begun]; omega)⟩) (by decide) cell_0 rfl rfl hl rfl (Nat.le_of_ble_eq_true rfl) dX4_begun_108) hS (fun H locs hR hS => ?_)
      refine lv_aload_n hx hb dX4_begun_111 rfl (lv_at hl 1 rfl) ?_
      refine lv_iconst (v := (1 : Int32)) hx hb dX4_begun_112 (by decide) ?_
      refine lv_iload_n hx hb dX4_begun_113 rfl (lv_at hl 3 rfl) ?_
      refine lv_iload hx hb dX4_begun_114 (lv_at hl 0 rfl) ?_
      obtain ⟨r13, σ14, u12, hf⟩ := lm_bd2_e hf
      refine lm_endi (lm_runV C0 hR hS (c_X4_asked hB u12) (lw_cV 3 hts uw_472 mv_X4_asked rfl rfl hd_X4_asked ⟨(by simp only [rmX4_begun, rmX4_asked]; omega), (by simp only [rmX4_begun, rmX4_asked]; omega)⟩) (by decide) cell_0 rfl rfl hl rfl (Nat.le_of_ble_eq_true rfl) dX4_begun_116) hS (fun H locs hR hS => ?_)
      refine lv_iadd hx hb dX4_begun_119 ?_
      exact lm_riC C0 hR hS hf dX4_begun_120
    have hf := lm_F b8 hf
    by_cases b15 : p1 = (12 : Int32)
    · have hf := lm_T b15 hf
      refine lv_tableIn (off := 102) (tgt := 121) hx hb dX4_begun_19 (by rw [b15]; decide) (by rw [b15]; decide) (by rw [b15]; decide) (by decide) ?_
      refine lv_iconst (v := (0 : Int32)) hx hb dX4_begun_121 (by decide) ?_
      refine lv_aload_n hx hb dX4_begun_122 rfl (lv_at hl 1 rfl) ?_
      refine lv_bipush (v := (11 : Int32)) hx hb dX4_begun_123 (by decide) ?_
      refine lv_iload_n hx hb dX4_begun_125 rfl (lv_at hl 3 rfl) ?_
      refine lv_iload hx hb dX4_begun_126 (lv_at hl 0 rfl) ?_
      obtain ⟨r17, σ18, u16, hf⟩ := lm_bd2_e hf
      refine lm_endi (lm_runV C0 hR hS (hB u16) (lw_cV 3 hts uw_477 mv_X4_begun rfl rfl hd_X4_begun ⟨(by simp only [rmX4_begun, rmX4_begun]; omega), (by simp only [rmX4_begun, rmX4_begun]; omega)⟩) (by decide) cell_0 rfl rfl hl rfl (Nat.le_of_ble_eq_true rfl) dX4_begun_128) hS (fun H locs hR hS => ?_)
      refine lv_isub hx hb dX4_begun_131 ?_
      exact lm_riC C0 hR hS hf dX4_begun_132
    have hf := lm_F b15 hf
    by_cases b19 : p1 = (13 : Int32)
    · have hf := lm_T b19 hf
      refine lv_tableIn (off := 114) (tgt := 133) hx hb dX4_begun_19 (by rw [b19]; decide) (by rw [b19]; decide) (by rw [b19]; decide) (by decide) ?_
      refine lv_aload_n hx hb dX4_begun_133 rfl (lv_at hl 1 rfl) ?_
      refine lv_bipush (v := (10 : Int32)) hx hb dX4_begun_134 (by decide) ?_
      refine lv_iload_n hx hb dX4_begun_136 rfl (lv_at hl 3 rfl) ?_
      refine lv_iload hx hb dX4_begun_137 (lv_at hl 0 rfl) ?_
      obtain ⟨r21, σ22, u20, hf⟩ := lm_bd2_e hf
      refine lm_endi (lm_runV C0 hR hS (hB u20) (lw_cV 3 hts uw_477 mv_X4_begun rfl rfl hd_X4_begun ⟨(by simp only [rmX4_begun, rmX4_begun]; omega), (by simp only [rmX4_begun, rmX4_begun]; omega)⟩) (by decide) cell_0 rfl rfl hl rfl (Nat.le_of_ble_eq_true rfl) dX4_begun_139) hS (fun H locs hR hS => ?_)
      refine lv_bipush (v := (100 : Int32)) hx hb dX4_begun_142 (by decide) ?_
      refine lv_isub hx hb dX4_begun_144 ?_
      exact lm_riC C0 hR hS hf dX4_begun_145
    have hf := lm_F b19 hf
    by_cases b23 : p1 = (14 : Int32)
    · have hf := lm_T b23 hf
      refine lv_tableIn (off := 127) (tgt := 146) hx hb dX4_begun_19 (by rw [b23]; decide) (by rw [b23]; decide) (by rw [b23]; decide) (by decide) ?_
      refine lv_aload_n hx hb dX4_begun_146 rfl (lv_at hl 1 rfl) ?_
      refine lv_bipush (v := (13 : Int32)) hx hb dX4_begun_147 (by decide) ?_
      refine lv_iload_n hx hb dX4_begun_149 rfl (lv_at hl 3 rfl) ?_
      refine lv_iload hx hb dX4_begun_150 (lv_at hl 0 rfl) ?_
      obtain ⟨r25, σ26, u24, hf⟩ := lm_bd2_e hf
      refine lm_endi (lm_runV C0 hR hS (hB u24) (lw_cV 3 hts uw_477 mv_X4_begun rfl rfl hd_X4_begun ⟨(by simp only [rmX4_begun, rmX4_begun]; omega), (by simp only [rmX4_begun, rmX4_begun]; omega)⟩) (by decide) cell_0 rfl rfl hl rfl (Nat.le_of_ble_eq_true rfl) dX4_begun_152) hS (fun H locs hR hS => ?_)
      refine lv_iconst (v := (2 : Int32)) hx hb dX4_begun_155 (by decide) ?_
      refine lv_imul hx hb dX4_begun_156 ?_
      exact lm_riC C0 hR hS hf dX4_begun_157
    have hf := lm_F b23 hf
    by_cases b27 : p1 = (15 : Int32)
    · have hf := lm_T b27 hf
      refine lv_tableIn (off := 205) (tgt := 224) hx hb dX4_begun_19 (by rw [b27]; decide) (by rw [b27]; decide) (by rw [b27]; decide) (by decide) ?_
      refine lv_iconst (v := (0 : Int32)) hx hb dX4_begun_224 (by decide) ?_
      exact lm_riC C0 hR hS hf dX4_begun_225
    have hf := lm_F b27 hf
    by_cases b28 : p1 = (16 : Int32)
    · have hf := lm_T b28 hf
      refine lv_tableIn (off := 205) (tgt := 224) hx hb dX4_begun_19 (by rw [b28]; decide) (by rw [b28]; decide) (by rw [b28]; decide) (by decide) ?_
      refine lv_iconst (v := (0 : Int32)) hx hb dX4_begun_224 (by decide) ?_
      exact lm_riC C0 hR hS hf dX4_begun_225
    have hf := lm_F b28 hf
    by_cases b29 : p1 = (17 : Int32)
    · have hf := lm_T b29 hf
      refine lv_tableIn (off := 205) (tgt := 224) hx hb dX4_begun_19 (by rw [b29]; decide) (by rw [b29]; decide) (by rw [b29]; decide) (by decide) ?_
      refine lv_iconst (v := (0 : Int32)) hx hb dX4_begun_224 (by decide) ?_
      exact lm_riC C0 hR hS hf dX4_begun_225
    have hf := lm_F b29 hf
    by_cases b30 : p1 = (18 : Int32)
    · have hf := lm_T b30 hf
      refine lv_tableIn (off := 205) (tgt := 224) hx hb dX4_begun_19 (by rw [b30]; decide) (by rw [b30]; decide) (by rw [b30]; decide) (by decide) ?_
      refine lv_iconst (v := (0 : Int32)) hx hb dX4_begun_224 (by decide) ?_
      exact lm_riC C0 hR hS hf dX4_begun_225
    have hf := lm_F b30 hf
    by_cases b31 : p1 = (19 : Int32)
    · have hf := lm_T b31 hf
      refine lv_tableIn (off := 205) (tgt := 224) hx hb dX4_begun_19 (by rw [b31]; decide) (by rw [b31]; decide) (by rw [b31]; decide) (by decide) ?_
      refine lv_iconst (v := (0 : Int32)) hx hb dX4_begun_224 (by decide) ?_
      exact lm_riC C0 hR hS hf dX4_begun_225
    have hf := lm_F b31 hf
    by_cases b32 : p1 = (20 : Int32)
    · have hf := lm_T b32 hf
      refine lv_tableIn (off := 139) (tgt := 158) hx hb dX4_begun_19 (by rw [b32]; decide) (by rw [b32]; decide) (by rw [b32]; decide) (by decide) ?_
      refine lv_iload_n hx hb dX4_begun_158 rfl (lv_at hl 3 rfl) ?_
      exact lm_riC C0 hR hS hf dX4_begun_159
    have hf := lm_F b32 hf
    by_cases b33 : p1 = (21 : Int32)
    · have hf := lm_T b33 hf
      refine lv_tableIn (off := 141) (tgt := 160) hx hb dX4_begun_19 (by rw [b33]; decide) (by rw [b33]; decide) (by rw [b33]; decide) (by decide) ?_
      refine lv_aload_n hx hb dX4_begun_160 rfl (lv_at hl 1 rfl) ?_
      refine lv_bipush (v := (20 : Int32)) hx hb dX4_begun_161 (by decide) ?_
      refine lv_iload_n hx hb dX4_begun_163 rfl (lv_at hl 3 rfl) ?_
      refine lv_iload hx hb dX4_begun_164 (lv_at hl 0 rfl) ?_
      obtain ⟨r35, σ36, u34, hf⟩ := lm_bd2_e hf
      refine lm_endi (lm_runV C0 hR hS (hB u34) (lw_cV 3 hts uw_477 mv_X4_begun rfl rfl hd_X4_begun ⟨(by simp only [rmX4_begun, rmX4_begun]; omega), (by simp only [rmX4_begun, rmX4_begun]; omega)⟩) (by decide) cell_0 rfl rfl hl rfl (Nat.le_of_ble_eq_true rfl) dX4_begun_166) hS (fun H locs hR hS => ?_)
      refine lv_aload_n hx hb dX4_begun_169 rfl (lv_at hl 1 rfl) ?_
      refine lm_get C0 hR (by decide) cell_0 rfl lw_in_X4 2 (by decide) uw_89 rfl rfl dX4_begun_170 ?_
      refine lv_iload_n hx hb dX4_begun_173 rfl (lv_at hl 3 rfl) ?_
      obtain ⟨r38, u37, hf⟩ := lm_bd_e hf
      refine lm_endi (lm_runV C0 hR hS (c_X1_loggedOf isL_4 u37) (lw_cV 1 hts uw_296 mv_X1_loggedOf rfl rfl hd_X1_loggedOf ⟨(by simp only [rmX4_begun, rmX1_loggedOf]; omega), (by simp only [rmX4_begun, rmX1_loggedOf]; omega)⟩) (isL_lt isL_4) (cell_L isL_4) rfl rfl hl rfl (Nat.le_of_ble_eq_true rfl) dX4_begun_174) hS (fun H locs hR hS => ?_)
      refine lv_iadd hx hb dX4_begun_177 ?_
      exact lm_riC C0 hR hS hf dX4_begun_178
    have hf := lm_F b33 hf
    by_cases b40 : p1 = (22 : Int32)
    · have hf := lm_T b40 hf
      refine lv_tableIn (off := 160) (tgt := 179) hx hb dX4_begun_19 (by rw [b40]; decide) (by rw [b40]; decide) (by rw [b40]; decide) (by decide) ?_
      refine lv_aload_n hx hb dX4_begun_179 rfl (lv_at hl 1 rfl) ?_
      refine lv_bipush (v := (21 : Int32)) hx hb dX4_begun_180 (by decide) ?_
      refine lv_iload_n hx hb dX4_begun_182 rfl (lv_at hl 3 rfl) ?_
      refine lv_iload hx hb dX4_begun_183 (lv_at hl 0 rfl) ?_
      obtain ⟨r42, σ43, u41, hf⟩ := lm_bd2_e hf
      refine lm_endi (lm_runV C0 hR hS (hB u41) (lw_cV 3 hts uw_477 mv_X4_begun rfl rfl hd_X4_begun ⟨(by simp only [rmX4_begun, rmX4_begun]; omega), (by simp only [rmX4_begun, rmX4_begun]; omega)⟩) (by decide) cell_0 rfl rfl hl rfl (Nat.le_of_ble_eq_true rfl) dX4_begun_185) hS (fun H locs hR hS => ?_)
      refine lv_sipush (v := (1000 : Int32)) hx hb dX4_begun_188 (by decide) ?_
      refine lv_isub hx hb dX4_begun_191 ?_
      exact lm_riC C0 hR hS hf dX4_begun_192
    have hf := lm_F b40 hf
    by_cases b44 : p1 = (23 : Int32)
    · have hf := lm_T b44 hf
      refine lv_tableIn (off := 174) (tgt := 193) hx hb dX4_begun_19 (by rw [b44]; decide) (by rw [b44]; decide) (by rw [b44]; decide) (by decide) ?_
      refine lv_aload_n hx hb dX4_begun_193 rfl (lv_at hl 1 rfl) ?_
      refine lv_bipush (v := (20 : Int32)) hx hb dX4_begun_194 (by decide) ?_
      refine lv_iload_n hx hb dX4_begun_196 rfl (lv_at hl 3 rfl) ?_
      refine lv_iload hx hb dX4_begun_197 (lv_at hl 0 rfl) ?_
      obtain ⟨r46, σ47, u45, hf⟩ := lm_bd2_e hf
      refine lm_endi (lm_runV C0 hR hS (hB u45) (lw_cV 3 hts uw_477 mv_X4_begun rfl rfl hd_X4_begun ⟨(by simp only [rmX4_begun, rmX4_begun]; omega), (by simp only [rmX4_begun, rmX4_begun]; omega)⟩) (by decide) cell_0 rfl rfl hl rfl (Nat.le_of_ble_eq_true rfl) dX4_begun_199) hS (fun H locs hR hS => ?_)
      refine lv_aload_n hx hb dX4_begun_202 rfl (lv_at hl 1 rfl) ?_
      refine lv_iconst (v := (0 : Int32)) hx hb dX4_begun_203 (by decide) ?_
      refine lv_iload_n hx hb dX4_begun_204 rfl (lv_at hl 3 rfl) ?_
      refine lv_iload hx hb dX4_begun_205 (lv_at hl 0 rfl) ?_
      obtain ⟨r49, σ50, u48, hf⟩ := lm_bd2_e hf
      refine lm_endi (lm_runV C0 hR hS (c_X4_asked hB u48) (lw_cV 3 hts uw_472 mv_X4_asked rfl rfl hd_X4_asked ⟨(by simp only [rmX4_begun, rmX4_asked]; omega), (by simp only [rmX4_begun, rmX4_asked]; omega)⟩) (by decide) cell_0 rfl rfl hl rfl (Nat.le_of_ble_eq_true rfl) dX4_begun_207) hS (fun H locs hR hS => ?_)
      refine lv_isub hx hb dX4_begun_210 ?_
      exact lm_riC C0 hR hS hf dX4_begun_211
    have hf := lm_F b44 hf
    by_cases b51 : p1 = (24 : Int32)
    · have hf := lm_T b51 hf
      refine lv_tableIn (off := 193) (tgt := 212) hx hb dX4_begun_19 (by rw [b51]; decide) (by rw [b51]; decide) (by rw [b51]; decide) (by decide) ?_
      refine lv_aload_n hx hb dX4_begun_212 rfl (lv_at hl 1 rfl) ?_
      refine lv_bipush (v := (21 : Int32)) hx hb dX4_begun_213 (by decide) ?_
      refine lv_iload_n hx hb dX4_begun_215 rfl (lv_at hl 3 rfl) ?_
      refine lv_iload hx hb dX4_begun_216 (lv_at hl 0 rfl) ?_
      obtain ⟨r53, σ54, u52, hf⟩ := lm_bd2_e hf
      refine lm_endi (lm_runV C0 hR hS (hB u52) (lw_cV 3 hts uw_477 mv_X4_begun rfl rfl hd_X4_begun ⟨(by simp only [rmX4_begun, rmX4_begun]; omega), (by simp only [rmX4_begun, rmX4_begun]; omega)⟩) (by decide) cell_0 rfl rfl hl rfl (Nat.le_of_ble_eq_true rfl) dX4_begun_218) hS (fun H locs hR hS => ?_)
      refine lv_iconst (v := (2 : Int32)) hx hb dX4_begun_221 (by decide) ?_
      refine lv_imul hx hb dX4_begun_222 ?_
      exact lm_riC C0 hR hS hf dX4_begun_223
    have hf := lm_F b51 hf
    refine lv_tableOut (tgt := 224) hx hb dX4_begun_19 (by have qb6 := lv_neT b6 (a := 10) (by decide); have qb8 := lv_neT b8 (a := 11) (by decide); have qb15 := lv_neT b15 (a := 12) (by decide); have qb19 := lv_neT b19 (a := 13) (by decide); have qb23 := lv_neT b23 (a := 14) (by decide); have qb27 := lv_neT b27 (a := 15) (by decide); have qb28 := lv_neT b28 (a := 16) (by decide); have qb29 := lv_neT b29 (a := 17) (by decide); have qb30 := lv_neT b30 (a := 18) (by decide); have qb31 := lv_neT b31 (a := 19) (by decide); have qb32 := lv_neT b32 (a := 20) (by decide); have qb33 := lv_neT b33 (a := 21) (by decide); have qb40 := lv_neT b40 (a := 22) (by decide); have qb44 := lv_neT b44 (a := 23) (by decide); have qb51 := lv_neT b51 (a := 24) (by decide); omega) (by decide) ?_
    refine lv_iconst (v := (0 : Int32)) hx hb dX4_begun_224 (by decide) ?_
    exact lm_riC C0 hR hS hf dX4_begun_225
  · have hf := lm_F b1 hf
    refine lv_iconst (v := (0 : Int32)) hx hb dX4_begun_6 (by decide) ?_
    exact lm_riC C0 hR hS hf dX4_begun_7
theorem c_X4_begun : ∀ (d : Nat) {σ σ' τ : Mem} {p1 p2 p3 r : Int32}, f_X4_begun d σ p1 p2 p3 = some (r, σ') → lm_CI l yX4_begun wsX4_begun (rmX4_begun d) D cI cZ cL cR B [.ref (B + 0), .int p1, .int p2, .int p3] σ τ r σ' τ := by
  intro d
  induction d with
  | zero =>
    intro σ σ' τ p1 p2 p3 r hf
    cases hf
  | succ d ih =>
    intro σ σ' τ p1 p2 p3 r hf
    exact c_X4_begun_of (d := d) (fb := f_X4_begun d) (fun h => ih h) hf
end
/-! ===== X4_ask ===== -/
abbrev rmX4_ask : Room := { frames := 66, cells := 0, slots := 0, locals := 3424 }
def f_X4_ask (σ : Mem) (p1 : Int32) (p2 : Int32) : Option (Int32 × Mem) := lm_bd (f_X4_isBelow p1 (σ 4 8)) fun r2 => if r2 = 0 then (some ((-1000001 : Int32), σ)) else (lm_bd (f_X4_isBelow p2 (2 : Int32)) fun r6 => if r6 = 0 then (some ((-1000001 : Int32), σ)) else (lm_nm (up σ 0 8 (0 : Int32)) fun σ9 => lm_bd2 (f_X4_asked (f_X4_begun 20) σ9 p2 p1 (0 : Int32)) fun r11 σ12 => some (r11, σ12)))
abbrev wsX4_ask : List Cond := Cond.code yX4_ask cX4_ask 3 (some .int) :: lw_u
theorem mv_X4_ask : Cond.instanceMethod yX4_ask ∈ lw_u ∧ Cond.selects yX4_ask.cls yX4_ask yX4_ask ∈ lw_u ∧ Cond.initialized yX4_ask.cls ∈ lw_u ∧ Cond.code yX4_ask cX4_ask 3 (some .int) ∈ lw_u := ⟨uw_469, uw_470, uw_1, uw_471⟩
theorem hd_X4_ask : yX4_ask.cls ≠ "java/lang/invoke/MethodHandle" ∧ yX4_ask.cls ≠ "java/lang/invoke/VarHandle" ∧ (parseMethodDescriptor yX4_ask.desc).map (fun d => d.parameters.length) = some 2 := by decide +kernel
section
variable {l : Launch} {D : va_G} {cI cZ cL cR : ClassId} {B : Nat}
set_option maxRecDepth 100000 in
set_option maxHeartbeats 4000000 in
theorem c_X4_ask {σ τ σ' : Mem} {p1 : Int32} {p2 : Int32} {r : Int32}  (hf : f_X4_ask σ p1 p2 = some (r, σ')) : lm_CI l yX4_ask wsX4_ask rmX4_ask D cI cZ cL cR B [.ref (B + 0), .int p1, .int p2] σ τ r σ' τ := by
  unfold f_X4_ask at hf
  refine lm_of (cc := cX4_ask) (maxL := 3) (ret := (some .int)) (own := RX4) (by decide) rfl (Nat.le_of_ble_eq_true rfl) (fun p e s m below meth c0 C0 hR ls hl => ?_)
  have hS : va_S (lm_A B) s.heap s.heap [] := va_S.rf
  have hl : lv_has ls 3 [(0, .ref (B + 0)), (1, .int p1), (2, .int p2)] := hl
  obtain ⟨hx, hb, hml, hr, hlk, hown, hts, hK, hX⟩ := id C0
  refine lv_iload_n hx hb dX4_ask_0 rfl (lv_at hl 1 rfl) ?_
  refine lv_aload_n hx hb dX4_ask_1 rfl (lv_at hl 0 rfl) ?_
  refine lm_get C0 hR (by decide) cell_0 rfl lw_in_X4 2 (by decide) uw_89 rfl rfl dX4_ask_2 ?_
  refine lm_get C0 hR (isL_lt isL_4) (cell_L isL_4) rfl lw_in_X1 8 (by decide) uw_62 rfl rfl dX4_ask_5 ?_
  obtain ⟨r2, u1, hf⟩ := lm_bd_e hf
  refine lm_endi (lm_runS C0 hR hS (c_X4_isBelow u1) (lw_cS 2 hts uw_102 mv_X4_isBelow rfl rfl hd_X4_isBelow ⟨Nat.le_of_ble_eq_true rfl, Nat.le_of_ble_eq_true rfl⟩) rfl hl rfl (Nat.le_of_ble_eq_true rfl) dX4_ask_8) hS (fun H locs hR hS => ?_)
  refine lv_if_eq (tgt := 22) hx hb dX4_ask_11 (by decide) (fun b4 => ?_) (fun b4 => ?_)
  · have hf := lm_T b4 hf
    refine lv_ldc hx hb hown (hts _ uw_105) dX4_ask_22 ?_
    exact lm_riC C0 hR hS hf dX4_ask_24
  · have hf := lm_F b4 hf
    refine lv_iload_n hx hb dX4_ask_14 rfl (lv_at hl 2 rfl) ?_
    refine lv_iconst (v := (2 : Int32)) hx hb dX4_ask_15 (by decide) ?_
    obtain ⟨r6, u5, hf⟩ := lm_bd_e hf
    refine lm_endi (lm_runS C0 hR hS (c_X4_isBelow u5) (lw_cS 2 hts uw_102 mv_X4_isBelow rfl rfl hd_X4_isBelow ⟨Nat.le_of_ble_eq_true rfl, Nat.le_of_ble_eq_true rfl⟩) rfl hl rfl (Nat.le_of_ble_eq_true rfl) dX4_ask_16) hS (fun H locs hR hS => ?_)
    refine lv_if_ne (tgt := 25) hx hb dX4_ask_19 (by decide) (fun b8 => ?_) (fun b8 => ?_)
    · have hf := lm_F b8 hf
      refine lv_aload_n hx hb dX4_ask_25 rfl (lv_at hl 0 rfl) ?_
      refine lv_iconst (v := (0 : Int32)) hx hb dX4_ask_26 (by decide) ?_
      obtain ⟨σ9, eσ9, hf⟩ := lm_nm_e hf
      refine lm_putC C0 hR hS (by decide) cell_0 rfl lw_in_X4 tyX4 tyX4_ok nmX4 8 (by decide) uw_95 rfl rfl rfl rfl rfl (Nat.le_of_ble_eq_true rfl) eσ9 cell_0u dX4_ask_27 (fun H locs hR hS => ?_)
      refine lv_aload_n hx hb dX4_ask_30 rfl (lv_at hl 0 rfl) ?_
      refine lv_iload_n hx hb dX4_ask_31 rfl (lv_at hl 2 rfl) ?_
      refine lv_iload_n hx hb dX4_ask_32 rfl (lv_at hl 1 rfl) ?_
      refine lv_iconst (v := (0 : Int32)) hx hb dX4_ask_33 (by decide) ?_
      obtain ⟨r11, σ12, u10, hf⟩ := lm_bd2_e hf
      refine lm_endi (lm_runV C0 hR hS (c_X4_asked (c_X4_begun 20) u10) (lw_cV 3 hts uw_472 mv_X4_asked rfl rfl hd_X4_asked ⟨Nat.le_of_ble_eq_true rfl, Nat.le_of_ble_eq_true rfl⟩) (by decide) cell_0 rfl rfl hl rfl (Nat.le_of_ble_eq_true rfl) dX4_ask_34) hS (fun H locs hR hS => ?_)
      exact lm_riC C0 hR hS hf dX4_ask_37
    · have hf := lm_T b8 hf
      refine lv_ldc hx hb hown (hts _ uw_105) dX4_ask_22 ?_
      exact lm_riC C0 hR hS hf dX4_ask_24
end
/-! ===== X4_trace ===== -/
abbrev rmX4_trace : Room := { frames := 1, cells := 0, slots := 0, locals := 21 }
def f_X4_trace (σ : Mem) (p1 : Int32) : Option (Int32) := lm_bd (f_X4_isBelow p1 (σ 0 8)) fun r2 => if r2 = 0 then (some (-1000000 : Int32)) else (lm_ck (lm_in p1 16) (some (σ 115 p1.toNatClampNeg)))
abbrev wsX4_trace : List Cond := Cond.code yX4_trace cX4_trace 2 (some .int) :: lw_u
theorem mv_X4_trace : Cond.instanceMethod yX4_trace ∈ lw_u ∧ Cond.selects yX4_trace.cls yX4_trace yX4_trace ∈ lw_u ∧ Cond.initialized yX4_trace.cls ∈ lw_u ∧ Cond.code yX4_trace cX4_trace 2 (some .int) ∈ lw_u := ⟨uw_484, uw_485, uw_1, uw_486⟩
theorem hd_X4_trace : yX4_trace.cls ≠ "java/lang/invoke/MethodHandle" ∧ yX4_trace.cls ≠ "java/lang/invoke/VarHandle" ∧ (parseMethodDescriptor yX4_trace.desc).map (fun d => d.parameters.length) = some 1 := by decide +kernel
section
variable {l : Launch} {D : va_G} {cI cZ cL cR : ClassId} {B : Nat}
set_option maxRecDepth 100000 in
set_option maxHeartbeats 4000000 in
theorem c_X4_trace {σ τ : Mem} {p1 : Int32} {r : Int32}  (hf : f_X4_trace σ p1 = some r) : lm_CI l yX4_trace wsX4_trace rmX4_trace D cI cZ cL cR B [.ref (B + 0), .int p1] σ τ r σ τ := by
  unfold f_X4_trace at hf
  refine lm_of (cc := cX4_trace) (maxL := 2) (ret := (some .int)) (own := RX4) (by decide) rfl (Nat.le_of_ble_eq_true rfl) (fun p e s m below meth c0 C0 hR ls hl => ?_)
  have hS : va_S (lm_A B) s.heap s.heap [] := va_S.rf
  have hl : lv_has ls 2 [(0, .ref (B + 0)), (1, .int p1)] := hl
  obtain ⟨hx, hb, hml, hr, hlk, hown, hts, hK, hX⟩ := id C0
  refine lv_iload_n hx hb dX4_trace_0 rfl (lv_at hl 1 rfl) ?_
  refine lv_aload_n hx hb dX4_trace_1 rfl (lv_at hl 0 rfl) ?_
  refine lm_get C0 hR (by decide) cell_0 rfl lw_in_X4 8 (by decide) uw_95 rfl rfl dX4_trace_2 ?_
  obtain ⟨r2, u1, hf⟩ := lm_bd_e hf
  refine lm_endi (lm_runS C0 hR hS (c_X4_isBelow u1) (lw_cS 2 hts uw_102 mv_X4_isBelow rfl rfl hd_X4_isBelow ⟨Nat.le_of_ble_eq_true rfl, Nat.le_of_ble_eq_true rfl⟩) rfl hl rfl (Nat.le_of_ble_eq_true rfl) dX4_trace_5) hS (fun H locs hR hS => ?_)
  refine lv_if_eq (tgt := 20) hx hb dX4_trace_8 (by decide) (fun b4 => ?_) (fun b4 => ?_)
  · have hf := lm_T b4 hf
    refine lv_ldc hx hb hown (hts _ uw_332) dX4_trace_20 ?_
    exact lm_riP C0 hR hS hf dX4_trace_22
  · have hf := lm_F b4 hf
    refine lv_aload_n hx hb dX4_trace_11 rfl (lv_at hl 0 rfl) ?_
    refine lm_get C0 hR (by decide) cell_0 rfl lw_in_X4 7 (by decide) uw_94 rfl rfl dX4_trace_12 ?_
    refine lv_iload_n hx hb dX4_trace_15 rfl (lv_at hl 1 rfl) ?_
    obtain ⟨z5, hf⟩ := lm_ck_e hf
    refine lm_ild C0 hR (by decide) cell_115 z5 dX4_trace_16 ?_
    refine lv_goto (tgt := 22) hx hb dX4_trace_17 (by decide) ?_
    exact lm_riP C0 hR hS hf dX4_trace_22
end
/-! ===== X4_rowsThere ===== -/
abbrev rmX4_rowsThere : Room := { frames := 0, cells := 0, slots := 0, locals := 0 }
def f_X4_rowsThere_4 (σ : Mem) : Nat → Int32 → Int32 → Option (Int32)
  | 0, _, _ => none
  | n + 1, x1, x2 => if (8 : Int32) ≤ x2 then (some x1) else (lm_ck (lm_in x2 8) (if (σ (116 + 2 * x2.toNatClampNeg) 1) = 0 then (lm_nm (x1 + (1 : Int32)) fun v5 => lm_nm (x2 + (1 : Int32)) fun v6 => f_X4_rowsThere_4 σ n v5 v6) else (lm_nm (x2 + (1 : Int32)) fun v4 => f_X4_rowsThere_4 σ n x1 v4)))
def f_X4_rowsThere (σ : Mem) : Option (Int32) := f_X4_rowsThere_4 σ lm_fu (0 : Int32) (0 : Int32)
abbrev wsX4_rowsThere : List Cond := Cond.code yX4_rowsThere cX4_rowsThere 3 (some .int) :: lw_u
theorem mv_X4_rowsThere : Cond.instanceMethod yX4_rowsThere ∈ lw_u ∧ Cond.selects yX4_rowsThere.cls yX4_rowsThere yX4_rowsThere ∈ lw_u ∧ Cond.initialized yX4_rowsThere.cls ∈ lw_u ∧ Cond.code yX4_rowsThere cX4_rowsThere 3 (some .int) ∈ lw_u := ⟨uw_492, uw_870, uw_1, uw_493⟩
theorem hd_X4_rowsThere : yX4_rowsThere.cls ≠ "java/lang/invoke/MethodHandle" ∧ yX4_rowsThere.cls ≠ "java/lang/invoke/VarHandle" ∧ (parseMethodDescriptor yX4_rowsThere.desc).map (fun d => d.parameters.length) = some 0 := by decide +kernel
section
variable {l : Launch} {D : va_G} {cI cZ cL cR : ClassId} {B : Nat}
set_option maxRecDepth 100000 in
set_option maxHeartbeats 4000000 in
theorem w_X4_rowsThere_4 {p : Program} {e : Env} {s : State} {m : MethodId} {args : Array Value} {below : List Frame} {meth : Method} {c0 : Code} {τ σ : Mem} {r : Int32} (C0 : lm_Cx D cI cZ cL cR B p s m args meth c0 cX4_rowsThere 3 (some .int) RX4) : ∀ (n : Nat), ∀ (x1 : Int32) (x2 : Int32) (H : Heap) (locs : List Loc) (ls : Array Slot), va_P D vwCl (wl cI cZ cL cR B σ τ) H → va_S (lm_A B) s.heap H locs → lv_has ls 3 [(0, .ref (B + 0)), (1, .int x1), (2, .int x2)] → f_X4_rowsThere_4 σ n x1 x2 = some r → W p l e rmX4_rowsThere s m args below meth c0 H locs 0 0 (MQ below (lm_QI D cI cZ cL cR B r σ τ) args s 0 0 (lm_A B)) (F0 m 4 ls []) := by
  obtain ⟨hx, hb, hml, hr, hlk, hown, hts, hK, hX⟩ := id C0
  intro n
  induction n with
  | zero =>
    intro x1 x2 H locs ls hR hS hl hf
    cases hf
  | succ n ih =>
    intro x1 x2 H locs ls hR hS hl hf
    rw [f_X4_rowsThere_4] at hf
    refine lv_iload_n hx hb dX4_rowsThere_4 rfl (lv_at hl 2 rfl) ?_
    refine lv_bipush (v := (8 : Int32)) hx hb dX4_rowsThere_5 (by decide) ?_
    refine lv_icmp_ge (tgt := 31) hx hb dX4_rowsThere_7 (by decide) (fun b1 => ?_) (fun b1 => ?_)
    · have hf := lm_T b1 hf
      refine lv_iload_n hx hb dX4_rowsThere_31 rfl (lv_at hl 1 rfl) ?_
      exact lm_riP C0 hR hS hf dX4_rowsThere_32
    · have hf := lm_F b1 hf
      refine lv_aload_n hx hb dX4_rowsThere_10 rfl (lv_at hl 0 rfl) ?_
      refine lm_get C0 hR (by decide) cell_0 rfl lw_in_X4 0 (by decide) uw_87 rfl rfl dX4_rowsThere_11 ?_
      refine lv_iload_n hx hb dX4_rowsThere_14 rfl (lv_at hl 2 rfl) ?_
      obtain ⟨z2, hf⟩ := lm_ck_e hf
      refine lm_ald C0 hR (t0 := 3) (by decide) cell_1 rfl z2 rfl dX4_rowsThere_15 ?_
      refine lm_get C0 hR (isR_lt (isR_row z2)) (cell_R (isR_row z2)) rfl lw_in_X2 1 (by decide) uw_82 rfl rfl dX4_rowsThere_16 ?_
      refine lv_if_ne (tgt := 25) hx hb dX4_rowsThere_19 (by decide) (fun b3 => ?_) (fun b3 => ?_)
      · have hf := lm_F b3 hf
        obtain ⟨v4, ev4, hf⟩ := lm_nm_e hf
        refine lv_iinc (v := v4) (lv' := [(2, .int v4), (0, .ref (B + 0)), (1, .int x1)]) hx hb dX4_rowsThere_25 hl (k := 2) rfl (by rw [ev4]; rfl) (by decide) rfl (fun ls hl => ?_)
        refine lv_goto (tgt := 4) hx hb dX4_rowsThere_28 (by decide) ?_
        exact ih _ _ _ _ _ hR hS (lv_sub hl [1, 2, 0] rfl) hf
      · have hf := lm_T b3 hf
        obtain ⟨v5, ev5, hf⟩ := lm_nm_e hf
        refine lv_iinc (v := v5) (lv' := [(1, .int v5), (0, .ref (B + 0)), (2, .int x2)]) hx hb dX4_rowsThere_22 hl (k := 1) rfl (by rw [ev5]; rfl) (by decide) rfl (fun ls hl => ?_)
        obtain ⟨v6, ev6, hf⟩ := lm_nm_e hf
        refine lv_iinc (v := v6) (lv' := [(2, .int v6), (1, .int v5), (0, .ref (B + 0))]) hx hb dX4_rowsThere_25 hl (k := 2) rfl (by rw [ev6]; rfl) (by decide) rfl (fun ls hl => ?_)
        refine lv_goto (tgt := 4) hx hb dX4_rowsThere_28 (by decide) ?_
        exact ih _ _ _ _ _ hR hS (lv_sub hl [2, 1, 0] rfl) hf
set_option maxRecDepth 100000 in
set_option maxHeartbeats 4000000 in
theorem c_X4_rowsThere {σ τ : Mem} {r : Int32}  (hf : f_X4_rowsThere σ = some r) : lm_CI l yX4_rowsThere wsX4_rowsThere rmX4_rowsThere D cI cZ cL cR B [.ref (B + 0)] σ τ r σ τ := by
  unfold f_X4_rowsThere at hf
  refine lm_of (cc := cX4_rowsThere) (maxL := 3) (ret := (some .int)) (own := RX4) (by decide) rfl (Nat.le_of_ble_eq_true rfl) (fun p e s m below meth c0 C0 hR ls hl => ?_)
  have hS : va_S (lm_A B) s.heap s.heap [] := va_S.rf
  have hl : lv_has ls 3 [(0, .ref (B + 0))] := hl
  obtain ⟨hx, hb, hml, hr, hlk, hown, hts, hK, hX⟩ := id C0
  refine lv_iconst (v := (0 : Int32)) hx hb dX4_rowsThere_0 (by decide) ?_
  refine lv_istore_n (lv' := [(1, .int (0 : Int32)), (0, .ref (B + 0))]) hx hb dX4_rowsThere_1 rfl hl (by decide) rfl (fun ls hl => ?_)
  refine lv_iconst (v := (0 : Int32)) hx hb dX4_rowsThere_2 (by decide) ?_
  refine lv_istore_n (lv' := [(2, .int (0 : Int32)), (1, .int (0 : Int32)), (0, .ref (B + 0))]) hx hb dX4_rowsThere_3 rfl hl (by decide) rfl (fun ls hl => ?_)
  exact w_X4_rowsThere_4 C0 _ _ _ _ _ _ hR hS (lv_sub hl [2, 1, 0] rfl) hf
end
/-! ===== X4_count ===== -/
abbrev rmX4_count : Room := { frames := 1, cells := 0, slots := 0, locals := 22 }
def f_X4_count (σ : Mem) (p1 : Int32) : Option (Int32) := if p1 = (0 : Int32) then (lm_bd (f_X4_rowsThere σ) fun r3 => some r3) else (if p1 = (1 : Int32) then (some (σ 4 8)) else (if p1 = (2 : Int32) then (some (σ 4 7)) else (if p1 = (3 : Int32) then (some (σ 4 6)) else (if p1 = (4 : Int32) then (some (σ 4 5)) else (if p1 = (5 : Int32) then (lm_bd (f_X1_shipsAshore 4 σ) fun r11 => some r11) else (if p1 = (6 : Int32) then (some (σ 16 2)) else (if p1 = (7 : Int32) then (some (σ 2 1)) else (some (-1000001 : Int32)))))))))
abbrev wsX4_count : List Cond := Cond.code yX4_count cX4_count 2 (some .int) :: lw_u
theorem mv_X4_count : Cond.instanceMethod yX4_count ∈ lw_u ∧ Cond.selects yX4_count.cls yX4_count yX4_count ∈ lw_u ∧ Cond.initialized yX4_count.cls ∈ lw_u ∧ Cond.code yX4_count cX4_count 2 (some .int) ∈ lw_u := ⟨uw_488, uw_489, uw_1, uw_490⟩
theorem hd_X4_count : yX4_count.cls ≠ "java/lang/invoke/MethodHandle" ∧ yX4_count.cls ≠ "java/lang/invoke/VarHandle" ∧ (parseMethodDescriptor yX4_count.desc).map (fun d => d.parameters.length) = some 1 := by decide +kernel
section
variable {l : Launch} {D : va_G} {cI cZ cL cR : ClassId} {B : Nat}
set_option maxRecDepth 100000 in
set_option maxHeartbeats 4000000 in
theorem c_X4_count {σ τ : Mem} {p1 : Int32} {r : Int32}  (hf : f_X4_count σ p1 = some r) : lm_CI l yX4_count wsX4_count rmX4_count D cI cZ cL cR B [.ref (B + 0), .int p1] σ τ r σ τ := by
  unfold f_X4_count at hf
  refine lm_of (cc := cX4_count) (maxL := 2) (ret := (some .int)) (own := RX4) (by decide) rfl (Nat.le_of_ble_eq_true rfl) (fun p e s m below meth c0 C0 hR ls hl => ?_)
  have hS : va_S (lm_A B) s.heap s.heap [] := va_S.rf
  have hl : lv_has ls 2 [(0, .ref (B + 0)), (1, .int p1)] := hl
  obtain ⟨hx, hb, hml, hr, hlk, hown, hts, hK, hX⟩ := id C0
  refine lv_iload_n hx hb dX4_count_0 rfl (lv_at hl 1 rfl) ?_
  by_cases b1 : p1 = (0 : Int32)
  · have hf := lm_T b1 hf
    refine lv_tableIn (off := 47) (tgt := 48) hx hb dX4_count_1 (by rw [b1]; decide) (by rw [b1]; decide) (by rw [b1]; decide) (by decide) ?_
    refine lv_aload_n hx hb dX4_count_48 rfl (lv_at hl 0 rfl) ?_
    obtain ⟨r3, u2, hf⟩ := lm_bd_e hf
    refine lm_endi (lm_runV C0 hR hS (c_X4_rowsThere u2) (lw_cV 0 hts uw_491 mv_X4_rowsThere rfl rfl hd_X4_rowsThere ⟨Nat.le_of_ble_eq_true rfl, Nat.le_of_ble_eq_true rfl⟩) (by decide) cell_0 rfl rfl hl rfl (Nat.le_of_ble_eq_true rfl) dX4_count_49) hS (fun H locs hR hS => ?_)
    exact lm_riP C0 hR hS hf dX4_count_52
  have hf := lm_F b1 hf
  by_cases b5 : p1 = (1 : Int32)
  · have hf := lm_T b5 hf
    refine lv_tableIn (off := 52) (tgt := 53) hx hb dX4_count_1 (by rw [b5]; decide) (by rw [b5]; decide) (by rw [b5]; decide) (by decide) ?_
    refine lv_aload_n hx hb dX4_count_53 rfl (lv_at hl 0 rfl) ?_
    refine lm_get C0 hR (by decide) cell_0 rfl lw_in_X4 2 (by decide) uw_89 rfl rfl dX4_count_54 ?_
    refine lm_get C0 hR (isL_lt isL_4) (cell_L isL_4) rfl lw_in_X1 8 (by decide) uw_62 rfl rfl dX4_count_57 ?_
    exact lm_riP C0 hR hS hf dX4_count_60
  have hf := lm_F b5 hf
  by_cases b6 : p1 = (2 : Int32)
  · have hf := lm_T b6 hf
    refine lv_tableIn (off := 60) (tgt := 61) hx hb dX4_count_1 (by rw [b6]; decide) (by rw [b6]; decide) (by rw [b6]; decide) (by decide) ?_
    refine lv_aload_n hx hb dX4_count_61 rfl (lv_at hl 0 rfl) ?_
    refine lm_get C0 hR (by decide) cell_0 rfl lw_in_X4 2 (by decide) uw_89 rfl rfl dX4_count_62 ?_
    refine lm_get C0 hR (isL_lt isL_4) (cell_L isL_4) rfl lw_in_X1 7 (by decide) uw_60 rfl rfl dX4_count_65 ?_
    exact lm_riP C0 hR hS hf dX4_count_68
  have hf := lm_F b6 hf
  by_cases b7 : p1 = (3 : Int32)
  · have hf := lm_T b7 hf
    refine lv_tableIn (off := 68) (tgt := 69) hx hb dX4_count_1 (by rw [b7]; decide) (by rw [b7]; decide) (by rw [b7]; decide) (by decide) ?_
    refine lv_aload_n hx hb dX4_count_69 rfl (lv_at hl 0 rfl) ?_
    refine lm_get C0 hR (by decide) cell_0 rfl lw_in_X4 2 (by decide) uw_89 rfl rfl dX4_count_70 ?_
    refine lm_get C0 hR (isL_lt isL_4) (cell_L isL_4) rfl lw_in_X1 6 (by decide) uw_57 rfl rfl dX4_count_73 ?_
    exact lm_riP C0 hR hS hf dX4_count_76
  have hf := lm_F b7 hf
  by_cases b8 : p1 = (4 : Int32)
  · have hf := lm_T b8 hf
    refine lv_tableIn (off := 76) (tgt := 77) hx hb dX4_count_1 (by rw [b8]; decide) (by rw [b8]; decide) (by rw [b8]; decide) (by decide) ?_
    refine lv_aload_n hx hb dX4_count_77 rfl (lv_at hl 0 rfl) ?_
    refine lm_get C0 hR (by decide) cell_0 rfl lw_in_X4 2 (by decide) uw_89 rfl rfl dX4_count_78 ?_
    refine lm_get C0 hR (isL_lt isL_4) (cell_L isL_4) rfl lw_in_X1 5 (by decide) uw_55 rfl rfl dX4_count_81 ?_
    exact lm_riP C0 hR hS hf dX4_count_84
  have hf := lm_F b8 hf
  by_cases b9 : p1 = (5 : Int32)
  · have hf := lm_T b9 hf
    refine lv_tableIn (off := 84) (tgt := 85) hx hb dX4_count_1 (by rw [b9]; decide) (by rw [b9]; decide) (by rw [b9]; decide) (by decide) ?_
    refine lv_aload_n hx hb dX4_count_85 rfl (lv_at hl 0 rfl) ?_
    refine lm_get C0 hR (by decide) cell_0 rfl lw_in_X4 2 (by decide) uw_89 rfl rfl dX4_count_86 ?_
    obtain ⟨r11, u10, hf⟩ := lm_bd_e hf
    refine lm_endi (lm_runV C0 hR hS (c_X1_shipsAshore isL_4 u10) (lw_cV 0 hts uw_494 mv_X1_shipsAshore rfl rfl hd_X1_shipsAshore ⟨Nat.le_of_ble_eq_true rfl, Nat.le_of_ble_eq_true rfl⟩) (isL_lt isL_4) (cell_L isL_4) rfl rfl hl rfl (Nat.le_of_ble_eq_true rfl) dX4_count_89) hS (fun H locs hR hS => ?_)
    exact lm_riP C0 hR hS hf dX4_count_92
  have hf := lm_F b9 hf
  by_cases b13 : p1 = (6 : Int32)
  · have hf := lm_T b13 hf
    refine lv_tableIn (off := 92) (tgt := 93) hx hb dX4_count_1 (by rw [b13]; decide) (by rw [b13]; decide) (by rw [b13]; decide) (by decide) ?_
    refine lv_aload_n hx hb dX4_count_93 rfl (lv_at hl 0 rfl) ?_
    refine lm_get C0 hR (by decide) cell_0 rfl lw_in_X4 5 (by decide) uw_92 rfl rfl dX4_count_94 ?_
    refine lm_get C0 hR (by decide) cell_16 rfl lw_in_X0 2 (by decide) uw_74 rfl rfl dX4_count_97 ?_
    exact lm_riP C0 hR hS hf dX4_count_100
  have hf := lm_F b13 hf
  by_cases b14 : p1 = (7 : Int32)
  · have hf := lm_T b14 hf
    refine lv_tableIn (off := 100) (tgt := 101) hx hb dX4_count_1 (by rw [b14]; decide) (by rw [b14]; decide) (by rw [b14]; decide) (by decide) ?_
    refine lv_aload_n hx hb dX4_count_101 rfl (lv_at hl 0 rfl) ?_
    refine lm_get C0 hR (by decide) cell_0 rfl lw_in_X4 1 (by decide) uw_88 rfl rfl dX4_count_102 ?_
    refine lm_get C0 hR (by decide) cell_2 rfl lw_in_X3 1 (by decide) uw_26 rfl rfl dX4_count_105 ?_
    exact lm_riP C0 hR hS hf dX4_count_108
  have hf := lm_F b14 hf
  refine lv_tableOut (tgt := 109) hx hb dX4_count_1 (by have qb1 := lv_neT b1 (a := 0) (by decide); have qb5 := lv_neT b5 (a := 1) (by decide); have qb6 := lv_neT b6 (a := 2) (by decide); have qb7 := lv_neT b7 (a := 3) (by decide); have qb8 := lv_neT b8 (a := 4) (by decide); have qb9 := lv_neT b9 (a := 5) (by decide); have qb13 := lv_neT b13 (a := 6) (by decide); have qb14 := lv_neT b14 (a := 7) (by decide); omega) (by decide) ?_
  refine lv_ldc hx hb hown (hts _ uw_105) dX4_count_109 ?_
  exact lm_riP C0 hR hS hf dX4_count_111
end
/-! ===== X4_status ===== -/
abbrev rmX4_status : Room := { frames := 0, cells := 0, slots := 0, locals := 0 }
def f_X4_status (σ : Mem) : Option (Int32) := some (σ 0 10)
abbrev wsX4_status : List Cond := Cond.code yX4_status cX4_status 1 (some .int) :: lw_u
theorem mv_X4_status : Cond.instanceMethod yX4_status ∈ lw_u ∧ Cond.selects yX4_status.cls yX4_status yX4_status ∈ lw_u ∧ Cond.initialized yX4_status.cls ∈ lw_u ∧ Cond.code yX4_status cX4_status 1 (some .int) ∈ lw_u := ⟨uw_499, uw_500, uw_1, uw_501⟩
theorem hd_X4_status : yX4_status.cls ≠ "java/lang/invoke/MethodHandle" ∧ yX4_status.cls ≠ "java/lang/invoke/VarHandle" ∧ (parseMethodDescriptor yX4_status.desc).map (fun d => d.parameters.length) = some 0 := by decide +kernel
section
variable {l : Launch} {D : va_G} {cI cZ cL cR : ClassId} {B : Nat}
set_option maxRecDepth 100000 in
set_option maxHeartbeats 4000000 in
theorem c_X4_status {σ τ : Mem} {r : Int32}  (hf : f_X4_status σ = some r) : lm_CI l yX4_status wsX4_status rmX4_status D cI cZ cL cR B [.ref (B + 0)] σ τ r σ τ := by
  unfold f_X4_status at hf
  refine lm_of (cc := cX4_status) (maxL := 1) (ret := (some .int)) (own := RX4) (by decide) rfl (Nat.le_of_ble_eq_true rfl) (fun p e s m below meth c0 C0 hR ls hl => ?_)
  have hS : va_S (lm_A B) s.heap s.heap [] := va_S.rf
  have hl : lv_has ls 1 [(0, .ref (B + 0))] := hl
  obtain ⟨hx, hb, hml, hr, hlk, hown, hts, hK, hX⟩ := id C0
  refine lv_aload_n hx hb dX4_status_0 rfl (lv_at hl 0 rfl) ?_
  refine lm_get C0 hR (by decide) cell_0 rfl lw_in_X4 10 (by decide) uw_97 rfl rfl dX4_status_1 ?_
  exact lm_riP C0 hR hS hf dX4_status_4
end
/-! ===== X5_in ===== -/
abbrev rmX5_in : Room := { frames := 0, cells := 0, slots := 0, locals := 0 }
def f_X5_in (p0 : Int64) (p2 : Int64) (p4 : Int64) : Option (Int32) := if (lg_cmp p0 p2) < 0 then (some (0 : Int32)) else (if 0 < (lg_cmp p0 p4) then (some (0 : Int32)) else (some (1 : Int32)))
abbrev wsX5_in : List Cond := Cond.code yX5_in cX5_in 6 (some .boolean) :: lw_u
theorem mv_X5_in : Cond.static yX5_in ∈ lw_u ∧ Cond.initialized yX5_in.cls ∈ lw_u ∧ Cond.code yX5_in cX5_in 6 (some .boolean) ∈ lw_u := ⟨uw_545, uw_6, uw_546⟩
theorem hd_X5_in : yX5_in.cls ≠ "java/lang/invoke/MethodHandle" ∧ yX5_in.cls ≠ "java/lang/invoke/VarHandle" ∧ (parseMethodDescriptor yX5_in.desc).map (fun d => d.parameters.length) = some 3 := by decide +kernel
section
variable {l : Launch} {D : va_G} {cI cZ cL cR : ClassId} {B : Nat}
set_option maxRecDepth 100000 in
set_option maxHeartbeats 4000000 in
theorem c_X5_in {τ σ : Mem} {p0 : Int64} {p2 : Int64} {p4 : Int64} {r : Int32}  (hf : f_X5_in p0 p2 p4 = some r) : lm_CI l yX5_in wsX5_in rmX5_in D cI cZ cL cR B [.long p0, .long p2, .long p4] σ τ r σ τ := by
  unfold f_X5_in at hf
  refine lm_of (cc := cX5_in) (maxL := 6) (ret := (some .boolean)) (own := RX5) (by decide) rfl (Nat.le_of_ble_eq_true rfl) (fun p e s m below meth c0 C0 hR ls hl => ?_)
  have hS : va_S (lm_A B) s.heap s.heap [] := va_S.rf
  have hl : lv_has ls 6 [(0, .long p0), (2, .long p2), (4, .long p4)] := hl
  obtain ⟨hx, hb, hml, hr, hlk, hown, hts, hK, hX⟩ := id C0
  refine lv_lload_n hx hb dX5_in_0 rfl (lv_at hl 0 rfl) ?_
  refine lv_lload_n hx hb dX5_in_1 rfl (lv_at hl 1 rfl) ?_
  refine W.lcmp hx hb dX5_in_2 ?_
  refine lv_if_lt (tgt := 17) hx hb dX5_in_3 (by decide) (fun b1 => ?_) (fun b1 => ?_)
  · have hf := lm_T b1 hf
    refine lv_iconst (v := (0 : Int32)) hx hb dX5_in_17 (by decide) ?_
    exact lm_rzP C0 hR hS hf rfl dX5_in_18
  · have hf := lm_F b1 hf
    refine lv_lload_n hx hb dX5_in_6 rfl (lv_at hl 0 rfl) ?_
    refine lv_lload hx hb dX5_in_7 (lv_at hl 2 rfl) ?_
    refine W.lcmp hx hb dX5_in_9 ?_
    refine lv_if_gt (tgt := 17) hx hb dX5_in_10 (by decide) (fun b2 => ?_) (fun b2 => ?_)
    · have hf := lm_T b2 hf
      refine lv_iconst (v := (0 : Int32)) hx hb dX5_in_17 (by decide) ?_
      exact lm_rzP C0 hR hS hf rfl dX5_in_18
    · have hf := lm_F b2 hf
      refine lv_iconst (v := (1 : Int32)) hx hb dX5_in_13 (by decide) ?_
      refine lv_goto (tgt := 18) hx hb dX5_in_14 (by decide) ?_
      exact lm_rzP C0 hR hS hf rfl dX5_in_18
end
/-! ===== X5_finding ===== -/
abbrev rmX5_finding : Room := { frames := 0, cells := 0, slots := 0, locals := 0 }
def f_X5_finding (τ : Mem) (p1 : Int32) : Option (Int32 × Mem) := lm_nm (up τ 140 1 p1) fun τ1 => some (((-1000010 : Int32) - p1), τ1)
abbrev wsX5_finding : List Cond := Cond.code yX5_finding cX5_finding 2 (some .int) :: lw_u
theorem mv_X5_finding : Cond.instanceMethod yX5_finding ∈ lw_u ∧ Cond.selects yX5_finding.cls yX5_finding yX5_finding ∈ lw_u ∧ Cond.initialized yX5_finding.cls ∈ lw_u ∧ Cond.code yX5_finding cX5_finding 2 (some .int) ∈ lw_u := ⟨uw_550, uw_871, uw_6, uw_551⟩
theorem hd_X5_finding : yX5_finding.cls ≠ "java/lang/invoke/MethodHandle" ∧ yX5_finding.cls ≠ "java/lang/invoke/VarHandle" ∧ (parseMethodDescriptor yX5_finding.desc).map (fun d => d.parameters.length) = some 1 := by decide +kernel
section
variable {l : Launch} {D : va_G} {cI cZ cL cR : ClassId} {B : Nat}
set_option maxRecDepth 100000 in
set_option maxHeartbeats 4000000 in
theorem c_X5_finding {τ σ τ' : Mem} {p1 : Int32} {r : Int32}  (hf : f_X5_finding τ p1 = some (r, τ')) : lm_CI l yX5_finding wsX5_finding rmX5_finding D cI cZ cL cR B [.ref (B + 140), .int p1] σ τ r σ τ' := by
  unfold f_X5_finding at hf
  refine lm_of (cc := cX5_finding) (maxL := 2) (ret := (some .int)) (own := RX5) (by decide) rfl (Nat.le_of_ble_eq_true rfl) (fun p e s m below meth c0 C0 hR ls hl => ?_)
  have hS : va_S (lm_A B) s.heap s.heap [] := va_S.rf
  have hl : lv_has ls 2 [(0, .ref (B + 140)), (1, .int p1)] := hl
  obtain ⟨hx, hb, hml, hr, hlk, hown, hts, hK, hX⟩ := id C0
  refine lv_aload_n hx hb dX5_finding_0 rfl (lv_at hl 0 rfl) ?_
  refine lv_iload_n hx hb dX5_finding_1 rfl (lv_at hl 1 rfl) ?_
  obtain ⟨τ1, eτ1, hf⟩ := lm_nm_e hf
  refine lm_putM C0 hR hS (by decide) cell_140 rfl lw_in_X5 tyX5 tyX5_ok nmX5 1 (by decide) uw_509 rfl rfl rfl rfl rfl (Nat.le_of_ble_eq_true rfl) eτ1 cell_140u dX5_finding_2 (fun H locs hR hS => ?_)
  refine lv_ldc hx hb hown (hts _ uw_552) dX5_finding_5 ?_
  refine lv_iload_n hx hb dX5_finding_7 rfl (lv_at hl 1 rfl) ?_
  refine lv_isub hx hb dX5_finding_8 ?_
  exact lm_riM C0 hR hS hf dX5_finding_9
end
/-! ===== X5_isRow ===== -/
abbrev rmX5_isRow : Room := { frames := 1, cells := 0, slots := 0, locals := 25 }
def f_X5_isRow (p0 : Int32) : Option (Int32) := lm_bd (f_X5_in p0.toInt64 (0 : Int64) (7 : Int64)) fun r2 => lm_ck (lm_bo r2) (some r2)
abbrev wsX5_isRow : List Cond := Cond.code yX5_isRow cX5_isRow 1 (some .boolean) :: lw_u
theorem mv_X5_isRow : Cond.static yX5_isRow ∈ lw_u ∧ Cond.initialized yX5_isRow.cls ∈ lw_u ∧ Cond.code yX5_isRow cX5_isRow 1 (some .boolean) ∈ lw_u := ⟨uw_541, uw_6, uw_542⟩
theorem hd_X5_isRow : yX5_isRow.cls ≠ "java/lang/invoke/MethodHandle" ∧ yX5_isRow.cls ≠ "java/lang/invoke/VarHandle" ∧ (parseMethodDescriptor yX5_isRow.desc).map (fun d => d.parameters.length) = some 1 := by decide +kernel
section
variable {l : Launch} {D : va_G} {cI cZ cL cR : ClassId} {B : Nat}
set_option maxRecDepth 100000 in
set_option maxHeartbeats 4000000 in
theorem c_X5_isRow {τ σ : Mem} {p0 : Int32} {r : Int32}  (hf : f_X5_isRow p0 = some r) : lm_CI l yX5_isRow wsX5_isRow rmX5_isRow D cI cZ cL cR B [.int p0] σ τ r σ τ := by
  unfold f_X5_isRow at hf
  refine lm_of (cc := cX5_isRow) (maxL := 1) (ret := (some .boolean)) (own := RX5) (by decide) rfl (Nat.le_of_ble_eq_true rfl) (fun p e s m below meth c0 C0 hR ls hl => ?_)
  have hS : va_S (lm_A B) s.heap s.heap [] := va_S.rf
  have hl : lv_has ls 1 [(0, .int p0)] := hl
  obtain ⟨hx, hb, hml, hr, hlk, hown, hts, hK, hX⟩ := id C0
  refine lv_iload_n hx hb dX5_isRow_0 rfl (lv_at hl 0 rfl) ?_
  refine lv_i2l hx hb dX5_isRow_1 rfl ?_
  refine lv_lconst (v := (0 : Int64)) hx hb dX5_isRow_2 (by decide) ?_
  refine lv_ldc2 hx hb hown (hts _ uw_543) dX5_isRow_3 ?_
  obtain ⟨r2, u1, hf⟩ := lm_bd_e hf
  refine lm_endi (lm_runS C0 hR hS (c_X5_in u1) (lw_cS 3 hts uw_544 mv_X5_in rfl rfl hd_X5_in ⟨Nat.le_of_ble_eq_true rfl, Nat.le_of_ble_eq_true rfl⟩) rfl hl rfl (Nat.le_of_ble_eq_true rfl) dX5_isRow_6) hS (fun H locs hR hS => ?_)
  obtain ⟨z4, hf⟩ := lm_ck_e hf
  exact lm_rzP C0 hR hS hf (lm_boT z4) dX5_isRow_9
end
/-! ===== X5_row ===== -/
abbrev rmX5_row : Room := { frames := 2, cells := 0, slots := 0, locals := 45 }
def f_X5_row_65 : Nat → Int32 → Int32 → Int32 → Mem → Option (Int32 × Mem)
  | 0, _, _, _, _ => none
  | n + 1, x1, x3, x4, τ => if (40 : Int32) ≤ x4 then (some (x3, τ)) else (lm_ck (lm_in (((40 : Int32) * x1) + x4) 320) (lm_nm (up τ 143 (((40 : Int32) * x1) + x4).toNatClampNeg (0 : Int32)) fun τ22 => lm_nm (x4 + (1 : Int32)) fun v23 => f_X5_row_65 n x1 x3 v23 τ22))
def f_X5_row (τ : Mem) (p1 : Int32) (p2 : Int32) (p3 : Int32) : Option (Int32 × Mem) := lm_nm (up τ 140 0 (0 : Int32)) fun τ1 => lm_bd (f_X5_isRow p1) fun r3 => if r3 = 0 then (some ((-1000001 : Int32), τ1)) else (lm_bd (f_X5_in p2.toInt64 (0 : Int64) (2 : Int64)) fun r7 => if r7 = 0 then (some ((-1000001 : Int32), τ1)) else (if p3 ≤ (40 : Int32) then (lm_nm (up τ1 140 1 (0 : Int32)) fun τ11 => if 0 ≤ p3 then (lm_ck (lm_in p1 8) (lm_nm (up τ11 141 p1.toNatClampNeg p2) fun τ14 => lm_ck (lm_in p1 8) (lm_nm (up τ14 142 p1.toNatClampNeg p3) fun τ16 => f_X5_row_65 lm_fu p1 p3 (0 : Int32) τ16))) else (lm_bd2 (f_X5_finding τ11 (4 : Int32)) fun r18 τ19 => some (r18, τ19))) else (some ((-1000001 : Int32), τ1))))
abbrev wsX5_row : List Cond := Cond.code yX5_row cX5_row 5 (some .int) :: lw_u
theorem mv_X5_row : Cond.instanceMethod yX5_row ∈ lw_u ∧ Cond.selects yX5_row.cls yX5_row yX5_row ∈ lw_u ∧ Cond.initialized yX5_row.cls ∈ lw_u ∧ Cond.code yX5_row cX5_row 5 (some .int) ∈ lw_u := ⟨uw_537, uw_538, uw_6, uw_539⟩
theorem hd_X5_row : yX5_row.cls ≠ "java/lang/invoke/MethodHandle" ∧ yX5_row.cls ≠ "java/lang/invoke/VarHandle" ∧ (parseMethodDescriptor yX5_row.desc).map (fun d => d.parameters.length) = some 3 := by decide +kernel
section
variable {l : Launch} {D : va_G} {cI cZ cL cR : ClassId} {B : Nat}
set_option maxRecDepth 100000 in
set_option maxHeartbeats 4000000 in
theorem w_X5_row_65 {p : Program} {e : Env} {s : State} {m : MethodId} {args : Array Value} {below : List Frame} {meth : Method} {c0 : Code} {σ τ' : Mem} {r : Int32} (C0 : lm_Cx D cI cZ cL cR B p s m args meth c0 cX5_row 5 (some .int) RX5) : ∀ (n : Nat), ∀ (x1 : Int32) (x3 : Int32) (x4 : Int32) (τ : Mem) (H : Heap) (locs : List Loc) (ls : Array Slot), va_P D vwCl (wl cI cZ cL cR B σ τ) H → va_S (lm_A B) s.heap H locs → lv_has ls 5 [(0, .ref (B + 140)), (1, .int x1), (3, .int x3), (4, .int x4)] → f_X5_row_65 n x1 x3 x4 τ = some (r, τ') → W p l e rmX5_row s m args below meth c0 H locs 0 0 (MQ below (lm_QI D cI cZ cL cR B r σ τ') args s 0 0 (lm_A B)) (F0 m 65 ls []) := by
  obtain ⟨hx, hb, hml, hr, hlk, hown, hts, hK, hX⟩ := id C0
  intro n
  induction n with
  | zero =>
    intro x1 x3 x4 τ H locs ls hR hS hl hf
    cases hf
  | succ n ih =>
    intro x1 x3 x4 τ H locs ls hR hS hl hf
    rw [f_X5_row_65] at hf
    refine lv_iload hx hb dX5_row_65 (lv_at hl 3 rfl) ?_
    refine lv_bipush (v := (40 : Int32)) hx hb dX5_row_67 (by decide) ?_
    refine lv_icmp_ge (tgt := 91) hx hb dX5_row_69 (by decide) (fun b20 => ?_) (fun b20 => ?_)
    · have hf := lm_T b20 hf
      refine lv_iload_n hx hb dX5_row_91 rfl (lv_at hl 2 rfl) ?_
      exact lm_riM C0 hR hS hf dX5_row_92
    · have hf := lm_F b20 hf
      refine lv_aload_n hx hb dX5_row_72 rfl (lv_at hl 0 rfl) ?_
      refine lm_get C0 hR (by decide) cell_140 rfl lw_in_X5 4 (by decide) uw_512 rfl rfl dX5_row_73 ?_
      refine lv_bipush (v := (40 : Int32)) hx hb dX5_row_76 (by decide) ?_
      refine lv_iload_n hx hb dX5_row_78 rfl (lv_at hl 1 rfl) ?_
      refine lv_imul hx hb dX5_row_79 ?_
      refine lv_iload hx hb dX5_row_80 (lv_at hl 3 rfl) ?_
      refine lv_iadd hx hb dX5_row_82 ?_
      refine lv_iconst (v := (0 : Int32)) hx hb dX5_row_83 (by decide) ?_
      obtain ⟨z21, hf⟩ := lm_ck_e hf
      obtain ⟨τ22, eτ22, hf⟩ := lm_nm_e hf
      refine lm_istM C0 hR hS (by decide) cell_143 z21  eτ22 cell_143u dX5_row_84 (fun H locs hR hS => ?_)
      obtain ⟨v23, ev23, hf⟩ := lm_nm_e hf
      refine lv_iinc (v := v23) (lv' := [(4, .int v23), (0, .ref (B + 140)), (1, .int x1), (3, .int x3)]) hx hb dX5_row_85 hl (k := 3) rfl (by rw [ev23]; rfl) (by decide) rfl (fun ls hl => ?_)
      refine lv_goto (tgt := 65) hx hb dX5_row_88 (by decide) ?_
      exact ih _ _ _ _ _ _ _ hR hS (lv_sub hl [1, 2, 3, 0] rfl) hf
set_option maxRecDepth 100000 in
set_option maxHeartbeats 4000000 in
theorem c_X5_row {τ σ τ' : Mem} {p1 : Int32} {p2 : Int32} {p3 : Int32} {r : Int32}  (hf : f_X5_row τ p1 p2 p3 = some (r, τ')) : lm_CI l yX5_row wsX5_row rmX5_row D cI cZ cL cR B [.ref (B + 140), .int p1, .int p2, .int p3] σ τ r σ τ' := by
  unfold f_X5_row at hf
  refine lm_of (cc := cX5_row) (maxL := 5) (ret := (some .int)) (own := RX5) (by decide) rfl (Nat.le_of_ble_eq_true rfl) (fun p e s m below meth c0 C0 hR ls hl => ?_)
  have hS : va_S (lm_A B) s.heap s.heap [] := va_S.rf
  have hl : lv_has ls 5 [(0, .ref (B + 140)), (1, .int p1), (2, .int p2), (3, .int p3)] := hl
  obtain ⟨hx, hb, hml, hr, hlk, hown, hts, hK, hX⟩ := id C0
  refine lv_aload_n hx hb dX5_row_0 rfl (lv_at hl 0 rfl) ?_
  refine lv_iconst (v := (0 : Int32)) hx hb dX5_row_1 (by decide) ?_
  obtain ⟨τ1, eτ1, hf⟩ := lm_nm_e hf
  refine lm_putM C0 hR hS (by decide) cell_140 rfl lw_in_X5 tyX5 tyX5_ok nmX5 0 (by decide) uw_508 rfl rfl rfl rfl rfl (Nat.le_of_ble_eq_true rfl) eτ1 cell_140u dX5_row_2 (fun H locs hR hS => ?_)
  refine lv_iload_n hx hb dX5_row_5 rfl (lv_at hl 1 rfl) ?_
  obtain ⟨r3, u2, hf⟩ := lm_bd_e hf
  refine lm_endi (lm_runS C0 hR hS (c_X5_isRow u2) (lw_cS 1 hts uw_540 mv_X5_isRow rfl rfl hd_X5_isRow ⟨Nat.le_of_ble_eq_true rfl, Nat.le_of_ble_eq_true rfl⟩) rfl hl rfl (Nat.le_of_ble_eq_true rfl) dX5_row_6) hS (fun H locs hR hS => ?_)
  refine lv_if_eq (tgt := 30) hx hb dX5_row_9 (by decide) (fun b5 => ?_) (fun b5 => ?_)
  · have hf := lm_T b5 hf
    refine lv_ldc hx hb hown (hts _ uw_548) dX5_row_30 ?_
    exact lm_riM C0 hR hS hf dX5_row_32
  · have hf := lm_F b5 hf
    refine lv_iload_n hx hb dX5_row_12 rfl (lv_at hl 2 rfl) ?_
    refine lv_i2l hx hb dX5_row_13 rfl ?_
    refine lv_lconst (v := (0 : Int64)) hx hb dX5_row_14 (by decide) ?_
    refine lv_ldc2 hx hb hown (hts _ uw_547) dX5_row_15 ?_
    obtain ⟨r7, u6, hf⟩ := lm_bd_e hf
    refine lm_endi (lm_runS C0 hR hS (c_X5_in u6) (lw_cS 3 hts uw_544 mv_X5_in rfl rfl hd_X5_in ⟨Nat.le_of_ble_eq_true rfl, Nat.le_of_ble_eq_true rfl⟩) rfl hl rfl (Nat.le_of_ble_eq_true rfl) dX5_row_18) hS (fun H locs hR hS => ?_)
    refine lv_if_eq (tgt := 30) hx hb dX5_row_21 (by decide) (fun b9 => ?_) (fun b9 => ?_)
    · have hf := lm_T b9 hf
      refine lv_ldc hx hb hown (hts _ uw_548) dX5_row_30 ?_
      exact lm_riM C0 hR hS hf dX5_row_32
    · have hf := lm_F b9 hf
      refine lv_iload_n hx hb dX5_row_24 rfl (lv_at hl 3 rfl) ?_
      refine lv_bipush (v := (40 : Int32)) hx hb dX5_row_25 (by decide) ?_
      refine lv_icmp_le (tgt := 33) hx hb dX5_row_27 (by decide) (fun b10 => ?_) (fun b10 => ?_)
      · have hf := lm_T b10 hf
        refine lv_aload_n hx hb dX5_row_33 rfl (lv_at hl 0 rfl) ?_
        refine lv_iconst (v := (0 : Int32)) hx hb dX5_row_34 (by decide) ?_
        obtain ⟨τ11, eτ11, hf⟩ := lm_nm_e hf
        refine lm_putM C0 hR hS (by decide) cell_140 rfl lw_in_X5 tyX5 tyX5_ok nmX5 1 (by decide) uw_509 rfl rfl rfl rfl rfl (Nat.le_of_ble_eq_true rfl) eτ11 cell_140u dX5_row_35 (fun H locs hR hS => ?_)
        refine lv_iload_n hx hb dX5_row_38 rfl (lv_at hl 3 rfl) ?_
        refine lv_if_ge (tgt := 48) hx hb dX5_row_39 (by decide) (fun b12 => ?_) (fun b12 => ?_)
        · have hf := lm_T b12 hf
          refine lv_aload_n hx hb dX5_row_48 rfl (lv_at hl 0 rfl) ?_
          refine lm_get C0 hR (by decide) cell_140 rfl lw_in_X5 2 (by decide) uw_510 rfl rfl dX5_row_49 ?_
          refine lv_iload_n hx hb dX5_row_52 rfl (lv_at hl 1 rfl) ?_
          refine lv_iload_n hx hb dX5_row_53 rfl (lv_at hl 2 rfl) ?_
          obtain ⟨z13, hf⟩ := lm_ck_e hf
          obtain ⟨τ14, eτ14, hf⟩ := lm_nm_e hf
          refine lm_istM C0 hR hS (by decide) cell_141 z13  eτ14 cell_141u dX5_row_54 (fun H locs hR hS => ?_)
          refine lv_aload_n hx hb dX5_row_55 rfl (lv_at hl 0 rfl) ?_
          refine lm_get C0 hR (by decide) cell_140 rfl lw_in_X5 3 (by decide) uw_511 rfl rfl dX5_row_56 ?_
          refine lv_iload_n hx hb dX5_row_59 rfl (lv_at hl 1 rfl) ?_
          refine lv_iload_n hx hb dX5_row_60 rfl (lv_at hl 3 rfl) ?_
          obtain ⟨z15, hf⟩ := lm_ck_e hf
          obtain ⟨τ16, eτ16, hf⟩ := lm_nm_e hf
          refine lm_istM C0 hR hS (by decide) cell_142 z15  eτ16 cell_142u dX5_row_61 (fun H locs hR hS => ?_)
          refine lv_iconst (v := (0 : Int32)) hx hb dX5_row_62 (by decide) ?_
          refine lv_istore (lv' := [(4, .int (0 : Int32)), (0, .ref (B + 140)), (1, .int p1), (2, .int p2), (3, .int p3)]) hx hb dX5_row_63 hl (by decide) rfl (fun ls hl => ?_)
          exact w_X5_row_65 C0 _ _ _ _ _ _ _ _ hR hS (lv_sub hl [1, 2, 4, 0] rfl) hf
        · have hf := lm_F b12 hf
          refine lv_aload_n hx hb dX5_row_42 rfl (lv_at hl 0 rfl) ?_
          refine lv_iconst (v := (4 : Int32)) hx hb dX5_row_43 (by decide) ?_
          obtain ⟨r18, τ19, u17, hf⟩ := lm_bd2_e hf
          refine lm_endi (lm_runV C0 hR hS (c_X5_finding u17) (lw_cV 1 hts uw_549 mv_X5_finding rfl rfl hd_X5_finding ⟨Nat.le_of_ble_eq_true rfl, Nat.le_of_ble_eq_true rfl⟩) (by decide) cell_140 rfl rfl hl rfl (Nat.le_of_ble_eq_true rfl) dX5_row_44) hS (fun H locs hR hS => ?_)
          exact lm_riM C0 hR hS hf dX5_row_47
      · have hf := lm_F b10 hf
        refine lv_ldc hx hb hown (hts _ uw_548) dX5_row_30 ?_
        exact lm_riM C0 hR hS hf dX5_row_32
end
/-! ===== X5_set ===== -/
abbrev rmX5_set : Room := { frames := 2, cells := 0, slots := 0, locals := 45 }
def f_X5_set_99 (x1 : Int32) (x2 : Int32) (y0 : Int32) (y1 : Int32) (τ : Mem) : Option (Int32 × Mem) := lm_ck (lm_in y1 320) (lm_nm (up τ 143 y1.toNatClampNeg y0) fun τ25 => lm_ck (lm_in (((40 : Int32) * x1) + x2) 320) (some ((τ25 143 (((40 : Int32) * x1) + x2).toNatClampNeg), τ25)))
def f_X5_set (τ : Mem) (p1 : Int32) (p2 : Int32) (p3 : Int32) : Option (Int32 × Mem) := lm_nm (up τ 140 0 (0 : Int32)) fun τ1 => lm_bd (f_X5_isRow p1) fun r3 => if r3 = 0 then (some ((-1000001 : Int32), τ1)) else (lm_nm (up τ1 140 1 (0 : Int32)) fun τ6 => lm_ck (lm_in p1 8) (if 0 ≤ (τ6 141 p1.toNatClampNeg) then (lm_ck (lm_in p1 8) (lm_bd (f_X5_in p2.toInt64 (0 : Int64) (((τ6 142 p1.toNatClampNeg) - (1 : Int32)).toInt64)) fun r11 => if r11 = 0 then (lm_bd2 (f_X5_finding τ6 (2 : Int32)) fun r19 τ20 => some (r19, τ20)) else (lm_ck (lm_in p1 8) (if (τ6 141 p1.toNatClampNeg) = 0 then (f_X5_set_99 p1 p2 p3.toInt8.toInt32 (((40 : Int32) * p1) + p2) τ6) else (lm_ck (lm_in p1 8) (if (τ6 141 p1.toNatClampNeg) = (1 : Int32) then (f_X5_set_99 p1 p2 p3.toInt16.toInt32 (((40 : Int32) * p1) + p2) τ6) else (f_X5_set_99 p1 p2 p3 (((40 : Int32) * p1) + p2) τ6))))))) else (lm_bd2 (f_X5_finding τ6 (1 : Int32)) fun r22 τ23 => some (r22, τ23))))
abbrev wsX5_set : List Cond := Cond.code yX5_set cX5_set 4 (some .int) :: lw_u
theorem mv_X5_set : Cond.instanceMethod yX5_set ∈ lw_u ∧ Cond.selects yX5_set.cls yX5_set yX5_set ∈ lw_u ∧ Cond.initialized yX5_set.cls ∈ lw_u ∧ Cond.code yX5_set cX5_set 4 (some .int) ∈ lw_u := ⟨uw_554, uw_555, uw_6, uw_556⟩
theorem hd_X5_set : yX5_set.cls ≠ "java/lang/invoke/MethodHandle" ∧ yX5_set.cls ≠ "java/lang/invoke/VarHandle" ∧ (parseMethodDescriptor yX5_set.desc).map (fun d => d.parameters.length) = some 3 := by decide +kernel
section
variable {l : Launch} {D : va_G} {cI cZ cL cR : ClassId} {B : Nat}
set_option maxRecDepth 100000 in
set_option maxHeartbeats 4000000 in
theorem w_X5_set_99 {p : Program} {e : Env} {s : State} {m : MethodId} {args : Array Value} {below : List Frame} {meth : Method} {c0 : Code} {σ τ' : Mem} {r : Int32} (C0 : lm_Cx D cI cZ cL cR B p s m args meth c0 cX5_set 4 (some .int) RX5) : ∀ (x1 : Int32) (x2 : Int32) (y0 : Int32) (y1 : Int32) (τ : Mem) (H : Heap) (locs : List Loc) (ls : Array Slot), va_P D vwCl (wl cI cZ cL cR B σ τ) H → va_S (lm_A B) s.heap H locs → lv_has ls 4 [(0, .ref (B + 140)), (1, .int x1), (2, .int x2)] → f_X5_set_99 x1 x2 y0 y1 τ = some (r, τ') → W p l e rmX5_set s m args below meth c0 H locs 0 0 (MQ below (lm_QI D cI cZ cL cR B r σ τ') args s 0 0 (lm_A B)) (F0 m 99 ls [.int y0, .int y1, .ref (B + 143)]) := by
  obtain ⟨hx, hb, hml, hr, hlk, hown, hts, hK, hX⟩ := id C0
  intro x1 x2 y0 y1 τ H locs ls hR hS hl hf
  unfold f_X5_set_99 at hf
  obtain ⟨z24, hf⟩ := lm_ck_e hf
  obtain ⟨τ25, eτ25, hf⟩ := lm_nm_e hf
  refine lm_istM C0 hR hS (by decide) cell_143 z24  eτ25 cell_143u dX5_set_99 (fun H locs hR hS => ?_)
  refine lv_aload_n hx hb dX5_set_100 rfl (lv_at hl 0 rfl) ?_
  refine lm_get C0 hR (by decide) cell_140 rfl lw_in_X5 4 (by decide) uw_512 rfl rfl dX5_set_101 ?_
  refine lv_bipush (v := (40 : Int32)) hx hb dX5_set_104 (by decide) ?_
  refine lv_iload_n hx hb dX5_set_106 rfl (lv_at hl 1 rfl) ?_
  refine lv_imul hx hb dX5_set_107 ?_
  refine lv_iload_n hx hb dX5_set_108 rfl (lv_at hl 2 rfl) ?_
  refine lv_iadd hx hb dX5_set_109 ?_
  obtain ⟨z26, hf⟩ := lm_ck_e hf
  refine lm_ild C0 hR (by decide) cell_143 z26 dX5_set_110 ?_
  exact lm_riM C0 hR hS hf dX5_set_111
set_option maxRecDepth 100000 in
set_option maxHeartbeats 4000000 in
theorem c_X5_set {τ σ τ' : Mem} {p1 : Int32} {p2 : Int32} {p3 : Int32} {r : Int32}  (hf : f_X5_set τ p1 p2 p3 = some (r, τ')) : lm_CI l yX5_set wsX5_set rmX5_set D cI cZ cL cR B [.ref (B + 140), .int p1, .int p2, .int p3] σ τ r σ τ' := by
  unfold f_X5_set at hf
  refine lm_of (cc := cX5_set) (maxL := 4) (ret := (some .int)) (own := RX5) (by decide) rfl (Nat.le_of_ble_eq_true rfl) (fun p e s m below meth c0 C0 hR ls hl => ?_)
  have hS : va_S (lm_A B) s.heap s.heap [] := va_S.rf
  have hl : lv_has ls 4 [(0, .ref (B + 140)), (1, .int p1), (2, .int p2), (3, .int p3)] := hl
  obtain ⟨hx, hb, hml, hr, hlk, hown, hts, hK, hX⟩ := id C0
  refine lv_aload_n hx hb dX5_set_0 rfl (lv_at hl 0 rfl) ?_
  refine lv_iconst (v := (0 : Int32)) hx hb dX5_set_1 (by decide) ?_
  obtain ⟨τ1, eτ1, hf⟩ := lm_nm_e hf
  refine lm_putM C0 hR hS (by decide) cell_140 rfl lw_in_X5 tyX5 tyX5_ok nmX5 0 (by decide) uw_508 rfl rfl rfl rfl rfl (Nat.le_of_ble_eq_true rfl) eτ1 cell_140u dX5_set_2 (fun H locs hR hS => ?_)
  refine lv_iload_n hx hb dX5_set_5 rfl (lv_at hl 1 rfl) ?_
  obtain ⟨r3, u2, hf⟩ := lm_bd_e hf
  refine lm_endi (lm_runS C0 hR hS (c_X5_isRow u2) (lw_cS 1 hts uw_540 mv_X5_isRow rfl rfl hd_X5_isRow ⟨Nat.le_of_ble_eq_true rfl, Nat.le_of_ble_eq_true rfl⟩) rfl hl rfl (Nat.le_of_ble_eq_true rfl) dX5_set_6) hS (fun H locs hR hS => ?_)
  refine lv_if_ne (tgt := 15) hx hb dX5_set_9 (by decide) (fun b5 => ?_) (fun b5 => ?_)
  · have hf := lm_F b5 hf
    refine lv_aload_n hx hb dX5_set_15 rfl (lv_at hl 0 rfl) ?_
    refine lv_iconst (v := (0 : Int32)) hx hb dX5_set_16 (by decide) ?_
    obtain ⟨τ6, eτ6, hf⟩ := lm_nm_e hf
    refine lm_putM C0 hR hS (by decide) cell_140 rfl lw_in_X5 tyX5 tyX5_ok nmX5 1 (by decide) uw_509 rfl rfl rfl rfl rfl (Nat.le_of_ble_eq_true rfl) eτ6 cell_140u dX5_set_17 (fun H locs hR hS => ?_)
    refine lv_aload_n hx hb dX5_set_20 rfl (lv_at hl 0 rfl) ?_
    refine lm_get C0 hR (by decide) cell_140 rfl lw_in_X5 2 (by decide) uw_510 rfl rfl dX5_set_21 ?_
    refine lv_iload_n hx hb dX5_set_24 rfl (lv_at hl 1 rfl) ?_
    obtain ⟨z7, hf⟩ := lm_ck_e hf
    refine lm_ild C0 hR (by decide) cell_141 z7 dX5_set_25 ?_
    refine lv_if_ge (tgt := 35) hx hb dX5_set_26 (by decide) (fun b8 => ?_) (fun b8 => ?_)
    · have hf := lm_T b8 hf
      refine lv_iload_n hx hb dX5_set_35 rfl (lv_at hl 2 rfl) ?_
      refine lv_i2l hx hb dX5_set_36 rfl ?_
      refine lv_lconst (v := (0 : Int64)) hx hb dX5_set_37 (by decide) ?_
      refine lv_aload_n hx hb dX5_set_38 rfl (lv_at hl 0 rfl) ?_
      refine lm_get C0 hR (by decide) cell_140 rfl lw_in_X5 3 (by decide) uw_511 rfl rfl dX5_set_39 ?_
      refine lv_iload_n hx hb dX5_set_42 rfl (lv_at hl 1 rfl) ?_
      obtain ⟨z9, hf⟩ := lm_ck_e hf
      refine lm_ild C0 hR (by decide) cell_142 z9 dX5_set_43 ?_
      refine lv_iconst (v := (1 : Int32)) hx hb dX5_set_44 (by decide) ?_
      refine lv_isub hx hb dX5_set_45 ?_
      refine lv_i2l hx hb dX5_set_46 rfl ?_
      obtain ⟨r11, u10, hf⟩ := lm_bd_e hf
      refine lm_endi (lm_runS C0 hR hS (c_X5_in u10) (lw_cS 3 hts uw_544 mv_X5_in rfl rfl hd_X5_in ⟨Nat.le_of_ble_eq_true rfl, Nat.le_of_ble_eq_true rfl⟩) rfl hl rfl (Nat.le_of_ble_eq_true rfl) dX5_set_47) hS (fun H locs hR hS => ?_)
      refine lv_if_ne (tgt := 59) hx hb dX5_set_50 (by decide) (fun b13 => ?_) (fun b13 => ?_)
      · have hf := lm_F b13 hf
        refine lv_aload_n hx hb dX5_set_59 rfl (lv_at hl 0 rfl) ?_
        refine lm_get C0 hR (by decide) cell_140 rfl lw_in_X5 4 (by decide) uw_512 rfl rfl dX5_set_60 ?_
        refine lv_bipush (v := (40 : Int32)) hx hb dX5_set_63 (by decide) ?_
        refine lv_iload_n hx hb dX5_set_65 rfl (lv_at hl 1 rfl) ?_
        refine lv_imul hx hb dX5_set_66 ?_
        refine lv_iload_n hx hb dX5_set_67 rfl (lv_at hl 2 rfl) ?_
        refine lv_iadd hx hb dX5_set_68 ?_
        refine lv_aload_n hx hb dX5_set_69 rfl (lv_at hl 0 rfl) ?_
        refine lm_get C0 hR (by decide) cell_140 rfl lw_in_X5 2 (by decide) uw_510 rfl rfl dX5_set_70 ?_
        refine lv_iload_n hx hb dX5_set_73 rfl (lv_at hl 1 rfl) ?_
        obtain ⟨z14, hf⟩ := lm_ck_e hf
        refine lm_ild C0 hR (by decide) cell_141 z14 dX5_set_74 ?_
        refine lv_if_ne (tgt := 83) hx hb dX5_set_75 (by decide) (fun b15 => ?_) (fun b15 => ?_)
        · have hf := lm_F b15 hf
          refine lv_aload_n hx hb dX5_set_83 rfl (lv_at hl 0 rfl) ?_
          refine lm_get C0 hR (by decide) cell_140 rfl lw_in_X5 2 (by decide) uw_510 rfl rfl dX5_set_84 ?_
          refine lv_iload_n hx hb dX5_set_87 rfl (lv_at hl 1 rfl) ?_
          obtain ⟨z16, hf⟩ := lm_ck_e hf
          refine lm_ild C0 hR (by decide) cell_141 z16 dX5_set_88 ?_
          refine lv_iconst (v := (1 : Int32)) hx hb dX5_set_89 (by decide) ?_
          refine lv_icmp_ne (tgt := 98) hx hb dX5_set_90 (by decide) (fun b17 => ?_) (fun b17 => ?_)
          · have hf := lm_F b17 hf
            refine lv_iload_n hx hb dX5_set_98 rfl (lv_at hl 3 rfl) ?_
            exact w_X5_set_99 C0 _ _ _ _ _ _ _ _ hR hS (lv_sub hl [0, 1, 2] rfl) hf
          · have hf := lm_T b17 hf
            refine lv_iload_n hx hb dX5_set_93 rfl (lv_at hl 3 rfl) ?_
            refine lv_i2s hx hb dX5_set_94 rfl ?_
            refine lv_goto (tgt := 99) hx hb dX5_set_95 (by decide) ?_
            exact w_X5_set_99 C0 _ _ _ _ _ _ _ _ hR hS (lv_sub hl [0, 1, 2] rfl) hf
        · have hf := lm_T b15 hf
          refine lv_iload_n hx hb dX5_set_78 rfl (lv_at hl 3 rfl) ?_
          refine lv_i2b hx hb dX5_set_79 rfl ?_
          refine lv_goto (tgt := 99) hx hb dX5_set_80 (by decide) ?_
          exact w_X5_set_99 C0 _ _ _ _ _ _ _ _ hR hS (lv_sub hl [0, 1, 2] rfl) hf
      · have hf := lm_T b13 hf
        refine lv_aload_n hx hb dX5_set_53 rfl (lv_at hl 0 rfl) ?_
        refine lv_iconst (v := (2 : Int32)) hx hb dX5_set_54 (by decide) ?_
        obtain ⟨r19, τ20, u18, hf⟩ := lm_bd2_e hf
        refine lm_endi (lm_runV C0 hR hS (c_X5_finding u18) (lw_cV 1 hts uw_549 mv_X5_finding rfl rfl hd_X5_finding ⟨Nat.le_of_ble_eq_true rfl, Nat.le_of_ble_eq_true rfl⟩) (by decide) cell_140 rfl rfl hl rfl (Nat.le_of_ble_eq_true rfl) dX5_set_55) hS (fun H locs hR hS => ?_)
        exact lm_riM C0 hR hS hf dX5_set_58
    · have hf := lm_F b8 hf
      refine lv_aload_n hx hb dX5_set_29 rfl (lv_at hl 0 rfl) ?_
      refine lv_iconst (v := (1 : Int32)) hx hb dX5_set_30 (by decide) ?_
      obtain ⟨r22, τ23, u21, hf⟩ := lm_bd2_e hf
      refine lm_endi (lm_runV C0 hR hS (c_X5_finding u21) (lw_cV 1 hts uw_549 mv_X5_finding rfl rfl hd_X5_finding ⟨Nat.le_of_ble_eq_true rfl, Nat.le_of_ble_eq_true rfl⟩) (by decide) cell_140 rfl rfl hl rfl (Nat.le_of_ble_eq_true rfl) dX5_set_31) hS (fun H locs hR hS => ?_)
      exact lm_riM C0 hR hS hf dX5_set_34
  · have hf := lm_T b5 hf
    refine lv_ldc hx hb hown (hts _ uw_548) dX5_set_12 ?_
    exact lm_riM C0 hR hS hf dX5_set_14
end
/-! ===== X5_copy ===== -/
abbrev rmX5_copy : Room := { frames := 2, cells := 0, slots := 0, locals := 45 }
def f_X5_copy_167 (k143 : Int32 → Int32 → Int32 → Int32 → Int32 → Int32 → Int32 → Mem → Option (Int32 × Mem)) (x1 : Int32) (x2 : Int32) (x3 : Int32) (x4 : Int32) (x5 : Int32) (x6 : Int32) (x7 : Int32) (y0 : Int32) (τ : Mem) : Option (Int32 × Mem) := lm_ck (lm_in ((((40 : Int32) * x1) + x2) + y0) 320) (lm_ck (lm_in ((((40 : Int32) * x3) + x4) + y0) 320) (lm_nm (up τ 143 ((((40 : Int32) * x3) + x4) + y0).toNatClampNeg (τ 143 ((((40 : Int32) * x1) + x2) + y0).toNatClampNeg)) fun τ54 => lm_nm (x7 + (1 : Int32)) fun v55 => k143 x1 x2 x3 x4 x5 x6 v55 τ54))
def f_X5_copy_143 : Nat → Int32 → Int32 → Int32 → Int32 → Int32 → Int32 → Int32 → Mem → Option (Int32 × Mem)
  | 0, _, _, _, _, _, _, _, _ => none
  | n + 1, x1, x2, x3, x4, x5, x6, x7, τ => if x5 ≤ x7 then (some (x5, τ)) else (if x6 = 0 then (f_X5_copy_167 (f_X5_copy_143 n) x1 x2 x3 x4 x5 x6 x7 ((x5 - (1 : Int32)) - x7) τ) else (f_X5_copy_167 (f_X5_copy_143 n) x1 x2 x3 x4 x5 x6 x7 x7 τ))
def f_X5_copy (τ : Mem) (p1 : Int32) (p2 : Int32) (p3 : Int32) (p4 : Int32) (p5 : Int32) : Option (Int32 × Mem) := lm_nm (up τ 140 0 (0 : Int32)) fun τ1 => lm_bd (f_X5_isRow p1) fun r3 => if r3 = 0 then (some ((-1000001 : Int32), τ1)) else (lm_bd (f_X5_isRow p3) fun r7 => if r7 = 0 then (some ((-1000001 : Int32), τ1)) else (lm_nm (up τ1 140 1 (0 : Int32)) fun τ10 => lm_ck (lm_in p1 8) (if (τ10 141 p1.toNatClampNeg) < 0 then (lm_bd2 (f_X5_finding τ10 (1 : Int32)) fun r14 τ15 => some (r14, τ15)) else (lm_ck (lm_in p3 8) (if 0 ≤ (τ10 141 p3.toNatClampNeg) then (lm_ck (lm_in p1 8) (lm_ck (lm_in p3 8) (if (τ10 141 p1.toNatClampNeg) = (τ10 141 p3.toNatClampNeg) then (if p2 < 0 then (lm_bd2 (f_X5_finding τ10 (2 : Int32)) fun r23 τ24 => some (r23, τ24)) else (if p4 < 0 then (lm_bd2 (f_X5_finding τ10 (2 : Int32)) fun r27 τ28 => some (r27, τ28)) else (if p5 < 0 then (lm_bd2 (f_X5_finding τ10 (2 : Int32)) fun r31 τ32 => some (r31, τ32)) else (lm_ck (lm_in p1 8) (if 0 < (lg_cmp (p2.toInt64 + p5.toInt64) ((τ10 142 p1.toNatClampNeg).toInt64)) then (lm_bd2 (f_X5_finding τ10 (2 : Int32)) fun r36 τ37 => some (r36, τ37)) else (lm_ck (lm_in p3 8) (if (lg_cmp (p4.toInt64 + p5.toInt64) ((τ10 142 p3.toNatClampNeg).toInt64)) ≤ 0 then (if p2 < p4 then (f_X5_copy_143 lm_fu p1 p2 p3 p4 p5 (0 : Int32) (0 : Int32) τ10) else (f_X5_copy_143 lm_fu p1 p2 p3 p4 p5 (1 : Int32) (0 : Int32) τ10)) else (lm_bd2 (f_X5_finding τ10 (2 : Int32)) fun r42 τ43 => some (r42, τ43))))))))) else (lm_bd2 (f_X5_finding τ10 (5 : Int32)) fun r45 τ46 => some (r45, τ46))))) else (lm_bd2 (f_X5_finding τ10 (1 : Int32)) fun r48 τ49 => some (r48, τ49)))))))
abbrev wsX5_copy : List Cond := Cond.code yX5_copy cX5_copy 9 (some .int) :: lw_u
theorem mv_X5_copy : Cond.instanceMethod yX5_copy ∈ lw_u ∧ Cond.selects yX5_copy.cls yX5_copy yX5_copy ∈ lw_u ∧ Cond.initialized yX5_copy.cls ∈ lw_u ∧ Cond.code yX5_copy cX5_copy 9 (some .int) ∈ lw_u := ⟨uw_558, uw_559, uw_6, uw_560⟩
theorem hd_X5_copy : yX5_copy.cls ≠ "java/lang/invoke/MethodHandle" ∧ yX5_copy.cls ≠ "java/lang/invoke/VarHandle" ∧ (parseMethodDescriptor yX5_copy.desc).map (fun d => d.parameters.length) = some 5 := by decide +kernel
section
variable {l : Launch} {D : va_G} {cI cZ cL cR : ClassId} {B : Nat}
set_option maxRecDepth 100000 in
set_option maxHeartbeats 4000000 in
theorem w_X5_copy_167 {p : Program} {e : Env} {s : State} {m : MethodId} {args : Array Value} {below : List Frame} {meth : Method} {c0 : Code} {σ τ' : Mem} {r : Int32} (C0 : lm_Cx D cI cZ cL cR B p s m args meth c0 cX5_copy 9 (some .int) RX5) {k143 : Int32 → Int32 → Int32 → Int32 → Int32 → Int32 → Int32 → Mem → Option (Int32 × Mem)} (hk143 : ∀ (x1 : Int32) (x2 : Int32) (x3 : Int32) (x4 : Int32) (x5 : Int32) (x6 : Int32) (x7 : Int32) (τ : Mem) (H : Heap) (locs : List Loc) (ls : Array Slot), va_P D vwCl (wl cI cZ cL cR B σ τ) H → va_S (lm_A B) s.heap H locs → lv_has ls 9 [(0, .ref (B + 140)), (1, .int x1), (2, .int x2), (3, .int x3), (4, .int x4), (5, .int x5), (6, .int x6), (7, .int x7)] → k143 x1 x2 x3 x4 x5 x6 x7 τ = some (r, τ') → W p l e rmX5_copy s m args below meth c0 H locs 0 0 (MQ below (lm_QI D cI cZ cL cR B r σ τ') args s 0 0 (lm_A B)) (F0 m 143 ls [])) : ∀ (x1 : Int32) (x2 : Int32) (x3 : Int32) (x4 : Int32) (x5 : Int32) (x6 : Int32) (x7 : Int32) (y0 : Int32) (τ : Mem) (H : Heap) (locs : List Loc) (ls : Array Slot), va_P D vwCl (wl cI cZ cL cR B σ τ) H → va_S (lm_A B) s.heap H locs → lv_has ls 9 [(0, .ref (B + 140)), (1, .int x1), (2, .int x2), (3, .int x3), (4, .int x4), (5, .int x5), (6, .int x6), (7, .int x7)] → f_X5_copy_167 k143 x1 x2 x3 x4 x5 x6 x7 y0 τ = some (r, τ') → W p l e rmX5_copy s m args below meth c0 H locs 0 0 (MQ below (lm_QI D cI cZ cL cR B r σ τ') args s 0 0 (lm_A B)) (F0 m 167 ls [.int y0]) := by
  obtain ⟨hx, hb, hml, hr, hlk, hown, hts, hK, hX⟩ := id C0
  intro x1 x2 x3 x4 x5 x6 x7 y0 τ H locs ls hR hS hl hf
  unfold f_X5_copy_167 at hf
  refine lv_istore (lv' := [(8, .int y0), (0, .ref (B + 140)), (1, .int x1), (2, .int x2), (3, .int x3), (4, .int x4), (5, .int x5), (6, .int x6), (7, .int x7)]) hx hb dX5_copy_167 hl (by decide) rfl (fun ls hl => ?_)
  refine lv_aload_n hx hb dX5_copy_169 rfl (lv_at hl 1 rfl) ?_
  refine lm_get C0 hR (by decide) cell_140 rfl lw_in_X5 4 (by decide) uw_512 rfl rfl dX5_copy_170 ?_
  refine lv_bipush (v := (40 : Int32)) hx hb dX5_copy_173 (by decide) ?_
  refine lv_iload_n hx hb dX5_copy_175 rfl (lv_at hl 4 rfl) ?_
  refine lv_imul hx hb dX5_copy_176 ?_
  refine lv_iload hx hb dX5_copy_177 (lv_at hl 5 rfl) ?_
  refine lv_iadd hx hb dX5_copy_179 ?_
  refine lv_iload hx hb dX5_copy_180 (lv_at hl 0 rfl) ?_
  refine lv_iadd hx hb dX5_copy_182 ?_
  refine lv_aload_n hx hb dX5_copy_183 rfl (lv_at hl 1 rfl) ?_
  refine lm_get C0 hR (by decide) cell_140 rfl lw_in_X5 4 (by decide) uw_512 rfl rfl dX5_copy_184 ?_
  refine lv_bipush (v := (40 : Int32)) hx hb dX5_copy_187 (by decide) ?_
  refine lv_iload_n hx hb dX5_copy_189 rfl (lv_at hl 2 rfl) ?_
  refine lv_imul hx hb dX5_copy_190 ?_
  refine lv_iload_n hx hb dX5_copy_191 rfl (lv_at hl 3 rfl) ?_
  refine lv_iadd hx hb dX5_copy_192 ?_
  refine lv_iload hx hb dX5_copy_193 (lv_at hl 0 rfl) ?_
  refine lv_iadd hx hb dX5_copy_195 ?_
  obtain ⟨z52, hf⟩ := lm_ck_e hf
  refine lm_ild C0 hR (by decide) cell_143 z52 dX5_copy_196 ?_
  obtain ⟨z53, hf⟩ := lm_ck_e hf
  obtain ⟨τ54, eτ54, hf⟩ := lm_nm_e hf
  refine lm_istM C0 hR hS (by decide) cell_143 z53  eτ54 cell_143u dX5_copy_197 (fun H locs hR hS => ?_)
  obtain ⟨v55, ev55, hf⟩ := lm_nm_e hf
  refine lv_iinc (v := v55) (lv' := [(7, .int v55), (8, .int y0), (0, .ref (B + 140)), (1, .int x1), (2, .int x2), (3, .int x3), (4, .int x4), (5, .int x5), (6, .int x6)]) hx hb dX5_copy_198 hl (k := 8) rfl (by rw [ev55]; rfl) (by decide) rfl (fun ls hl => ?_)
  refine lv_goto (tgt := 143) hx hb dX5_copy_201 (by decide) ?_
  exact hk143 _ _ _ _ _ _ _ _ _ _ _ hR hS (lv_sub hl [2, 3, 4, 5, 6, 7, 8, 0] rfl) hf
set_option maxRecDepth 100000 in
set_option maxHeartbeats 4000000 in
theorem w_X5_copy_143 {p : Program} {e : Env} {s : State} {m : MethodId} {args : Array Value} {below : List Frame} {meth : Method} {c0 : Code} {σ τ' : Mem} {r : Int32} (C0 : lm_Cx D cI cZ cL cR B p s m args meth c0 cX5_copy 9 (some .int) RX5) : ∀ (n : Nat), ∀ (x1 : Int32) (x2 : Int32) (x3 : Int32) (x4 : Int32) (x5 : Int32) (x6 : Int32) (x7 : Int32) (τ : Mem) (H : Heap) (locs : List Loc) (ls : Array Slot), va_P D vwCl (wl cI cZ cL cR B σ τ) H → va_S (lm_A B) s.heap H locs → lv_has ls 9 [(0, .ref (B + 140)), (1, .int x1), (2, .int x2), (3, .int x3), (4, .int x4), (5, .int x5), (6, .int x6), (7, .int x7)] → f_X5_copy_143 n x1 x2 x3 x4 x5 x6 x7 τ = some (r, τ') → W p l e rmX5_copy s m args below meth c0 H locs 0 0 (MQ below (lm_QI D cI cZ cL cR B r σ τ') args s 0 0 (lm_A B)) (F0 m 143 ls []) := by
  obtain ⟨hx, hb, hml, hr, hlk, hown, hts, hK, hX⟩ := id C0
  intro n
  induction n with
  | zero =>
    intro x1 x2 x3 x4 x5 x6 x7 τ H locs ls hR hS hl hf
    cases hf
  | succ n ih =>
    intro x1 x2 x3 x4 x5 x6 x7 τ H locs ls hR hS hl hf
    rw [f_X5_copy_143] at hf
    refine lv_iload hx hb dX5_copy_143 (lv_at hl 7 rfl) ?_
    refine lv_iload hx hb dX5_copy_145 (lv_at hl 5 rfl) ?_
    refine lv_icmp_ge (tgt := 204) hx hb dX5_copy_147 (by decide) (fun b50 => ?_) (fun b50 => ?_)
    · have hf := lm_T b50 hf
      refine lv_iload hx hb dX5_copy_204 (lv_at hl 5 rfl) ?_
      exact lm_riM C0 hR hS hf dX5_copy_206
    · have hf := lm_F b50 hf
      refine lv_iload hx hb dX5_copy_150 (lv_at hl 6 rfl) ?_
      refine lv_if_eq (tgt := 160) hx hb dX5_copy_152 (by decide) (fun b51 => ?_) (fun b51 => ?_)
      · have hf := lm_T b51 hf
        refine lv_iload hx hb dX5_copy_160 (lv_at hl 5 rfl) ?_
        refine lv_iconst (v := (1 : Int32)) hx hb dX5_copy_162 (by decide) ?_
        refine lv_isub hx hb dX5_copy_163 ?_
        refine lv_iload hx hb dX5_copy_164 (lv_at hl 7 rfl) ?_
        refine lv_isub hx hb dX5_copy_166 ?_
        exact w_X5_copy_167 C0 ih _ _ _ _ _ _ _ _ _ _ _ _ hR hS (lv_sub hl [0, 1, 2, 3, 4, 5, 6, 7] rfl) hf
      · have hf := lm_F b51 hf
        refine lv_iload hx hb dX5_copy_155 (lv_at hl 7 rfl) ?_
        refine lv_goto (tgt := 167) hx hb dX5_copy_157 (by decide) ?_
        exact w_X5_copy_167 C0 ih _ _ _ _ _ _ _ _ _ _ _ _ hR hS (lv_sub hl [0, 1, 2, 3, 4, 5, 6, 7] rfl) hf
set_option maxRecDepth 100000 in
set_option maxHeartbeats 4000000 in
theorem c_X5_copy {τ σ τ' : Mem} {p1 : Int32} {p2 : Int32} {p3 : Int32} {p4 : Int32} {p5 : Int32} {r : Int32}  (hf : f_X5_copy τ p1 p2 p3 p4 p5 = some (r, τ')) : lm_CI l yX5_copy wsX5_copy rmX5_copy D cI cZ cL cR B [.ref (B + 140), .int p1, .int p2, .int p3, .int p4, .int p5] σ τ r σ τ' := by
  unfold f_X5_copy at hf
  refine lm_of (cc := cX5_copy) (maxL := 9) (ret := (some .int)) (own := RX5) (by decide) rfl (Nat.le_of_ble_eq_true rfl) (fun p e s m below meth c0 C0 hR ls hl => ?_)
  have hS : va_S (lm_A B) s.heap s.heap [] := va_S.rf
  have hl : lv_has ls 9 [(0, .ref (B + 140)), (1, .int p1), (2, .int p2), (3, .int p3), (4, .int p4), (5, .int p5)] := hl
  obtain ⟨hx, hb, hml, hr, hlk, hown, hts, hK, hX⟩ := id C0
  refine lv_aload_n hx hb dX5_copy_0 rfl (lv_at hl 0 rfl) ?_
  refine lv_iconst (v := (0 : Int32)) hx hb dX5_copy_1 (by decide) ?_
  obtain ⟨τ1, eτ1, hf⟩ := lm_nm_e hf
  refine lm_putM C0 hR hS (by decide) cell_140 rfl lw_in_X5 tyX5 tyX5_ok nmX5 0 (by decide) uw_508 rfl rfl rfl rfl rfl (Nat.le_of_ble_eq_true rfl) eτ1 cell_140u dX5_copy_2 (fun H locs hR hS => ?_)
  refine lv_iload_n hx hb dX5_copy_5 rfl (lv_at hl 1 rfl) ?_
  obtain ⟨r3, u2, hf⟩ := lm_bd_e hf
  refine lm_endi (lm_runS C0 hR hS (c_X5_isRow u2) (lw_cS 1 hts uw_540 mv_X5_isRow rfl rfl hd_X5_isRow ⟨Nat.le_of_ble_eq_true rfl, Nat.le_of_ble_eq_true rfl⟩) rfl hl rfl (Nat.le_of_ble_eq_true rfl) dX5_copy_6) hS (fun H locs hR hS => ?_)
  refine lv_if_eq (tgt := 19) hx hb dX5_copy_9 (by decide) (fun b5 => ?_) (fun b5 => ?_)
  · have hf := lm_T b5 hf
    refine lv_ldc hx hb hown (hts _ uw_548) dX5_copy_19 ?_
    exact lm_riM C0 hR hS hf dX5_copy_21
  · have hf := lm_F b5 hf
    refine lv_iload_n hx hb dX5_copy_12 rfl (lv_at hl 3 rfl) ?_
    obtain ⟨r7, u6, hf⟩ := lm_bd_e hf
    refine lm_endi (lm_runS C0 hR hS (c_X5_isRow u6) (lw_cS 1 hts uw_540 mv_X5_isRow rfl rfl hd_X5_isRow ⟨Nat.le_of_ble_eq_true rfl, Nat.le_of_ble_eq_true rfl⟩) rfl hl rfl (Nat.le_of_ble_eq_true rfl) dX5_copy_13) hS (fun H locs hR hS => ?_)
    refine lv_if_ne (tgt := 22) hx hb dX5_copy_16 (by decide) (fun b9 => ?_) (fun b9 => ?_)
    · have hf := lm_F b9 hf
      refine lv_aload_n hx hb dX5_copy_22 rfl (lv_at hl 0 rfl) ?_
      refine lv_iconst (v := (0 : Int32)) hx hb dX5_copy_23 (by decide) ?_
      obtain ⟨τ10, eτ10, hf⟩ := lm_nm_e hf
      refine lm_putM C0 hR hS (by decide) cell_140 rfl lw_in_X5 tyX5 tyX5_ok nmX5 1 (by decide) uw_509 rfl rfl rfl rfl rfl (Nat.le_of_ble_eq_true rfl) eτ10 cell_140u dX5_copy_24 (fun H locs hR hS => ?_)
      refine lv_aload_n hx hb dX5_copy_27 rfl (lv_at hl 0 rfl) ?_
      refine lm_get C0 hR (by decide) cell_140 rfl lw_in_X5 2 (by decide) uw_510 rfl rfl dX5_copy_28 ?_
      refine lv_iload_n hx hb dX5_copy_31 rfl (lv_at hl 1 rfl) ?_
      obtain ⟨z11, hf⟩ := lm_ck_e hf
      refine lm_ild C0 hR (by decide) cell_141 z11 dX5_copy_32 ?_
      refine lv_if_lt (tgt := 45) hx hb dX5_copy_33 (by decide) (fun b12 => ?_) (fun b12 => ?_)
      · have hf := lm_T b12 hf
        refine lv_aload_n hx hb dX5_copy_45 rfl (lv_at hl 0 rfl) ?_
        refine lv_iconst (v := (1 : Int32)) hx hb dX5_copy_46 (by decide) ?_
        obtain ⟨r14, τ15, u13, hf⟩ := lm_bd2_e hf
        refine lm_endi (lm_runV C0 hR hS (c_X5_finding u13) (lw_cV 1 hts uw_549 mv_X5_finding rfl rfl hd_X5_finding ⟨Nat.le_of_ble_eq_true rfl, Nat.le_of_ble_eq_true rfl⟩) (by decide) cell_140 rfl rfl hl rfl (Nat.le_of_ble_eq_true rfl) dX5_copy_47) hS (fun H locs hR hS => ?_)
        exact lm_riM C0 hR hS hf dX5_copy_50
      · have hf := lm_F b12 hf
        refine lv_aload_n hx hb dX5_copy_36 rfl (lv_at hl 0 rfl) ?_
        refine lm_get C0 hR (by decide) cell_140 rfl lw_in_X5 2 (by decide) uw_510 rfl rfl dX5_copy_37 ?_
        refine lv_iload_n hx hb dX5_copy_40 rfl (lv_at hl 3 rfl) ?_
        obtain ⟨z16, hf⟩ := lm_ck_e hf
        refine lm_ild C0 hR (by decide) cell_141 z16 dX5_copy_41 ?_
        refine lv_if_ge (tgt := 51) hx hb dX5_copy_42 (by decide) (fun b17 => ?_) (fun b17 => ?_)
        · have hf := lm_T b17 hf
          refine lv_aload_n hx hb dX5_copy_51 rfl (lv_at hl 0 rfl) ?_
          refine lm_get C0 hR (by decide) cell_140 rfl lw_in_X5 2 (by decide) uw_510 rfl rfl dX5_copy_52 ?_
          refine lv_iload_n hx hb dX5_copy_55 rfl (lv_at hl 1 rfl) ?_
          obtain ⟨z18, hf⟩ := lm_ck_e hf
          refine lm_ild C0 hR (by decide) cell_141 z18 dX5_copy_56 ?_
          refine lv_aload_n hx hb dX5_copy_57 rfl (lv_at hl 0 rfl) ?_
          refine lm_get C0 hR (by decide) cell_140 rfl lw_in_X5 2 (by decide) uw_510 rfl rfl dX5_copy_58 ?_
          refine lv_iload_n hx hb dX5_copy_61 rfl (lv_at hl 3 rfl) ?_
          obtain ⟨z19, hf⟩ := lm_ck_e hf
          refine lm_ild C0 hR (by decide) cell_141 z19 dX5_copy_62 ?_
          refine lv_icmp_eq (tgt := 72) hx hb dX5_copy_63 (by decide) (fun b20 => ?_) (fun b20 => ?_)
          · have hf := lm_T b20 hf
            refine lv_iload_n hx hb dX5_copy_72 rfl (lv_at hl 2 rfl) ?_
            refine lv_if_lt (tgt := 121) hx hb dX5_copy_73 (by decide) (fun b21 => ?_) (fun b21 => ?_)
            · have hf := lm_T b21 hf
              refine lv_aload_n hx hb dX5_copy_121 rfl (lv_at hl 0 rfl) ?_
              refine lv_iconst (v := (2 : Int32)) hx hb dX5_copy_122 (by decide) ?_
              obtain ⟨r23, τ24, u22, hf⟩ := lm_bd2_e hf
              refine lm_endi (lm_runV C0 hR hS (c_X5_finding u22) (lw_cV 1 hts uw_549 mv_X5_finding rfl rfl hd_X5_finding ⟨Nat.le_of_ble_eq_true rfl, Nat.le_of_ble_eq_true rfl⟩) (by decide) cell_140 rfl rfl hl rfl (Nat.le_of_ble_eq_true rfl) dX5_copy_123) hS (fun H locs hR hS => ?_)
              exact lm_riM C0 hR hS hf dX5_copy_126
            · have hf := lm_F b21 hf
              refine lv_iload hx hb dX5_copy_76 (lv_at hl 4 rfl) ?_
              refine lv_if_lt (tgt := 121) hx hb dX5_copy_78 (by decide) (fun b25 => ?_) (fun b25 => ?_)
              · have hf := lm_T b25 hf
                refine lv_aload_n hx hb dX5_copy_121 rfl (lv_at hl 0 rfl) ?_
                refine lv_iconst (v := (2 : Int32)) hx hb dX5_copy_122 (by decide) ?_
                obtain ⟨r27, τ28, u26, hf⟩ := lm_bd2_e hf
                refine lm_endi (lm_runV C0 hR hS (c_X5_finding u26) (lw_cV 1 hts uw_549 mv_X5_finding rfl rfl hd_X5_finding ⟨Nat.le_of_ble_eq_true rfl, Nat.le_of_ble_eq_true rfl⟩) (by decide) cell_140 rfl rfl hl rfl (Nat.le_of_ble_eq_true rfl) dX5_copy_123) hS (fun H locs hR hS => ?_)
                exact lm_riM C0 hR hS hf dX5_copy_126
              · have hf := lm_F b25 hf
                refine lv_iload hx hb dX5_copy_81 (lv_at hl 5 rfl) ?_
                refine lv_if_lt (tgt := 121) hx hb dX5_copy_83 (by decide) (fun b29 => ?_) (fun b29 => ?_)
                · have hf := lm_T b29 hf
                  refine lv_aload_n hx hb dX5_copy_121 rfl (lv_at hl 0 rfl) ?_
                  refine lv_iconst (v := (2 : Int32)) hx hb dX5_copy_122 (by decide) ?_
                  obtain ⟨r31, τ32, u30, hf⟩ := lm_bd2_e hf
                  refine lm_endi (lm_runV C0 hR hS (c_X5_finding u30) (lw_cV 1 hts uw_549 mv_X5_finding rfl rfl hd_X5_finding ⟨Nat.le_of_ble_eq_true rfl, Nat.le_of_ble_eq_true rfl⟩) (by decide) cell_140 rfl rfl hl rfl (Nat.le_of_ble_eq_true rfl) dX5_copy_123) hS (fun H locs hR hS => ?_)
                  exact lm_riM C0 hR hS hf dX5_copy_126
                · have hf := lm_F b29 hf
                  refine lv_iload_n hx hb dX5_copy_86 rfl (lv_at hl 2 rfl) ?_
                  refine lv_i2l hx hb dX5_copy_87 rfl ?_
                  refine lv_iload hx hb dX5_copy_88 (lv_at hl 5 rfl) ?_
                  refine lv_i2l hx hb dX5_copy_90 rfl ?_
                  refine lv_ladd hx hb dX5_copy_91 ?_
                  refine lv_aload_n hx hb dX5_copy_92 rfl (lv_at hl 0 rfl) ?_
                  refine lm_get C0 hR (by decide) cell_140 rfl lw_in_X5 3 (by decide) uw_511 rfl rfl dX5_copy_93 ?_
                  refine lv_iload_n hx hb dX5_copy_96 rfl (lv_at hl 1 rfl) ?_
                  obtain ⟨z33, hf⟩ := lm_ck_e hf
                  refine lm_ild C0 hR (by decide) cell_142 z33 dX5_copy_97 ?_
                  refine lv_i2l hx hb dX5_copy_98 rfl ?_
                  refine W.lcmp hx hb dX5_copy_99 ?_
                  refine lv_if_gt (tgt := 121) hx hb dX5_copy_100 (by decide) (fun b34 => ?_) (fun b34 => ?_)
                  · have hf := lm_T b34 hf
                    refine lv_aload_n hx hb dX5_copy_121 rfl (lv_at hl 0 rfl) ?_
                    refine lv_iconst (v := (2 : Int32)) hx hb dX5_copy_122 (by decide) ?_
                    obtain ⟨r36, τ37, u35, hf⟩ := lm_bd2_e hf
                    refine lm_endi (lm_runV C0 hR hS (c_X5_finding u35) (lw_cV 1 hts uw_549 mv_X5_finding rfl rfl hd_X5_finding ⟨Nat.le_of_ble_eq_true rfl, Nat.le_of_ble_eq_true rfl⟩) (by decide) cell_140 rfl rfl hl rfl (Nat.le_of_ble_eq_true rfl) dX5_copy_123) hS (fun H locs hR hS => ?_)
                    exact lm_riM C0 hR hS hf dX5_copy_126
                  · have hf := lm_F b34 hf
                    refine lv_iload hx hb dX5_copy_103 (lv_at hl 4 rfl) ?_
                    refine lv_i2l hx hb dX5_copy_105 rfl ?_
                    refine lv_iload hx hb dX5_copy_106 (lv_at hl 5 rfl) ?_
                    refine lv_i2l hx hb dX5_copy_108 rfl ?_
                    refine lv_ladd hx hb dX5_copy_109 ?_
                    refine lv_aload_n hx hb dX5_copy_110 rfl (lv_at hl 0 rfl) ?_
                    refine lm_get C0 hR (by decide) cell_140 rfl lw_in_X5 3 (by decide) uw_511 rfl rfl dX5_copy_111 ?_
                    refine lv_iload_n hx hb dX5_copy_114 rfl (lv_at hl 3 rfl) ?_
                    obtain ⟨z38, hf⟩ := lm_ck_e hf
                    refine lm_ild C0 hR (by decide) cell_142 z38 dX5_copy_115 ?_
                    refine lv_i2l hx hb dX5_copy_116 rfl ?_
                    refine W.lcmp hx hb dX5_copy_117 ?_
                    refine lv_if_le (tgt := 127) hx hb dX5_copy_118 (by decide) (fun b39 => ?_) (fun b39 => ?_)
                    · have hf := lm_T b39 hf
                      refine lv_iload_n hx hb dX5_copy_127 rfl (lv_at hl 2 rfl) ?_
                      refine lv_iload hx hb dX5_copy_128 (lv_at hl 4 rfl) ?_
                      refine lv_icmp_lt (tgt := 137) hx hb dX5_copy_130 (by decide) (fun b40 => ?_) (fun b40 => ?_)
                      · have hf := lm_T b40 hf
                        refine lv_iconst (v := (0 : Int32)) hx hb dX5_copy_137 (by decide) ?_
                        refine lv_istore (lv' := [(6, .int (0 : Int32)), (0, .ref (B + 140)), (1, .int p1), (2, .int p2), (3, .int p3), (4, .int p4), (5, .int p5)]) hx hb dX5_copy_138 hl (by decide) rfl (fun ls hl => ?_)
                        refine lv_iconst (v := (0 : Int32)) hx hb dX5_copy_140 (by decide) ?_
                        refine lv_istore (lv' := [(7, .int (0 : Int32)), (6, .int (0 : Int32)), (0, .ref (B + 140)), (1, .int p1), (2, .int p2), (3, .int p3), (4, .int p4), (5, .int p5)]) hx hb dX5_copy_141 hl (by decide) rfl (fun ls hl => ?_)
                        exact w_X5_copy_143 C0 _ _ _ _ _ _ _ _ _ _ _ _ hR hS (lv_sub hl [2, 3, 4, 5, 6, 7, 1, 0] rfl) hf
                      · have hf := lm_F b40 hf
                        refine lv_iconst (v := (1 : Int32)) hx hb dX5_copy_133 (by decide) ?_
                        refine lv_goto (tgt := 138) hx hb dX5_copy_134 (by decide) ?_
                        refine lv_istore (lv' := [(6, .int (1 : Int32)), (0, .ref (B + 140)), (1, .int p1), (2, .int p2), (3, .int p3), (4, .int p4), (5, .int p5)]) hx hb dX5_copy_138 hl (by decide) rfl (fun ls hl => ?_)
                        refine lv_iconst (v := (0 : Int32)) hx hb dX5_copy_140 (by decide) ?_
                        refine lv_istore (lv' := [(7, .int (0 : Int32)), (6, .int (1 : Int32)), (0, .ref (B + 140)), (1, .int p1), (2, .int p2), (3, .int p3), (4, .int p4), (5, .int p5)]) hx hb dX5_copy_141 hl (by decide) rfl (fun ls hl => ?_)
                        exact w_X5_copy_143 C0 _ _ _ _ _ _ _ _ _ _ _ _ hR hS (lv_sub hl [2, 3, 4, 5, 6, 7, 1, 0] rfl) hf
                    · have hf := lm_F b39 hf
                      refine lv_aload_n hx hb dX5_copy_121 rfl (lv_at hl 0 rfl) ?_
                      refine lv_iconst (v := (2 : Int32)) hx hb dX5_copy_122 (by decide) ?_
                      obtain ⟨r42, τ43, u41, hf⟩ := lm_bd2_e hf
                      refine lm_endi (lm_runV C0 hR hS (c_X5_finding u41) (lw_cV 1 hts uw_549 mv_X5_finding rfl rfl hd_X5_finding ⟨Nat.le_of_ble_eq_true rfl, Nat.le_of_ble_eq_true rfl⟩) (by decide) cell_140 rfl rfl hl rfl (Nat.le_of_ble_eq_true rfl) dX5_copy_123) hS (fun H locs hR hS => ?_)
                      exact lm_riM C0 hR hS hf dX5_copy_126
          · have hf := lm_F b20 hf
            refine lv_aload_n hx hb dX5_copy_66 rfl (lv_at hl 0 rfl) ?_
            refine lv_iconst (v := (5 : Int32)) hx hb dX5_copy_67 (by decide) ?_
            obtain ⟨r45, τ46, u44, hf⟩ := lm_bd2_e hf
            refine lm_endi (lm_runV C0 hR hS (c_X5_finding u44) (lw_cV 1 hts uw_549 mv_X5_finding rfl rfl hd_X5_finding ⟨Nat.le_of_ble_eq_true rfl, Nat.le_of_ble_eq_true rfl⟩) (by decide) cell_140 rfl rfl hl rfl (Nat.le_of_ble_eq_true rfl) dX5_copy_68) hS (fun H locs hR hS => ?_)
            exact lm_riM C0 hR hS hf dX5_copy_71
        · have hf := lm_F b17 hf
          refine lv_aload_n hx hb dX5_copy_45 rfl (lv_at hl 0 rfl) ?_
          refine lv_iconst (v := (1 : Int32)) hx hb dX5_copy_46 (by decide) ?_
          obtain ⟨r48, τ49, u47, hf⟩ := lm_bd2_e hf
          refine lm_endi (lm_runV C0 hR hS (c_X5_finding u47) (lw_cV 1 hts uw_549 mv_X5_finding rfl rfl hd_X5_finding ⟨Nat.le_of_ble_eq_true rfl, Nat.le_of_ble_eq_true rfl⟩) (by decide) cell_140 rfl rfl hl rfl (Nat.le_of_ble_eq_true rfl) dX5_copy_47) hS (fun H locs hR hS => ?_)
          exact lm_riM C0 hR hS hf dX5_copy_50
    · have hf := lm_T b9 hf
      refine lv_ldc hx hb hown (hts _ uw_548) dX5_copy_19 ?_
      exact lm_riM C0 hR hS hf dX5_copy_21
end
/-! ===== X5_drop ===== -/
abbrev rmX5_drop : Room := { frames := 2, cells := 0, slots := 0, locals := 45 }
def f_X5_drop (τ : Mem) (p1 : Int32) : Option (Int32 × Mem) := lm_nm (up τ 140 0 (0 : Int32)) fun τ1 => lm_bd (f_X5_isRow p1) fun r3 => if r3 = 0 then (some ((-1000001 : Int32), τ1)) else (lm_nm (up τ1 140 1 (0 : Int32)) fun τ6 => lm_ck (lm_in p1 8) (if 0 ≤ (τ6 141 p1.toNatClampNeg) then (lm_ck (lm_in p1 8) (lm_nm (up τ6 141 p1.toNatClampNeg (-1 : Int32)) fun τ10 => lm_ck (lm_in p1 8) (some ((τ10 142 p1.toNatClampNeg), τ10)))) else (lm_bd2 (f_X5_finding τ6 (1 : Int32)) fun r13 τ14 => some (r13, τ14))))
abbrev wsX5_drop : List Cond := Cond.code yX5_drop cX5_drop 2 (some .int) :: lw_u
theorem mv_X5_drop : Cond.instanceMethod yX5_drop ∈ lw_u ∧ Cond.selects yX5_drop.cls yX5_drop yX5_drop ∈ lw_u ∧ Cond.initialized yX5_drop.cls ∈ lw_u ∧ Cond.code yX5_drop cX5_drop 2 (some .int) ∈ lw_u := ⟨uw_562, uw_563, uw_6, uw_564⟩
theorem hd_X5_drop : yX5_drop.cls ≠ "java/lang/invoke/MethodHandle" ∧ yX5_drop.cls ≠ "java/lang/invoke/VarHandle" ∧ (parseMethodDescriptor yX5_drop.desc).map (fun d => d.parameters.length) = some 1 := by decide +kernel
section
variable {l : Launch} {D : va_G} {cI cZ cL cR : ClassId} {B : Nat}
set_option maxRecDepth 100000 in
set_option maxHeartbeats 4000000 in
theorem c_X5_drop {τ σ τ' : Mem} {p1 : Int32} {r : Int32}  (hf : f_X5_drop τ p1 = some (r, τ')) : lm_CI l yX5_drop wsX5_drop rmX5_drop D cI cZ cL cR B [.ref (B + 140), .int p1] σ τ r σ τ' := by
  unfold f_X5_drop at hf
  refine lm_of (cc := cX5_drop) (maxL := 2) (ret := (some .int)) (own := RX5) (by decide) rfl (Nat.le_of_ble_eq_true rfl) (fun p e s m below meth c0 C0 hR ls hl => ?_)
  have hS : va_S (lm_A B) s.heap s.heap [] := va_S.rf
  have hl : lv_has ls 2 [(0, .ref (B + 140)), (1, .int p1)] := hl
  obtain ⟨hx, hb, hml, hr, hlk, hown, hts, hK, hX⟩ := id C0
  refine lv_aload_n hx hb dX5_drop_0 rfl (lv_at hl 0 rfl) ?_
  refine lv_iconst (v := (0 : Int32)) hx hb dX5_drop_1 (by decide) ?_
  obtain ⟨τ1, eτ1, hf⟩ := lm_nm_e hf
  refine lm_putM C0 hR hS (by decide) cell_140 rfl lw_in_X5 tyX5 tyX5_ok nmX5 0 (by decide) uw_508 rfl rfl rfl rfl rfl (Nat.le_of_ble_eq_true rfl) eτ1 cell_140u dX5_drop_2 (fun H locs hR hS => ?_)
  refine lv_iload_n hx hb dX5_drop_5 rfl (lv_at hl 1 rfl) ?_
  obtain ⟨r3, u2, hf⟩ := lm_bd_e hf
  refine lm_endi (lm_runS C0 hR hS (c_X5_isRow u2) (lw_cS 1 hts uw_540 mv_X5_isRow rfl rfl hd_X5_isRow ⟨Nat.le_of_ble_eq_true rfl, Nat.le_of_ble_eq_true rfl⟩) rfl hl rfl (Nat.le_of_ble_eq_true rfl) dX5_drop_6) hS (fun H locs hR hS => ?_)
  refine lv_if_ne (tgt := 15) hx hb dX5_drop_9 (by decide) (fun b5 => ?_) (fun b5 => ?_)
  · have hf := lm_F b5 hf
    refine lv_aload_n hx hb dX5_drop_15 rfl (lv_at hl 0 rfl) ?_
    refine lv_iconst (v := (0 : Int32)) hx hb dX5_drop_16 (by decide) ?_
    obtain ⟨τ6, eτ6, hf⟩ := lm_nm_e hf
    refine lm_putM C0 hR hS (by decide) cell_140 rfl lw_in_X5 tyX5 tyX5_ok nmX5 1 (by decide) uw_509 rfl rfl rfl rfl rfl (Nat.le_of_ble_eq_true rfl) eτ6 cell_140u dX5_drop_17 (fun H locs hR hS => ?_)
    refine lv_aload_n hx hb dX5_drop_20 rfl (lv_at hl 0 rfl) ?_
    refine lm_get C0 hR (by decide) cell_140 rfl lw_in_X5 2 (by decide) uw_510 rfl rfl dX5_drop_21 ?_
    refine lv_iload_n hx hb dX5_drop_24 rfl (lv_at hl 1 rfl) ?_
    obtain ⟨z7, hf⟩ := lm_ck_e hf
    refine lm_ild C0 hR (by decide) cell_141 z7 dX5_drop_25 ?_
    refine lv_if_ge (tgt := 35) hx hb dX5_drop_26 (by decide) (fun b8 => ?_) (fun b8 => ?_)
    · have hf := lm_T b8 hf
      refine lv_aload_n hx hb dX5_drop_35 rfl (lv_at hl 0 rfl) ?_
      refine lm_get C0 hR (by decide) cell_140 rfl lw_in_X5 2 (by decide) uw_510 rfl rfl dX5_drop_36 ?_
      refine lv_iload_n hx hb dX5_drop_39 rfl (lv_at hl 1 rfl) ?_
      refine lv_iconst (v := (-1 : Int32)) hx hb dX5_drop_40 (by decide) ?_
      obtain ⟨z9, hf⟩ := lm_ck_e hf
      obtain ⟨τ10, eτ10, hf⟩ := lm_nm_e hf
      refine lm_istM C0 hR hS (by decide) cell_141 z9  eτ10 cell_141u dX5_drop_41 (fun H locs hR hS => ?_)
      refine lv_aload_n hx hb dX5_drop_42 rfl (lv_at hl 0 rfl) ?_
      refine lm_get C0 hR (by decide) cell_140 rfl lw_in_X5 3 (by decide) uw_511 rfl rfl dX5_drop_43 ?_
      refine lv_iload_n hx hb dX5_drop_46 rfl (lv_at hl 1 rfl) ?_
      obtain ⟨z11, hf⟩ := lm_ck_e hf
      refine lm_ild C0 hR (by decide) cell_142 z11 dX5_drop_47 ?_
      exact lm_riM C0 hR hS hf dX5_drop_48
    · have hf := lm_F b8 hf
      refine lv_aload_n hx hb dX5_drop_29 rfl (lv_at hl 0 rfl) ?_
      refine lv_iconst (v := (1 : Int32)) hx hb dX5_drop_30 (by decide) ?_
      obtain ⟨r13, τ14, u12, hf⟩ := lm_bd2_e hf
      refine lm_endi (lm_runV C0 hR hS (c_X5_finding u12) (lw_cV 1 hts uw_549 mv_X5_finding rfl rfl hd_X5_finding ⟨Nat.le_of_ble_eq_true rfl, Nat.le_of_ble_eq_true rfl⟩) (by decide) cell_140 rfl rfl hl rfl (Nat.le_of_ble_eq_true rfl) dX5_drop_31) hS (fun H locs hR hS => ?_)
      exact lm_riM C0 hR hS hf dX5_drop_34
  · have hf := lm_T b5 hf
    refine lv_ldc hx hb hown (hts _ uw_548) dX5_drop_12 ?_
    exact lm_riM C0 hR hS hf dX5_drop_14
end
/-! ===== X5_feed ===== -/
abbrev rmX5_feed : Room := { frames := 1, cells := 0, slots := 0, locals := 25 }
def f_X5_feed (τ : Mem) (p1 : Int32) : Option (Int32 × Mem) := lm_nm (up τ 140 0 (0 : Int32)) fun τ1 => lm_bd (f_X5_in p1.toInt64 (0 : Int64) (255 : Int64)) fun r3 => if r3 = 0 then (some ((-1000001 : Int32), τ1)) else (if (τ1 140 11) = (120 : Int32) then (some ((-1000003 : Int32), τ1)) else (lm_ck (lm_in (τ1 140 11) 120) (lm_nm (up τ1 148 (τ1 140 11).toNatClampNeg p1) fun τ8 => lm_nm (up τ8 140 11 ((τ8 140 11) + (1 : Int32))) fun τ9 => some ((τ9 140 11), τ9))))
abbrev wsX5_feed : List Cond := Cond.code yX5_feed cX5_feed 2 (some .int) :: lw_u
theorem mv_X5_feed : Cond.instanceMethod yX5_feed ∈ lw_u ∧ Cond.selects yX5_feed.cls yX5_feed yX5_feed ∈ lw_u ∧ Cond.initialized yX5_feed.cls ∈ lw_u ∧ Cond.code yX5_feed cX5_feed 2 (some .int) ∈ lw_u := ⟨uw_566, uw_567, uw_6, uw_568⟩
theorem hd_X5_feed : yX5_feed.cls ≠ "java/lang/invoke/MethodHandle" ∧ yX5_feed.cls ≠ "java/lang/invoke/VarHandle" ∧ (parseMethodDescriptor yX5_feed.desc).map (fun d => d.parameters.length) = some 1 := by decide +kernel
section
variable {l : Launch} {D : va_G} {cI cZ cL cR : ClassId} {B : Nat}
set_option maxRecDepth 100000 in
set_option maxHeartbeats 4000000 in
theorem c_X5_feed {τ σ τ' : Mem} {p1 : Int32} {r : Int32}  (hf : f_X5_feed τ p1 = some (r, τ')) : lm_CI l yX5_feed wsX5_feed rmX5_feed D cI cZ cL cR B [.ref (B + 140), .int p1] σ τ r σ τ' := by
  unfold f_X5_feed at hf
  refine lm_of (cc := cX5_feed) (maxL := 2) (ret := (some .int)) (own := RX5) (by decide) rfl (Nat.le_of_ble_eq_true rfl) (fun p e s m below meth c0 C0 hR ls hl => ?_)
  have hS : va_S (lm_A B) s.heap s.heap [] := va_S.rf
  have hl : lv_has ls 2 [(0, .ref (B + 140)), (1, .int p1)] := hl
  obtain ⟨hx, hb, hml, hr, hlk, hown, hts, hK, hX⟩ := id C0
  refine lv_aload_n hx hb dX5_feed_0 rfl (lv_at hl 0 rfl) ?_
  refine lv_iconst (v := (0 : Int32)) hx hb dX5_feed_1 (by decide) ?_
  obtain ⟨τ1, eτ1, hf⟩ := lm_nm_e hf
  refine lm_putM C0 hR hS (by decide) cell_140 rfl lw_in_X5 tyX5 tyX5_ok nmX5 0 (by decide) uw_508 rfl rfl rfl rfl rfl (Nat.le_of_ble_eq_true rfl) eτ1 cell_140u dX5_feed_2 (fun H locs hR hS => ?_)
  refine lv_iload_n hx hb dX5_feed_5 rfl (lv_at hl 1 rfl) ?_
  refine lv_i2l hx hb dX5_feed_6 rfl ?_
  refine lv_lconst (v := (0 : Int64)) hx hb dX5_feed_7 (by decide) ?_
  refine lv_ldc2 hx hb hown (hts _ uw_569) dX5_feed_8 ?_
  obtain ⟨r3, u2, hf⟩ := lm_bd_e hf
  refine lm_endi (lm_runS C0 hR hS (c_X5_in u2) (lw_cS 3 hts uw_544 mv_X5_in rfl rfl hd_X5_in ⟨Nat.le_of_ble_eq_true rfl, Nat.le_of_ble_eq_true rfl⟩) rfl hl rfl (Nat.le_of_ble_eq_true rfl) dX5_feed_11) hS (fun H locs hR hS => ?_)
  refine lv_if_ne (tgt := 20) hx hb dX5_feed_14 (by decide) (fun b5 => ?_) (fun b5 => ?_)
  · have hf := lm_F b5 hf
    refine lv_aload_n hx hb dX5_feed_20 rfl (lv_at hl 0 rfl) ?_
    refine lm_get C0 hR (by decide) cell_140 rfl lw_in_X5 11 (by decide) uw_519 rfl rfl dX5_feed_21 ?_
    refine lv_bipush (v := (120 : Int32)) hx hb dX5_feed_24 (by decide) ?_
    refine lv_icmp_ne (tgt := 32) hx hb dX5_feed_26 (by decide) (fun b6 => ?_) (fun b6 => ?_)
    · have hf := lm_F b6 hf
      refine lv_aload_n hx hb dX5_feed_32 rfl (lv_at hl 0 rfl) ?_
      refine lm_get C0 hR (by decide) cell_140 rfl lw_in_X5 10 (by decide) uw_518 rfl rfl dX5_feed_33 ?_
      refine lv_aload_n hx hb dX5_feed_36 rfl (lv_at hl 0 rfl) ?_
      refine lm_get C0 hR (by decide) cell_140 rfl lw_in_X5 11 (by decide) uw_519 rfl rfl dX5_feed_37 ?_
      refine lv_iload_n hx hb dX5_feed_40 rfl (lv_at hl 1 rfl) ?_
      obtain ⟨z7, hf⟩ := lm_ck_e hf
      obtain ⟨τ8, eτ8, hf⟩ := lm_nm_e hf
      refine lm_istM C0 hR hS (by decide) cell_148 z7  eτ8 cell_148u dX5_feed_41 (fun H locs hR hS => ?_)
      refine lv_aload_n hx hb dX5_feed_42 rfl (lv_at hl 0 rfl) ?_
      refine lv_dup hx hb dX5_feed_43 rfl ?_
      refine lm_get C0 hR (by decide) cell_140 rfl lw_in_X5 11 (by decide) uw_519 rfl rfl dX5_feed_44 ?_
      refine lv_iconst (v := (1 : Int32)) hx hb dX5_feed_47 (by decide) ?_
      refine lv_iadd hx hb dX5_feed_48 ?_
      obtain ⟨τ9, eτ9, hf⟩ := lm_nm_e hf
      refine lm_putM C0 hR hS (by decide) cell_140 rfl lw_in_X5 tyX5 tyX5_ok nmX5 11 (by decide) uw_519 rfl rfl rfl rfl rfl (Nat.le_of_ble_eq_true rfl) eτ9 cell_140u dX5_feed_49 (fun H locs hR hS => ?_)
      refine lv_aload_n hx hb dX5_feed_52 rfl (lv_at hl 0 rfl) ?_
      refine lm_get C0 hR (by decide) cell_140 rfl lw_in_X5 11 (by decide) uw_519 rfl rfl dX5_feed_53 ?_
      exact lm_riM C0 hR hS hf dX5_feed_56
    · have hf := lm_T b6 hf
      refine lv_ldc hx hb hown (hts _ uw_570) dX5_feed_29 ?_
      exact lm_riM C0 hR hS hf dX5_feed_31
  · have hf := lm_T b5 hf
    refine lv_ldc hx hb hown (hts _ uw_548) dX5_feed_17 ?_
    exact lm_riM C0 hR hS hf dX5_feed_19
end
/-! ===== X5_bad ===== -/
abbrev rmX5_bad : Room := { frames := 0, cells := 0, slots := 0, locals := 0 }
def f_X5_bad (τ : Mem) (p1 : Int32) : Option (Mem) := if (τ 140 16) = 0 then (lm_nm (up τ 140 16 p1) fun τ2 => lm_nm (up τ2 140 17 (τ2 140 13)) fun τ3 => some τ3) else (some τ)
abbrev wsX5_bad : List Cond := Cond.code yX5_bad cX5_bad 2 none :: lw_u
theorem mv_X5_bad : Cond.instanceMethod yX5_bad ∈ lw_u ∧ Cond.selects yX5_bad.cls yX5_bad yX5_bad ∈ lw_u ∧ Cond.initialized yX5_bad.cls ∈ lw_u ∧ Cond.code yX5_bad cX5_bad 2 none ∈ lw_u := ⟨uw_597, uw_876, uw_6, uw_598⟩
theorem hd_X5_bad : yX5_bad.cls ≠ "java/lang/invoke/MethodHandle" ∧ yX5_bad.cls ≠ "java/lang/invoke/VarHandle" ∧ (parseMethodDescriptor yX5_bad.desc).map (fun d => d.parameters.length) = some 1 := by decide +kernel
section
variable {l : Launch} {D : va_G} {cI cZ cL cR : ClassId} {B : Nat}
set_option maxRecDepth 100000 in
set_option maxHeartbeats 4000000 in
theorem c_X5_bad {τ σ τ' : Mem} {p1 : Int32}  (hf : f_X5_bad τ p1 = some τ') : lm_CV l yX5_bad wsX5_bad rmX5_bad D cI cZ cL cR B [.ref (B + 140), .int p1] σ τ σ τ' := by
  unfold f_X5_bad at hf
  refine lm_of (cc := cX5_bad) (maxL := 2) (ret := none) (own := RX5) (by decide) rfl (Nat.le_of_ble_eq_true rfl) (fun p e s m below meth c0 C0 hR ls hl => ?_)
  have hS : va_S (lm_A B) s.heap s.heap [] := va_S.rf
  have hl : lv_has ls 2 [(0, .ref (B + 140)), (1, .int p1)] := hl
  obtain ⟨hx, hb, hml, hr, hlk, hown, hts, hK, hX⟩ := id C0
  refine lv_aload_n hx hb dX5_bad_0 rfl (lv_at hl 0 rfl) ?_
  refine lm_get C0 hR (by decide) cell_140 rfl lw_in_X5 16 (by decide) uw_524 rfl rfl dX5_bad_1 ?_
  refine lv_if_ne (tgt := 20) hx hb dX5_bad_4 (by decide) (fun b1 => ?_) (fun b1 => ?_)
  · have hf := lm_F b1 hf
    exact lm_rvM C0 hR hS hf dX5_bad_20
  · have hf := lm_T b1 hf
    refine lv_aload_n hx hb dX5_bad_7 rfl (lv_at hl 0 rfl) ?_
    refine lv_iload_n hx hb dX5_bad_8 rfl (lv_at hl 1 rfl) ?_
    obtain ⟨τ2, eτ2, hf⟩ := lm_nm_e hf
    refine lm_putM C0 hR hS (by decide) cell_140 rfl lw_in_X5 tyX5 tyX5_ok nmX5 16 (by decide) uw_524 rfl rfl rfl rfl rfl (Nat.le_of_ble_eq_true rfl) eτ2 cell_140u dX5_bad_9 (fun H locs hR hS => ?_)
    refine lv_aload_n hx hb dX5_bad_12 rfl (lv_at hl 0 rfl) ?_
    refine lv_aload_n hx hb dX5_bad_13 rfl (lv_at hl 0 rfl) ?_
    refine lm_get C0 hR (by decide) cell_140 rfl lw_in_X5 13 (by decide) uw_521 rfl rfl dX5_bad_14 ?_
    obtain ⟨τ3, eτ3, hf⟩ := lm_nm_e hf
    refine lm_putM C0 hR hS (by decide) cell_140 rfl lw_in_X5 tyX5 tyX5_ok nmX5 17 (by decide) uw_525 rfl rfl rfl rfl rfl (Nat.le_of_ble_eq_true rfl) eτ3 cell_140u dX5_bad_17 (fun H locs hR hS => ?_)
    exact lm_rvM C0 hR hS hf dX5_bad_20
end
/-! ===== X5_nextToken ===== -/
abbrev rmX5_nextToken : Room := { frames := 1, cells := 0, slots := 0, locals := 25 }
def f_X5_nextToken_255 (τ : Mem) : Option (Mem) := if ((τ 140 12) - (τ 140 13)) ≤ (2 : Int32) then (lm_nm (up τ 140 14 (3 : Int32)) fun τ34 => some τ34) else (lm_nm (up τ 140 14 (0 : Int32)) fun τ35 => some τ35)
def f_X5_nextToken_165 : Nat → Mem → Option (Mem)
  | 0, _ => none
  | n + 1, τ => if (τ 140 11) ≤ (τ 140 12) then (f_X5_nextToken_255 τ) else (lm_ck (lm_in (τ 140 12) 120) (lm_bd (f_X5_in ((τ 148 (τ 140 12).toNatClampNeg).toInt64) (48 : Int64) (57 : Int64)) fun r24 => if r24 = 0 then (f_X5_nextToken_255 τ) else (if (2 : Int32) ≤ ((τ 140 12) - (τ 140 13)) then (lm_nm (up τ 140 15 (τ 140 15)) fun τ28 => lm_nm (up τ28 140 12 ((τ28 140 12) + (1 : Int32))) fun τ29 => f_X5_nextToken_165 n τ29) else (lm_ck (lm_in (τ 140 12) 120) (lm_nm (up τ 140 15 ((((10 : Int32) * (τ 140 15)) + (τ 148 (τ 140 12).toNatClampNeg)) - (48 : Int32))) fun τ31 => lm_nm (up τ31 140 12 ((τ31 140 12) + (1 : Int32))) fun τ32 => f_X5_nextToken_165 n τ32)))))
def f_X5_nextToken_142 (y0 : Int32) (y1 : Int32) (τ : Mem) : Option (Mem) := lm_nm (up τ 140 12 (y1 + y0)) fun τ18 => if (τ18 140 14) = (3 : Int32) then (lm_nm (up τ18 140 15 ((τ18 140 15) - (48 : Int32))) fun τ20 => f_X5_nextToken_165 lm_fu τ20) else (some τ18)
def f_X5_nextToken_118 (y0 : Int32) (τ : Mem) : Option (Mem) := lm_nm (up τ 140 14 y0) fun τ16 => if (τ16 140 11) ≤ (τ16 140 12) then (f_X5_nextToken_142 (0 : Int32) (τ16 140 12) τ16) else (f_X5_nextToken_142 (1 : Int32) (τ16 140 12) τ16)
def f_X5_nextToken_34 (y0 : Int32) (τ : Mem) : Option (Mem) := lm_nm (up τ 140 15 y0) fun τ4 => if (τ4 140 12) = (τ4 140 11) then (f_X5_nextToken_118 (1 : Int32) τ4) else (lm_bd (f_X5_in ((τ4 140 15).toInt64) (97 : Int64) (122 : Int64)) fun r7 => if r7 = 0 then (lm_bd (f_X5_in ((τ4 140 15).toInt64) (48 : Int64) (57 : Int64)) fun r11 => if r11 = 0 then (if (τ4 140 15) = (44 : Int32) then (f_X5_nextToken_118 (4 : Int32) τ4) else (if (τ4 140 15) = (59 : Int32) then (f_X5_nextToken_118 (4 : Int32) τ4) else (f_X5_nextToken_118 (0 : Int32) τ4))) else (f_X5_nextToken_118 (3 : Int32) τ4)) else (f_X5_nextToken_118 (2 : Int32) τ4))
def f_X5_nextToken (τ : Mem) : Option (Mem) := lm_nm (up τ 140 13 (τ 140 12)) fun τ1 => if (τ1 140 11) ≤ (τ1 140 12) then (f_X5_nextToken_34 (-1000000 : Int32) τ1) else (lm_ck (lm_in (τ1 140 12) 120) (f_X5_nextToken_34 (τ1 148 (τ1 140 12).toNatClampNeg) τ1))
abbrev wsX5_nextToken : List Cond := Cond.code yX5_nextToken cX5_nextToken 1 none :: lw_u
theorem mv_X5_nextToken : Cond.instanceMethod yX5_nextToken ∈ lw_u ∧ Cond.selects yX5_nextToken.cls yX5_nextToken yX5_nextToken ∈ lw_u ∧ Cond.initialized yX5_nextToken.cls ∈ lw_u ∧ Cond.code yX5_nextToken cX5_nextToken 1 none ∈ lw_u := ⟨uw_583, uw_873, uw_6, uw_584⟩
theorem hd_X5_nextToken : yX5_nextToken.cls ≠ "java/lang/invoke/MethodHandle" ∧ yX5_nextToken.cls ≠ "java/lang/invoke/VarHandle" ∧ (parseMethodDescriptor yX5_nextToken.desc).map (fun d => d.parameters.length) = some 0 := by decide +kernel
section
variable {l : Launch} {D : va_G} {cI cZ cL cR : ClassId} {B : Nat}
set_option maxRecDepth 100000 in
set_option maxHeartbeats 4000000 in
theorem w_X5_nextToken_255 {p : Program} {e : Env} {s : State} {m : MethodId} {args : Array Value} {below : List Frame} {meth : Method} {c0 : Code} {σ τ' : Mem} (C0 : lm_Cx D cI cZ cL cR B p s m args meth c0 cX5_nextToken 1 none RX5) : ∀ (τ : Mem) (H : Heap) (locs : List Loc) (ls : Array Slot), va_P D vwCl (wl cI cZ cL cR B σ τ) H → va_S (lm_A B) s.heap H locs → lv_has ls 1 [(0, .ref (B + 140))] → f_X5_nextToken_255 τ = some τ' → W p l e rmX5_nextToken s m args below meth c0 H locs 0 0 (MQ below (lm_QV D cI cZ cL cR B σ τ') args s 0 0 (lm_A B)) (F0 m 255 ls []) := by
  obtain ⟨hx, hb, hml, hr, hlk, hown, hts, hK, hX⟩ := id C0
  intro τ H locs ls hR hS hl hf
  unfold f_X5_nextToken_255 at hf
  refine lv_aload_n hx hb dX5_nextToken_255 rfl (lv_at hl 0 rfl) ?_
  refine lv_aload_n hx hb dX5_nextToken_256 rfl (lv_at hl 0 rfl) ?_
  refine lm_get C0 hR (by decide) cell_140 rfl lw_in_X5 12 (by decide) uw_520 rfl rfl dX5_nextToken_257 ?_
  refine lv_aload_n hx hb dX5_nextToken_260 rfl (lv_at hl 0 rfl) ?_
  refine lm_get C0 hR (by decide) cell_140 rfl lw_in_X5 13 (by decide) uw_521 rfl rfl dX5_nextToken_261 ?_
  refine lv_isub hx hb dX5_nextToken_264 ?_
  refine lv_iconst (v := (2 : Int32)) hx hb dX5_nextToken_265 (by decide) ?_
  refine lv_icmp_le (tgt := 273) hx hb dX5_nextToken_266 (by decide) (fun b33 => ?_) (fun b33 => ?_)
  · have hf := lm_T b33 hf
    refine lv_iconst (v := (3 : Int32)) hx hb dX5_nextToken_273 (by decide) ?_
    obtain ⟨τ34, eτ34, hf⟩ := lm_nm_e hf
    refine lm_putM C0 hR hS (by decide) cell_140 rfl lw_in_X5 tyX5 tyX5_ok nmX5 14 (by decide) uw_522 rfl rfl rfl rfl rfl (Nat.le_of_ble_eq_true rfl) eτ34 cell_140u dX5_nextToken_274 (fun H locs hR hS => ?_)
    exact lm_rvM C0 hR hS hf dX5_nextToken_277
  · have hf := lm_F b33 hf
    refine lv_iconst (v := (0 : Int32)) hx hb dX5_nextToken_269 (by decide) ?_
    refine lv_goto (tgt := 274) hx hb dX5_nextToken_270 (by decide) ?_
    obtain ⟨τ35, eτ35, hf⟩ := lm_nm_e hf
    refine lm_putM C0 hR hS (by decide) cell_140 rfl lw_in_X5 tyX5 tyX5_ok nmX5 14 (by decide) uw_522 rfl rfl rfl rfl rfl (Nat.le_of_ble_eq_true rfl) eτ35 cell_140u dX5_nextToken_274 (fun H locs hR hS => ?_)
    exact lm_rvM C0 hR hS hf dX5_nextToken_277
set_option maxRecDepth 100000 in
set_option maxHeartbeats 4000000 in
theorem w_X5_nextToken_165 {p : Program} {e : Env} {s : State} {m : MethodId} {args : Array Value} {below : List Frame} {meth : Method} {c0 : Code} {σ τ' : Mem} (C0 : lm_Cx D cI cZ cL cR B p s m args meth c0 cX5_nextToken 1 none RX5) : ∀ (n : Nat), ∀ (τ : Mem) (H : Heap) (locs : List Loc) (ls : Array Slot), va_P D vwCl (wl cI cZ cL cR B σ τ) H → va_S (lm_A B) s.heap H locs → lv_has ls 1 [(0, .ref (B + 140))] → f_X5_nextToken_165 n τ = some τ' → W p l e rmX5_nextToken s m args below meth c0 H locs 0 0 (MQ below (lm_QV D cI cZ cL cR B σ τ') args s 0 0 (lm_A B)) (F0 m 165 ls []) := by
  obtain ⟨hx, hb, hml, hr, hlk, hown, hts, hK, hX⟩ := id C0
  intro n
  induction n with
  | zero =>
    intro τ H locs ls hR hS hl hf
    cases hf
  | succ n ih =>
    intro τ H locs ls hR hS hl hf
    rw [f_X5_nextToken_165] at hf
    refine lv_aload_n hx hb dX5_nextToken_165 rfl (lv_at hl 0 rfl) ?_
    refine lm_get C0 hR (by decide) cell_140 rfl lw_in_X5 12 (by decide) uw_520 rfl rfl dX5_nextToken_166 ?_
    refine lv_aload_n hx hb dX5_nextToken_169 rfl (lv_at hl 0 rfl) ?_
    refine lm_get C0 hR (by decide) cell_140 rfl lw_in_X5 11 (by decide) uw_519 rfl rfl dX5_nextToken_170 ?_
    refine lv_icmp_ge (tgt := 255) hx hb dX5_nextToken_173 (by decide) (fun b21 => ?_) (fun b21 => ?_)
    · have hf := lm_T b21 hf
      exact w_X5_nextToken_255 C0 _ _ _ _ hR hS (lv_sub hl [0] rfl) hf
    · have hf := lm_F b21 hf
      refine lv_aload_n hx hb dX5_nextToken_176 rfl (lv_at hl 0 rfl) ?_
      refine lm_get C0 hR (by decide) cell_140 rfl lw_in_X5 10 (by decide) uw_518 rfl rfl dX5_nextToken_177 ?_
      refine lv_aload_n hx hb dX5_nextToken_180 rfl (lv_at hl 0 rfl) ?_
      refine lm_get C0 hR (by decide) cell_140 rfl lw_in_X5 12 (by decide) uw_520 rfl rfl dX5_nextToken_181 ?_
      obtain ⟨z22, hf⟩ := lm_ck_e hf
      refine lm_ild C0 hR (by decide) cell_148 z22 dX5_nextToken_184 ?_
      refine lv_i2l hx hb dX5_nextToken_185 rfl ?_
      refine lv_ldc2 hx hb hown (hts _ uw_588) dX5_nextToken_186 ?_
      refine lv_ldc2 hx hb hown (hts _ uw_589) dX5_nextToken_189 ?_
      obtain ⟨r24, u23, hf⟩ := lm_bd_e hf
      refine lm_endi (lm_runS C0 hR hS (c_X5_in u23) (lw_cS 3 hts uw_544 mv_X5_in rfl rfl hd_X5_in ⟨Nat.le_of_ble_eq_true rfl, Nat.le_of_ble_eq_true rfl⟩) rfl hl rfl (Nat.le_of_ble_eq_true rfl) dX5_nextToken_192) hS (fun H locs hR hS => ?_)
      refine lv_if_eq (tgt := 255) hx hb dX5_nextToken_195 (by decide) (fun b26 => ?_) (fun b26 => ?_)
      · have hf := lm_T b26 hf
        exact w_X5_nextToken_255 C0 _ _ _ _ hR hS (lv_sub hl [0] rfl) hf
      · have hf := lm_F b26 hf
        refine lv_aload_n hx hb dX5_nextToken_198 rfl (lv_at hl 0 rfl) ?_
        refine lv_aload_n hx hb dX5_nextToken_199 rfl (lv_at hl 0 rfl) ?_
        refine lm_get C0 hR (by decide) cell_140 rfl lw_in_X5 12 (by decide) uw_520 rfl rfl dX5_nextToken_200 ?_
        refine lv_aload_n hx hb dX5_nextToken_203 rfl (lv_at hl 0 rfl) ?_
        refine lm_get C0 hR (by decide) cell_140 rfl lw_in_X5 13 (by decide) uw_521 rfl rfl dX5_nextToken_204 ?_
        refine lv_isub hx hb dX5_nextToken_207 ?_
        refine lv_iconst (v := (2 : Int32)) hx hb dX5_nextToken_208 (by decide) ?_
        refine lv_icmp_ge (tgt := 235) hx hb dX5_nextToken_209 (by decide) (fun b27 => ?_) (fun b27 => ?_)
        · have hf := lm_T b27 hf
          refine lv_aload_n hx hb dX5_nextToken_235 rfl (lv_at hl 0 rfl) ?_
          refine lm_get C0 hR (by decide) cell_140 rfl lw_in_X5 15 (by decide) uw_523 rfl rfl dX5_nextToken_236 ?_
          obtain ⟨τ28, eτ28, hf⟩ := lm_nm_e hf
          refine lm_putM C0 hR hS (by decide) cell_140 rfl lw_in_X5 tyX5 tyX5_ok nmX5 15 (by decide) uw_523 rfl rfl rfl rfl rfl (Nat.le_of_ble_eq_true rfl) eτ28 cell_140u dX5_nextToken_239 (fun H locs hR hS => ?_)
          refine lv_aload_n hx hb dX5_nextToken_242 rfl (lv_at hl 0 rfl) ?_
          refine lv_dup hx hb dX5_nextToken_243 rfl ?_
          refine lm_get C0 hR (by decide) cell_140 rfl lw_in_X5 12 (by decide) uw_520 rfl rfl dX5_nextToken_244 ?_
          refine lv_iconst (v := (1 : Int32)) hx hb dX5_nextToken_247 (by decide) ?_
          refine lv_iadd hx hb dX5_nextToken_248 ?_
          obtain ⟨τ29, eτ29, hf⟩ := lm_nm_e hf
          refine lm_putM C0 hR hS (by decide) cell_140 rfl lw_in_X5 tyX5 tyX5_ok nmX5 12 (by decide) uw_520 rfl rfl rfl rfl rfl (Nat.le_of_ble_eq_true rfl) eτ29 cell_140u dX5_nextToken_249 (fun H locs hR hS => ?_)
          refine lv_goto (tgt := 165) hx hb dX5_nextToken_252 (by decide) ?_
          exact ih _ _ _ _ hR hS (lv_sub hl [0] rfl) hf
        · have hf := lm_F b27 hf
          refine lv_bipush (v := (10 : Int32)) hx hb dX5_nextToken_212 (by decide) ?_
          refine lv_aload_n hx hb dX5_nextToken_214 rfl (lv_at hl 0 rfl) ?_
          refine lm_get C0 hR (by decide) cell_140 rfl lw_in_X5 15 (by decide) uw_523 rfl rfl dX5_nextToken_215 ?_
          refine lv_imul hx hb dX5_nextToken_218 ?_
          refine lv_aload_n hx hb dX5_nextToken_219 rfl (lv_at hl 0 rfl) ?_
          refine lm_get C0 hR (by decide) cell_140 rfl lw_in_X5 10 (by decide) uw_518 rfl rfl dX5_nextToken_220 ?_
          refine lv_aload_n hx hb dX5_nextToken_223 rfl (lv_at hl 0 rfl) ?_
          refine lm_get C0 hR (by decide) cell_140 rfl lw_in_X5 12 (by decide) uw_520 rfl rfl dX5_nextToken_224 ?_
          obtain ⟨z30, hf⟩ := lm_ck_e hf
          refine lm_ild C0 hR (by decide) cell_148 z30 dX5_nextToken_227 ?_
          refine lv_iadd hx hb dX5_nextToken_228 ?_
          refine lv_bipush (v := (48 : Int32)) hx hb dX5_nextToken_229 (by decide) ?_
          refine lv_isub hx hb dX5_nextToken_231 ?_
          refine lv_goto (tgt := 239) hx hb dX5_nextToken_232 (by decide) ?_
          obtain ⟨τ31, eτ31, hf⟩ := lm_nm_e hf
          refine lm_putM C0 hR hS (by decide) cell_140 rfl lw_in_X5 tyX5 tyX5_ok nmX5 15 (by decide) uw_523 rfl rfl rfl rfl rfl (Nat.le_of_ble_eq_true rfl) eτ31 cell_140u dX5_nextToken_239 (fun H locs hR hS => ?_)
          refine lv_aload_n hx hb dX5_nextToken_242 rfl (lv_at hl 0 rfl) ?_
          refine lv_dup hx hb dX5_nextToken_243 rfl ?_
          refine lm_get C0 hR (by decide) cell_140 rfl lw_in_X5 12 (by decide) uw_520 rfl rfl dX5_nextToken_244 ?_
          refine lv_iconst (v := (1 : Int32)) hx hb dX5_nextToken_247 (by decide) ?_
          refine lv_iadd hx hb dX5_nextToken_248 ?_
          obtain ⟨τ32, eτ32, hf⟩ := lm_nm_e hf
          refine lm_putM C0 hR hS (by decide) cell_140 rfl lw_in_X5 tyX5 tyX5_ok nmX5 12 (by decide) uw_520 rfl rfl rfl rfl rfl (Nat.le_of_ble_eq_true rfl) eτ32 cell_140u dX5_nextToken_249 (fun H locs hR hS => ?_)
          refine lv_goto (tgt := 165) hx hb dX5_nextToken_252 (by decide) ?_
          exact ih _ _ _ _ hR hS (lv_sub hl [0] rfl) hf
set_option maxRecDepth 100000 in
set_option maxHeartbeats 4000000 in
theorem w_X5_nextToken_142 {p : Program} {e : Env} {s : State} {m : MethodId} {args : Array Value} {below : List Frame} {meth : Method} {c0 : Code} {σ τ' : Mem} (C0 : lm_Cx D cI cZ cL cR B p s m args meth c0 cX5_nextToken 1 none RX5) : ∀ (y0 : Int32) (y1 : Int32) (τ : Mem) (H : Heap) (locs : List Loc) (ls : Array Slot), va_P D vwCl (wl cI cZ cL cR B σ τ) H → va_S (lm_A B) s.heap H locs → lv_has ls 1 [(0, .ref (B + 140))] → f_X5_nextToken_142 y0 y1 τ = some τ' → W p l e rmX5_nextToken s m args below meth c0 H locs 0 0 (MQ below (lm_QV D cI cZ cL cR B σ τ') args s 0 0 (lm_A B)) (F0 m 142 ls [.int y0, .int y1, .ref (B + 140)]) := by
  obtain ⟨hx, hb, hml, hr, hlk, hown, hts, hK, hX⟩ := id C0
  intro y0 y1 τ H locs ls hR hS hl hf
  unfold f_X5_nextToken_142 at hf
  refine lv_iadd hx hb dX5_nextToken_142 ?_
  obtain ⟨τ18, eτ18, hf⟩ := lm_nm_e hf
  refine lm_putM C0 hR hS (by decide) cell_140 rfl lw_in_X5 tyX5 tyX5_ok nmX5 12 (by decide) uw_520 rfl rfl rfl rfl rfl (Nat.le_of_ble_eq_true rfl) eτ18 cell_140u dX5_nextToken_143 (fun H locs hR hS => ?_)
  refine lv_aload_n hx hb dX5_nextToken_146 rfl (lv_at hl 0 rfl) ?_
  refine lm_get C0 hR (by decide) cell_140 rfl lw_in_X5 14 (by decide) uw_522 rfl rfl dX5_nextToken_147 ?_
  refine lv_iconst (v := (3 : Int32)) hx hb dX5_nextToken_150 (by decide) ?_
  refine lv_icmp_ne (tgt := 277) hx hb dX5_nextToken_151 (by decide) (fun b19 => ?_) (fun b19 => ?_)
  · have hf := lm_F b19 hf
    exact lm_rvM C0 hR hS hf dX5_nextToken_277
  · have hf := lm_T b19 hf
    refine lv_aload_n hx hb dX5_nextToken_154 rfl (lv_at hl 0 rfl) ?_
    refine lv_dup hx hb dX5_nextToken_155 rfl ?_
    refine lm_get C0 hR (by decide) cell_140 rfl lw_in_X5 15 (by decide) uw_523 rfl rfl dX5_nextToken_156 ?_
    refine lv_bipush (v := (48 : Int32)) hx hb dX5_nextToken_159 (by decide) ?_
    refine lv_isub hx hb dX5_nextToken_161 ?_
    obtain ⟨τ20, eτ20, hf⟩ := lm_nm_e hf
    refine lm_putM C0 hR hS (by decide) cell_140 rfl lw_in_X5 tyX5 tyX5_ok nmX5 15 (by decide) uw_523 rfl rfl rfl rfl rfl (Nat.le_of_ble_eq_true rfl) eτ20 cell_140u dX5_nextToken_162 (fun H locs hR hS => ?_)
    exact w_X5_nextToken_165 C0 _ _ _ _ _ hR hS (lv_sub hl [0] rfl) hf
set_option maxRecDepth 100000 in
set_option maxHeartbeats 4000000 in
theorem w_X5_nextToken_118 {p : Program} {e : Env} {s : State} {m : MethodId} {args : Array Value} {below : List Frame} {meth : Method} {c0 : Code} {σ τ' : Mem} (C0 : lm_Cx D cI cZ cL cR B p s m args meth c0 cX5_nextToken 1 none RX5) : ∀ (y0 : Int32) (τ : Mem) (H : Heap) (locs : List Loc) (ls : Array Slot), va_P D vwCl (wl cI cZ cL cR B σ τ) H → va_S (lm_A B) s.heap H locs → lv_has ls 1 [(0, .ref (B + 140))] → f_X5_nextToken_118 y0 τ = some τ' → W p l e rmX5_nextToken s m args below meth c0 H locs 0 0 (MQ below (lm_QV D cI cZ cL cR B σ τ') args s 0 0 (lm_A B)) (F0 m 118 ls [.int y0, .ref (B + 140)]) := by
  obtain ⟨hx, hb, hml, hr, hlk, hown, hts, hK, hX⟩ := id C0
  intro y0 τ H locs ls hR hS hl hf
  unfold f_X5_nextToken_118 at hf
  obtain ⟨τ16, eτ16, hf⟩ := lm_nm_e hf
  refine lm_putM C0 hR hS (by decide) cell_140 rfl lw_in_X5 tyX5 tyX5_ok nmX5 14 (by decide) uw_522 rfl rfl rfl rfl rfl (Nat.le_of_ble_eq_true rfl) eτ16 cell_140u dX5_nextToken_118 (fun H locs hR hS => ?_)
  refine lv_aload_n hx hb dX5_nextToken_121 rfl (lv_at hl 0 rfl) ?_
  refine lv_dup hx hb dX5_nextToken_122 rfl ?_
  refine lm_get C0 hR (by decide) cell_140 rfl lw_in_X5 12 (by decide) uw_520 rfl rfl dX5_nextToken_123 ?_
  refine lv_aload_n hx hb dX5_nextToken_126 rfl (lv_at hl 0 rfl) ?_
  refine lm_get C0 hR (by decide) cell_140 rfl lw_in_X5 12 (by decide) uw_520 rfl rfl dX5_nextToken_127 ?_
  refine lv_aload_n hx hb dX5_nextToken_130 rfl (lv_at hl 0 rfl) ?_
  refine lm_get C0 hR (by decide) cell_140 rfl lw_in_X5 11 (by decide) uw_519 rfl rfl dX5_nextToken_131 ?_
  refine lv_icmp_ge (tgt := 141) hx hb dX5_nextToken_134 (by decide) (fun b17 => ?_) (fun b17 => ?_)
  · have hf := lm_T b17 hf
    refine lv_iconst (v := (0 : Int32)) hx hb dX5_nextToken_141 (by decide) ?_
    exact w_X5_nextToken_142 C0 _ _ _ _ _ _ hR hS (lv_sub hl [0] rfl) hf
  · have hf := lm_F b17 hf
    refine lv_iconst (v := (1 : Int32)) hx hb dX5_nextToken_137 (by decide) ?_
    refine lv_goto (tgt := 142) hx hb dX5_nextToken_138 (by decide) ?_
    exact w_X5_nextToken_142 C0 _ _ _ _ _ _ hR hS (lv_sub hl [0] rfl) hf
set_option maxRecDepth 100000 in
set_option maxHeartbeats 4000000 in
theorem w_X5_nextToken_34 {p : Program} {e : Env} {s : State} {m : MethodId} {args : Array Value} {below : List Frame} {meth : Method} {c0 : Code} {σ τ' : Mem} (C0 : lm_Cx D cI cZ cL cR B p s m args meth c0 cX5_nextToken 1 none RX5) : ∀ (y0 : Int32) (τ : Mem) (H : Heap) (locs : List Loc) (ls : Array Slot), va_P D vwCl (wl cI cZ cL cR B σ τ) H → va_S (lm_A B) s.heap H locs → lv_has ls 1 [(0, .ref (B + 140))] → f_X5_nextToken_34 y0 τ = some τ' → W p l e rmX5_nextToken s m args below meth c0 H locs 0 0 (MQ below (lm_QV D cI cZ cL cR B σ τ') args s 0 0 (lm_A B)) (F0 m 34 ls [.int y0, .ref (B + 140)]) := by
  obtain ⟨hx, hb, hml, hr, hlk, hown, hts, hK, hX⟩ := id C0
  intro y0 τ H locs ls hR hS hl hf
  unfold f_X5_nextToken_34 at hf
  obtain ⟨τ4, eτ4, hf⟩ := lm_nm_e hf
  refine lm_putM C0 hR hS (by decide) cell_140 rfl lw_in_X5 tyX5 tyX5_ok nmX5 15 (by decide) uw_523 rfl rfl rfl rfl rfl (Nat.le_of_ble_eq_true rfl) eτ4 cell_140u dX5_nextToken_34 (fun H locs hR hS => ?_)
  refine lv_aload_n hx hb dX5_nextToken_37 rfl (lv_at hl 0 rfl) ?_
  refine lv_aload_n hx hb dX5_nextToken_38 rfl (lv_at hl 0 rfl) ?_
  refine lm_get C0 hR (by decide) cell_140 rfl lw_in_X5 12 (by decide) uw_520 rfl rfl dX5_nextToken_39 ?_
  refine lv_aload_n hx hb dX5_nextToken_42 rfl (lv_at hl 0 rfl) ?_
  refine lm_get C0 hR (by decide) cell_140 rfl lw_in_X5 11 (by decide) uw_519 rfl rfl dX5_nextToken_43 ?_
  refine lv_icmp_ne (tgt := 53) hx hb dX5_nextToken_46 (by decide) (fun b5 => ?_) (fun b5 => ?_)
  · have hf := lm_F b5 hf
    refine lv_aload_n hx hb dX5_nextToken_53 rfl (lv_at hl 0 rfl) ?_
    refine lm_get C0 hR (by decide) cell_140 rfl lw_in_X5 15 (by decide) uw_523 rfl rfl dX5_nextToken_54 ?_
    refine lv_i2l hx hb dX5_nextToken_57 rfl ?_
    refine lv_ldc2 hx hb hown (hts _ uw_586) dX5_nextToken_58 ?_
    refine lv_ldc2 hx hb hown (hts _ uw_587) dX5_nextToken_61 ?_
    obtain ⟨r7, u6, hf⟩ := lm_bd_e hf
    refine lm_endi (lm_runS C0 hR hS (c_X5_in u6) (lw_cS 3 hts uw_544 mv_X5_in rfl rfl hd_X5_in ⟨Nat.le_of_ble_eq_true rfl, Nat.le_of_ble_eq_true rfl⟩) rfl hl rfl (Nat.le_of_ble_eq_true rfl) dX5_nextToken_64) hS (fun H locs hR hS => ?_)
    refine lv_if_eq (tgt := 74) hx hb dX5_nextToken_67 (by decide) (fun b9 => ?_) (fun b9 => ?_)
    · have hf := lm_T b9 hf
      refine lv_aload_n hx hb dX5_nextToken_74 rfl (lv_at hl 0 rfl) ?_
      refine lm_get C0 hR (by decide) cell_140 rfl lw_in_X5 15 (by decide) uw_523 rfl rfl dX5_nextToken_75 ?_
      refine lv_i2l hx hb dX5_nextToken_78 rfl ?_
      refine lv_ldc2 hx hb hown (hts _ uw_588) dX5_nextToken_79 ?_
      refine lv_ldc2 hx hb hown (hts _ uw_589) dX5_nextToken_82 ?_
      obtain ⟨r11, u10, hf⟩ := lm_bd_e hf
      refine lm_endi (lm_runS C0 hR hS (c_X5_in u10) (lw_cS 3 hts uw_544 mv_X5_in rfl rfl hd_X5_in ⟨Nat.le_of_ble_eq_true rfl, Nat.le_of_ble_eq_true rfl⟩) rfl hl rfl (Nat.le_of_ble_eq_true rfl) dX5_nextToken_85) hS (fun H locs hR hS => ?_)
      refine lv_if_eq (tgt := 95) hx hb dX5_nextToken_88 (by decide) (fun b13 => ?_) (fun b13 => ?_)
      · have hf := lm_T b13 hf
        refine lv_aload_n hx hb dX5_nextToken_95 rfl (lv_at hl 0 rfl) ?_
        refine lm_get C0 hR (by decide) cell_140 rfl lw_in_X5 15 (by decide) uw_523 rfl rfl dX5_nextToken_96 ?_
        refine lv_bipush (v := (44 : Int32)) hx hb dX5_nextToken_99 (by decide) ?_
        refine lv_icmp_eq (tgt := 113) hx hb dX5_nextToken_101 (by decide) (fun b14 => ?_) (fun b14 => ?_)
        · have hf := lm_T b14 hf
          refine lv_iconst (v := (4 : Int32)) hx hb dX5_nextToken_113 (by decide) ?_
          refine lv_goto (tgt := 118) hx hb dX5_nextToken_114 (by decide) ?_
          exact w_X5_nextToken_118 C0 _ _ _ _ _ hR hS (lv_sub hl [0] rfl) hf
        · have hf := lm_F b14 hf
          refine lv_aload_n hx hb dX5_nextToken_104 rfl (lv_at hl 0 rfl) ?_
          refine lm_get C0 hR (by decide) cell_140 rfl lw_in_X5 15 (by decide) uw_523 rfl rfl dX5_nextToken_105 ?_
          refine lv_bipush (v := (59 : Int32)) hx hb dX5_nextToken_108 (by decide) ?_
          refine lv_icmp_ne (tgt := 117) hx hb dX5_nextToken_110 (by decide) (fun b15 => ?_) (fun b15 => ?_)
          · have hf := lm_F b15 hf
            refine lv_iconst (v := (0 : Int32)) hx hb dX5_nextToken_117 (by decide) ?_
            exact w_X5_nextToken_118 C0 _ _ _ _ _ hR hS (lv_sub hl [0] rfl) hf
          · have hf := lm_T b15 hf
            refine lv_iconst (v := (4 : Int32)) hx hb dX5_nextToken_113 (by decide) ?_
            refine lv_goto (tgt := 118) hx hb dX5_nextToken_114 (by decide) ?_
            exact w_X5_nextToken_118 C0 _ _ _ _ _ hR hS (lv_sub hl [0] rfl) hf
      · have hf := lm_F b13 hf
        refine lv_iconst (v := (3 : Int32)) hx hb dX5_nextToken_91 (by decide) ?_
        refine lv_goto (tgt := 118) hx hb dX5_nextToken_92 (by decide) ?_
        exact w_X5_nextToken_118 C0 _ _ _ _ _ hR hS (lv_sub hl [0] rfl) hf
    · have hf := lm_F b9 hf
      refine lv_iconst (v := (2 : Int32)) hx hb dX5_nextToken_70 (by decide) ?_
      refine lv_goto (tgt := 118) hx hb dX5_nextToken_71 (by decide) ?_
      exact w_X5_nextToken_118 C0 _ _ _ _ _ hR hS (lv_sub hl [0] rfl) hf
  · have hf := lm_T b5 hf
    refine lv_iconst (v := (1 : Int32)) hx hb dX5_nextToken_49 (by decide) ?_
    refine lv_goto (tgt := 118) hx hb dX5_nextToken_50 (by decide) ?_
    exact w_X5_nextToken_118 C0 _ _ _ _ _ hR hS (lv_sub hl [0] rfl) hf
set_option maxRecDepth 100000 in
set_option maxHeartbeats 4000000 in
theorem c_X5_nextToken {τ σ τ' : Mem}  (hf : f_X5_nextToken τ = some τ') : lm_CV l yX5_nextToken wsX5_nextToken rmX5_nextToken D cI cZ cL cR B [.ref (B + 140)] σ τ σ τ' := by
  unfold f_X5_nextToken at hf
  refine lm_of (cc := cX5_nextToken) (maxL := 1) (ret := none) (own := RX5) (by decide) rfl (Nat.le_of_ble_eq_true rfl) (fun p e s m below meth c0 C0 hR ls hl => ?_)
  have hS : va_S (lm_A B) s.heap s.heap [] := va_S.rf
  have hl : lv_has ls 1 [(0, .ref (B + 140))] := hl
  obtain ⟨hx, hb, hml, hr, hlk, hown, hts, hK, hX⟩ := id C0
  refine lv_aload_n hx hb dX5_nextToken_0 rfl (lv_at hl 0 rfl) ?_
  refine lv_aload_n hx hb dX5_nextToken_1 rfl (lv_at hl 0 rfl) ?_
  refine lm_get C0 hR (by decide) cell_140 rfl lw_in_X5 12 (by decide) uw_520 rfl rfl dX5_nextToken_2 ?_
  obtain ⟨τ1, eτ1, hf⟩ := lm_nm_e hf
  refine lm_putM C0 hR hS (by decide) cell_140 rfl lw_in_X5 tyX5 tyX5_ok nmX5 13 (by decide) uw_521 rfl rfl rfl rfl rfl (Nat.le_of_ble_eq_true rfl) eτ1 cell_140u dX5_nextToken_5 (fun H locs hR hS => ?_)
  refine lv_aload_n hx hb dX5_nextToken_8 rfl (lv_at hl 0 rfl) ?_
  refine lv_aload_n hx hb dX5_nextToken_9 rfl (lv_at hl 0 rfl) ?_
  refine lm_get C0 hR (by decide) cell_140 rfl lw_in_X5 12 (by decide) uw_520 rfl rfl dX5_nextToken_10 ?_
  refine lv_aload_n hx hb dX5_nextToken_13 rfl (lv_at hl 0 rfl) ?_
  refine lm_get C0 hR (by decide) cell_140 rfl lw_in_X5 11 (by decide) uw_519 rfl rfl dX5_nextToken_14 ?_
  refine lv_icmp_ge (tgt := 32) hx hb dX5_nextToken_17 (by decide) (fun b2 => ?_) (fun b2 => ?_)
  · have hf := lm_T b2 hf
    refine lv_ldc hx hb hown (hts _ uw_585) dX5_nextToken_32 ?_
    exact w_X5_nextToken_34 C0 _ _ _ _ _ hR hS (lv_sub hl [0] rfl) hf
  · have hf := lm_F b2 hf
    refine lv_aload_n hx hb dX5_nextToken_20 rfl (lv_at hl 0 rfl) ?_
    refine lm_get C0 hR (by decide) cell_140 rfl lw_in_X5 10 (by decide) uw_518 rfl rfl dX5_nextToken_21 ?_
    refine lv_aload_n hx hb dX5_nextToken_24 rfl (lv_at hl 0 rfl) ?_
    refine lm_get C0 hR (by decide) cell_140 rfl lw_in_X5 12 (by decide) uw_520 rfl rfl dX5_nextToken_25 ?_
    obtain ⟨z3, hf⟩ := lm_ck_e hf
    refine lm_ild C0 hR (by decide) cell_148 z3 dX5_nextToken_28 ?_
    refine lv_goto (tgt := 34) hx hb dX5_nextToken_29 (by decide) ?_
    exact w_X5_nextToken_34 C0 _ _ _ _ _ hR hS (lv_sub hl [0] rfl) hf
end
/-! ===== X5_must ===== -/
abbrev rmX5_must : Room := { frames := 2, cells := 0, slots := 0, locals := 45 }
def f_X5_must (τ : Mem) (p1 : Int32) : Option (Mem) := if p1 = 0 then (lm_bd (f_X5_bad τ (1 : Int32)) fun τ8 => if (τ8 140 16) = 0 then (lm_bd (f_X5_nextToken τ8) fun τ12 => some τ12) else (some τ8)) else (if (τ 140 16) = 0 then (lm_bd (f_X5_nextToken τ) fun τ5 => some τ5) else (some τ))
abbrev wsX5_must : List Cond := Cond.code yX5_must cX5_must 2 none :: lw_u
theorem mv_X5_must : Cond.instanceMethod yX5_must ∈ lw_u ∧ Cond.selects yX5_must.cls yX5_must yX5_must ∈ lw_u ∧ Cond.initialized yX5_must.cls ∈ lw_u ∧ Cond.code yX5_must cX5_must 2 none ∈ lw_u := ⟨uw_594, uw_875, uw_6, uw_595⟩
theorem hd_X5_must : yX5_must.cls ≠ "java/lang/invoke/MethodHandle" ∧ yX5_must.cls ≠ "java/lang/invoke/VarHandle" ∧ (parseMethodDescriptor yX5_must.desc).map (fun d => d.parameters.length) = some 1 := by decide +kernel
section
variable {l : Launch} {D : va_G} {cI cZ cL cR : ClassId} {B : Nat}
set_option maxRecDepth 100000 in
set_option maxHeartbeats 4000000 in
theorem c_X5_must {τ σ τ' : Mem} {p1 : Int32}  (hf : f_X5_must τ p1 = some τ') : lm_CV l yX5_must wsX5_must rmX5_must D cI cZ cL cR B [.ref (B + 140), .int p1] σ τ σ τ' := by
  unfold f_X5_must at hf
  refine lm_of (cc := cX5_must) (maxL := 2) (ret := none) (own := RX5) (by decide) rfl (Nat.le_of_ble_eq_true rfl) (fun p e s m below meth c0 C0 hR ls hl => ?_)
  have hS : va_S (lm_A B) s.heap s.heap [] := va_S.rf
  have hl : lv_has ls 2 [(0, .ref (B + 140)), (1, .int p1)] := hl
  obtain ⟨hx, hb, hml, hr, hlk, hown, hts, hK, hX⟩ := id C0
  refine lv_iload_n hx hb dX5_must_0 rfl (lv_at hl 1 rfl) ?_
  refine lv_if_ne (tgt := 9) hx hb dX5_must_1 (by decide) (fun b1 => ?_) (fun b1 => ?_)
  · have hf := lm_F b1 hf
    refine lv_aload_n hx hb dX5_must_9 rfl (lv_at hl 0 rfl) ?_
    refine lm_get C0 hR (by decide) cell_140 rfl lw_in_X5 16 (by decide) uw_524 rfl rfl dX5_must_10 ?_
    refine lv_if_ne (tgt := 20) hx hb dX5_must_13 (by decide) (fun b2 => ?_) (fun b2 => ?_)
    · have hf := lm_F b2 hf
      exact lm_rvM C0 hR hS hf dX5_must_20
    · have hf := lm_T b2 hf
      refine lv_aload_n hx hb dX5_must_16 rfl (lv_at hl 0 rfl) ?_
      obtain ⟨τ5, u3, hf⟩ := lm_bd_e hf
      refine lm_endv (lm_runV C0 hR hS (c_X5_nextToken u3) (lw_cV 0 hts uw_582 mv_X5_nextToken rfl rfl hd_X5_nextToken ⟨Nat.le_of_ble_eq_true rfl, Nat.le_of_ble_eq_true rfl⟩) (by decide) cell_140 rfl rfl hl rfl (Nat.le_of_ble_eq_true rfl) dX5_must_17) hS (fun H locs hR hS => ?_)
      exact lm_rvM C0 hR hS hf dX5_must_20
  · have hf := lm_T b1 hf
    refine lv_aload_n hx hb dX5_must_4 rfl (lv_at hl 0 rfl) ?_
    refine lv_iconst (v := (1 : Int32)) hx hb dX5_must_5 (by decide) ?_
    obtain ⟨τ8, u6, hf⟩ := lm_bd_e hf
    refine lm_endv (lm_runV C0 hR hS (c_X5_bad u6) (lw_cV 1 hts uw_596 mv_X5_bad rfl rfl hd_X5_bad ⟨Nat.le_of_ble_eq_true rfl, Nat.le_of_ble_eq_true rfl⟩) (by decide) cell_140 rfl rfl hl rfl (Nat.le_of_ble_eq_true rfl) dX5_must_6) hS (fun H locs hR hS => ?_)
    refine lv_aload_n hx hb dX5_must_9 rfl (lv_at hl 0 rfl) ?_
    refine lm_get C0 hR (by decide) cell_140 rfl lw_in_X5 16 (by decide) uw_524 rfl rfl dX5_must_10 ?_
    refine lv_if_ne (tgt := 20) hx hb dX5_must_13 (by decide) (fun b9 => ?_) (fun b9 => ?_)
    · have hf := lm_F b9 hf
      exact lm_rvM C0 hR hS hf dX5_must_20
    · have hf := lm_T b9 hf
      refine lv_aload_n hx hb dX5_must_16 rfl (lv_at hl 0 rfl) ?_
      obtain ⟨τ12, u10, hf⟩ := lm_bd_e hf
      refine lm_endv (lm_runV C0 hR hS (c_X5_nextToken u10) (lw_cV 0 hts uw_582 mv_X5_nextToken rfl rfl hd_X5_nextToken ⟨Nat.le_of_ble_eq_true rfl, Nat.le_of_ble_eq_true rfl⟩) (by decide) cell_140 rfl rfl hl rfl (Nat.le_of_ble_eq_true rfl) dX5_must_17) hS (fun H locs hR hS => ?_)
      exact lm_rvM C0 hR hS hf dX5_must_20
end
/-! ===== X5_isLetter ===== -/
abbrev rmX5_isLetter : Room := { frames := 0, cells := 0, slots := 0, locals := 0 }
def f_X5_isLetter (τ : Mem) (p1 : Int32) : Option (Int32) := if (τ 140 16) = 0 then (if (τ 140 14) = (2 : Int32) then (if (τ 140 15) = p1 then (some (1 : Int32)) else (some (0 : Int32))) else (some (0 : Int32))) else (some (0 : Int32))
abbrev wsX5_isLetter : List Cond := Cond.code yX5_isLetter cX5_isLetter 2 (some .boolean) :: lw_u
theorem mv_X5_isLetter : Cond.instanceMethod yX5_isLetter ∈ lw_u ∧ Cond.selects yX5_isLetter.cls yX5_isLetter yX5_isLetter ∈ lw_u ∧ Cond.initialized yX5_isLetter.cls ∈ lw_u ∧ Cond.code yX5_isLetter cX5_isLetter 2 (some .boolean) ∈ lw_u := ⟨uw_591, uw_874, uw_6, uw_592⟩
theorem hd_X5_isLetter : yX5_isLetter.cls ≠ "java/lang/invoke/MethodHandle" ∧ yX5_isLetter.cls ≠ "java/lang/invoke/VarHandle" ∧ (parseMethodDescriptor yX5_isLetter.desc).map (fun d => d.parameters.length) = some 1 := by decide +kernel
section
variable {l : Launch} {D : va_G} {cI cZ cL cR : ClassId} {B : Nat}
set_option maxRecDepth 100000 in
set_option maxHeartbeats 4000000 in
theorem c_X5_isLetter {τ σ : Mem} {p1 : Int32} {r : Int32}  (hf : f_X5_isLetter τ p1 = some r) : lm_CI l yX5_isLetter wsX5_isLetter rmX5_isLetter D cI cZ cL cR B [.ref (B + 140), .int p1] σ τ r σ τ := by
  unfold f_X5_isLetter at hf
  refine lm_of (cc := cX5_isLetter) (maxL := 2) (ret := (some .boolean)) (own := RX5) (by decide) rfl (Nat.le_of_ble_eq_true rfl) (fun p e s m below meth c0 C0 hR ls hl => ?_)
  have hS : va_S (lm_A B) s.heap s.heap [] := va_S.rf
  have hl : lv_has ls 2 [(0, .ref (B + 140)), (1, .int p1)] := hl
  obtain ⟨hx, hb, hml, hr, hlk, hown, hts, hK, hX⟩ := id C0
  refine lv_aload_n hx hb dX5_isLetter_0 rfl (lv_at hl 0 rfl) ?_
  refine lm_get C0 hR (by decide) cell_140 rfl lw_in_X5 16 (by decide) uw_524 rfl rfl dX5_isLetter_1 ?_
  refine lv_if_ne (tgt := 27) hx hb dX5_isLetter_4 (by decide) (fun b1 => ?_) (fun b1 => ?_)
  · have hf := lm_F b1 hf
    refine lv_iconst (v := (0 : Int32)) hx hb dX5_isLetter_27 (by decide) ?_
    exact lm_rzP C0 hR hS hf rfl dX5_isLetter_28
  · have hf := lm_T b1 hf
    refine lv_aload_n hx hb dX5_isLetter_7 rfl (lv_at hl 0 rfl) ?_
    refine lm_get C0 hR (by decide) cell_140 rfl lw_in_X5 14 (by decide) uw_522 rfl rfl dX5_isLetter_8 ?_
    refine lv_iconst (v := (2 : Int32)) hx hb dX5_isLetter_11 (by decide) ?_
    refine lv_icmp_ne (tgt := 27) hx hb dX5_isLetter_12 (by decide) (fun b2 => ?_) (fun b2 => ?_)
    · have hf := lm_F b2 hf
      refine lv_iconst (v := (0 : Int32)) hx hb dX5_isLetter_27 (by decide) ?_
      exact lm_rzP C0 hR hS hf rfl dX5_isLetter_28
    · have hf := lm_T b2 hf
      refine lv_aload_n hx hb dX5_isLetter_15 rfl (lv_at hl 0 rfl) ?_
      refine lm_get C0 hR (by decide) cell_140 rfl lw_in_X5 15 (by decide) uw_523 rfl rfl dX5_isLetter_16 ?_
      refine lv_iload_n hx hb dX5_isLetter_19 rfl (lv_at hl 1 rfl) ?_
      refine lv_icmp_ne (tgt := 27) hx hb dX5_isLetter_20 (by decide) (fun b3 => ?_) (fun b3 => ?_)
      · have hf := lm_F b3 hf
        refine lv_iconst (v := (0 : Int32)) hx hb dX5_isLetter_27 (by decide) ?_
        exact lm_rzP C0 hR hS hf rfl dX5_isLetter_28
      · have hf := lm_T b3 hf
        refine lv_iconst (v := (1 : Int32)) hx hb dX5_isLetter_23 (by decide) ?_
        refine lv_goto (tgt := 28) hx hb dX5_isLetter_24 (by decide) ?_
        exact lm_rzP C0 hR hS hf rfl dX5_isLetter_28
end
/-! ===== X5_number ===== -/
abbrev rmX5_number : Room := { frames := 3, cells := 0, slots := 0, locals := 66 }
def f_X5_number_47 (x1 : Int32) (τ : Mem) : Option (Int32 × Mem) := if (τ 140 16) = 0 then (lm_nm (τ 140 15) fun v18 => lm_bd (f_X5_must τ (1 : Int32)) fun τ21 => some (v18, τ21)) else (lm_bd (f_X5_must τ (1 : Int32)) fun τ17 => some (x1, τ17))
def f_X5_number_20 (x1 : Int32) (x2 : Int32) (τ : Mem) : Option (Int32 × Mem) := if (τ 140 16) = 0 then (lm_bd (f_X5_in ((τ 140 15).toInt64) x1.toInt64 x2.toInt64) fun r8 => if r8 = 0 then (lm_bd (f_X5_bad τ (2 : Int32)) fun τ13 => f_X5_number_47 x1 τ13) else (f_X5_number_47 x1 τ)) else (f_X5_number_47 x1 τ)
def f_X5_number (τ : Mem) (p1 : Int32) (p2 : Int32) : Option (Int32 × Mem) := if (τ 140 16) = 0 then (if (τ 140 14) = (3 : Int32) then (f_X5_number_20 p1 p2 τ) else (lm_bd (f_X5_bad τ (1 : Int32)) fun τ5 => f_X5_number_20 p1 p2 τ5)) else (f_X5_number_20 p1 p2 τ)
abbrev wsX5_number : List Cond := Cond.code yX5_number cX5_number 4 (some .int) :: lw_u
theorem mv_X5_number : Cond.instanceMethod yX5_number ∈ lw_u ∧ Cond.selects yX5_number.cls yX5_number yX5_number ∈ lw_u ∧ Cond.initialized yX5_number.cls ∈ lw_u ∧ Cond.code yX5_number cX5_number 4 (some .int) ∈ lw_u := ⟨uw_600, uw_877, uw_6, uw_601⟩
theorem hd_X5_number : yX5_number.cls ≠ "java/lang/invoke/MethodHandle" ∧ yX5_number.cls ≠ "java/lang/invoke/VarHandle" ∧ (parseMethodDescriptor yX5_number.desc).map (fun d => d.parameters.length) = some 2 := by decide +kernel
section
variable {l : Launch} {D : va_G} {cI cZ cL cR : ClassId} {B : Nat}
set_option maxRecDepth 100000 in
set_option maxHeartbeats 4000000 in
theorem w_X5_number_47 {p : Program} {e : Env} {s : State} {m : MethodId} {args : Array Value} {below : List Frame} {meth : Method} {c0 : Code} {σ τ' : Mem} {r : Int32} (C0 : lm_Cx D cI cZ cL cR B p s m args meth c0 cX5_number 4 (some .int) RX5) : ∀ (x1 : Int32) (τ : Mem) (H : Heap) (locs : List Loc) (ls : Array Slot), va_P D vwCl (wl cI cZ cL cR B σ τ) H → va_S (lm_A B) s.heap H locs → lv_has ls 4 [(0, .ref (B + 140)), (1, .int x1)] → f_X5_number_47 x1 τ = some (r, τ') → W p l e rmX5_number s m args below meth c0 H locs 0 0 (MQ below (lm_QI D cI cZ cL cR B r σ τ') args s 0 0 (lm_A B)) (F0 m 47 ls []) := by
  obtain ⟨hx, hb, hml, hr, hlk, hown, hts, hK, hX⟩ := id C0
  intro x1 τ H locs ls hR hS hl hf
  unfold f_X5_number_47 at hf
  refine lv_aload_n hx hb dX5_number_47 rfl (lv_at hl 0 rfl) ?_
  refine lm_get C0 hR (by decide) cell_140 rfl lw_in_X5 16 (by decide) uw_524 rfl rfl dX5_number_48 ?_
  refine lv_if_ne (tgt := 61) hx hb dX5_number_51 (by decide) (fun b14 => ?_) (fun b14 => ?_)
  · have hf := lm_F b14 hf
    refine lv_iload_n hx hb dX5_number_61 rfl (lv_at hl 1 rfl) ?_
    refine lv_istore_n (lv' := [(3, .int x1), (0, .ref (B + 140)), (1, .int x1)]) hx hb dX5_number_62 rfl hl (by decide) rfl (fun ls hl => ?_)
    refine lv_aload_n hx hb dX5_number_63 rfl (lv_at hl 1 rfl) ?_
    refine lv_iconst (v := (1 : Int32)) hx hb dX5_number_64 (by decide) ?_
    obtain ⟨τ17, u15, hf⟩ := lm_bd_e hf
    refine lm_endv (lm_runV C0 hR hS (c_X5_must u15) (lw_cV 1 hts uw_593 mv_X5_must rfl rfl hd_X5_must ⟨Nat.le_of_ble_eq_true rfl, Nat.le_of_ble_eq_true rfl⟩) (by decide) cell_140 rfl rfl hl rfl (Nat.le_of_ble_eq_true rfl) dX5_number_65) hS (fun H locs hR hS => ?_)
    refine lv_iload_n hx hb dX5_number_68 rfl (lv_at hl 0 rfl) ?_
    exact lm_riM C0 hR hS hf dX5_number_69
  · have hf := lm_T b14 hf
    refine lv_aload_n hx hb dX5_number_54 rfl (lv_at hl 0 rfl) ?_
    refine lm_get C0 hR (by decide) cell_140 rfl lw_in_X5 15 (by decide) uw_523 rfl rfl dX5_number_55 ?_
    refine lv_goto (tgt := 62) hx hb dX5_number_58 (by decide) ?_
    obtain ⟨v18, ev18, hf⟩ := lm_nm_e hf
    refine lm_topi ev18 ?_
    refine lv_istore_n (lv' := [(3, .int v18), (0, .ref (B + 140)), (1, .int x1)]) hx hb dX5_number_62 rfl hl (by decide) rfl (fun ls hl => ?_)
    refine lv_aload_n hx hb dX5_number_63 rfl (lv_at hl 1 rfl) ?_
    refine lv_iconst (v := (1 : Int32)) hx hb dX5_number_64 (by decide) ?_
    obtain ⟨τ21, u19, hf⟩ := lm_bd_e hf
    refine lm_endv (lm_runV C0 hR hS (c_X5_must u19) (lw_cV 1 hts uw_593 mv_X5_must rfl rfl hd_X5_must ⟨Nat.le_of_ble_eq_true rfl, Nat.le_of_ble_eq_true rfl⟩) (by decide) cell_140 rfl rfl hl rfl (Nat.le_of_ble_eq_true rfl) dX5_number_65) hS (fun H locs hR hS => ?_)
    refine lv_iload_n hx hb dX5_number_68 rfl (lv_at hl 0 rfl) ?_
    exact lm_riM C0 hR hS hf dX5_number_69
set_option maxRecDepth 100000 in
set_option maxHeartbeats 4000000 in
theorem w_X5_number_20 {p : Program} {e : Env} {s : State} {m : MethodId} {args : Array Value} {below : List Frame} {meth : Method} {c0 : Code} {σ τ' : Mem} {r : Int32} (C0 : lm_Cx D cI cZ cL cR B p s m args meth c0 cX5_number 4 (some .int) RX5) : ∀ (x1 : Int32) (x2 : Int32) (τ : Mem) (H : Heap) (locs : List Loc) (ls : Array Slot), va_P D vwCl (wl cI cZ cL cR B σ τ) H → va_S (lm_A B) s.heap H locs → lv_has ls 4 [(0, .ref (B + 140)), (1, .int x1), (2, .int x2)] → f_X5_number_20 x1 x2 τ = some (r, τ') → W p l e rmX5_number s m args below meth c0 H locs 0 0 (MQ below (lm_QI D cI cZ cL cR B r σ τ') args s 0 0 (lm_A B)) (F0 m 20 ls []) := by
  obtain ⟨hx, hb, hml, hr, hlk, hown, hts, hK, hX⟩ := id C0
  intro x1 x2 τ H locs ls hR hS hl hf
  unfold f_X5_number_20 at hf
  refine lv_aload_n hx hb dX5_number_20 rfl (lv_at hl 0 rfl) ?_
  refine lm_get C0 hR (by decide) cell_140 rfl lw_in_X5 16 (by decide) uw_524 rfl rfl dX5_number_21 ?_
  refine lv_if_ne (tgt := 47) hx hb dX5_number_24 (by decide) (fun b6 => ?_) (fun b6 => ?_)
  · have hf := lm_F b6 hf
    exact w_X5_number_47 C0 _ _ _ _ _ hR hS (lv_sub hl [0, 1] rfl) hf
  · have hf := lm_T b6 hf
    refine lv_aload_n hx hb dX5_number_27 rfl (lv_at hl 0 rfl) ?_
    refine lm_get C0 hR (by decide) cell_140 rfl lw_in_X5 15 (by decide) uw_523 rfl rfl dX5_number_28 ?_
    refine lv_i2l hx hb dX5_number_31 rfl ?_
    refine lv_iload_n hx hb dX5_number_32 rfl (lv_at hl 1 rfl) ?_
    refine lv_i2l hx hb dX5_number_33 rfl ?_
    refine lv_iload_n hx hb dX5_number_34 rfl (lv_at hl 2 rfl) ?_
    refine lv_i2l hx hb dX5_number_35 rfl ?_
    obtain ⟨r8, u7, hf⟩ := lm_bd_e hf
    refine lm_endi (lm_runS C0 hR hS (c_X5_in u7) (lw_cS 3 hts uw_544 mv_X5_in rfl rfl hd_X5_in ⟨Nat.le_of_ble_eq_true rfl, Nat.le_of_ble_eq_true rfl⟩) rfl hl rfl (Nat.le_of_ble_eq_true rfl) dX5_number_36) hS (fun H locs hR hS => ?_)
    refine lv_if_ne (tgt := 47) hx hb dX5_number_39 (by decide) (fun b10 => ?_) (fun b10 => ?_)
    · have hf := lm_F b10 hf
      exact w_X5_number_47 C0 _ _ _ _ _ hR hS (lv_sub hl [0, 1] rfl) hf
    · have hf := lm_T b10 hf
      refine lv_aload_n hx hb dX5_number_42 rfl (lv_at hl 0 rfl) ?_
      refine lv_iconst (v := (2 : Int32)) hx hb dX5_number_43 (by decide) ?_
      obtain ⟨τ13, u11, hf⟩ := lm_bd_e hf
      refine lm_endv (lm_runV C0 hR hS (c_X5_bad u11) (lw_cV 1 hts uw_596 mv_X5_bad rfl rfl hd_X5_bad ⟨Nat.le_of_ble_eq_true rfl, Nat.le_of_ble_eq_true rfl⟩) (by decide) cell_140 rfl rfl hl rfl (Nat.le_of_ble_eq_true rfl) dX5_number_44) hS (fun H locs hR hS => ?_)
      exact w_X5_number_47 C0 _ _ _ _ _ hR hS (lv_sub hl [0, 1] rfl) hf
set_option maxRecDepth 100000 in
set_option maxHeartbeats 4000000 in
theorem c_X5_number {τ σ τ' : Mem} {p1 : Int32} {p2 : Int32} {r : Int32}  (hf : f_X5_number τ p1 p2 = some (r, τ')) : lm_CI l yX5_number wsX5_number rmX5_number D cI cZ cL cR B [.ref (B + 140), .int p1, .int p2] σ τ r σ τ' := by
  unfold f_X5_number at hf
  refine lm_of (cc := cX5_number) (maxL := 4) (ret := (some .int)) (own := RX5) (by decide) rfl (Nat.le_of_ble_eq_true rfl) (fun p e s m below meth c0 C0 hR ls hl => ?_)
  have hS : va_S (lm_A B) s.heap s.heap [] := va_S.rf
  have hl : lv_has ls 4 [(0, .ref (B + 140)), (1, .int p1), (2, .int p2)] := hl
  obtain ⟨hx, hb, hml, hr, hlk, hown, hts, hK, hX⟩ := id C0
  refine lv_aload_n hx hb dX5_number_0 rfl (lv_at hl 0 rfl) ?_
  refine lm_get C0 hR (by decide) cell_140 rfl lw_in_X5 16 (by decide) uw_524 rfl rfl dX5_number_1 ?_
  refine lv_if_ne (tgt := 20) hx hb dX5_number_4 (by decide) (fun b1 => ?_) (fun b1 => ?_)
  · have hf := lm_F b1 hf
    exact w_X5_number_20 C0 _ _ _ _ _ _ hR hS (lv_sub hl [0, 1, 2] rfl) hf
  · have hf := lm_T b1 hf
    refine lv_aload_n hx hb dX5_number_7 rfl (lv_at hl 0 rfl) ?_
    refine lm_get C0 hR (by decide) cell_140 rfl lw_in_X5 14 (by decide) uw_522 rfl rfl dX5_number_8 ?_
    refine lv_iconst (v := (3 : Int32)) hx hb dX5_number_11 (by decide) ?_
    refine lv_icmp_eq (tgt := 20) hx hb dX5_number_12 (by decide) (fun b2 => ?_) (fun b2 => ?_)
    · have hf := lm_T b2 hf
      exact w_X5_number_20 C0 _ _ _ _ _ _ hR hS (lv_sub hl [0, 1, 2] rfl) hf
    · have hf := lm_F b2 hf
      refine lv_aload_n hx hb dX5_number_15 rfl (lv_at hl 0 rfl) ?_
      refine lv_iconst (v := (1 : Int32)) hx hb dX5_number_16 (by decide) ?_
      obtain ⟨τ5, u3, hf⟩ := lm_bd_e hf
      refine lm_endv (lm_runV C0 hR hS (c_X5_bad u3) (lw_cV 1 hts uw_596 mv_X5_bad rfl rfl hd_X5_bad ⟨Nat.le_of_ble_eq_true rfl, Nat.le_of_ble_eq_true rfl⟩) (by decide) cell_140 rfl rfl hl rfl (Nat.le_of_ble_eq_true rfl) dX5_number_17) hS (fun H locs hR hS => ?_)
      exact w_X5_number_20 C0 _ _ _ _ _ _ hR hS (lv_sub hl [0, 1, 2] rfl) hf
end
/-! ===== X5_mustSign ===== -/
abbrev rmX5_mustSign : Room := { frames := 3, cells := 0, slots := 0, locals := 66 }
def f_X5_mustSign (τ : Mem) (p1 : Int32) : Option (Mem) := if (τ 140 14) = (4 : Int32) then (if (τ 140 15) = p1 then (lm_bd (f_X5_must τ (1 : Int32)) fun τ11 => some τ11) else (lm_bd (f_X5_must τ (0 : Int32)) fun τ8 => some τ8)) else (lm_bd (f_X5_must τ (0 : Int32)) fun τ4 => some τ4)
abbrev wsX5_mustSign : List Cond := Cond.code yX5_mustSign cX5_mustSign 2 none :: lw_u
theorem mv_X5_mustSign : Cond.instanceMethod yX5_mustSign ∈ lw_u ∧ Cond.selects yX5_mustSign.cls yX5_mustSign yX5_mustSign ∈ lw_u ∧ Cond.initialized yX5_mustSign.cls ∈ lw_u ∧ Cond.code yX5_mustSign cX5_mustSign 2 none ∈ lw_u := ⟨uw_603, uw_878, uw_6, uw_604⟩
theorem hd_X5_mustSign : yX5_mustSign.cls ≠ "java/lang/invoke/MethodHandle" ∧ yX5_mustSign.cls ≠ "java/lang/invoke/VarHandle" ∧ (parseMethodDescriptor yX5_mustSign.desc).map (fun d => d.parameters.length) = some 1 := by decide +kernel
section
variable {l : Launch} {D : va_G} {cI cZ cL cR : ClassId} {B : Nat}
set_option maxRecDepth 100000 in
set_option maxHeartbeats 4000000 in
theorem c_X5_mustSign {τ σ τ' : Mem} {p1 : Int32}  (hf : f_X5_mustSign τ p1 = some τ') : lm_CV l yX5_mustSign wsX5_mustSign rmX5_mustSign D cI cZ cL cR B [.ref (B + 140), .int p1] σ τ σ τ' := by
  unfold f_X5_mustSign at hf
  refine lm_of (cc := cX5_mustSign) (maxL := 2) (ret := none) (own := RX5) (by decide) rfl (Nat.le_of_ble_eq_true rfl) (fun p e s m below meth c0 C0 hR ls hl => ?_)
  have hS : va_S (lm_A B) s.heap s.heap [] := va_S.rf
  have hl : lv_has ls 2 [(0, .ref (B + 140)), (1, .int p1)] := hl
  obtain ⟨hx, hb, hml, hr, hlk, hown, hts, hK, hX⟩ := id C0
  refine lv_aload_n hx hb dX5_mustSign_0 rfl (lv_at hl 0 rfl) ?_
  refine lv_aload_n hx hb dX5_mustSign_1 rfl (lv_at hl 0 rfl) ?_
  refine lm_get C0 hR (by decide) cell_140 rfl lw_in_X5 14 (by decide) uw_522 rfl rfl dX5_mustSign_2 ?_
  refine lv_iconst (v := (4 : Int32)) hx hb dX5_mustSign_5 (by decide) ?_
  refine lv_icmp_ne (tgt := 21) hx hb dX5_mustSign_6 (by decide) (fun b1 => ?_) (fun b1 => ?_)
  · have hf := lm_F b1 hf
    refine lv_iconst (v := (0 : Int32)) hx hb dX5_mustSign_21 (by decide) ?_
    obtain ⟨τ4, u2, hf⟩ := lm_bd_e hf
    refine lm_endv (lm_runV C0 hR hS (c_X5_must u2) (lw_cV 1 hts uw_593 mv_X5_must rfl rfl hd_X5_must ⟨Nat.le_of_ble_eq_true rfl, Nat.le_of_ble_eq_true rfl⟩) (by decide) cell_140 rfl rfl hl rfl (Nat.le_of_ble_eq_true rfl) dX5_mustSign_22) hS (fun H locs hR hS => ?_)
    exact lm_rvM C0 hR hS hf dX5_mustSign_25
  · have hf := lm_T b1 hf
    refine lv_aload_n hx hb dX5_mustSign_9 rfl (lv_at hl 0 rfl) ?_
    refine lm_get C0 hR (by decide) cell_140 rfl lw_in_X5 15 (by decide) uw_523 rfl rfl dX5_mustSign_10 ?_
    refine lv_iload_n hx hb dX5_mustSign_13 rfl (lv_at hl 1 rfl) ?_
    refine lv_icmp_ne (tgt := 21) hx hb dX5_mustSign_14 (by decide) (fun b5 => ?_) (fun b5 => ?_)
    · have hf := lm_F b5 hf
      refine lv_iconst (v := (0 : Int32)) hx hb dX5_mustSign_21 (by decide) ?_
      obtain ⟨τ8, u6, hf⟩ := lm_bd_e hf
      refine lm_endv (lm_runV C0 hR hS (c_X5_must u6) (lw_cV 1 hts uw_593 mv_X5_must rfl rfl hd_X5_must ⟨Nat.le_of_ble_eq_true rfl, Nat.le_of_ble_eq_true rfl⟩) (by decide) cell_140 rfl rfl hl rfl (Nat.le_of_ble_eq_true rfl) dX5_mustSign_22) hS (fun H locs hR hS => ?_)
      exact lm_rvM C0 hR hS hf dX5_mustSign_25
    · have hf := lm_T b5 hf
      refine lv_iconst (v := (1 : Int32)) hx hb dX5_mustSign_17 (by decide) ?_
      refine lv_goto (tgt := 22) hx hb dX5_mustSign_18 (by decide) ?_
      obtain ⟨τ11, u9, hf⟩ := lm_bd_e hf
      refine lm_endv (lm_runV C0 hR hS (c_X5_must u9) (lw_cV 1 hts uw_593 mv_X5_must rfl rfl hd_X5_must ⟨Nat.le_of_ble_eq_true rfl, Nat.le_of_ble_eq_true rfl⟩) (by decide) cell_140 rfl rfl hl rfl (Nat.le_of_ble_eq_true rfl) dX5_mustSign_22) hS (fun H locs hR hS => ?_)
      exact lm_rvM C0 hR hS hf dX5_mustSign_25
end
/-! ===== X5_begin ===== -/
abbrev rmX5_begin : Room := { frames := 2, cells := 0, slots := 0, locals := 45 }
def f_X5_begin (τ : Mem) : Option (Mem) := lm_nm (up τ 140 12 (0 : Int32)) fun τ1 => lm_nm (up τ1 140 16 (0 : Int32)) fun τ2 => lm_bd (f_X5_nextToken τ2) fun τ5 => some τ5
abbrev wsX5_begin : List Cond := Cond.code yX5_begin cX5_begin 1 none :: lw_u
theorem mv_X5_begin : Cond.instanceMethod yX5_begin ∈ lw_u ∧ Cond.selects yX5_begin.cls yX5_begin yX5_begin ∈ lw_u ∧ Cond.initialized yX5_begin.cls ∈ lw_u ∧ Cond.code yX5_begin cX5_begin 1 none ∈ lw_u := ⟨uw_580, uw_872, uw_6, uw_581⟩
theorem hd_X5_begin : yX5_begin.cls ≠ "java/lang/invoke/MethodHandle" ∧ yX5_begin.cls ≠ "java/lang/invoke/VarHandle" ∧ (parseMethodDescriptor yX5_begin.desc).map (fun d => d.parameters.length) = some 0 := by decide +kernel
section
variable {l : Launch} {D : va_G} {cI cZ cL cR : ClassId} {B : Nat}
set_option maxRecDepth 100000 in
set_option maxHeartbeats 4000000 in
theorem c_X5_begin {τ σ τ' : Mem}  (hf : f_X5_begin τ = some τ') : lm_CV l yX5_begin wsX5_begin rmX5_begin D cI cZ cL cR B [.ref (B + 140)] σ τ σ τ' := by
  unfold f_X5_begin at hf
  refine lm_of (cc := cX5_begin) (maxL := 1) (ret := none) (own := RX5) (by decide) rfl (Nat.le_of_ble_eq_true rfl) (fun p e s m below meth c0 C0 hR ls hl => ?_)
  have hS : va_S (lm_A B) s.heap s.heap [] := va_S.rf
  have hl : lv_has ls 1 [(0, .ref (B + 140))] := hl
  obtain ⟨hx, hb, hml, hr, hlk, hown, hts, hK, hX⟩ := id C0
  refine lv_aload_n hx hb dX5_begin_0 rfl (lv_at hl 0 rfl) ?_
  refine lv_iconst (v := (0 : Int32)) hx hb dX5_begin_1 (by decide) ?_
  obtain ⟨τ1, eτ1, hf⟩ := lm_nm_e hf
  refine lm_putM C0 hR hS (by decide) cell_140 rfl lw_in_X5 tyX5 tyX5_ok nmX5 12 (by decide) uw_520 rfl rfl rfl rfl rfl (Nat.le_of_ble_eq_true rfl) eτ1 cell_140u dX5_begin_2 (fun H locs hR hS => ?_)
  refine lv_aload_n hx hb dX5_begin_5 rfl (lv_at hl 0 rfl) ?_
  refine lv_iconst (v := (0 : Int32)) hx hb dX5_begin_6 (by decide) ?_
  obtain ⟨τ2, eτ2, hf⟩ := lm_nm_e hf
  refine lm_putM C0 hR hS (by decide) cell_140 rfl lw_in_X5 tyX5 tyX5_ok nmX5 16 (by decide) uw_524 rfl rfl rfl rfl rfl (Nat.le_of_ble_eq_true rfl) eτ2 cell_140u dX5_begin_7 (fun H locs hR hS => ?_)
  refine lv_aload_n hx hb dX5_begin_10 rfl (lv_at hl 0 rfl) ?_
  obtain ⟨τ5, u3, hf⟩ := lm_bd_e hf
  refine lm_endv (lm_runV C0 hR hS (c_X5_nextToken u3) (lw_cV 0 hts uw_582 mv_X5_nextToken rfl rfl hd_X5_nextToken ⟨Nat.le_of_ble_eq_true rfl, Nat.le_of_ble_eq_true rfl⟩) (by decide) cell_140 rfl rfl hl rfl (Nat.le_of_ble_eq_true rfl) dX5_begin_11) hS (fun H locs hR hS => ?_)
  exact lm_rvM C0 hR hS hf dX5_begin_14
end
/-! ===== X5_failed ===== -/
abbrev rmX5_failed : Room := { frames := 1, cells := 0, slots := 0, locals := 21 }
def f_X5_failed_20 (τ : Mem) : Option (Int32 × Mem) := lm_nm (up τ 140 11 (0 : Int32)) fun τ6 => if (τ6 140 16) ≤ 0 then (lm_nm (up τ6 140 18 (τ6 140 18)) fun τ8 => if (τ8 140 16) ≤ 0 then (some ((0 : Int32), τ8)) else (some ((1 : Int32), τ8))) else (lm_nm (up τ6 140 18 (τ6 140 16)) fun τ10 => if (τ10 140 16) ≤ 0 then (some ((0 : Int32), τ10)) else (some ((1 : Int32), τ10)))
def f_X5_failed (τ : Mem) : Option (Int32 × Mem) := if (τ 140 16) = 0 then (if (τ 140 14) = (1 : Int32) then (f_X5_failed_20 τ) else (lm_bd (f_X5_bad τ (1 : Int32)) fun τ5 => f_X5_failed_20 τ5)) else (f_X5_failed_20 τ)
abbrev wsX5_failed : List Cond := Cond.code yX5_failed cX5_failed 1 (some .boolean) :: lw_u
theorem mv_X5_failed : Cond.instanceMethod yX5_failed ∈ lw_u ∧ Cond.selects yX5_failed.cls yX5_failed yX5_failed ∈ lw_u ∧ Cond.initialized yX5_failed.cls ∈ lw_u ∧ Cond.code yX5_failed cX5_failed 1 (some .boolean) ∈ lw_u := ⟨uw_618, uw_882, uw_6, uw_619⟩
theorem hd_X5_failed : yX5_failed.cls ≠ "java/lang/invoke/MethodHandle" ∧ yX5_failed.cls ≠ "java/lang/invoke/VarHandle" ∧ (parseMethodDescriptor yX5_failed.desc).map (fun d => d.parameters.length) = some 0 := by decide +kernel
section
variable {l : Launch} {D : va_G} {cI cZ cL cR : ClassId} {B : Nat}
set_option maxRecDepth 100000 in
set_option maxHeartbeats 4000000 in
theorem w_X5_failed_20 {p : Program} {e : Env} {s : State} {m : MethodId} {args : Array Value} {below : List Frame} {meth : Method} {c0 : Code} {σ τ' : Mem} {r : Int32} (C0 : lm_Cx D cI cZ cL cR B p s m args meth c0 cX5_failed 1 (some .boolean) RX5) : ∀ (τ : Mem) (H : Heap) (locs : List Loc) (ls : Array Slot), va_P D vwCl (wl cI cZ cL cR B σ τ) H → va_S (lm_A B) s.heap H locs → lv_has ls 1 [(0, .ref (B + 140))] → f_X5_failed_20 τ = some (r, τ') → W p l e rmX5_failed s m args below meth c0 H locs 0 0 (MQ below (lm_QI D cI cZ cL cR B r σ τ') args s 0 0 (lm_A B)) (F0 m 20 ls []) := by
  obtain ⟨hx, hb, hml, hr, hlk, hown, hts, hK, hX⟩ := id C0
  intro τ H locs ls hR hS hl hf
  unfold f_X5_failed_20 at hf
  refine lv_aload_n hx hb dX5_failed_20 rfl (lv_at hl 0 rfl) ?_
  refine lv_iconst (v := (0 : Int32)) hx hb dX5_failed_21 (by decide) ?_
  obtain ⟨τ6, eτ6, hf⟩ := lm_nm_e hf
  refine lm_putM C0 hR hS (by decide) cell_140 rfl lw_in_X5 tyX5 tyX5_ok nmX5 11 (by decide) uw_519 rfl rfl rfl rfl rfl (Nat.le_of_ble_eq_true rfl) eτ6 cell_140u dX5_failed_22 (fun H locs hR hS => ?_)
  refine lv_aload_n hx hb dX5_failed_25 rfl (lv_at hl 0 rfl) ?_
  refine lv_aload_n hx hb dX5_failed_26 rfl (lv_at hl 0 rfl) ?_
  refine lm_get C0 hR (by decide) cell_140 rfl lw_in_X5 16 (by decide) uw_524 rfl rfl dX5_failed_27 ?_
  refine lv_if_le (tgt := 40) hx hb dX5_failed_30 (by decide) (fun b7 => ?_) (fun b7 => ?_)
  · have hf := lm_T b7 hf
    refine lv_aload_n hx hb dX5_failed_40 rfl (lv_at hl 0 rfl) ?_
    refine lm_get C0 hR (by decide) cell_140 rfl lw_in_X5 18 (by decide) uw_526 rfl rfl dX5_failed_41 ?_
    obtain ⟨τ8, eτ8, hf⟩ := lm_nm_e hf
    refine lm_putM C0 hR hS (by decide) cell_140 rfl lw_in_X5 tyX5 tyX5_ok nmX5 18 (by decide) uw_526 rfl rfl rfl rfl rfl (Nat.le_of_ble_eq_true rfl) eτ8 cell_140u dX5_failed_44 (fun H locs hR hS => ?_)
    refine lv_aload_n hx hb dX5_failed_47 rfl (lv_at hl 0 rfl) ?_
    refine lm_get C0 hR (by decide) cell_140 rfl lw_in_X5 16 (by decide) uw_524 rfl rfl dX5_failed_48 ?_
    refine lv_if_le (tgt := 58) hx hb dX5_failed_51 (by decide) (fun b9 => ?_) (fun b9 => ?_)
    · have hf := lm_T b9 hf
      refine lv_iconst (v := (0 : Int32)) hx hb dX5_failed_58 (by decide) ?_
      exact lm_rzM C0 hR hS hf rfl dX5_failed_59
    · have hf := lm_F b9 hf
      refine lv_iconst (v := (1 : Int32)) hx hb dX5_failed_54 (by decide) ?_
      refine lv_goto (tgt := 59) hx hb dX5_failed_55 (by decide) ?_
      exact lm_rzM C0 hR hS hf rfl dX5_failed_59
  · have hf := lm_F b7 hf
    refine lv_aload_n hx hb dX5_failed_33 rfl (lv_at hl 0 rfl) ?_
    refine lm_get C0 hR (by decide) cell_140 rfl lw_in_X5 16 (by decide) uw_524 rfl rfl dX5_failed_34 ?_
    refine lv_goto (tgt := 44) hx hb dX5_failed_37 (by decide) ?_
    obtain ⟨τ10, eτ10, hf⟩ := lm_nm_e hf
    refine lm_putM C0 hR hS (by decide) cell_140 rfl lw_in_X5 tyX5 tyX5_ok nmX5 18 (by decide) uw_526 rfl rfl rfl rfl rfl (Nat.le_of_ble_eq_true rfl) eτ10 cell_140u dX5_failed_44 (fun H locs hR hS => ?_)
    refine lv_aload_n hx hb dX5_failed_47 rfl (lv_at hl 0 rfl) ?_
    refine lm_get C0 hR (by decide) cell_140 rfl lw_in_X5 16 (by decide) uw_524 rfl rfl dX5_failed_48 ?_
    refine lv_if_le (tgt := 58) hx hb dX5_failed_51 (by decide) (fun b11 => ?_) (fun b11 => ?_)
    · have hf := lm_T b11 hf
      refine lv_iconst (v := (0 : Int32)) hx hb dX5_failed_58 (by decide) ?_
      exact lm_rzM C0 hR hS hf rfl dX5_failed_59
    · have hf := lm_F b11 hf
      refine lv_iconst (v := (1 : Int32)) hx hb dX5_failed_54 (by decide) ?_
      refine lv_goto (tgt := 59) hx hb dX5_failed_55 (by decide) ?_
      exact lm_rzM C0 hR hS hf rfl dX5_failed_59
set_option maxRecDepth 100000 in
set_option maxHeartbeats 4000000 in
theorem c_X5_failed {τ σ τ' : Mem} {r : Int32}  (hf : f_X5_failed τ = some (r, τ')) : lm_CI l yX5_failed wsX5_failed rmX5_failed D cI cZ cL cR B [.ref (B + 140)] σ τ r σ τ' := by
  unfold f_X5_failed at hf
  refine lm_of (cc := cX5_failed) (maxL := 1) (ret := (some .boolean)) (own := RX5) (by decide) rfl (Nat.le_of_ble_eq_true rfl) (fun p e s m below meth c0 C0 hR ls hl => ?_)
  have hS : va_S (lm_A B) s.heap s.heap [] := va_S.rf
  have hl : lv_has ls 1 [(0, .ref (B + 140))] := hl
  obtain ⟨hx, hb, hml, hr, hlk, hown, hts, hK, hX⟩ := id C0
  refine lv_aload_n hx hb dX5_failed_0 rfl (lv_at hl 0 rfl) ?_
  refine lm_get C0 hR (by decide) cell_140 rfl lw_in_X5 16 (by decide) uw_524 rfl rfl dX5_failed_1 ?_
  refine lv_if_ne (tgt := 20) hx hb dX5_failed_4 (by decide) (fun b1 => ?_) (fun b1 => ?_)
  · have hf := lm_F b1 hf
    exact w_X5_failed_20 C0 _ _ _ _ hR hS (lv_sub hl [0] rfl) hf
  · have hf := lm_T b1 hf
    refine lv_aload_n hx hb dX5_failed_7 rfl (lv_at hl 0 rfl) ?_
    refine lm_get C0 hR (by decide) cell_140 rfl lw_in_X5 14 (by decide) uw_522 rfl rfl dX5_failed_8 ?_
    refine lv_iconst (v := (1 : Int32)) hx hb dX5_failed_11 (by decide) ?_
    refine lv_icmp_eq (tgt := 20) hx hb dX5_failed_12 (by decide) (fun b2 => ?_) (fun b2 => ?_)
    · have hf := lm_T b2 hf
      exact w_X5_failed_20 C0 _ _ _ _ hR hS (lv_sub hl [0] rfl) hf
    · have hf := lm_F b2 hf
      refine lv_aload_n hx hb dX5_failed_15 rfl (lv_at hl 0 rfl) ?_
      refine lv_iconst (v := (1 : Int32)) hx hb dX5_failed_16 (by decide) ?_
      obtain ⟨τ5, u3, hf⟩ := lm_bd_e hf
      refine lm_endv (lm_runV C0 hR hS (c_X5_bad u3) (lw_cV 1 hts uw_596 mv_X5_bad rfl rfl hd_X5_bad ⟨Nat.le_of_ble_eq_true rfl, Nat.le_of_ble_eq_true rfl⟩) (by decide) cell_140 rfl rfl hl rfl (Nat.le_of_ble_eq_true rfl) dX5_failed_17) hS (fun H locs hR hS => ?_)
      exact w_X5_failed_20 C0 _ _ _ _ hR hS (lv_sub hl [0] rfl) hf
end
/-! ===== X5_fault ===== -/
abbrev rmX5_fault : Room := { frames := 0, cells := 0, slots := 0, locals := 0 }
def f_X5_fault (τ : Mem) : Option (Int32 × Mem) := lm_nm (up τ 140 0 (0 : Int32)) fun τ1 => some ((τ1 140 18), τ1)
abbrev wsX5_fault : List Cond := Cond.code yX5_fault cX5_fault 1 (some .int) :: lw_u
theorem mv_X5_fault : Cond.instanceMethod yX5_fault ∈ lw_u ∧ Cond.selects yX5_fault.cls yX5_fault yX5_fault ∈ lw_u ∧ Cond.initialized yX5_fault.cls ∈ lw_u ∧ Cond.code yX5_fault cX5_fault 1 (some .int) ∈ lw_u := ⟨uw_572, uw_573, uw_6, uw_574⟩
theorem hd_X5_fault : yX5_fault.cls ≠ "java/lang/invoke/MethodHandle" ∧ yX5_fault.cls ≠ "java/lang/invoke/VarHandle" ∧ (parseMethodDescriptor yX5_fault.desc).map (fun d => d.parameters.length) = some 0 := by decide +kernel
section
variable {l : Launch} {D : va_G} {cI cZ cL cR : ClassId} {B : Nat}
set_option maxRecDepth 100000 in
set_option maxHeartbeats 4000000 in
theorem c_X5_fault {τ σ τ' : Mem} {r : Int32}  (hf : f_X5_fault τ = some (r, τ')) : lm_CI l yX5_fault wsX5_fault rmX5_fault D cI cZ cL cR B [.ref (B + 140)] σ τ r σ τ' := by
  unfold f_X5_fault at hf
  refine lm_of (cc := cX5_fault) (maxL := 1) (ret := (some .int)) (own := RX5) (by decide) rfl (Nat.le_of_ble_eq_true rfl) (fun p e s m below meth c0 C0 hR ls hl => ?_)
  have hS : va_S (lm_A B) s.heap s.heap [] := va_S.rf
  have hl : lv_has ls 1 [(0, .ref (B + 140))] := hl
  obtain ⟨hx, hb, hml, hr, hlk, hown, hts, hK, hX⟩ := id C0
  refine lv_aload_n hx hb dX5_fault_0 rfl (lv_at hl 0 rfl) ?_
  refine lv_iconst (v := (0 : Int32)) hx hb dX5_fault_1 (by decide) ?_
  obtain ⟨τ1, eτ1, hf⟩ := lm_nm_e hf
  refine lm_putM C0 hR hS (by decide) cell_140 rfl lw_in_X5 tyX5 tyX5_ok nmX5 0 (by decide) uw_508 rfl rfl rfl rfl rfl (Nat.le_of_ble_eq_true rfl) eτ1 cell_140u dX5_fault_2 (fun H locs hR hS => ?_)
  refine lv_aload_n hx hb dX5_fault_5 rfl (lv_at hl 0 rfl) ?_
  refine lm_get C0 hR (by decide) cell_140 rfl lw_in_X5 18 (by decide) uw_526 rfl rfl dX5_fault_6 ?_
  exact lm_riM C0 hR hS hf dX5_fault_9
end
/-! ===== X5_kindBy ===== -/
abbrev rmX5_kindBy : Room := { frames := 0, cells := 0, slots := 0, locals := 0 }
def f_X5_kindBy (p0 : Int32) : Option (Int32) := if p0 = (115 : Int32) then (some (1 : Int32)) else (if p0 = (98 : Int32) then (some (2 : Int32)) else (if p0 = (109 : Int32) then (some (3 : Int32)) else (if p0 = (103 : Int32) then (some (4 : Int32)) else (if p0 = (111 : Int32) then (some (5 : Int32)) else (some (-1000000 : Int32))))))
abbrev wsX5_kindBy : List Cond := Cond.code yX5_kindBy cX5_kindBy 1 (some .int) :: lw_u
theorem mv_X5_kindBy : Cond.static yX5_kindBy ∈ lw_u ∧ Cond.initialized yX5_kindBy.cls ∈ lw_u ∧ Cond.code yX5_kindBy cX5_kindBy 1 (some .int) ∈ lw_u := ⟨uw_612, uw_6, uw_613⟩
theorem hd_X5_kindBy : yX5_kindBy.cls ≠ "java/lang/invoke/MethodHandle" ∧ yX5_kindBy.cls ≠ "java/lang/invoke/VarHandle" ∧ (parseMethodDescriptor yX5_kindBy.desc).map (fun d => d.parameters.length) = some 1 := by decide +kernel
section
variable {l : Launch} {D : va_G} {cI cZ cL cR : ClassId} {B : Nat}
set_option maxRecDepth 100000 in
set_option maxHeartbeats 4000000 in
theorem c_X5_kindBy {τ σ : Mem} {p0 : Int32} {r : Int32}  (hf : f_X5_kindBy p0 = some r) : lm_CI l yX5_kindBy wsX5_kindBy rmX5_kindBy D cI cZ cL cR B [.int p0] σ τ r σ τ := by
  unfold f_X5_kindBy at hf
  refine lm_of (cc := cX5_kindBy) (maxL := 1) (ret := (some .int)) (own := RX5) (by decide) rfl (Nat.le_of_ble_eq_true rfl) (fun p e s m below meth c0 C0 hR ls hl => ?_)
  have hS : va_S (lm_A B) s.heap s.heap [] := va_S.rf
  have hl : lv_has ls 1 [(0, .int p0)] := hl
  obtain ⟨hx, hb, hml, hr, hlk, hown, hts, hK, hX⟩ := id C0
  refine lv_iload_n hx hb dX5_kindBy_0 rfl (lv_at hl 0 rfl) ?_
  refine lv_bipush (v := (115 : Int32)) hx hb dX5_kindBy_1 (by decide) ?_
  refine lv_icmp_ne (tgt := 10) hx hb dX5_kindBy_3 (by decide) (fun b1 => ?_) (fun b1 => ?_)
  · have hf := lm_F b1 hf
    refine lv_iload_n hx hb dX5_kindBy_10 rfl (lv_at hl 0 rfl) ?_
    refine lv_bipush (v := (98 : Int32)) hx hb dX5_kindBy_11 (by decide) ?_
    refine lv_icmp_ne (tgt := 20) hx hb dX5_kindBy_13 (by decide) (fun b2 => ?_) (fun b2 => ?_)
    · have hf := lm_F b2 hf
      refine lv_iload_n hx hb dX5_kindBy_20 rfl (lv_at hl 0 rfl) ?_
      refine lv_bipush (v := (109 : Int32)) hx hb dX5_kindBy_21 (by decide) ?_
      refine lv_icmp_ne (tgt := 30) hx hb dX5_kindBy_23 (by decide) (fun b3 => ?_) (fun b3 => ?_)
      · have hf := lm_F b3 hf
        refine lv_iload_n hx hb dX5_kindBy_30 rfl (lv_at hl 0 rfl) ?_
        refine lv_bipush (v := (103 : Int32)) hx hb dX5_kindBy_31 (by decide) ?_
        refine lv_icmp_ne (tgt := 40) hx hb dX5_kindBy_33 (by decide) (fun b4 => ?_) (fun b4 => ?_)
        · have hf := lm_F b4 hf
          refine lv_iload_n hx hb dX5_kindBy_40 rfl (lv_at hl 0 rfl) ?_
          refine lv_bipush (v := (111 : Int32)) hx hb dX5_kindBy_41 (by decide) ?_
          refine lv_icmp_ne (tgt := 50) hx hb dX5_kindBy_43 (by decide) (fun b5 => ?_) (fun b5 => ?_)
          · have hf := lm_F b5 hf
            refine lv_ldc hx hb hown (hts _ uw_585) dX5_kindBy_50 ?_
            exact lm_riP C0 hR hS hf dX5_kindBy_52
          · have hf := lm_T b5 hf
            refine lv_iconst (v := (5 : Int32)) hx hb dX5_kindBy_46 (by decide) ?_
            refine lv_goto (tgt := 52) hx hb dX5_kindBy_47 (by decide) ?_
            exact lm_riP C0 hR hS hf dX5_kindBy_52
        · have hf := lm_T b4 hf
          refine lv_iconst (v := (4 : Int32)) hx hb dX5_kindBy_36 (by decide) ?_
          refine lv_goto (tgt := 52) hx hb dX5_kindBy_37 (by decide) ?_
          exact lm_riP C0 hR hS hf dX5_kindBy_52
      · have hf := lm_T b3 hf
        refine lv_iconst (v := (3 : Int32)) hx hb dX5_kindBy_26 (by decide) ?_
        refine lv_goto (tgt := 52) hx hb dX5_kindBy_27 (by decide) ?_
        exact lm_riP C0 hR hS hf dX5_kindBy_52
    · have hf := lm_T b2 hf
      refine lv_iconst (v := (2 : Int32)) hx hb dX5_kindBy_16 (by decide) ?_
      refine lv_goto (tgt := 52) hx hb dX5_kindBy_17 (by decide) ?_
      exact lm_riP C0 hR hS hf dX5_kindBy_52
  · have hf := lm_T b1 hf
    refine lv_iconst (v := (1 : Int32)) hx hb dX5_kindBy_6 (by decide) ?_
    refine lv_goto (tgt := 52) hx hb dX5_kindBy_7 (by decide) ?_
    exact lm_riP C0 hR hS hf dX5_kindBy_52
end
/-! ===== X5_isSort ===== -/
abbrev rmX5_isSort : Room := { frames := 1, cells := 0, slots := 0, locals := 20 }
def f_X5_isSort (τ : Mem) : Option (Int32) := if (τ 140 16) = 0 then (if (τ 140 14) = (2 : Int32) then (lm_bd (f_X5_kindBy (τ 140 15)) fun r4 => if r4 = (-1000000 : Int32) then (some (0 : Int32)) else (some (1 : Int32))) else (some (0 : Int32))) else (some (0 : Int32))
abbrev wsX5_isSort : List Cond := Cond.code yX5_isSort cX5_isSort 1 (some .boolean) :: lw_u
theorem mv_X5_isSort : Cond.instanceMethod yX5_isSort ∈ lw_u ∧ Cond.selects yX5_isSort.cls yX5_isSort yX5_isSort ∈ lw_u ∧ Cond.initialized yX5_isSort.cls ∈ lw_u ∧ Cond.code yX5_isSort cX5_isSort 1 (some .boolean) ∈ lw_u := ⟨uw_609, uw_880, uw_6, uw_610⟩
theorem hd_X5_isSort : yX5_isSort.cls ≠ "java/lang/invoke/MethodHandle" ∧ yX5_isSort.cls ≠ "java/lang/invoke/VarHandle" ∧ (parseMethodDescriptor yX5_isSort.desc).map (fun d => d.parameters.length) = some 0 := by decide +kernel
section
variable {l : Launch} {D : va_G} {cI cZ cL cR : ClassId} {B : Nat}
set_option maxRecDepth 100000 in
set_option maxHeartbeats 4000000 in
theorem c_X5_isSort {τ σ : Mem} {r : Int32}  (hf : f_X5_isSort τ = some r) : lm_CI l yX5_isSort wsX5_isSort rmX5_isSort D cI cZ cL cR B [.ref (B + 140)] σ τ r σ τ := by
  unfold f_X5_isSort at hf
  refine lm_of (cc := cX5_isSort) (maxL := 1) (ret := (some .boolean)) (own := RX5) (by decide) rfl (Nat.le_of_ble_eq_true rfl) (fun p e s m below meth c0 C0 hR ls hl => ?_)
  have hS : va_S (lm_A B) s.heap s.heap [] := va_S.rf
  have hl : lv_has ls 1 [(0, .ref (B + 140))] := hl
  obtain ⟨hx, hb, hml, hr, hlk, hown, hts, hK, hX⟩ := id C0
  refine lv_aload_n hx hb dX5_isSort_0 rfl (lv_at hl 0 rfl) ?_
  refine lm_get C0 hR (by decide) cell_140 rfl lw_in_X5 16 (by decide) uw_524 rfl rfl dX5_isSort_1 ?_
  refine lv_if_ne (tgt := 31) hx hb dX5_isSort_4 (by decide) (fun b1 => ?_) (fun b1 => ?_)
  · have hf := lm_F b1 hf
    refine lv_iconst (v := (0 : Int32)) hx hb dX5_isSort_31 (by decide) ?_
    exact lm_rzP C0 hR hS hf rfl dX5_isSort_32
  · have hf := lm_T b1 hf
    refine lv_aload_n hx hb dX5_isSort_7 rfl (lv_at hl 0 rfl) ?_
    refine lm_get C0 hR (by decide) cell_140 rfl lw_in_X5 14 (by decide) uw_522 rfl rfl dX5_isSort_8 ?_
    refine lv_iconst (v := (2 : Int32)) hx hb dX5_isSort_11 (by decide) ?_
    refine lv_icmp_ne (tgt := 31) hx hb dX5_isSort_12 (by decide) (fun b2 => ?_) (fun b2 => ?_)
    · have hf := lm_F b2 hf
      refine lv_iconst (v := (0 : Int32)) hx hb dX5_isSort_31 (by decide) ?_
      exact lm_rzP C0 hR hS hf rfl dX5_isSort_32
    · have hf := lm_T b2 hf
      refine lv_aload_n hx hb dX5_isSort_15 rfl (lv_at hl 0 rfl) ?_
      refine lm_get C0 hR (by decide) cell_140 rfl lw_in_X5 15 (by decide) uw_523 rfl rfl dX5_isSort_16 ?_
      obtain ⟨r4, u3, hf⟩ := lm_bd_e hf
      refine lm_endi (lm_runS C0 hR hS (c_X5_kindBy u3) (lw_cS 1 hts uw_611 mv_X5_kindBy rfl rfl hd_X5_kindBy ⟨Nat.le_of_ble_eq_true rfl, Nat.le_of_ble_eq_true rfl⟩) rfl hl rfl (Nat.le_of_ble_eq_true rfl) dX5_isSort_19) hS (fun H locs hR hS => ?_)
      refine lv_ldc hx hb hown (hts _ uw_585) dX5_isSort_22 ?_
      refine lv_icmp_eq (tgt := 31) hx hb dX5_isSort_24 (by decide) (fun b6 => ?_) (fun b6 => ?_)
      · have hf := lm_T b6 hf
        refine lv_iconst (v := (0 : Int32)) hx hb dX5_isSort_31 (by decide) ?_
        exact lm_rzP C0 hR hS hf rfl dX5_isSort_32
      · have hf := lm_F b6 hf
        refine lv_iconst (v := (1 : Int32)) hx hb dX5_isSort_27 (by decide) ?_
        refine lv_goto (tgt := 32) hx hb dX5_isSort_28 (by decide) ?_
        exact lm_rzP C0 hR hS hf rfl dX5_isSort_32
end
/-! ===== X5_readFog ===== -/
abbrev rmX5_readFog : Room := { frames := 4, cells := 0, slots := 0, locals := 89 }
def f_X5_readFog_25 (τ : Mem) : Option (Mem) := lm_bd (f_X5_isLetter τ (102 : Int32)) fun r11 => lm_bd (f_X5_must τ r11) fun τ15 => lm_bd2 (f_X5_number τ15 (0 : Int32) (9 : Int32)) fun r17 τ18 => lm_bd (f_X5_mustSign τ18 (59 : Int32)) fun τ21 => if (τ21 140 16) = 0 then (lm_ck (lm_in (1 : Int32) 24) (lm_ck (lm_in ((6 : Int32) + (τ21 145 (1 : Int32).toNatClampNeg)) 24) (lm_nm (up τ21 145 ((6 : Int32) + (τ21 145 (1 : Int32).toNatClampNeg)).toNatClampNeg r17) fun τ25 => lm_ck (lm_in (1 : Int32) 24) (lm_ck (lm_in (1 : Int32) 24) (lm_nm (up τ25 145 (1 : Int32).toNatClampNeg ((τ25 145 (1 : Int32).toNatClampNeg) + (1 : Int32))) fun τ28 => some τ28))))) else (some τ21)
def f_X5_readFog (τ : Mem) : Option (Mem) := lm_bd (f_X5_isLetter τ (102 : Int32)) fun r2 => if r2 = 0 then (f_X5_readFog_25 τ) else (lm_ck (lm_in (1 : Int32) 24) (if (τ 145 (1 : Int32).toNatClampNeg) = (6 : Int32) then (lm_bd (f_X5_bad τ (3 : Int32)) fun τ9 => f_X5_readFog_25 τ9) else (f_X5_readFog_25 τ)))
abbrev wsX5_readFog : List Cond := Cond.code yX5_readFog cX5_readFog 2 none :: lw_u
theorem mv_X5_readFog : Cond.instanceMethod yX5_readFog ∈ lw_u ∧ Cond.selects yX5_readFog.cls yX5_readFog yX5_readFog ∈ lw_u ∧ Cond.initialized yX5_readFog.cls ∈ lw_u ∧ Cond.code yX5_readFog cX5_readFog 2 none ∈ lw_u := ⟨uw_606, uw_879, uw_6, uw_607⟩
theorem hd_X5_readFog : yX5_readFog.cls ≠ "java/lang/invoke/MethodHandle" ∧ yX5_readFog.cls ≠ "java/lang/invoke/VarHandle" ∧ (parseMethodDescriptor yX5_readFog.desc).map (fun d => d.parameters.length) = some 0 := by decide +kernel
section
variable {l : Launch} {D : va_G} {cI cZ cL cR : ClassId} {B : Nat}
set_option maxRecDepth 100000 in
set_option maxHeartbeats 4000000 in
theorem w_X5_readFog_25 {p : Program} {e : Env} {s : State} {m : MethodId} {args : Array Value} {below : List Frame} {meth : Method} {c0 : Code} {σ τ' : Mem} (C0 : lm_Cx D cI cZ cL cR B p s m args meth c0 cX5_readFog 2 none RX5) : ∀ (τ : Mem) (H : Heap) (locs : List Loc) (ls : Array Slot), va_P D vwCl (wl cI cZ cL cR B σ τ) H → va_S (lm_A B) s.heap H locs → lv_has ls 2 [(0, .ref (B + 140))] → f_X5_readFog_25 τ = some τ' → W p l e rmX5_readFog s m args below meth c0 H locs 0 0 (MQ below (lm_QV D cI cZ cL cR B σ τ') args s 0 0 (lm_A B)) (F0 m 25 ls []) := by
  obtain ⟨hx, hb, hml, hr, hlk, hown, hts, hK, hX⟩ := id C0
  intro τ H locs ls hR hS hl hf
  unfold f_X5_readFog_25 at hf
  refine lv_aload_n hx hb dX5_readFog_25 rfl (lv_at hl 0 rfl) ?_
  refine lv_aload_n hx hb dX5_readFog_26 rfl (lv_at hl 0 rfl) ?_
  refine lv_bipush (v := (102 : Int32)) hx hb dX5_readFog_27 (by decide) ?_
  obtain ⟨r11, u10, hf⟩ := lm_bd_e hf
  refine lm_endi (lm_runV C0 hR hS (c_X5_isLetter u10) (lw_cV 1 hts uw_590 mv_X5_isLetter rfl rfl hd_X5_isLetter ⟨Nat.le_of_ble_eq_true rfl, Nat.le_of_ble_eq_true rfl⟩) (by decide) cell_140 rfl rfl hl rfl (Nat.le_of_ble_eq_true rfl) dX5_readFog_29) hS (fun H locs hR hS => ?_)
  obtain ⟨τ15, u13, hf⟩ := lm_bd_e hf
  refine lm_endv (lm_runV C0 hR hS (c_X5_must u13) (lw_cV 1 hts uw_593 mv_X5_must rfl rfl hd_X5_must ⟨Nat.le_of_ble_eq_true rfl, Nat.le_of_ble_eq_true rfl⟩) (by decide) cell_140 rfl rfl hl rfl (Nat.le_of_ble_eq_true rfl) dX5_readFog_32) hS (fun H locs hR hS => ?_)
  refine lv_aload_n hx hb dX5_readFog_35 rfl (lv_at hl 0 rfl) ?_
  refine lv_iconst (v := (0 : Int32)) hx hb dX5_readFog_36 (by decide) ?_
  refine lv_bipush (v := (9 : Int32)) hx hb dX5_readFog_37 (by decide) ?_
  obtain ⟨r17, τ18, u16, hf⟩ := lm_bd2_e hf
  refine lm_endi (lm_runV C0 hR hS (c_X5_number u16) (lw_cV 2 hts uw_599 mv_X5_number rfl rfl hd_X5_number ⟨Nat.le_of_ble_eq_true rfl, Nat.le_of_ble_eq_true rfl⟩) (by decide) cell_140 rfl rfl hl rfl (Nat.le_of_ble_eq_true rfl) dX5_readFog_39) hS (fun H locs hR hS => ?_)
  refine lv_istore_n (lv' := [(1, .int r17), (0, .ref (B + 140))]) hx hb dX5_readFog_42 rfl hl (by decide) rfl (fun ls hl => ?_)
  refine lv_aload_n hx hb dX5_readFog_43 rfl (lv_at hl 1 rfl) ?_
  refine lv_bipush (v := (59 : Int32)) hx hb dX5_readFog_44 (by decide) ?_
  obtain ⟨τ21, u19, hf⟩ := lm_bd_e hf
  refine lm_endv (lm_runV C0 hR hS (c_X5_mustSign u19) (lw_cV 1 hts uw_602 mv_X5_mustSign rfl rfl hd_X5_mustSign ⟨Nat.le_of_ble_eq_true rfl, Nat.le_of_ble_eq_true rfl⟩) (by decide) cell_140 rfl rfl hl rfl (Nat.le_of_ble_eq_true rfl) dX5_readFog_46) hS (fun H locs hR hS => ?_)
  refine lv_aload_n hx hb dX5_readFog_49 rfl (lv_at hl 1 rfl) ?_
  refine lm_get C0 hR (by decide) cell_140 rfl lw_in_X5 16 (by decide) uw_524 rfl rfl dX5_readFog_50 ?_
  refine lv_if_ne (tgt := 81) hx hb dX5_readFog_53 (by decide) (fun b22 => ?_) (fun b22 => ?_)
  · have hf := lm_F b22 hf
    exact lm_rvM C0 hR hS hf dX5_readFog_81
  · have hf := lm_T b22 hf
    refine lv_aload_n hx hb dX5_readFog_56 rfl (lv_at hl 1 rfl) ?_
    refine lm_get C0 hR (by decide) cell_140 rfl lw_in_X5 6 (by decide) uw_514 rfl rfl dX5_readFog_57 ?_
    refine lv_bipush (v := (6 : Int32)) hx hb dX5_readFog_60 (by decide) ?_
    refine lv_aload_n hx hb dX5_readFog_62 rfl (lv_at hl 1 rfl) ?_
    refine lm_get C0 hR (by decide) cell_140 rfl lw_in_X5 6 (by decide) uw_514 rfl rfl dX5_readFog_63 ?_
    refine lv_iconst (v := (1 : Int32)) hx hb dX5_readFog_66 (by decide) ?_
    obtain ⟨z23, hf⟩ := lm_ck_e hf
    refine lm_ild C0 hR (by decide) cell_145 z23 dX5_readFog_67 ?_
    refine lv_iadd hx hb dX5_readFog_68 ?_
    refine lv_iload_n hx hb dX5_readFog_69 rfl (lv_at hl 0 rfl) ?_
    obtain ⟨z24, hf⟩ := lm_ck_e hf
    obtain ⟨τ25, eτ25, hf⟩ := lm_nm_e hf
    refine lm_istM C0 hR hS (by decide) cell_145 z24  eτ25 cell_145u dX5_readFog_70 (fun H locs hR hS => ?_)
    refine lv_aload_n hx hb dX5_readFog_71 rfl (lv_at hl 1 rfl) ?_
    refine lm_get C0 hR (by decide) cell_140 rfl lw_in_X5 6 (by decide) uw_514 rfl rfl dX5_readFog_72 ?_
    refine lv_iconst (v := (1 : Int32)) hx hb dX5_readFog_75 (by decide) ?_
    refine lv_dup2_11 hx hb dX5_readFog_76 rfl rfl ?_
    obtain ⟨z26, hf⟩ := lm_ck_e hf
    refine lm_ild C0 hR (by decide) cell_145 z26 dX5_readFog_77 ?_
    refine lv_iconst (v := (1 : Int32)) hx hb dX5_readFog_78 (by decide) ?_
    refine lv_iadd hx hb dX5_readFog_79 ?_
    obtain ⟨z27, hf⟩ := lm_ck_e hf
    obtain ⟨τ28, eτ28, hf⟩ := lm_nm_e hf
    refine lm_istM C0 hR hS (by decide) cell_145 z27  eτ28 cell_145u dX5_readFog_80 (fun H locs hR hS => ?_)
    exact lm_rvM C0 hR hS hf dX5_readFog_81
set_option maxRecDepth 100000 in
set_option maxHeartbeats 4000000 in
theorem c_X5_readFog {τ σ τ' : Mem}  (hf : f_X5_readFog τ = some τ') : lm_CV l yX5_readFog wsX5_readFog rmX5_readFog D cI cZ cL cR B [.ref (B + 140)] σ τ σ τ' := by
  unfold f_X5_readFog at hf
  refine lm_of (cc := cX5_readFog) (maxL := 2) (ret := none) (own := RX5) (by decide) rfl (Nat.le_of_ble_eq_true rfl) (fun p e s m below meth c0 C0 hR ls hl => ?_)
  have hS : va_S (lm_A B) s.heap s.heap [] := va_S.rf
  have hl : lv_has ls 2 [(0, .ref (B + 140))] := hl
  obtain ⟨hx, hb, hml, hr, hlk, hown, hts, hK, hX⟩ := id C0
  refine lv_aload_n hx hb dX5_readFog_0 rfl (lv_at hl 0 rfl) ?_
  refine lv_bipush (v := (102 : Int32)) hx hb dX5_readFog_1 (by decide) ?_
  obtain ⟨r2, u1, hf⟩ := lm_bd_e hf
  refine lm_endi (lm_runV C0 hR hS (c_X5_isLetter u1) (lw_cV 1 hts uw_590 mv_X5_isLetter rfl rfl hd_X5_isLetter ⟨Nat.le_of_ble_eq_true rfl, Nat.le_of_ble_eq_true rfl⟩) (by decide) cell_140 rfl rfl hl rfl (Nat.le_of_ble_eq_true rfl) dX5_readFog_3) hS (fun H locs hR hS => ?_)
  refine lv_if_eq (tgt := 25) hx hb dX5_readFog_6 (by decide) (fun b4 => ?_) (fun b4 => ?_)
  · have hf := lm_T b4 hf
    exact w_X5_readFog_25 C0 _ _ _ _ hR hS (lv_sub hl [0] rfl) hf
  · have hf := lm_F b4 hf
    refine lv_aload_n hx hb dX5_readFog_9 rfl (lv_at hl 0 rfl) ?_
    refine lm_get C0 hR (by decide) cell_140 rfl lw_in_X5 6 (by decide) uw_514 rfl rfl dX5_readFog_10 ?_
    refine lv_iconst (v := (1 : Int32)) hx hb dX5_readFog_13 (by decide) ?_
    obtain ⟨z5, hf⟩ := lm_ck_e hf
    refine lm_ild C0 hR (by decide) cell_145 z5 dX5_readFog_14 ?_
    refine lv_bipush (v := (6 : Int32)) hx hb dX5_readFog_15 (by decide) ?_
    refine lv_icmp_ne (tgt := 25) hx hb dX5_readFog_17 (by decide) (fun b6 => ?_) (fun b6 => ?_)
    · have hf := lm_F b6 hf
      exact w_X5_readFog_25 C0 _ _ _ _ hR hS (lv_sub hl [0] rfl) hf
    · have hf := lm_T b6 hf
      refine lv_aload_n hx hb dX5_readFog_20 rfl (lv_at hl 0 rfl) ?_
      refine lv_iconst (v := (3 : Int32)) hx hb dX5_readFog_21 (by decide) ?_
      obtain ⟨τ9, u7, hf⟩ := lm_bd_e hf
      refine lm_endv (lm_runV C0 hR hS (c_X5_bad u7) (lw_cV 1 hts uw_596 mv_X5_bad rfl rfl hd_X5_bad ⟨Nat.le_of_ble_eq_true rfl, Nat.le_of_ble_eq_true rfl⟩) (by decide) cell_140 rfl rfl hl rfl (Nat.le_of_ble_eq_true rfl) dX5_readFog_22) hS (fun H locs hR hS => ?_)
      exact w_X5_readFog_25 C0 _ _ _ _ hR hS (lv_sub hl [0] rfl) hf
end
/-! ===== X5_readShip ===== -/
abbrev rmX5_readShip : Room := { frames := 4, cells := 0, slots := 0, locals := 89 }
def f_X5_readShip_24 (x1 : Int32) (τ : Mem) : Option (Mem) := lm_bd (f_X5_must τ (1 : Int32)) fun τ11 => lm_ck (lm_in (2 : Int32) 24) (lm_bd2 (f_X5_number τ11 (0 : Int32) ((τ11 145 (2 : Int32).toNatClampNeg) - (1 : Int32))) fun r14 τ15 => lm_bd (f_X5_mustSign τ15 (59 : Int32)) fun τ18 => if (τ18 140 16) = 0 then (lm_ck (lm_in (0 : Int32) 24) (lm_ck (lm_in ((12 : Int32) + ((2 : Int32) * (τ18 145 (0 : Int32).toNatClampNeg))) 24) (lm_nm (up τ18 145 ((12 : Int32) + ((2 : Int32) * (τ18 145 (0 : Int32).toNatClampNeg))).toNatClampNeg x1) fun τ22 => lm_ck (lm_in (0 : Int32) 24) (lm_ck (lm_in (((12 : Int32) + ((2 : Int32) * (τ22 145 (0 : Int32).toNatClampNeg))) + (1 : Int32)) 24) (lm_nm (up τ22 145 (((12 : Int32) + ((2 : Int32) * (τ22 145 (0 : Int32).toNatClampNeg))) + (1 : Int32)).toNatClampNeg r14) fun τ25 => lm_ck (lm_in (0 : Int32) 24) (lm_ck (lm_in (0 : Int32) 24) (lm_nm (up τ25 145 (0 : Int32).toNatClampNeg ((τ25 145 (0 : Int32).toNatClampNeg) + (1 : Int32))) fun τ28 => some τ28))))))) else (some τ18))
def f_X5_readShip (τ : Mem) : Option (Mem) := lm_bd (f_X5_kindBy (τ 140 15)) fun r2 => lm_ck (lm_in (0 : Int32) 24) (if (τ 145 (0 : Int32).toNatClampNeg) = (6 : Int32) then (lm_bd (f_X5_bad τ (3 : Int32)) fun τ8 => f_X5_readShip_24 r2 τ8) else (f_X5_readShip_24 r2 τ))
abbrev wsX5_readShip : List Cond := Cond.code yX5_readShip cX5_readShip 3 none :: lw_u
theorem mv_X5_readShip : Cond.instanceMethod yX5_readShip ∈ lw_u ∧ Cond.selects yX5_readShip.cls yX5_readShip yX5_readShip ∈ lw_u ∧ Cond.initialized yX5_readShip.cls ∈ lw_u ∧ Cond.code yX5_readShip cX5_readShip 3 none ∈ lw_u := ⟨uw_615, uw_881, uw_6, uw_616⟩
theorem hd_X5_readShip : yX5_readShip.cls ≠ "java/lang/invoke/MethodHandle" ∧ yX5_readShip.cls ≠ "java/lang/invoke/VarHandle" ∧ (parseMethodDescriptor yX5_readShip.desc).map (fun d => d.parameters.length) = some 0 := by decide +kernel
section
variable {l : Launch} {D : va_G} {cI cZ cL cR : ClassId} {B : Nat}
set_option maxRecDepth 100000 in
set_option maxHeartbeats 4000000 in
theorem w_X5_readShip_24 {p : Program} {e : Env} {s : State} {m : MethodId} {args : Array Value} {below : List Frame} {meth : Method} {c0 : Code} {σ τ' : Mem} (C0 : lm_Cx D cI cZ cL cR B p s m args meth c0 cX5_readShip 3 none RX5) : ∀ (x1 : Int32) (τ : Mem) (H : Heap) (locs : List Loc) (ls : Array Slot), va_P D vwCl (wl cI cZ cL cR B σ τ) H → va_S (lm_A B) s.heap H locs → lv_has ls 3 [(0, .ref (B + 140)), (1, .int x1)] → f_X5_readShip_24 x1 τ = some τ' → W p l e rmX5_readShip s m args below meth c0 H locs 0 0 (MQ below (lm_QV D cI cZ cL cR B σ τ') args s 0 0 (lm_A B)) (F0 m 24 ls []) := by
  obtain ⟨hx, hb, hml, hr, hlk, hown, hts, hK, hX⟩ := id C0
  intro x1 τ H locs ls hR hS hl hf
  unfold f_X5_readShip_24 at hf
  refine lv_aload_n hx hb dX5_readShip_24 rfl (lv_at hl 0 rfl) ?_
  refine lv_iconst (v := (1 : Int32)) hx hb dX5_readShip_25 (by decide) ?_
  obtain ⟨τ11, u9, hf⟩ := lm_bd_e hf
  refine lm_endv (lm_runV C0 hR hS (c_X5_must u9) (lw_cV 1 hts uw_593 mv_X5_must rfl rfl hd_X5_must ⟨Nat.le_of_ble_eq_true rfl, Nat.le_of_ble_eq_true rfl⟩) (by decide) cell_140 rfl rfl hl rfl (Nat.le_of_ble_eq_true rfl) dX5_readShip_26) hS (fun H locs hR hS => ?_)
  refine lv_aload_n hx hb dX5_readShip_29 rfl (lv_at hl 0 rfl) ?_
  refine lv_iconst (v := (0 : Int32)) hx hb dX5_readShip_30 (by decide) ?_
  refine lv_aload_n hx hb dX5_readShip_31 rfl (lv_at hl 0 rfl) ?_
  refine lm_get C0 hR (by decide) cell_140 rfl lw_in_X5 6 (by decide) uw_514 rfl rfl dX5_readShip_32 ?_
  refine lv_iconst (v := (2 : Int32)) hx hb dX5_readShip_35 (by decide) ?_
  obtain ⟨z12, hf⟩ := lm_ck_e hf
  refine lm_ild C0 hR (by decide) cell_145 z12 dX5_readShip_36 ?_
  refine lv_iconst (v := (1 : Int32)) hx hb dX5_readShip_37 (by decide) ?_
  refine lv_isub hx hb dX5_readShip_38 ?_
  obtain ⟨r14, τ15, u13, hf⟩ := lm_bd2_e hf
  refine lm_endi (lm_runV C0 hR hS (c_X5_number u13) (lw_cV 2 hts uw_599 mv_X5_number rfl rfl hd_X5_number ⟨Nat.le_of_ble_eq_true rfl, Nat.le_of_ble_eq_true rfl⟩) (by decide) cell_140 rfl rfl hl rfl (Nat.le_of_ble_eq_true rfl) dX5_readShip_39) hS (fun H locs hR hS => ?_)
  refine lv_istore_n (lv' := [(2, .int r14), (0, .ref (B + 140)), (1, .int x1)]) hx hb dX5_readShip_42 rfl hl (by decide) rfl (fun ls hl => ?_)
  refine lv_aload_n hx hb dX5_readShip_43 rfl (lv_at hl 1 rfl) ?_
  refine lv_bipush (v := (59 : Int32)) hx hb dX5_readShip_44 (by decide) ?_
  obtain ⟨τ18, u16, hf⟩ := lm_bd_e hf
  refine lm_endv (lm_runV C0 hR hS (c_X5_mustSign u16) (lw_cV 1 hts uw_602 mv_X5_mustSign rfl rfl hd_X5_mustSign ⟨Nat.le_of_ble_eq_true rfl, Nat.le_of_ble_eq_true rfl⟩) (by decide) cell_140 rfl rfl hl rfl (Nat.le_of_ble_eq_true rfl) dX5_readShip_46) hS (fun H locs hR hS => ?_)
  refine lv_aload_n hx hb dX5_readShip_49 rfl (lv_at hl 1 rfl) ?_
  refine lm_get C0 hR (by decide) cell_140 rfl lw_in_X5 16 (by decide) uw_524 rfl rfl dX5_readShip_50 ?_
  refine lv_if_ne (tgt := 102) hx hb dX5_readShip_53 (by decide) (fun b19 => ?_) (fun b19 => ?_)
  · have hf := lm_F b19 hf
    exact lm_rvM C0 hR hS hf dX5_readShip_102
  · have hf := lm_T b19 hf
    refine lv_aload_n hx hb dX5_readShip_56 rfl (lv_at hl 1 rfl) ?_
    refine lm_get C0 hR (by decide) cell_140 rfl lw_in_X5 6 (by decide) uw_514 rfl rfl dX5_readShip_57 ?_
    refine lv_bipush (v := (12 : Int32)) hx hb dX5_readShip_60 (by decide) ?_
    refine lv_iconst (v := (2 : Int32)) hx hb dX5_readShip_62 (by decide) ?_
    refine lv_aload_n hx hb dX5_readShip_63 rfl (lv_at hl 1 rfl) ?_
    refine lm_get C0 hR (by decide) cell_140 rfl lw_in_X5 6 (by decide) uw_514 rfl rfl dX5_readShip_64 ?_
    refine lv_iconst (v := (0 : Int32)) hx hb dX5_readShip_67 (by decide) ?_
    obtain ⟨z20, hf⟩ := lm_ck_e hf
    refine lm_ild C0 hR (by decide) cell_145 z20 dX5_readShip_68 ?_
    refine lv_imul hx hb dX5_readShip_69 ?_
    refine lv_iadd hx hb dX5_readShip_70 ?_
    refine lv_iload_n hx hb dX5_readShip_71 rfl (lv_at hl 2 rfl) ?_
    obtain ⟨z21, hf⟩ := lm_ck_e hf
    obtain ⟨τ22, eτ22, hf⟩ := lm_nm_e hf
    refine lm_istM C0 hR hS (by decide) cell_145 z21  eτ22 cell_145u dX5_readShip_72 (fun H locs hR hS => ?_)
    refine lv_aload_n hx hb dX5_readShip_73 rfl (lv_at hl 1 rfl) ?_
    refine lm_get C0 hR (by decide) cell_140 rfl lw_in_X5 6 (by decide) uw_514 rfl rfl dX5_readShip_74 ?_
    refine lv_bipush (v := (12 : Int32)) hx hb dX5_readShip_77 (by decide) ?_
    refine lv_iconst (v := (2 : Int32)) hx hb dX5_readShip_79 (by decide) ?_
    refine lv_aload_n hx hb dX5_readShip_80 rfl (lv_at hl 1 rfl) ?_
    refine lm_get C0 hR (by decide) cell_140 rfl lw_in_X5 6 (by decide) uw_514 rfl rfl dX5_readShip_81 ?_
    refine lv_iconst (v := (0 : Int32)) hx hb dX5_readShip_84 (by decide) ?_
    obtain ⟨z23, hf⟩ := lm_ck_e hf
    refine lm_ild C0 hR (by decide) cell_145 z23 dX5_readShip_85 ?_
    refine lv_imul hx hb dX5_readShip_86 ?_
    refine lv_iadd hx hb dX5_readShip_87 ?_
    refine lv_iconst (v := (1 : Int32)) hx hb dX5_readShip_88 (by decide) ?_
    refine lv_iadd hx hb dX5_readShip_89 ?_
    refine lv_iload_n hx hb dX5_readShip_90 rfl (lv_at hl 0 rfl) ?_
    obtain ⟨z24, hf⟩ := lm_ck_e hf
    obtain ⟨τ25, eτ25, hf⟩ := lm_nm_e hf
    refine lm_istM C0 hR hS (by decide) cell_145 z24  eτ25 cell_145u dX5_readShip_91 (fun H locs hR hS => ?_)
    refine lv_aload_n hx hb dX5_readShip_92 rfl (lv_at hl 1 rfl) ?_
    refine lm_get C0 hR (by decide) cell_140 rfl lw_in_X5 6 (by decide) uw_514 rfl rfl dX5_readShip_93 ?_
    refine lv_iconst (v := (0 : Int32)) hx hb dX5_readShip_96 (by decide) ?_
    refine lv_dup2_11 hx hb dX5_readShip_97 rfl rfl ?_
    obtain ⟨z26, hf⟩ := lm_ck_e hf
    refine lm_ild C0 hR (by decide) cell_145 z26 dX5_readShip_98 ?_
    refine lv_iconst (v := (1 : Int32)) hx hb dX5_readShip_99 (by decide) ?_
    refine lv_iadd hx hb dX5_readShip_100 ?_
    obtain ⟨z27, hf⟩ := lm_ck_e hf
    obtain ⟨τ28, eτ28, hf⟩ := lm_nm_e hf
    refine lm_istM C0 hR hS (by decide) cell_145 z27  eτ28 cell_145u dX5_readShip_101 (fun H locs hR hS => ?_)
    exact lm_rvM C0 hR hS hf dX5_readShip_102
set_option maxRecDepth 100000 in
set_option maxHeartbeats 4000000 in
theorem c_X5_readShip {τ σ τ' : Mem}  (hf : f_X5_readShip τ = some τ') : lm_CV l yX5_readShip wsX5_readShip rmX5_readShip D cI cZ cL cR B [.ref (B + 140)] σ τ σ τ' := by
  unfold f_X5_readShip at hf
  refine lm_of (cc := cX5_readShip) (maxL := 3) (ret := none) (own := RX5) (by decide) rfl (Nat.le_of_ble_eq_true rfl) (fun p e s m below meth c0 C0 hR ls hl => ?_)
  have hS : va_S (lm_A B) s.heap s.heap [] := va_S.rf
  have hl : lv_has ls 3 [(0, .ref (B + 140))] := hl
  obtain ⟨hx, hb, hml, hr, hlk, hown, hts, hK, hX⟩ := id C0
  refine lv_aload_n hx hb dX5_readShip_0 rfl (lv_at hl 0 rfl) ?_
  refine lm_get C0 hR (by decide) cell_140 rfl lw_in_X5 15 (by decide) uw_523 rfl rfl dX5_readShip_1 ?_
  obtain ⟨r2, u1, hf⟩ := lm_bd_e hf
  refine lm_endi (lm_runS C0 hR hS (c_X5_kindBy u1) (lw_cS 1 hts uw_611 mv_X5_kindBy rfl rfl hd_X5_kindBy ⟨Nat.le_of_ble_eq_true rfl, Nat.le_of_ble_eq_true rfl⟩) rfl hl rfl (Nat.le_of_ble_eq_true rfl) dX5_readShip_4) hS (fun H locs hR hS => ?_)
  refine lv_istore_n (lv' := [(1, .int r2), (0, .ref (B + 140))]) hx hb dX5_readShip_7 rfl hl (by decide) rfl (fun ls hl => ?_)
  refine lv_aload_n hx hb dX5_readShip_8 rfl (lv_at hl 1 rfl) ?_
  refine lm_get C0 hR (by decide) cell_140 rfl lw_in_X5 6 (by decide) uw_514 rfl rfl dX5_readShip_9 ?_
  refine lv_iconst (v := (0 : Int32)) hx hb dX5_readShip_12 (by decide) ?_
  obtain ⟨z4, hf⟩ := lm_ck_e hf
  refine lm_ild C0 hR (by decide) cell_145 z4 dX5_readShip_13 ?_
  refine lv_bipush (v := (6 : Int32)) hx hb dX5_readShip_14 (by decide) ?_
  refine lv_icmp_ne (tgt := 24) hx hb dX5_readShip_16 (by decide) (fun b5 => ?_) (fun b5 => ?_)
  · have hf := lm_F b5 hf
    exact w_X5_readShip_24 C0 _ _ _ _ _ hR hS (lv_sub hl [1, 0] rfl) hf
  · have hf := lm_T b5 hf
    refine lv_aload_n hx hb dX5_readShip_19 rfl (lv_at hl 1 rfl) ?_
    refine lv_iconst (v := (3 : Int32)) hx hb dX5_readShip_20 (by decide) ?_
    obtain ⟨τ8, u6, hf⟩ := lm_bd_e hf
    refine lm_endv (lm_runV C0 hR hS (c_X5_bad u6) (lw_cV 1 hts uw_596 mv_X5_bad rfl rfl hd_X5_bad ⟨Nat.le_of_ble_eq_true rfl, Nat.le_of_ble_eq_true rfl⟩) (by decide) cell_140 rfl rfl hl rfl (Nat.le_of_ble_eq_true rfl) dX5_readShip_21) hS (fun H locs hR hS => ?_)
    exact w_X5_readShip_24 C0 _ _ _ _ _ hR hS (lv_sub hl [1, 0] rfl) hf
end
