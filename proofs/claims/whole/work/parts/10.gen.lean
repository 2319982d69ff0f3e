/-! ===== X0_forget ===== -/
abbrev rmX0_forget : Room := { frames := 0, cells := 0, slots := 0, locals := 0 }
def f_X0_forget (σ : Mem) : Option (Mem) := lm_nm (up σ 16 2 (0 : Int32)) fun σ1 => some σ1
abbrev wsX0_forget : List Cond := Cond.code yX0_forget cX0_forget 1 none :: lw_u
theorem mv_X0_forget : Cond.instanceMethod yX0_forget ∈ lw_u ∧ Cond.selects yX0_forget.cls yX0_forget yX0_forget ∈ lw_u ∧ Cond.initialized yX0_forget.cls ∈ lw_u ∧ Cond.code yX0_forget cX0_forget 1 none ∈ lw_u := ⟨uw_205, uw_206, uw_4, uw_207⟩
theorem hd_X0_forget : yX0_forget.cls ≠ "java/lang/invoke/MethodHandle" ∧ yX0_forget.cls ≠ "java/lang/invoke/VarHandle" ∧ (parseMethodDescriptor yX0_forget.desc).map (fun d => d.parameters.length) = some 0 := by decide +kernel
section
variable {l : Launch} {D : va_G} {cI cZ cL cR : ClassId} {B : Nat}
set_option maxRecDepth 100000 in
set_option maxHeartbeats 4000000 in
theorem c_X0_forget {σ τ σ' : Mem}  (hf : f_X0_forget σ = some σ') : lm_CV l yX0_forget wsX0_forget rmX0_forget D cI cZ cL cR B [.ref (B + 16)] σ τ σ' τ := by
  unfold f_X0_forget at hf
  refine lm_of (cc := cX0_forget) (maxL := 1) (ret := none) (own := RX0) (by decide) rfl (Nat.le_of_ble_eq_true rfl) (fun p e s m below meth c0 C0 hR ls hl => ?_)
  have hS : va_S (lm_A B) s.heap s.heap [] := va_S.rf
  have hl : lv_has ls 1 [(0, .ref (B + 16))] := hl
  obtain ⟨hx, hb, hml, hr, hlk, hown, hts, hK, hX⟩ := id C0
  refine lv_aload_n hx hb dX0_forget_0 rfl (lv_at hl 0 rfl) ?_
  refine lv_iconst (v := (0 : Int32)) hx hb dX0_forget_1 (by decide) ?_
  obtain ⟨σ1, eσ1, hf⟩ := lm_nm_e hf
  refine lm_putC C0 hR hS (by decide) cell_16 rfl lw_in_X0 tyX0 tyX0_ok nmX0 2 (by decide) uw_73 rfl rfl rfl rfl rfl (Nat.le_of_ble_eq_true rfl) eσ1 cell_16u dX0_forget_2 (fun H locs hR hS => ?_)
  exact lm_rvC C0 hR hS hf dX0_forget_5
end
/-! ===== X1_takeSea ===== -/
abbrev rmX1_takeSea : Room := { frames := 0, cells := 0, slots := 0, locals := 0 }
def f_X1_takeSea_42 (c : Nat) (o1 : Nat) : Nat → Int32 → Mem → Option (Mem)
  | 0, _, _ => none
  | n + 1, x2, σ => if (6 : Int32) ≤ x2 then (some σ) else (lm_ck (lm_in x2 6) (lm_ck (lm_in x2 6) (lm_nm (up σ (c + 1) x2.toNatClampNeg (σ (o1 + 1) x2.toNatClampNeg)) fun σ9 => lm_nm (x2 + (1 : Int32)) fun v10 => f_X1_takeSea_42 c o1 n v10 σ9)))
def f_X1_takeSea (c : Nat) (o1 : Nat) (σ : Mem) : Option (Mem) := lm_nm (up σ c 3 (σ o1 3)) fun σ1 => lm_nm (up σ1 c 4 (σ1 o1 4)) fun σ2 => lm_nm (up σ2 c 5 (σ2 o1 5)) fun σ3 => lm_nm (up σ3 c 6 (σ3 o1 6)) fun σ4 => lm_nm (up σ4 c 7 (σ4 o1 7)) fun σ5 => f_X1_takeSea_42 c o1 lm_fu (0 : Int32) σ5
abbrev wsX1_takeSea : List Cond := Cond.code yX1_takeSea cX1_takeSea 3 none :: lw_u
theorem mv_X1_takeSea : Cond.instanceMethod yX1_takeSea ∈ lw_u ∧ Cond.selects yX1_takeSea.cls yX1_takeSea yX1_takeSea ∈ lw_u ∧ Cond.initialized yX1_takeSea.cls ∈ lw_u ∧ Cond.code yX1_takeSea cX1_takeSea 3 none ∈ lw_u := ⟨uw_198, uw_855, uw_3, uw_199⟩
theorem hd_X1_takeSea : yX1_takeSea.cls ≠ "java/lang/invoke/MethodHandle" ∧ yX1_takeSea.cls ≠ "java/lang/invoke/VarHandle" ∧ (parseMethodDescriptor yX1_takeSea.desc).map (fun d => d.parameters.length) = some 1 := by decide +kernel
section
variable {l : Launch} {D : va_G} {cI cZ cL cR : ClassId} {B : Nat}
set_option maxRecDepth 100000 in
set_option maxHeartbeats 4000000 in
theorem w_X1_takeSea_42 {c : Nat} {o1 : Nat} (hc : isL c) (h1 : isL o1) {p : Program} {e : Env} {s : State} {m : MethodId} {args : Array Value} {below : List Frame} {meth : Method} {c0 : Code} {τ σ' : Mem} (C0 : lm_Cx D cI cZ cL cR B p s m args meth c0 cX1_takeSea 3 none RX1) : ∀ (n : Nat), ∀ (x2 : Int32) (σ : Mem) (H : Heap) (locs : List Loc) (ls : Array Slot), va_P D vwCl (wl cI cZ cL cR B σ τ) H → va_S (lm_A B) s.heap H locs → lv_has ls 3 [(0, .ref (B + c)), (1, .ref (B + o1)), (2, .int x2)] → f_X1_takeSea_42 c o1 n x2 σ = some σ' → W p l e rmX1_takeSea s m args below meth c0 H locs 0 0 (MQ below (lm_QV D cI cZ cL cR B σ' τ) args s 0 0 (lm_A B)) (F0 m 42 ls []) := by
  obtain ⟨hx, hb, hml, hr, hlk, hown, hts, hK, hX⟩ := id C0
  intro n
  induction n with
  | zero =>
    intro x2 σ H locs ls hR hS hl hf
    cases hf
  | succ n ih =>
    intro x2 σ H locs ls hR hS hl hf
    rw [f_X1_takeSea_42] at hf
    refine lv_iload_n hx hb dX1_takeSea_42 rfl (lv_at hl 2 rfl) ?_
    refine lv_bipush (v := (6 : Int32)) hx hb dX1_takeSea_43 (by decide) ?_
    refine lv_icmp_ge (tgt := 66) hx hb dX1_takeSea_45 (by decide) (fun b6 => ?_) (fun b6 => ?_)
    · have hf := lm_T b6 hf
      exact lm_rvC C0 hR hS hf dX1_takeSea_66
    · have hf := lm_F b6 hf
      refine lv_aload_n hx hb dX1_takeSea_48 rfl (lv_at hl 0 rfl) ?_
      refine lm_get C0 hR (isL_lt hc) (cell_L hc) rfl lw_in_X1 0 (by decide) uw_38 rfl rfl dX1_takeSea_49 ?_
      refine lv_iload_n hx hb dX1_takeSea_52 rfl (lv_at hl 2 rfl) ?_
      refine lv_aload_n hx hb dX1_takeSea_53 rfl (lv_at hl 1 rfl) ?_
      refine lm_get C0 hR (isL_lt h1) (cell_L h1) rfl lw_in_X1 0 (by decide) uw_38 rfl rfl dX1_takeSea_54 ?_
      refine lv_iload_n hx hb dX1_takeSea_57 rfl (lv_at hl 2 rfl) ?_
      obtain ⟨z7, hf⟩ := lm_ck_e hf
      refine lm_ild C0 hR (isL_lt1 h1) (cell_L1 h1) z7 dX1_takeSea_58 ?_
      obtain ⟨z8, hf⟩ := lm_ck_e hf
      obtain ⟨σ9, eσ9, hf⟩ := lm_nm_e hf
      refine lm_istC C0 hR hS (isL_lt1 hc) (cell_L1 hc) z8  eσ9 (cell_L1u hc) dX1_takeSea_59 (fun H locs hR hS => ?_)
      obtain ⟨v10, ev10, hf⟩ := lm_nm_e hf
      refine lv_iinc (v := v10) (lv' := [(2, .int v10), (0, .ref (B + c)), (1, .ref (B + o1))]) hx hb dX1_takeSea_60 hl (k := 2) rfl (by rw [ev10]; rfl) (by decide) rfl (fun ls hl => ?_)
      refine lv_goto (tgt := 42) hx hb dX1_takeSea_63 (by decide) ?_
      exact ih _ _ _ _ _ hR hS (lv_sub hl [1, 2, 0] rfl) hf
set_option maxRecDepth 100000 in
set_option maxHeartbeats 4000000 in
theorem c_X1_takeSea {c : Nat} {o1 : Nat} (hc : isL c) (h1 : isL o1) {σ τ σ' : Mem}  (hf : f_X1_takeSea c o1 σ = some σ') : lm_CV l yX1_takeSea wsX1_takeSea rmX1_takeSea D cI cZ cL cR B [.ref (B + c), .ref (B + o1)] σ τ σ' τ := by
  unfold f_X1_takeSea at hf
  refine lm_of (cc := cX1_takeSea) (maxL := 3) (ret := none) (own := RX1) (by decide) rfl (Nat.le_of_ble_eq_true rfl) (fun p e s m below meth c0 C0 hR ls hl => ?_)
  have hS : va_S (lm_A B) s.heap s.heap [] := va_S.rf
  have hl : lv_has ls 3 [(0, .ref (B + c)), (1, .ref (B + o1))] := hl
  obtain ⟨hx, hb, hml, hr, hlk, hown, hts, hK, hX⟩ := id C0
  refine lv_aload_n hx hb dX1_takeSea_0 rfl (lv_at hl 0 rfl) ?_
  refine lv_aload_n hx hb dX1_takeSea_1 rfl (lv_at hl 1 rfl) ?_
  refine lm_get C0 hR (isL_lt h1) (cell_L h1) rfl lw_in_X1 3 (by decide) uw_47 rfl rfl dX1_takeSea_2 ?_
  obtain ⟨σ1, eσ1, hf⟩ := lm_nm_e hf
  refine lm_putC C0 hR hS (isL_lt hc) (cell_L hc) rfl lw_in_X1 tyX1 tyX1_ok nmX1 3 (by decide) uw_47 rfl rfl rfl rfl rfl (Nat.le_of_ble_eq_true rfl) eσ1 (cell_Lu hc) dX1_takeSea_5 (fun H locs hR hS => ?_)
  refine lv_aload_n hx hb dX1_takeSea_8 rfl (lv_at hl 0 rfl) ?_
  refine lv_aload_n hx hb dX1_takeSea_9 rfl (lv_at hl 1 rfl) ?_
  refine lm_get C0 hR (isL_lt h1) (cell_L h1) rfl lw_in_X1 4 (by decide) uw_50 rfl rfl dX1_takeSea_10 ?_
  obtain ⟨σ2, eσ2, hf⟩ := lm_nm_e hf
  refine lm_putC C0 hR hS (isL_lt hc) (cell_L hc) rfl lw_in_X1 tyX1 tyX1_ok nmX1 4 (by decide) uw_50 rfl rfl rfl rfl rfl (Nat.le_of_ble_eq_true rfl) eσ2 (cell_Lu hc) dX1_takeSea_13 (fun H locs hR hS => ?_)
  refine lv_aload_n hx hb dX1_takeSea_16 rfl (lv_at hl 0 rfl) ?_
  refine lv_aload_n hx hb dX1_takeSea_17 rfl (lv_at hl 1 rfl) ?_
  refine lm_get C0 hR (isL_lt h1) (cell_L h1) rfl lw_in_X1 5 (by decide) uw_53 rfl rfl dX1_takeSea_18 ?_
  obtain ⟨σ3, eσ3, hf⟩ := lm_nm_e hf
  refine lm_putC C0 hR hS (isL_lt hc) (cell_L hc) rfl lw_in_X1 tyX1 tyX1_ok nmX1 5 (by decide) uw_53 rfl rfl rfl rfl rfl (Nat.le_of_ble_eq_true rfl) eσ3 (cell_Lu hc) dX1_takeSea_21 (fun H locs hR hS => ?_)
  refine lv_aload_n hx hb dX1_takeSea_24 rfl (lv_at hl 0 rfl) ?_
  refine lv_aload_n hx hb dX1_takeSea_25 rfl (lv_at hl 1 rfl) ?_
  refine lm_get C0 hR (isL_lt h1) (cell_L h1) rfl lw_in_X1 6 (by decide) uw_56 rfl rfl dX1_takeSea_26 ?_
  obtain ⟨σ4, eσ4, hf⟩ := lm_nm_e hf
  refine lm_putC C0 hR hS (isL_lt hc) (cell_L hc) rfl lw_in_X1 tyX1 tyX1_ok nmX1 6 (by decide) uw_56 rfl rfl rfl rfl rfl (Nat.le_of_ble_eq_true rfl) eσ4 (cell_Lu hc) dX1_takeSea_29 (fun H locs hR hS => ?_)
  refine lv_aload_n hx hb dX1_takeSea_32 rfl (lv_at hl 0 rfl) ?_
  refine lv_aload_n hx hb dX1_takeSea_33 rfl (lv_at hl 1 rfl) ?_
  refine lm_get C0 hR (isL_lt h1) (cell_L h1) rfl lw_in_X1 7 (by decide) uw_58 rfl rfl dX1_takeSea_34 ?_
  obtain ⟨σ5, eσ5, hf⟩ := lm_nm_e hf
  refine lm_putC C0 hR hS (isL_lt hc) (cell_L hc) rfl lw_in_X1 tyX1 tyX1_ok nmX1 7 (by decide) uw_58 rfl rfl rfl rfl rfl (Nat.le_of_ble_eq_true rfl) eσ5 (cell_Lu hc) dX1_takeSea_37 (fun H locs hR hS => ?_)
  refine lv_iconst (v := (0 : Int32)) hx hb dX1_takeSea_40 (by decide) ?_
  refine lv_istore_n (lv' := [(2, .int (0 : Int32)), (0, .ref (B + c)), (1, .ref (B + o1))]) hx hb dX1_takeSea_41 rfl hl (by decide) rfl (fun ls hl => ?_)
  exact w_X1_takeSea_42 hc h1 C0 _ _ _ _ _ _ hR hS (lv_sub hl [1, 2, 0] rfl) hf
end
/-! ===== X1_takeShips ===== -/
abbrev rmX1_takeShips : Room := { frames := 0, cells := 0, slots := 0, locals := 0 }
def f_X1_takeShips_10 (c : Nat) (o1 : Nat) : Nat → Int32 → Mem → Option (Mem)
  | 0, _, _ => none
  | n + 1, x2, σ => if (6 : Int32) ≤ x2 then (some σ) else (lm_ck (lm_in x2 6) (lm_ck (lm_in x2 6) (lm_nm (up σ (c + 2) x2.toNatClampNeg (σ (o1 + 2) x2.toNatClampNeg)) fun σ5 => lm_ck (lm_in x2 6) (lm_ck (lm_in x2 6) (lm_nm (up σ5 (c + 3) x2.toNatClampNeg (σ5 (o1 + 3) x2.toNatClampNeg)) fun σ8 => lm_nm (x2 + (1 : Int32)) fun v9 => f_X1_takeShips_10 c o1 n v9 σ8)))))
def f_X1_takeShips (c : Nat) (o1 : Nat) (σ : Mem) : Option (Mem) := lm_nm (up σ c 8 (σ o1 8)) fun σ1 => f_X1_takeShips_10 c o1 lm_fu (0 : Int32) σ1
abbrev wsX1_takeShips : List Cond := Cond.code yX1_takeShips cX1_takeShips 3 none :: lw_u
theorem mv_X1_takeShips : Cond.instanceMethod yX1_takeShips ∈ lw_u ∧ Cond.selects yX1_takeShips.cls yX1_takeShips yX1_takeShips ∈ lw_u ∧ Cond.initialized yX1_takeShips.cls ∈ lw_u ∧ Cond.code yX1_takeShips cX1_takeShips 3 none ∈ lw_u := ⟨uw_201, uw_202, uw_3, uw_203⟩
theorem hd_X1_takeShips : yX1_takeShips.cls ≠ "java/lang/invoke/MethodHandle" ∧ yX1_takeShips.cls ≠ "java/lang/invoke/VarHandle" ∧ (parseMethodDescriptor yX1_takeShips.desc).map (fun d => d.parameters.length) = some 1 := by decide +kernel
section
variable {l : Launch} {D : va_G} {cI cZ cL cR : ClassId} {B : Nat}
set_option maxRecDepth 100000 in
set_option maxHeartbeats 4000000 in
theorem w_X1_takeShips_10 {c : Nat} {o1 : Nat} (hc : isL c) (h1 : isL o1) {p : Program} {e : Env} {s : State} {m : MethodId} {args : Array Value} {below : List Frame} {meth : Method} {c0 : Code} {τ σ' : Mem} (C0 : lm_Cx D cI cZ cL cR B p s m args meth c0 cX1_takeShips 3 none RX1) : ∀ (n : Nat), ∀ (x2 : Int32) (σ : Mem) (H : Heap) (locs : List Loc) (ls : Array Slot), va_P D vwCl (wl cI cZ cL cR B σ τ) H → va_S (lm_A B) s.heap H locs → lv_has ls 3 [(0, .ref (B + c)), (1, .ref (B + o1)), (2, .int x2)] → f_X1_takeShips_10 c o1 n x2 σ = some σ' → W p l e rmX1_takeShips s m args below meth c0 H locs 0 0 (MQ below (lm_QV D cI cZ cL cR B σ' τ) args s 0 0 (lm_A B)) (F0 m 10 ls []) := by
  obtain ⟨hx, hb, hml, hr, hlk, hown, hts, hK, hX⟩ := id C0
  intro n
  induction n with
  | zero =>
    intro x2 σ H locs ls hR hS hl hf
    cases hf
  | succ n ih =>
    intro x2 σ H locs ls hR hS hl hf
    rw [f_X1_takeShips_10] at hf
    refine lv_iload_n hx hb dX1_takeShips_10 rfl (lv_at hl 2 rfl) ?_
    refine lv_bipush (v := (6 : Int32)) hx hb dX1_takeShips_11 (by decide) ?_
    refine lv_icmp_ge (tgt := 46) hx hb dX1_takeShips_13 (by decide) (fun b2 => ?_) (fun b2 => ?_)
    · have hf := lm_T b2 hf
      exact lm_rvC C0 hR hS hf dX1_takeShips_46
    · have hf := lm_F b2 hf
      refine lv_aload_n hx hb dX1_takeShips_16 rfl (lv_at hl 0 rfl) ?_
      refine lm_get C0 hR (isL_lt hc) (cell_L hc) rfl lw_in_X1 1 (by decide) uw_41 rfl rfl dX1_takeShips_17 ?_
      refine lv_iload_n hx hb dX1_takeShips_20 rfl (lv_at hl 2 rfl) ?_
      refine lv_aload_n hx hb dX1_takeShips_21 rfl (lv_at hl 1 rfl) ?_
      refine lm_get C0 hR (isL_lt h1) (cell_L h1) rfl lw_in_X1 1 (by decide) uw_41 rfl rfl dX1_takeShips_22 ?_
      refine lv_iload_n hx hb dX1_takeShips_25 rfl (lv_at hl 2 rfl) ?_
      obtain ⟨z3, hf⟩ := lm_ck_e hf
      refine lm_ild C0 hR (isL_lt2 h1) (cell_L2 h1) z3 dX1_takeShips_26 ?_
      obtain ⟨z4, hf⟩ := lm_ck_e hf
      obtain ⟨σ5, eσ5, hf⟩ := lm_nm_e hf
      refine lm_istC C0 hR hS (isL_lt2 hc) (cell_L2 hc) z4  eσ5 (cell_L2u hc) dX1_takeShips_27 (fun H locs hR hS => ?_)
      refine lv_aload_n hx hb dX1_takeShips_28 rfl (lv_at hl 0 rfl) ?_
      refine lm_get C0 hR (isL_lt hc) (cell_L hc) rfl lw_in_X1 2 (by decide) uw_44 rfl rfl dX1_takeShips_29 ?_
      refine lv_iload_n hx hb dX1_takeShips_32 rfl (lv_at hl 2 rfl) ?_
      refine lv_aload_n hx hb dX1_takeShips_33 rfl (lv_at hl 1 rfl) ?_
      refine lm_get C0 hR (isL_lt h1) (cell_L h1) rfl lw_in_X1 2 (by decide) uw_44 rfl rfl dX1_takeShips_34 ?_
      refine lv_iload_n hx hb dX1_takeShips_37 rfl (lv_at hl 2 rfl) ?_
      obtain ⟨z6, hf⟩ := lm_ck_e hf
      refine lm_ild C0 hR (isL_lt3 h1) (cell_L3 h1) z6 dX1_takeShips_38 ?_
      obtain ⟨z7, hf⟩ := lm_ck_e hf
      obtain ⟨σ8, eσ8, hf⟩ := lm_nm_e hf
      refine lm_istC C0 hR hS (isL_lt3 hc) (cell_L3 hc) z7  eσ8 (cell_L3u hc) dX1_takeShips_39 (fun H locs hR hS => ?_)
      obtain ⟨v9, ev9, hf⟩ := lm_nm_e hf
      refine lv_iinc (v := v9) (lv' := [(2, .int v9), (0, .ref (B + c)), (1, .ref (B + o1))]) hx hb dX1_takeShips_40 hl (k := 2) rfl (by rw [ev9]; rfl) (by decide) rfl (fun ls hl => ?_)
      refine lv_goto (tgt := 10) hx hb dX1_takeShips_43 (by decide) ?_
      exact ih _ _ _ _ _ hR hS (lv_sub hl [1, 2, 0] rfl) hf
set_option maxRecDepth 100000 in
set_option maxHeartbeats 4000000 in
theorem c_X1_takeShips {c : Nat} {o1 : Nat} (hc : isL c) (h1 : isL o1) {σ τ σ' : Mem}  (hf : f_X1_takeShips c o1 σ = some σ') : lm_CV l yX1_takeShips wsX1_takeShips rmX1_takeShips D cI cZ cL cR B [.ref (B + c), .ref (B + o1)] σ τ σ' τ := by
  unfold f_X1_takeShips at hf
  refine lm_of (cc := cX1_takeShips) (maxL := 3) (ret := none) (own := RX1) (by decide) rfl (Nat.le_of_ble_eq_true rfl) (fun p e s m below meth c0 C0 hR ls hl => ?_)
  have hS : va_S (lm_A B) s.heap s.heap [] := va_S.rf
  have hl : lv_has ls 3 [(0, .ref (B + c)), (1, .ref (B + o1))] := hl
  obtain ⟨hx, hb, hml, hr, hlk, hown, hts, hK, hX⟩ := id C0
  refine lv_aload_n hx hb dX1_takeShips_0 rfl (lv_at hl 0 rfl) ?_
  refine lv_aload_n hx hb dX1_takeShips_1 rfl (lv_at hl 1 rfl) ?_
  refine lm_get C0 hR (isL_lt h1) (cell_L h1) rfl lw_in_X1 8 (by decide) uw_61 rfl rfl dX1_takeShips_2 ?_
  obtain ⟨σ1, eσ1, hf⟩ := lm_nm_e hf
  refine lm_putC C0 hR hS (isL_lt hc) (cell_L hc) rfl lw_in_X1 tyX1 tyX1_ok nmX1 8 (by decide) uw_61 rfl rfl rfl rfl rfl (Nat.le_of_ble_eq_true rfl) eσ1 (cell_Lu hc) dX1_takeShips_5 (fun H locs hR hS => ?_)
  refine lv_iconst (v := (0 : Int32)) hx hb dX1_takeShips_8 (by decide) ?_
  refine lv_istore_n (lv' := [(2, .int (0 : Int32)), (0, .ref (B + c)), (1, .ref (B + o1))]) hx hb dX1_takeShips_9 rfl hl (by decide) rfl (fun ls hl => ?_)
  exact w_X1_takeShips_10 hc h1 C0 _ _ _ _ _ _ hR hS (lv_sub hl [1, 2, 0] rfl) hf
end
/-! ===== X1_takeFrom ===== -/
abbrev rmX1_takeFrom : Room := { frames := 1, cells := 0, slots := 0, locals := 22 }
def f_X1_takeFrom (c : Nat) (o1 : Nat) (σ : Mem) : Option (Mem) := lm_bd (f_X1_takeSea c o1 σ) fun σ3 => lm_bd (f_X1_takeShips c o1 σ3) fun σ6 => some σ6
abbrev wsX1_takeFrom : List Cond := Cond.code yX1_takeFrom cX1_takeFrom 2 none :: lw_u
theorem mv_X1_takeFrom : Cond.instanceMethod yX1_takeFrom ∈ lw_u ∧ Cond.selects yX1_takeFrom.cls yX1_takeFrom yX1_takeFrom ∈ lw_u ∧ Cond.initialized yX1_takeFrom.cls ∈ lw_u ∧ Cond.code yX1_takeFrom cX1_takeFrom 2 none ∈ lw_u := ⟨uw_194, uw_195, uw_3, uw_196⟩
theorem hd_X1_takeFrom : yX1_takeFrom.cls ≠ "java/lang/invoke/MethodHandle" ∧ yX1_takeFrom.cls ≠ "java/lang/invoke/VarHandle" ∧ (parseMethodDescriptor yX1_takeFrom.desc).map (fun d => d.parameters.length) = some 1 := by decide +kernel
section
variable {l : Launch} {D : va_G} {cI cZ cL cR : ClassId} {B : Nat}
set_option maxRecDepth 100000 in
set_option maxHeartbeats 4000000 in
theorem c_X1_takeFrom {c : Nat} {o1 : Nat} (hc : isL c) (h1 : isL o1) {σ τ σ' : Mem}  (hf : f_X1_takeFrom c o1 σ = some σ') : lm_CV l yX1_takeFrom wsX1_takeFrom rmX1_takeFrom D cI cZ cL cR B [.ref (B + c), .ref (B + o1)] σ τ σ' τ := by
  unfold f_X1_takeFrom at hf
  refine lm_of (cc := cX1_takeFrom) (maxL := 2) (ret := none) (own := RX1) (by decide) rfl (Nat.le_of_ble_eq_true rfl) (fun p e s m below meth c0 C0 hR ls hl => ?_)
  have hS : va_S (lm_A B) s.heap s.heap [] := va_S.rf
  have hl : lv_has ls 2 [(0, .ref (B + c)), (1, .ref (B + o1))] := hl
  obtain ⟨hx, hb, hml, hr, hlk, hown, hts, hK, hX⟩ := id C0
  refine lv_aload_n hx hb dX1_takeFrom_0 rfl (lv_at hl 0 rfl) ?_
  refine lv_aload_n hx hb dX1_takeFrom_1 rfl (lv_at hl 1 rfl) ?_
  obtain ⟨σ3, u1, hf⟩ := lm_bd_e hf
  refine lm_endv (lm_runV C0 hR hS (c_X1_takeSea hc h1 u1) (lw_cV 1 hts uw_197 mv_X1_takeSea rfl rfl hd_X1_takeSea ⟨Nat.le_of_ble_eq_true rfl, Nat.le_of_ble_eq_true rfl⟩) (isL_lt hc) (cell_L hc) rfl rfl hl rfl (Nat.le_of_ble_eq_true rfl) dX1_takeFrom_2) hS (fun H locs hR hS => ?_)
  refine lv_aload_n hx hb dX1_takeFrom_5 rfl (lv_at hl 0 rfl) ?_
  refine lv_aload_n hx hb dX1_takeFrom_6 rfl (lv_at hl 1 rfl) ?_
  obtain ⟨σ6, u4, hf⟩ := lm_bd_e hf
  refine lm_endv (lm_runV C0 hR hS (c_X1_takeShips hc h1 u4) (lw_cV 1 hts uw_200 mv_X1_takeShips rfl rfl hd_X1_takeShips ⟨Nat.le_of_ble_eq_true rfl, Nat.le_of_ble_eq_true rfl⟩) (isL_lt hc) (cell_L hc) rfl rfl hl rfl (Nat.le_of_ble_eq_true rfl) dX1_takeFrom_7) hS (fun H locs hR hS => ?_)
  exact lm_rvC C0 hR hS hf dX1_takeFrom_10
end
/-! ===== X0_keep ===== -/
abbrev rmX0_keep : Room := { frames := 2, cells := 0, slots := 0, locals := 60 }
def f_X0_keep (o1 : Nat) (σ : Mem) : Option (Mem) := lm_ck (lm_in (σ 16 1) 24) (lm_bd (f_X1_takeFrom (18 + 4 * (σ 16 1).toNatClampNeg) o1 σ) fun σ4 => lm_nm (up σ4 16 1 (((σ4 16 1) + (1 : Int32)) - ((σ4 16 1) + (1 : Int32)) / (24 : Int32) * (24 : Int32))) fun σ5 => lm_nm (up σ5 16 2 (if ((σ5 16 2) + (1 : Int32)) < (24 : Int32) then ((σ5 16 2) + (1 : Int32)) else (24 : Int32))) fun σ6 => some σ6)
abbrev wsX0_keep : List Cond := Cond.code yX0_keep cX0_keep 2 none :: lw_u
theorem mv_X0_keep : Cond.instanceMethod yX0_keep ∈ lw_u ∧ Cond.selects yX0_keep.cls yX0_keep yX0_keep ∈ lw_u ∧ Cond.initialized yX0_keep.cls ∈ lw_u ∧ Cond.code yX0_keep cX0_keep 2 none ∈ lw_u := ⟨uw_232, uw_233, uw_4, uw_234⟩
theorem hd_X0_keep : yX0_keep.cls ≠ "java/lang/invoke/MethodHandle" ∧ yX0_keep.cls ≠ "java/lang/invoke/VarHandle" ∧ (parseMethodDescriptor yX0_keep.desc).map (fun d => d.parameters.length) = some 1 := by decide +kernel
section
variable {l : Launch} {D : va_G} {cI cZ cL cR : ClassId} {B : Nat}
set_option maxRecDepth 100000 in
set_option maxHeartbeats 4000000 in
theorem c_X0_keep {o1 : Nat} (h1 : isL o1) {σ τ σ' : Mem}  (hf : f_X0_keep o1 σ = some σ') : lm_CV l yX0_keep wsX0_keep rmX0_keep D cI cZ cL cR B [.ref (B + 16), .ref (B + o1)] σ τ σ' τ := by
  unfold f_X0_keep at hf
  refine lm_of (cc := cX0_keep) (maxL := 2) (ret := none) (own := RX0) (by decide) rfl (Nat.le_of_ble_eq_true rfl) (fun p e s m below meth c0 C0 hR ls hl => ?_)
  have hS : va_S (lm_A B) s.heap s.heap [] := va_S.rf
  have hl : lv_has ls 2 [(0, .ref (B + 16)), (1, .ref (B + o1))] := hl
  obtain ⟨hx, hb, hml, hr, hlk, hown, hts, hK, hX⟩ := id C0
  refine lv_aload_n hx hb dX0_keep_0 rfl (lv_at hl 0 rfl) ?_
  refine lm_get C0 hR (by decide) cell_16 rfl lw_in_X0 0 (by decide) uw_71 rfl rfl dX0_keep_1 ?_
  refine lv_aload_n hx hb dX0_keep_4 rfl (lv_at hl 0 rfl) ?_
  refine lm_get C0 hR (by decide) cell_16 rfl lw_in_X0 1 (by decide) uw_72 rfl rfl dX0_keep_5 ?_
  obtain ⟨z1, hf⟩ := lm_ck_e hf
  refine lm_ald C0 hR (t0 := 2) (by decide) cell_17 rfl z1 rfl dX0_keep_8 ?_
  refine lv_aload_n hx hb dX0_keep_9 rfl (lv_at hl 1 rfl) ?_
  obtain ⟨σ4, u2, hf⟩ := lm_bd_e hf
  refine lm_endv (lm_runV C0 hR hS (c_X1_takeFrom (isL_ring z1) h1 u2) (lw_cV 1 hts uw_221 mv_X1_takeFrom rfl rfl hd_X1_takeFrom ⟨Nat.le_of_ble_eq_true rfl, Nat.le_of_ble_eq_true rfl⟩) (isL_lt (isL_ring z1)) (cell_L (isL_ring z1)) rfl rfl hl rfl (Nat.le_of_ble_eq_true rfl) dX0_keep_10) hS (fun H locs hR hS => ?_)
  refine lv_aload_n hx hb dX0_keep_13 rfl (lv_at hl 0 rfl) ?_
  refine lv_aload_n hx hb dX0_keep_14 rfl (lv_at hl 0 rfl) ?_
  refine lm_get C0 hR (by decide) cell_16 rfl lw_in_X0 1 (by decide) uw_72 rfl rfl dX0_keep_15 ?_
  refine lv_iconst (v := (1 : Int32)) hx hb dX0_keep_18 (by decide) ?_
  refine lv_iadd hx hb dX0_keep_19 ?_
  refine lv_bipush (v := (24 : Int32)) hx hb dX0_keep_20 (by decide) ?_
  refine lv_irem hx hb dX0_keep_22 (by decide) ?_
  obtain ⟨σ5, eσ5, hf⟩ := lm_nm_e hf
  refine lm_putC C0 hR hS (by decide) cell_16 rfl lw_in_X0 tyX0 tyX0_ok nmX0 1 (by decide) uw_72 rfl rfl rfl rfl rfl (Nat.le_of_ble_eq_true rfl) eσ5 cell_16u dX0_keep_23 (fun H locs hR hS => ?_)
  refine lv_aload_n hx hb dX0_keep_26 rfl (lv_at hl 0 rfl) ?_
  refine lv_bipush (v := (24 : Int32)) hx hb dX0_keep_27 (by decide) ?_
  refine lv_aload_n hx hb dX0_keep_29 rfl (lv_at hl 0 rfl) ?_
  refine lm_get C0 hR (by decide) cell_16 rfl lw_in_X0 2 (by decide) uw_73 rfl rfl dX0_keep_30 ?_
  refine lv_iconst (v := (1 : Int32)) hx hb dX0_keep_33 (by decide) ?_
  refine lv_iadd hx hb dX0_keep_34 ?_
  refine va_mmin hx hb (hml.trans hl.1.symm) hown (hts _ uw_235) (hts _ uw_236) (hts _ uw_8) (hts _ uw_237) (Nat.le_of_ble_eq_true rfl) (Nat.le_of_ble_eq_true rfl) (Nat.zero_le _) (Nat.zero_le _) dX0_keep_35 ?_
  obtain ⟨σ6, eσ6, hf⟩ := lm_nm_e hf
  refine lm_putC C0 hR hS (by decide) cell_16 rfl lw_in_X0 tyX0 tyX0_ok nmX0 2 (by decide) uw_73 rfl rfl rfl rfl rfl (Nat.le_of_ble_eq_true rfl) eσ6 cell_16u dX0_keep_38 (fun H locs hR hS => ?_)
  exact lm_rvC C0 hR hS hf dX0_keep_41
end
/-! ===== X0_takeBack ===== -/
abbrev rmX0_takeBack : Room := { frames := 2, cells := 0, slots := 0, locals := 43 }
def f_X0_takeBack (o1 : Nat) (σ : Mem) : Option (Int32 × Mem) := lm_nm (up σ 16 1 ((((σ 16 1) + (24 : Int32)) - (1 : Int32)) - (((σ 16 1) + (24 : Int32)) - (1 : Int32)) / (24 : Int32) * (24 : Int32))) fun σ1 => lm_ck (lm_in (σ1 16 1) 24) (lm_bd (f_X1_takeFrom o1 (18 + 4 * (σ1 16 1).toNatClampNeg) σ1) fun σ5 => lm_nm (up σ5 16 2 ((σ5 16 2) - (1 : Int32))) fun σ6 => some ((σ6 16 2), σ6))
abbrev wsX0_takeBack : List Cond := Cond.code yX0_takeBack cX0_takeBack 2 (some .int) :: lw_u
theorem mv_X0_takeBack : Cond.instanceMethod yX0_takeBack ∈ lw_u ∧ Cond.selects yX0_takeBack.cls yX0_takeBack yX0_takeBack ∈ lw_u ∧ Cond.initialized yX0_takeBack.cls ∈ lw_u ∧ Cond.code yX0_takeBack cX0_takeBack 2 (some .int) ∈ lw_u := ⟨uw_218, uw_219, uw_4, uw_220⟩
theorem hd_X0_takeBack : yX0_takeBack.cls ≠ "java/lang/invoke/MethodHandle" ∧ yX0_takeBack.cls ≠ "java/lang/invoke/VarHandle" ∧ (parseMethodDescriptor yX0_takeBack.desc).map (fun d => d.parameters.length) = some 1 := by decide +kernel
section
variable {l : Launch} {D : va_G} {cI cZ cL cR : ClassId} {B : Nat}
set_option maxRecDepth 100000 in
set_option maxHeartbeats 4000000 in
theorem c_X0_takeBack {o1 : Nat} (h1 : isL o1) {σ τ σ' : Mem} {r : Int32}  (hf : f_X0_takeBack o1 σ = some (r, σ')) : lm_CI l yX0_takeBack wsX0_takeBack rmX0_takeBack D cI cZ cL cR B [.ref (B + 16), .ref (B + o1)] σ τ r σ' τ := by
  unfold f_X0_takeBack at hf
  refine lm_of (cc := cX0_takeBack) (maxL := 2) (ret := (some .int)) (own := RX0) (by decide) rfl (Nat.le_of_ble_eq_true rfl) (fun p e s m below meth c0 C0 hR ls hl => ?_)
  have hS : va_S (lm_A B) s.heap s.heap [] := va_S.rf
  have hl : lv_has ls 2 [(0, .ref (B + 16)), (1, .ref (B + o1))] := hl
  obtain ⟨hx, hb, hml, hr, hlk, hown, hts, hK, hX⟩ := id C0
  refine lv_aload_n hx hb dX0_takeBack_0 rfl (lv_at hl 0 rfl) ?_
  refine lv_aload_n hx hb dX0_takeBack_1 rfl (lv_at hl 0 rfl) ?_
  refine lm_get C0 hR (by decide) cell_16 rfl lw_in_X0 1 (by decide) uw_72 rfl rfl dX0_takeBack_2 ?_
  refine lv_bipush (v := (24 : Int32)) hx hb dX0_takeBack_5 (by decide) ?_
  refine lv_iadd hx hb dX0_takeBack_7 ?_
  refine lv_iconst (v := (1 : Int32)) hx hb dX0_takeBack_8 (by decide) ?_
  refine lv_isub hx hb dX0_takeBack_9 ?_
  refine lv_bipush (v := (24 : Int32)) hx hb dX0_takeBack_10 (by decide) ?_
  refine lv_irem hx hb dX0_takeBack_12 (by decide) ?_
  obtain ⟨σ1, eσ1, hf⟩ := lm_nm_e hf
  refine lm_putC C0 hR hS (by decide) cell_16 rfl lw_in_X0 tyX0 tyX0_ok nmX0 1 (by decide) uw_72 rfl rfl rfl rfl rfl (Nat.le_of_ble_eq_true rfl) eσ1 cell_16u dX0_takeBack_13 (fun H locs hR hS => ?_)
  refine lv_aload_n hx hb dX0_takeBack_16 rfl (lv_at hl 1 rfl) ?_
  refine lv_aload_n hx hb dX0_takeBack_17 rfl (lv_at hl 0 rfl) ?_
  refine lm_get C0 hR (by decide) cell_16 rfl lw_in_X0 0 (by decide) uw_71 rfl rfl dX0_takeBack_18 ?_
  refine lv_aload_n hx hb dX0_takeBack_21 rfl (lv_at hl 0 rfl) ?_
  refine lm_get C0 hR (by decide) cell_16 rfl lw_in_X0 1 (by decide) uw_72 rfl rfl dX0_takeBack_22 ?_
  obtain ⟨z2, hf⟩ := lm_ck_e hf
  refine lm_ald C0 hR (t0 := 2) (by decide) cell_17 rfl z2 rfl dX0_takeBack_25 ?_
  obtain ⟨σ5, u3, hf⟩ := lm_bd_e hf
  refine lm_endv (lm_runV C0 hR hS (c_X1_takeFrom h1 (isL_ring z2) u3) (lw_cV 1 hts uw_221 mv_X1_takeFrom rfl rfl hd_X1_takeFrom ⟨Nat.le_of_ble_eq_true rfl, Nat.le_of_ble_eq_true rfl⟩) (isL_lt h1) (cell_L h1) rfl rfl hl rfl (Nat.le_of_ble_eq_true rfl) dX0_takeBack_26) hS (fun H locs hR hS => ?_)
  refine lv_aload_n hx hb dX0_takeBack_29 rfl (lv_at hl 0 rfl) ?_
  refine lv_dup hx hb dX0_takeBack_30 rfl ?_
  refine lm_get C0 hR (by decide) cell_16 rfl lw_in_X0 2 (by decide) uw_73 rfl rfl dX0_takeBack_31 ?_
  refine lv_iconst (v := (1 : Int32)) hx hb dX0_takeBack_34 (by decide) ?_
  refine lv_isub hx hb dX0_takeBack_35 ?_
  obtain ⟨σ6, eσ6, hf⟩ := lm_nm_e hf
  refine lm_putC C0 hR hS (by decide) cell_16 rfl lw_in_X0 tyX0 tyX0_ok nmX0 2 (by decide) uw_73 rfl rfl rfl rfl rfl (Nat.le_of_ble_eq_true rfl) eσ6 cell_16u dX0_takeBack_36 (fun H locs hR hS => ?_)
  refine lv_aload_n hx hb dX0_takeBack_39 rfl (lv_at hl 0 rfl) ?_
  refine lm_get C0 hR (by decide) cell_16 rfl lw_in_X0 2 (by decide) uw_73 rfl rfl dX0_takeBack_40 ?_
  exact lm_riC C0 hR hS hf dX0_takeBack_43
end
/-! ===== X1_isLit ===== -/
abbrev rmX1_isLit : Room := { frames := 0, cells := 0, slots := 0, locals := 0 }
def f_X1_isLit (c : Nat) (σ : Mem) : Option (Int32) := if (σ c 7) ≤ 0 then (some (0 : Int32)) else (some (1 : Int32))
abbrev wsX1_isLit : List Cond := Cond.code yX1_isLit cX1_isLit 1 (some .boolean) :: lw_u
theorem mv_X1_isLit : Cond.instanceMethod yX1_isLit ∈ lw_u ∧ Cond.selects yX1_isLit.cls yX1_isLit yX1_isLit ∈ lw_u ∧ Cond.initialized yX1_isLit.cls ∈ lw_u ∧ Cond.code yX1_isLit cX1_isLit 1 (some .boolean) ∈ lw_u := ⟨uw_227, uw_228, uw_3, uw_229⟩
theorem hd_X1_isLit : yX1_isLit.cls ≠ "java/lang/invoke/MethodHandle" ∧ yX1_isLit.cls ≠ "java/lang/invoke/VarHandle" ∧ (parseMethodDescriptor yX1_isLit.desc).map (fun d => d.parameters.length) = some 0 := by decide +kernel
section
variable {l : Launch} {D : va_G} {cI cZ cL cR : ClassId} {B : Nat}
set_option maxRecDepth 100000 in
set_option maxHeartbeats 4000000 in
theorem c_X1_isLit {c : Nat} (hc : isL c) {σ τ : Mem} {r : Int32}  (hf : f_X1_isLit c σ = some r) : lm_CI l yX1_isLit wsX1_isLit rmX1_isLit D cI cZ cL cR B [.ref (B + c)] σ τ r σ τ := by
  unfold f_X1_isLit at hf
  refine lm_of (cc := cX1_isLit) (maxL := 1) (ret := (some .boolean)) (own := RX1) (by decide) rfl (Nat.le_of_ble_eq_true rfl) (fun p e s m below meth c0 C0 hR ls hl => ?_)
  have hS : va_S (lm_A B) s.heap s.heap [] := va_S.rf
  have hl : lv_has ls 1 [(0, .ref (B + c))] := hl
  obtain ⟨hx, hb, hml, hr, hlk, hown, hts, hK, hX⟩ := id C0
  refine lv_aload_n hx hb dX1_isLit_0 rfl (lv_at hl 0 rfl) ?_
  refine lm_get C0 hR (isL_lt hc) (cell_L hc) rfl lw_in_X1 7 (by decide) uw_58 rfl rfl dX1_isLit_1 ?_
  refine lv_if_le (tgt := 11) hx hb dX1_isLit_4 (by decide) (fun b1 => ?_) (fun b1 => ?_)
  · have hf := lm_T b1 hf
    refine lv_iconst (v := (0 : Int32)) hx hb dX1_isLit_11 (by decide) ?_
    exact lm_rzP C0 hR hS hf rfl dX1_isLit_12
  · have hf := lm_F b1 hf
    refine lv_iconst (v := (1 : Int32)) hx hb dX1_isLit_7 (by decide) ?_
    refine lv_goto (tgt := 12) hx hb dX1_isLit_8 (by decide) ?_
    exact lm_rzP C0 hR hS hf rfl dX1_isLit_12
end
/-! ===== X1_clear ===== -/
abbrev rmX1_clear : Room := { frames := 0, cells := 0, slots := 0, locals := 0 }
def f_X1_clear (c : Nat) (σ : Mem) : Option (Mem) := lm_nm (up σ c 3 (0 : Int32)) fun σ1 => lm_nm (up σ1 c 4 (0 : Int32)) fun σ2 => lm_nm (up σ2 c 5 (0 : Int32)) fun σ3 => lm_nm (up σ3 c 6 (0 : Int32)) fun σ4 => lm_nm (up σ4 c 7 (0 : Int32)) fun σ5 => lm_nm (up σ5 c 8 (0 : Int32)) fun σ6 => some σ6
abbrev wsX1_clear : List Cond := Cond.code yX1_clear cX1_clear 1 none :: lw_u
theorem mv_X1_clear : Cond.instanceMethod yX1_clear ∈ lw_u ∧ Cond.selects yX1_clear.cls yX1_clear yX1_clear ∈ lw_u ∧ Cond.initialized yX1_clear.cls ∈ lw_u ∧ Cond.code yX1_clear cX1_clear 1 none ∈ lw_u := ⟨uw_163, uw_164, uw_3, uw_165⟩
theorem hd_X1_clear : yX1_clear.cls ≠ "java/lang/invoke/MethodHandle" ∧ yX1_clear.cls ≠ "java/lang/invoke/VarHandle" ∧ (parseMethodDescriptor yX1_clear.desc).map (fun d => d.parameters.length) = some 0 := by decide +kernel
section
variable {l : Launch} {D : va_G} {cI cZ cL cR : ClassId} {B : Nat}
set_option maxRecDepth 100000 in
set_option maxHeartbeats 4000000 in
theorem c_X1_clear {c : Nat} (hc : isL c) {σ τ σ' : Mem}  (hf : f_X1_clear c σ = some σ') : lm_CV l yX1_clear wsX1_clear rmX1_clear D cI cZ cL cR B [.ref (B + c)] σ τ σ' τ := by
  unfold f_X1_clear at hf
  refine lm_of (cc := cX1_clear) (maxL := 1) (ret := none) (own := RX1) (by decide) rfl (Nat.le_of_ble_eq_true rfl) (fun p e s m below meth c0 C0 hR ls hl => ?_)
  have hS : va_S (lm_A B) s.heap s.heap [] := va_S.rf
  have hl : lv_has ls 1 [(0, .ref (B + c))] := hl
  obtain ⟨hx, hb, hml, hr, hlk, hown, hts, hK, hX⟩ := id C0
  refine lv_aload_n hx hb dX1_clear_0 rfl (lv_at hl 0 rfl) ?_
  refine lv_iconst (v := (0 : Int32)) hx hb dX1_clear_1 (by decide) ?_
  obtain ⟨σ1, eσ1, hf⟩ := lm_nm_e hf
  refine lm_putC C0 hR hS (isL_lt hc) (cell_L hc) rfl lw_in_X1 tyX1 tyX1_ok nmX1 3 (by decide) uw_47 rfl rfl rfl rfl rfl (Nat.le_of_ble_eq_true rfl) eσ1 (cell_Lu hc) dX1_clear_2 (fun H locs hR hS => ?_)
  refine lv_aload_n hx hb dX1_clear_5 rfl (lv_at hl 0 rfl) ?_
  refine lv_iconst (v := (0 : Int32)) hx hb dX1_clear_6 (by decide) ?_
  obtain ⟨σ2, eσ2, hf⟩ := lm_nm_e hf
  refine lm_putC C0 hR hS (isL_lt hc) (cell_L hc) rfl lw_in_X1 tyX1 tyX1_ok nmX1 4 (by decide) uw_50 rfl rfl rfl rfl rfl (Nat.le_of_ble_eq_true rfl) eσ2 (cell_Lu hc) dX1_clear_7 (fun H locs hR hS => ?_)
  refine lv_aload_n hx hb dX1_clear_10 rfl (lv_at hl 0 rfl) ?_
  refine lv_iconst (v := (0 : Int32)) hx hb dX1_clear_11 (by decide) ?_
  obtain ⟨σ3, eσ3, hf⟩ := lm_nm_e hf
  refine lm_putC C0 hR hS (isL_lt hc) (cell_L hc) rfl lw_in_X1 tyX1 tyX1_ok nmX1 5 (by decide) uw_53 rfl rfl rfl rfl rfl (Nat.le_of_ble_eq_true rfl) eσ3 (cell_Lu hc) dX1_clear_12 (fun H locs hR hS => ?_)
  refine lv_aload_n hx hb dX1_clear_15 rfl (lv_at hl 0 rfl) ?_
  refine lv_iconst (v := (0 : Int32)) hx hb dX1_clear_16 (by decide) ?_
  obtain ⟨σ4, eσ4, hf⟩ := lm_nm_e hf
  refine lm_putC C0 hR hS (isL_lt hc) (cell_L hc) rfl lw_in_X1 tyX1 tyX1_ok nmX1 6 (by decide) uw_56 rfl rfl rfl rfl rfl (Nat.le_of_ble_eq_true rfl) eσ4 (cell_Lu hc) dX1_clear_17 (fun H locs hR hS => ?_)
  refine lv_aload_n hx hb dX1_clear_20 rfl (lv_at hl 0 rfl) ?_
  refine lv_iconst (v := (0 : Int32)) hx hb dX1_clear_21 (by decide) ?_
  obtain ⟨σ5, eσ5, hf⟩ := lm_nm_e hf
  refine lm_putC C0 hR hS (isL_lt hc) (cell_L hc) rfl lw_in_X1 tyX1 tyX1_ok nmX1 7 (by decide) uw_58 rfl rfl rfl rfl rfl (Nat.le_of_ble_eq_true rfl) eσ5 (cell_Lu hc) dX1_clear_22 (fun H locs hR hS => ?_)
  refine lv_aload_n hx hb dX1_clear_25 rfl (lv_at hl 0 rfl) ?_
  refine lv_iconst (v := (0 : Int32)) hx hb dX1_clear_26 (by decide) ?_
  obtain ⟨σ6, eσ6, hf⟩ := lm_nm_e hf
  refine lm_putC C0 hR hS (isL_lt hc) (cell_L hc) rfl lw_in_X1 tyX1 tyX1_ok nmX1 8 (by decide) uw_61 rfl rfl rfl rfl rfl (Nat.le_of_ble_eq_true rfl) eσ6 (cell_Lu hc) dX1_clear_27 (fun H locs hR hS => ?_)
  exact lm_rvC C0 hR hS hf dX1_clear_30
end
/-! ===== X1_takeOneShip ===== -/
abbrev rmX1_takeOneShip : Room := { frames := 1, cells := 0, slots := 0, locals := 22 }
def f_X1_takeOneShip (c : Nat) (o1 : Nat) (σ : Mem) (p2 : Int32) : Option (Mem) := lm_bd (f_X1_takeSea c o1 σ) fun σ3 => lm_nm (up σ3 c 8 (1 : Int32)) fun σ4 => lm_ck (lm_in p2 6) (lm_ck (lm_in (0 : Int32) 6) (lm_nm (up σ4 (c + 2) (0 : Int32).toNatClampNeg (σ4 (o1 + 2) p2.toNatClampNeg)) fun σ7 => lm_ck (lm_in p2 6) (lm_ck (lm_in (0 : Int32) 6) (lm_nm (up σ7 (c + 3) (0 : Int32).toNatClampNeg (σ7 (o1 + 3) p2.toNatClampNeg)) fun σ10 => some σ10))))
abbrev wsX1_takeOneShip : List Cond := Cond.code yX1_takeOneShip cX1_takeOneShip 3 none :: lw_u
theorem mv_X1_takeOneShip : Cond.instanceMethod yX1_takeOneShip ∈ lw_u ∧ Cond.selects yX1_takeOneShip.cls yX1_takeOneShip yX1_takeOneShip ∈ lw_u ∧ Cond.initialized yX1_takeOneShip.cls ∈ lw_u ∧ Cond.code yX1_takeOneShip cX1_takeOneShip 3 none ∈ lw_u := ⟨uw_312, uw_313, uw_3, uw_314⟩
theorem hd_X1_takeOneShip : yX1_takeOneShip.cls ≠ "java/lang/invoke/MethodHandle" ∧ yX1_takeOneShip.cls ≠ "java/lang/invoke/VarHandle" ∧ (parseMethodDescriptor yX1_takeOneShip.desc).map (fun d => d.parameters.length) = some 2 := by decide +kernel
section
variable {l : Launch} {D : va_G} {cI cZ cL cR : ClassId} {B : Nat}
set_option maxRecDepth 100000 in
set_option maxHeartbeats 4000000 in
theorem c_X1_takeOneShip {c : Nat} {o1 : Nat} (hc : isL c) (h1 : isL o1) {σ τ σ' : Mem} {p2 : Int32}  (hf : f_X1_takeOneShip c o1 σ p2 = some σ') : lm_CV l yX1_takeOneShip wsX1_takeOneShip rmX1_takeOneShip D cI cZ cL cR B [.ref (B + c), .ref (B + o1), .int p2] σ τ σ' τ := by
  unfold f_X1_takeOneShip at hf
  refine lm_of (cc := cX1_takeOneShip) (maxL := 3) (ret := none) (own := RX1) (by decide) rfl (Nat.le_of_ble_eq_true rfl) (fun p e s m below meth c0 C0 hR ls hl => ?_)
  have hS : va_S (lm_A B) s.heap s.heap [] := va_S.rf
  have hl : lv_has ls 3 [(0, .ref (B + c)), (1, .ref (B + o1)), (2, .int p2)] := hl
  obtain ⟨hx, hb, hml, hr, hlk, hown, hts, hK, hX⟩ := id C0
  refine lv_aload_n hx hb dX1_takeOneShip_0 rfl (lv_at hl 0 rfl) ?_
  refine lv_aload_n hx hb dX1_takeOneShip_1 rfl (lv_at hl 1 rfl) ?_
  obtain ⟨σ3, u1, hf⟩ := lm_bd_e hf
  refine lm_endv (lm_runV C0 hR hS (c_X1_takeSea hc h1 u1) (lw_cV 1 hts uw_197 mv_X1_takeSea rfl rfl hd_X1_takeSea ⟨Nat.le_of_ble_eq_true rfl, Nat.le_of_ble_eq_true rfl⟩) (isL_lt hc) (cell_L hc) rfl rfl hl rfl (Nat.le_of_ble_eq_true rfl) dX1_takeOneShip_2) hS (fun H locs hR hS => ?_)
  refine lv_aload_n hx hb dX1_takeOneShip_5 rfl (lv_at hl 0 rfl) ?_
  refine lv_iconst (v := (1 : Int32)) hx hb dX1_takeOneShip_6 (by decide) ?_
  obtain ⟨σ4, eσ4, hf⟩ := lm_nm_e hf
  refine lm_putC C0 hR hS (isL_lt hc) (cell_L hc) rfl lw_in_X1 tyX1 tyX1_ok nmX1 8 (by decide) uw_61 rfl rfl rfl rfl rfl (Nat.le_of_ble_eq_true rfl) eσ4 (cell_Lu hc) dX1_takeOneShip_7 (fun H locs hR hS => ?_)
  refine lv_aload_n hx hb dX1_takeOneShip_10 rfl (lv_at hl 0 rfl) ?_
  refine lm_get C0 hR (isL_lt hc) (cell_L hc) rfl lw_in_X1 1 (by decide) uw_41 rfl rfl dX1_takeOneShip_11 ?_
  refine lv_iconst (v := (0 : Int32)) hx hb dX1_takeOneShip_14 (by decide) ?_
  refine lv_aload_n hx hb dX1_takeOneShip_15 rfl (lv_at hl 1 rfl) ?_
  refine lm_get C0 hR (isL_lt h1) (cell_L h1) rfl lw_in_X1 1 (by decide) uw_41 rfl rfl dX1_takeOneShip_16 ?_
  refine lv_iload_n hx hb dX1_takeOneShip_19 rfl (lv_at hl 2 rfl) ?_
  obtain ⟨z5, hf⟩ := lm_ck_e hf
  refine lm_ild C0 hR (isL_lt2 h1) (cell_L2 h1) z5 dX1_takeOneShip_20 ?_
  obtain ⟨z6, hf⟩ := lm_ck_e hf
  obtain ⟨σ7, eσ7, hf⟩ := lm_nm_e hf
  refine lm_istC C0 hR hS (isL_lt2 hc) (cell_L2 hc) z6  eσ7 (cell_L2u hc) dX1_takeOneShip_21 (fun H locs hR hS => ?_)
  refine lv_aload_n hx hb dX1_takeOneShip_22 rfl (lv_at hl 0 rfl) ?_
  refine lm_get C0 hR (isL_lt hc) (cell_L hc) rfl lw_in_X1 2 (by decide) uw_44 rfl rfl dX1_takeOneShip_23 ?_
  refine lv_iconst (v := (0 : Int32)) hx hb dX1_takeOneShip_26 (by decide) ?_
  refine lv_aload_n hx hb dX1_takeOneShip_27 rfl (lv_at hl 1 rfl) ?_
  refine lm_get C0 hR (isL_lt h1) (cell_L h1) rfl lw_in_X1 2 (by decide) uw_44 rfl rfl dX1_takeOneShip_28 ?_
  refine lv_iload_n hx hb dX1_takeOneShip_31 rfl (lv_at hl 2 rfl) ?_
  obtain ⟨z8, hf⟩ := lm_ck_e hf
  refine lm_ild C0 hR (isL_lt3 h1) (cell_L3 h1) z8 dX1_takeOneShip_32 ?_
  obtain ⟨z9, hf⟩ := lm_ck_e hf
  obtain ⟨σ10, eσ10, hf⟩ := lm_nm_e hf
  refine lm_istC C0 hR hS (isL_lt3 hc) (cell_L3 hc) z9  eσ10 (cell_L3u hc) dX1_takeOneShip_33 (fun H locs hR hS => ?_)
  exact lm_rvC C0 hR hS hf dX1_takeOneShip_34
end
/-! ===== X1_thickOf ===== -/
abbrev rmX1_thickOf : Room := { frames := 0, cells := 0, slots := 0, locals := 0 }
def f_X1_thickOf (c : Nat) (σ : Mem) (p1 : Int32) : Option (Int32) := if (σ c 7) ≤ 0 then (some (0 : Int32)) else (if p1 < 0 then (some (0 : Int32)) else (lm_ck (lm_nz (σ c 7)) (lm_ck (lm_in (p1 - p1 / (σ c 7) * (σ c 7)) 6) (some (σ (c + 1) (p1 - p1 / (σ c 7) * (σ c 7)).toNatClampNeg)))))
abbrev wsX1_thickOf : List Cond := Cond.code yX1_thickOf cX1_thickOf 2 (some .int) :: lw_u
theorem mv_X1_thickOf : Cond.instanceMethod yX1_thickOf ∈ lw_u ∧ Cond.selects yX1_thickOf.cls yX1_thickOf yX1_thickOf ∈ lw_u ∧ Cond.initialized yX1_thickOf.cls ∈ lw_u ∧ Cond.code yX1_thickOf cX1_thickOf 2 (some .int) ∈ lw_u := ⟨uw_257, uw_258, uw_3, uw_259⟩
theorem hd_X1_thickOf : yX1_thickOf.cls ≠ "java/lang/invoke/MethodHandle" ∧ yX1_thickOf.cls ≠ "java/lang/invoke/VarHandle" ∧ (parseMethodDescriptor yX1_thickOf.desc).map (fun d => d.parameters.length) = some 1 := by decide +kernel
section
variable {l : Launch} {D : va_G} {cI cZ cL cR : ClassId} {B : Nat}
set_option maxRecDepth 100000 in
set_option maxHeartbeats 4000000 in
theorem c_X1_thickOf {c : Nat} (hc : isL c) {σ τ : Mem} {p1 : Int32} {r : Int32}  (hf : f_X1_thickOf c σ p1 = some r) : lm_CI l yX1_thickOf wsX1_thickOf rmX1_thickOf D cI cZ cL cR B [.ref (B + c), .int p1] σ τ r σ τ := by
  unfold f_X1_thickOf at hf
  refine lm_of (cc := cX1_thickOf) (maxL := 2) (ret := (some .int)) (own := RX1) (by decide) rfl (Nat.le_of_ble_eq_true rfl) (fun p e s m below meth c0 C0 hR ls hl => ?_)
  have hS : va_S (lm_A B) s.heap s.heap [] := va_S.rf
  have hl : lv_has ls 2 [(0, .ref (B + c)), (1, .int p1)] := hl
  obtain ⟨hx, hb, hml, hr, hlk, hown, hts, hK, hX⟩ := id C0
  refine lv_aload_n hx hb dX1_thickOf_0 rfl (lv_at hl 0 rfl) ?_
  refine lm_get C0 hR (isL_lt hc) (cell_L hc) rfl lw_in_X1 7 (by decide) uw_58 rfl rfl dX1_thickOf_1 ?_
  refine lv_if_le (tgt := 25) hx hb dX1_thickOf_4 (by decide) (fun b1 => ?_) (fun b1 => ?_)
  · have hf := lm_T b1 hf
    refine lv_iconst (v := (0 : Int32)) hx hb dX1_thickOf_25 (by decide) ?_
    exact lm_riP C0 hR hS hf dX1_thickOf_26
  · have hf := lm_F b1 hf
    refine lv_iload_n hx hb dX1_thickOf_7 rfl (lv_at hl 1 rfl) ?_
    refine lv_if_lt (tgt := 25) hx hb dX1_thickOf_8 (by decide) (fun b2 => ?_) (fun b2 => ?_)
    · have hf := lm_T b2 hf
      refine lv_iconst (v := (0 : Int32)) hx hb dX1_thickOf_25 (by decide) ?_
      exact lm_riP C0 hR hS hf dX1_thickOf_26
    · have hf := lm_F b2 hf
      refine lv_aload_n hx hb dX1_thickOf_11 rfl (lv_at hl 0 rfl) ?_
      refine lm_get C0 hR (isL_lt hc) (cell_L hc) rfl lw_in_X1 0 (by decide) uw_38 rfl rfl dX1_thickOf_12 ?_
      refine lv_iload_n hx hb dX1_thickOf_15 rfl (lv_at hl 1 rfl) ?_
      refine lv_aload_n hx hb dX1_thickOf_16 rfl (lv_at hl 0 rfl) ?_
      refine lm_get C0 hR (isL_lt hc) (cell_L hc) rfl lw_in_X1 7 (by decide) uw_58 rfl rfl dX1_thickOf_17 ?_
      obtain ⟨z3, hf⟩ := lm_ck_e hf
      refine lv_irem hx hb dX1_thickOf_20 (lm_nzT z3) ?_
      obtain ⟨z4, hf⟩ := lm_ck_e hf
      refine lm_ild C0 hR (isL_lt1 hc) (cell_L1 hc) z4 dX1_thickOf_21 ?_
      refine lv_goto (tgt := 26) hx hb dX1_thickOf_22 (by decide) ?_
      exact lm_riP C0 hR hS hf dX1_thickOf_26
end
/-! ===== X1_allThick ===== -/
abbrev rmX1_allThick : Room := { frames := 0, cells := 0, slots := 0, locals := 0 }
def f_X1_allThick_4 (c : Nat) (σ : Mem) : Nat → Int32 → Int32 → Option (Int32)
  | 0, _, _ => none
  | n + 1, x1, x2 => if (σ c 7) ≤ x2 then (some x1) else (lm_ck (lm_in x2 6) (lm_nm (x1 + (σ (c + 1) x2.toNatClampNeg)) fun v3 => lm_nm (x2 + (1 : Int32)) fun v4 => f_X1_allThick_4 c σ n v3 v4))
def f_X1_allThick (c : Nat) (σ : Mem) : Option (Int32) := f_X1_allThick_4 c σ lm_fu (0 : Int32) (0 : Int32)
abbrev wsX1_allThick : List Cond := Cond.code yX1_allThick cX1_allThick 3 (some .int) :: lw_u
theorem mv_X1_allThick : Cond.instanceMethod yX1_allThick ∈ lw_u ∧ Cond.selects yX1_allThick.cls yX1_allThick yX1_allThick ∈ lw_u ∧ Cond.initialized yX1_allThick.cls ∈ lw_u ∧ Cond.code yX1_allThick cX1_allThick 3 (some .int) ∈ lw_u := ⟨uw_368, uw_369, uw_3, uw_370⟩
theorem hd_X1_allThick : yX1_allThick.cls ≠ "java/lang/invoke/MethodHandle" ∧ yX1_allThick.cls ≠ "java/lang/invoke/VarHandle" ∧ (parseMethodDescriptor yX1_allThick.desc).map (fun d => d.parameters.length) = some 0 := by decide +kernel
section
variable {l : Launch} {D : va_G} {cI cZ cL cR : ClassId} {B : Nat}
set_option maxRecDepth 100000 in
set_option maxHeartbeats 4000000 in
theorem w_X1_allThick_4 {c : Nat} (hc : isL c) {p : Program} {e : Env} {s : State} {m : MethodId} {args : Array Value} {below : List Frame} {meth : Method} {c0 : Code} {τ σ : Mem} {r : Int32} (C0 : lm_Cx D cI cZ cL cR B p s m args meth c0 cX1_allThick 3 (some .int) RX1) : ∀ (n : Nat), ∀ (x1 : Int32) (x2 : Int32) (H : Heap) (locs : List Loc) (ls : Array Slot), va_P D vwCl (wl cI cZ cL cR B σ τ) H → va_S (lm_A B) s.heap H locs → lv_has ls 3 [(0, .ref (B + c)), (1, .int x1), (2, .int x2)] → f_X1_allThick_4 c σ n x1 x2 = some r → W p l e rmX1_allThick s m args below meth c0 H locs 0 0 (MQ below (lm_QI D cI cZ cL cR B r σ τ) args s 0 0 (lm_A B)) (F0 m 4 ls []) := by
  obtain ⟨hx, hb, hml, hr, hlk, hown, hts, hK, hX⟩ := id C0
  intro n
  induction n with
  | zero =>
    intro x1 x2 H locs ls hR hS hl hf
    cases hf
  | succ n ih =>
    intro x1 x2 H locs ls hR hS hl hf
    rw [f_X1_allThick_4] at hf
    refine lv_iload_n hx hb dX1_allThick_4 rfl (lv_at hl 2 rfl) ?_
    refine lv_aload_n hx hb dX1_allThick_5 rfl (lv_at hl 0 rfl) ?_
    refine lm_get C0 hR (isL_lt hc) (cell_L hc) rfl lw_in_X1 7 (by decide) uw_58 rfl rfl dX1_allThick_6 ?_
    refine lv_icmp_ge (tgt := 27) hx hb dX1_allThick_9 (by decide) (fun b1 => ?_) (fun b1 => ?_)
    · have hf := lm_T b1 hf
      refine lv_iload_n hx hb dX1_allThick_27 rfl (lv_at hl 1 rfl) ?_
      exact lm_riP C0 hR hS hf dX1_allThick_28
    · have hf := lm_F b1 hf
      refine lv_iload_n hx hb dX1_allThick_12 rfl (lv_at hl 1 rfl) ?_
      refine lv_aload_n hx hb dX1_allThick_13 rfl (lv_at hl 0 rfl) ?_
      refine lm_get C0 hR (isL_lt hc) (cell_L hc) rfl lw_in_X1 0 (by decide) uw_38 rfl rfl dX1_allThick_14 ?_
      refine lv_iload_n hx hb dX1_allThick_17 rfl (lv_at hl 2 rfl) ?_
      obtain ⟨z2, hf⟩ := lm_ck_e hf
      refine lm_ild C0 hR (isL_lt1 hc) (cell_L1 hc) z2 dX1_allThick_18 ?_
      refine lv_iadd hx hb dX1_allThick_19 ?_
      obtain ⟨v3, ev3, hf⟩ := lm_nm_e hf
      refine lm_topi ev3 ?_
      refine lv_istore_n (lv' := [(1, .int v3), (0, .ref (B + c)), (2, .int x2)]) hx hb dX1_allThick_20 rfl hl (by decide) rfl (fun ls hl => ?_)
      obtain ⟨v4, ev4, hf⟩ := lm_nm_e hf
      refine lv_iinc (v := v4) (lv' := [(2, .int v4), (1, .int v3), (0, .ref (B + c))]) hx hb dX1_allThick_21 hl (k := 2) rfl (by rw [ev4]; rfl) (by decide) rfl (fun ls hl => ?_)
      refine lv_goto (tgt := 4) hx hb dX1_allThick_24 (by decide) ?_
      exact ih _ _ _ _ _ hR hS (lv_sub hl [2, 1, 0] rfl) hf
set_option maxRecDepth 100000 in
set_option maxHeartbeats 4000000 in
theorem c_X1_allThick {c : Nat} (hc : isL c) {σ τ : Mem} {r : Int32}  (hf : f_X1_allThick c σ = some r) : lm_CI l yX1_allThick wsX1_allThick rmX1_allThick D cI cZ cL cR B [.ref (B + c)] σ τ r σ τ := by
  unfold f_X1_allThick at hf
  refine lm_of (cc := cX1_allThick) (maxL := 3) (ret := (some .int)) (own := RX1) (by decide) rfl (Nat.le_of_ble_eq_true rfl) (fun p e s m below meth c0 C0 hR ls hl => ?_)
  have hS : va_S (lm_A B) s.heap s.heap [] := va_S.rf
  have hl : lv_has ls 3 [(0, .ref (B + c))] := hl
  obtain ⟨hx, hb, hml, hr, hlk, hown, hts, hK, hX⟩ := id C0
  refine lv_iconst (v := (0 : Int32)) hx hb dX1_allThick_0 (by decide) ?_
  refine lv_istore_n (lv' := [(1, .int (0 : Int32)), (0, .ref (B + c))]) hx hb dX1_allThick_1 rfl hl (by decide) rfl (fun ls hl => ?_)
  refine lv_iconst (v := (0 : Int32)) hx hb dX1_allThick_2 (by decide) ?_
  refine lv_istore_n (lv' := [(2, .int (0 : Int32)), (1, .int (0 : Int32)), (0, .ref (B + c))]) hx hb dX1_allThick_3 rfl hl (by decide) rfl (fun ls hl => ?_)
  exact w_X1_allThick_4 hc C0 _ _ _ _ _ _ hR hS (lv_sub hl [2, 1, 0] rfl) hf
end
/-! ===== X1_shipsAshore ===== -/
abbrev rmX1_shipsAshore : Room := { frames := 0, cells := 0, slots := 0, locals := 0 }
def f_X1_shipsAshore_4 (c : Nat) (σ : Mem) : Nat → Int32 → Int32 → Option (Int32)
  | 0, _, _ => none
  | n + 1, x1, x2 => if (σ c 8) ≤ x2 then (some x1) else (lm_ck (lm_in x2 6) (if (σ (c + 3) x2.toNatClampNeg) = 0 then (lm_nm (x1 + (1 : Int32)) fun v5 => lm_nm (x2 + (1 : Int32)) fun v6 => f_X1_shipsAshore_4 c σ n v5 v6) else (lm_nm (x2 + (1 : Int32)) fun v4 => f_X1_shipsAshore_4 c σ n x1 v4)))
def f_X1_shipsAshore (c : Nat) (σ : Mem) : Option (Int32) := f_X1_shipsAshore_4 c σ lm_fu (0 : Int32) (0 : Int32)
abbrev wsX1_shipsAshore : List Cond := Cond.code yX1_shipsAshore cX1_shipsAshore 3 (some .int) :: lw_u
theorem mv_X1_shipsAshore : Cond.instanceMethod yX1_shipsAshore ∈ lw_u ∧ Cond.selects yX1_shipsAshore.cls yX1_shipsAshore yX1_shipsAshore ∈ lw_u ∧ Cond.initialized yX1_shipsAshore.cls ∈ lw_u ∧ Cond.code yX1_shipsAshore cX1_shipsAshore 3 (some .int) ∈ lw_u := ⟨uw_495, uw_496, uw_3, uw_497⟩
theorem hd_X1_shipsAshore : yX1_shipsAshore.cls ≠ "java/lang/invoke/MethodHandle" ∧ yX1_shipsAshore.cls ≠ "java/lang/invoke/VarHandle" ∧ (parseMethodDescriptor yX1_shipsAshore.desc).map (fun d => d.parameters.length) = some 0 := by decide +kernel
section
variable {l : Launch} {D : va_G} {cI cZ cL cR : ClassId} {B : Nat}
set_option maxRecDepth 100000 in
set_option maxHeartbeats 4000000 in
theorem w_X1_shipsAshore_4 {c : Nat} (hc : isL c) {p : Program} {e : Env} {s : State} {m : MethodId} {args : Array Value} {below : List Frame} {meth : Method} {c0 : Code} {τ σ : Mem} {r : Int32} (C0 : lm_Cx D cI cZ cL cR B p s m args meth c0 cX1_shipsAshore 3 (some .int) RX1) : ∀ (n : Nat), ∀ (x1 : Int32) (x2 : Int32) (H : Heap) (locs : List Loc) (ls : Array Slot), va_P D vwCl (wl cI cZ cL cR B σ τ) H → va_S (lm_A B) s.heap H locs → lv_has ls 3 [(0, .ref (B + c)), (1, .int x1), (2, .int x2)] → f_X1_shipsAshore_4 c σ n x1 x2 = some r → W p l e rmX1_shipsAshore s m args below meth c0 H locs 0 0 (MQ below (lm_QI D cI cZ cL cR B r σ τ) args s 0 0 (lm_A B)) (F0 m 4 ls []) := by
  obtain ⟨hx, hb, hml, hr, hlk, hown, hts, hK, hX⟩ := id C0
  intro n
  induction n with
  | zero =>
    intro x1 x2 H locs ls hR hS hl hf
    cases hf
  | succ n ih =>
    intro x1 x2 H locs ls hR hS hl hf
    rw [f_X1_shipsAshore_4] at hf
    refine lv_iload_n hx hb dX1_shipsAshore_4 rfl (lv_at hl 2 rfl) ?_
    refine lv_aload_n hx hb dX1_shipsAshore_5 rfl (lv_at hl 0 rfl) ?_
    refine lm_get C0 hR (isL_lt hc) (cell_L hc) rfl lw_in_X1 8 (by decide) uw_61 rfl rfl dX1_shipsAshore_6 ?_
    refine lv_icmp_ge (tgt := 30) hx hb dX1_shipsAshore_9 (by decide) (fun b1 => ?_) (fun b1 => ?_)
    · have hf := lm_T b1 hf
      refine lv_iload_n hx hb dX1_shipsAshore_30 rfl (lv_at hl 1 rfl) ?_
      exact lm_riP C0 hR hS hf dX1_shipsAshore_31
    · have hf := lm_F b1 hf
      refine lv_aload_n hx hb dX1_shipsAshore_12 rfl (lv_at hl 0 rfl) ?_
      refine lm_get C0 hR (isL_lt hc) (cell_L hc) rfl lw_in_X1 2 (by decide) uw_44 rfl rfl dX1_shipsAshore_13 ?_
      refine lv_iload_n hx hb dX1_shipsAshore_16 rfl (lv_at hl 2 rfl) ?_
      obtain ⟨z2, hf⟩ := lm_ck_e hf
      refine lm_ild C0 hR (isL_lt3 hc) (cell_L3 hc) z2 dX1_shipsAshore_17 ?_
      refine lv_if_ne (tgt := 24) hx hb dX1_shipsAshore_18 (by decide) (fun b3 => ?_) (fun b3 => ?_)
      · have hf := lm_F b3 hf
        obtain ⟨v4, ev4, hf⟩ := lm_nm_e hf
        refine lv_iinc (v := v4) (lv' := [(2, .int v4), (0, .ref (B + c)), (1, .int x1)]) hx hb dX1_shipsAshore_24 hl (k := 2) rfl (by rw [ev4]; rfl) (by decide) rfl (fun ls hl => ?_)
        refine lv_goto (tgt := 4) hx hb dX1_shipsAshore_27 (by decide) ?_
        exact ih _ _ _ _ _ hR hS (lv_sub hl [1, 2, 0] rfl) hf
      · have hf := lm_T b3 hf
        obtain ⟨v5, ev5, hf⟩ := lm_nm_e hf
        refine lv_iinc (v := v5) (lv' := [(1, .int v5), (0, .ref (B + c)), (2, .int x2)]) hx hb dX1_shipsAshore_21 hl (k := 1) rfl (by rw [ev5]; rfl) (by decide) rfl (fun ls hl => ?_)
        obtain ⟨v6, ev6, hf⟩ := lm_nm_e hf
        refine lv_iinc (v := v6) (lv' := [(2, .int v6), (1, .int v5), (0, .ref (B + c))]) hx hb dX1_shipsAshore_24 hl (k := 2) rfl (by rw [ev6]; rfl) (by decide) rfl (fun ls hl => ?_)
        refine lv_goto (tgt := 4) hx hb dX1_shipsAshore_27 (by decide) ?_
        exact ih _ _ _ _ _ hR hS (lv_sub hl [2, 1, 0] rfl) hf
set_option maxRecDepth 100000 in
set_option maxHeartbeats 4000000 in
theorem c_X1_shipsAshore {c : Nat} (hc : isL c) {σ τ : Mem} {r : Int32}  (hf : f_X1_shipsAshore c σ = some r) : lm_CI l yX1_shipsAshore wsX1_shipsAshore rmX1_shipsAshore D cI cZ cL cR B [.ref (B + c)] σ τ r σ τ := by
  unfold f_X1_shipsAshore at hf
  refine lm_of (cc := cX1_shipsAshore) (maxL := 3) (ret := (some .int)) (own := RX1) (by decide) rfl (Nat.le_of_ble_eq_true rfl) (fun p e s m below meth c0 C0 hR ls hl => ?_)
  have hS : va_S (lm_A B) s.heap s.heap [] := va_S.rf
  have hl : lv_has ls 3 [(0, .ref (B + c))] := hl
  obtain ⟨hx, hb, hml, hr, hlk, hown, hts, hK, hX⟩ := id C0
  refine lv_iconst (v := (0 : Int32)) hx hb dX1_shipsAshore_0 (by decide) ?_
  refine lv_istore_n (lv' := [(1, .int (0 : Int32)), (0, .ref (B + c))]) hx hb dX1_shipsAshore_1 rfl hl (by decide) rfl (fun ls hl => ?_)
  refine lv_iconst (v := (0 : Int32)) hx hb dX1_shipsAshore_2 (by decide) ?_
  refine lv_istore_n (lv' := [(2, .int (0 : Int32)), (1, .int (0 : Int32)), (0, .ref (B + c))]) hx hb dX1_shipsAshore_3 rfl hl (by decide) rfl (fun ls hl => ?_)
  exact w_X1_shipsAshore_4 hc C0 _ _ _ _ _ _ hR hS (lv_sub hl [2, 1, 0] rfl) hf
end
/-! ===== X1_loggedOf ===== -/
abbrev rmX1_loggedOf : Room := { frames := 1, cells := 0, slots := 0, locals := 21 }
def f_X1_loggedOf_86 (c : Nat) (σ : Mem) (x2 : Int32) (x4 : Int32) (y0 : Int32) : Option (Int32) := if (σ c 5) ≤ 0 then (some y0) else (if (((4 : Int32) + ((σ c 5) / (10 : Int32))) - (x4 / (2 : Int32))) < x2 then (some y0) else (lm_nm (y0 + (2 : Int32)) fun v20 => some v20))
def f_X1_loggedOf_60 (c : Nat) (σ : Mem) (x2 : Int32) : Option (Int32) := lm_bd (f_X1_thickOf c σ (σ c 6)) fun r15 => if ((σ c 4) - r15) < x2 then (f_X1_loggedOf_86 c σ x2 r15 (0 : Int32)) else (f_X1_loggedOf_86 c σ x2 r15 (1 : Int32))
def f_X1_loggedOf_32 (c : Nat) (σ : Mem) (x1 : Int32) (x2 : Int32) (y0 : Int32) : Option (Int32) := lm_ck (lm_in x1 6) (if (σ (c + 2) x1.toNatClampNeg) = (5 : Int32) then (if x2 ≤ (2 : Int32) then (if x2 = 0 then (if y0 = 0 then (some (3 : Int32)) else (f_X1_loggedOf_60 c σ x2)) else (f_X1_loggedOf_60 c σ x2)) else (some (0 : Int32))) else (if x2 = 0 then (if y0 = 0 then (some (3 : Int32)) else (f_X1_loggedOf_60 c σ x2)) else (f_X1_loggedOf_60 c σ x2)))
def f_X1_loggedOf (c : Nat) (σ : Mem) (p1 : Int32) : Option (Int32) := lm_ck (lm_in p1 6) (lm_nm (σ (c + 3) p1.toNatClampNeg) fun v2 => lm_ck (lm_in p1 6) (if (σ (c + 2) p1.toNatClampNeg) = (4 : Int32) then (f_X1_loggedOf_32 c σ p1 v2 (1 : Int32)) else (lm_ck (lm_in p1 6) (if (σ (c + 2) p1.toNatClampNeg) = (5 : Int32) then (f_X1_loggedOf_32 c σ p1 v2 (1 : Int32)) else (f_X1_loggedOf_32 c σ p1 v2 (0 : Int32))))))
abbrev wsX1_loggedOf : List Cond := Cond.code yX1_loggedOf cX1_loggedOf 6 (some .int) :: lw_u
theorem mv_X1_loggedOf : Cond.instanceMethod yX1_loggedOf ∈ lw_u ∧ Cond.selects yX1_loggedOf.cls yX1_loggedOf yX1_loggedOf ∈ lw_u ∧ Cond.initialized yX1_loggedOf.cls ∈ lw_u ∧ Cond.code yX1_loggedOf cX1_loggedOf 6 (some .int) ∈ lw_u := ⟨uw_265, uw_266, uw_3, uw_267⟩
theorem hd_X1_loggedOf : yX1_loggedOf.cls ≠ "java/lang/invoke/MethodHandle" ∧ yX1_loggedOf.cls ≠ "java/lang/invoke/VarHandle" ∧ (parseMethodDescriptor yX1_loggedOf.desc).map (fun d => d.parameters.length) = some 1 := by decide +kernel
section
variable {l : Launch} {D : va_G} {cI cZ cL cR : ClassId} {B : Nat}
set_option maxRecDepth 100000 in
set_option maxHeartbeats 4000000 in
theorem w_X1_loggedOf_86 {c : Nat} (hc : isL c) {p : Program} {e : Env} {s : State} {m : MethodId} {args : Array Value} {below : List Frame} {meth : Method} {c0 : Code} {τ σ : Mem} {r : Int32} (C0 : lm_Cx D cI cZ cL cR B p s m args meth c0 cX1_loggedOf 6 (some .int) RX1) : ∀ (x2 : Int32) (x4 : Int32) (y0 : Int32) (H : Heap) (locs : List Loc) (ls : Array Slot), va_P D vwCl (wl cI cZ cL cR B σ τ) H → va_S (lm_A B) s.heap H locs → lv_has ls 6 [(0, .ref (B + c)), (2, .int x2), (4, .int x4)] → f_X1_loggedOf_86 c σ x2 x4 y0 = some r → W p l e rmX1_loggedOf s m args below meth c0 H locs 0 0 (MQ below (lm_QI D cI cZ cL cR B r σ τ) args s 0 0 (lm_A B)) (F0 m 86 ls [.int y0]) := by
  obtain ⟨hx, hb, hml, hr, hlk, hown, hts, hK, hX⟩ := id C0
  intro x2 x4 y0 H locs ls hR hS hl hf
  unfold f_X1_loggedOf_86 at hf
  refine lv_istore (lv' := [(5, .int y0), (0, .ref (B + c)), (2, .int x2), (4, .int x4)]) hx hb dX1_loggedOf_86 hl (by decide) rfl (fun ls hl => ?_)
  refine lv_aload_n hx hb dX1_loggedOf_88 rfl (lv_at hl 1 rfl) ?_
  refine lm_get C0 hR (isL_lt hc) (cell_L hc) rfl lw_in_X1 5 (by decide) uw_53 rfl rfl dX1_loggedOf_89 ?_
  refine lv_if_le (tgt := 116) hx hb dX1_loggedOf_92 (by decide) (fun b18 => ?_) (fun b18 => ?_)
  · have hf := lm_T b18 hf
    refine lv_iload hx hb dX1_loggedOf_116 (lv_at hl 0 rfl) ?_
    exact lm_riP C0 hR hS hf dX1_loggedOf_118
  · have hf := lm_F b18 hf
    refine lv_iload_n hx hb dX1_loggedOf_95 rfl (lv_at hl 2 rfl) ?_
    refine lv_iconst (v := (4 : Int32)) hx hb dX1_loggedOf_96 (by decide) ?_
    refine lv_aload_n hx hb dX1_loggedOf_97 rfl (lv_at hl 1 rfl) ?_
    refine lm_get C0 hR (isL_lt hc) (cell_L hc) rfl lw_in_X1 5 (by decide) uw_53 rfl rfl dX1_loggedOf_98 ?_
    refine lv_bipush (v := (10 : Int32)) hx hb dX1_loggedOf_101 (by decide) ?_
    refine lv_idiv hx hb dX1_loggedOf_103 (by decide) ?_
    refine lv_iadd hx hb dX1_loggedOf_104 ?_
    refine lv_iload hx hb dX1_loggedOf_105 (lv_at hl 3 rfl) ?_
    refine lv_iconst (v := (2 : Int32)) hx hb dX1_loggedOf_107 (by decide) ?_
    refine lv_idiv hx hb dX1_loggedOf_108 (by decide) ?_
    refine lv_isub hx hb dX1_loggedOf_109 ?_
    refine lv_icmp_gt (tgt := 116) hx hb dX1_loggedOf_110 (by decide) (fun b19 => ?_) (fun b19 => ?_)
    · have hf := lm_T b19 hf
      refine lv_iload hx hb dX1_loggedOf_116 (lv_at hl 0 rfl) ?_
      exact lm_riP C0 hR hS hf dX1_loggedOf_118
    · have hf := lm_F b19 hf
      obtain ⟨v20, ev20, hf⟩ := lm_nm_e hf
      refine lv_iinc (v := v20) (lv' := [(5, .int v20), (0, .ref (B + c)), (2, .int x2), (4, .int x4)]) hx hb dX1_loggedOf_113 hl (k := 0) rfl (by rw [ev20]; rfl) (by decide) rfl (fun ls hl => ?_)
      refine lv_iload hx hb dX1_loggedOf_116 (lv_at hl 0 rfl) ?_
      exact lm_riP C0 hR hS hf dX1_loggedOf_118
set_option maxRecDepth 100000 in
set_option maxHeartbeats 4000000 in
theorem w_X1_loggedOf_60 {c : Nat} (hc : isL c) {p : Program} {e : Env} {s : State} {m : MethodId} {args : Array Value} {below : List Frame} {meth : Method} {c0 : Code} {τ σ : Mem} {r : Int32} (C0 : lm_Cx D cI cZ cL cR B p s m args meth c0 cX1_loggedOf 6 (some .int) RX1) : ∀ (x2 : Int32) (H : Heap) (locs : List Loc) (ls : Array Slot), va_P D vwCl (wl cI cZ cL cR B σ τ) H → va_S (lm_A B) s.heap H locs → lv_has ls 6 [(0, .ref (B + c)), (2, .int x2)] → f_X1_loggedOf_60 c σ x2 = some r → W p l e rmX1_loggedOf s m args below meth c0 H locs 0 0 (MQ below (lm_QI D cI cZ cL cR B r σ τ) args s 0 0 (lm_A B)) (F0 m 60 ls []) := by
  obtain ⟨hx, hb, hml, hr, hlk, hown, hts, hK, hX⟩ := id C0
  intro x2 H locs ls hR hS hl hf
  unfold f_X1_loggedOf_60 at hf
  refine lv_aload_n hx hb dX1_loggedOf_60 rfl (lv_at hl 0 rfl) ?_
  refine lv_aload_n hx hb dX1_loggedOf_61 rfl (lv_at hl 0 rfl) ?_
  refine lm_get C0 hR (isL_lt hc) (cell_L hc) rfl lw_in_X1 6 (by decide) uw_56 rfl rfl dX1_loggedOf_62 ?_
  obtain ⟨r15, u14, hf⟩ := lm_bd_e hf
  refine lm_endi (lm_runV C0 hR hS (c_X1_thickOf hc u14) (lw_cV 1 hts uw_256 mv_X1_thickOf rfl rfl hd_X1_thickOf ⟨Nat.le_of_ble_eq_true rfl, Nat.le_of_ble_eq_true rfl⟩) (isL_lt hc) (cell_L hc) rfl rfl hl rfl (Nat.le_of_ble_eq_true rfl) dX1_loggedOf_65) hS (fun H locs hR hS => ?_)
  refine lv_istore (lv' := [(4, .int r15), (0, .ref (B + c)), (2, .int x2)]) hx hb dX1_loggedOf_68 hl (by decide) rfl (fun ls hl => ?_)
  refine lv_iload_n hx hb dX1_loggedOf_70 rfl (lv_at hl 2 rfl) ?_
  refine lv_aload_n hx hb dX1_loggedOf_71 rfl (lv_at hl 1 rfl) ?_
  refine lm_get C0 hR (isL_lt hc) (cell_L hc) rfl lw_in_X1 4 (by decide) uw_50 rfl rfl dX1_loggedOf_72 ?_
  refine lv_iload hx hb dX1_loggedOf_75 (lv_at hl 0 rfl) ?_
  refine lv_isub hx hb dX1_loggedOf_77 ?_
  refine lv_icmp_gt (tgt := 85) hx hb dX1_loggedOf_78 (by decide) (fun b17 => ?_) (fun b17 => ?_)
  · have hf := lm_T b17 hf
    refine lv_iconst (v := (0 : Int32)) hx hb dX1_loggedOf_85 (by decide) ?_
    exact w_X1_loggedOf_86 hc C0 _ _ _ _ _ _ hR hS (lv_sub hl [1, 2, 0] rfl) hf
  · have hf := lm_F b17 hf
    refine lv_iconst (v := (1 : Int32)) hx hb dX1_loggedOf_81 (by decide) ?_
    refine lv_goto (tgt := 86) hx hb dX1_loggedOf_82 (by decide) ?_
    exact w_X1_loggedOf_86 hc C0 _ _ _ _ _ _ hR hS (lv_sub hl [1, 2, 0] rfl) hf
set_option maxRecDepth 100000 in
set_option maxHeartbeats 4000000 in
theorem w_X1_loggedOf_32 {c : Nat} (hc : isL c) {p : Program} {e : Env} {s : State} {m : MethodId} {args : Array Value} {below : List Frame} {meth : Method} {c0 : Code} {τ σ : Mem} {r : Int32} (C0 : lm_Cx D cI cZ cL cR B p s m args meth c0 cX1_loggedOf 6 (some .int) RX1) : ∀ (x1 : Int32) (x2 : Int32) (y0 : Int32) (H : Heap) (locs : List Loc) (ls : Array Slot), va_P D vwCl (wl cI cZ cL cR B σ τ) H → va_S (lm_A B) s.heap H locs → lv_has ls 6 [(0, .ref (B + c)), (1, .int x1), (2, .int x2)] → f_X1_loggedOf_32 c σ x1 x2 y0 = some r → W p l e rmX1_loggedOf s m args below meth c0 H locs 0 0 (MQ below (lm_QI D cI cZ cL cR B r σ τ) args s 0 0 (lm_A B)) (F0 m 32 ls [.int y0]) := by
  obtain ⟨hx, hb, hml, hr, hlk, hown, hts, hK, hX⟩ := id C0
  intro x1 x2 y0 H locs ls hR hS hl hf
  unfold f_X1_loggedOf_32 at hf
  refine lv_istore_n (lv' := [(3, .int y0), (0, .ref (B + c)), (1, .int x1), (2, .int x2)]) hx hb dX1_loggedOf_32 rfl hl (by decide) rfl (fun ls hl => ?_)
  refine lv_aload_n hx hb dX1_loggedOf_33 rfl (lv_at hl 1 rfl) ?_
  refine lm_get C0 hR (isL_lt hc) (cell_L hc) rfl lw_in_X1 1 (by decide) uw_41 rfl rfl dX1_loggedOf_34 ?_
  refine lv_iload_n hx hb dX1_loggedOf_37 rfl (lv_at hl 2 rfl) ?_
  obtain ⟨z7, hf⟩ := lm_ck_e hf
  refine lm_ild C0 hR (isL_lt2 hc) (cell_L2 hc) z7 dX1_loggedOf_38 ?_
  refine lv_iconst (v := (5 : Int32)) hx hb dX1_loggedOf_39 (by decide) ?_
  refine lv_icmp_ne (tgt := 50) hx hb dX1_loggedOf_40 (by decide) (fun b8 => ?_) (fun b8 => ?_)
  · have hf := lm_F b8 hf
    refine lv_iload_n hx hb dX1_loggedOf_50 rfl (lv_at hl 3 rfl) ?_
    refine lv_if_ne (tgt := 60) hx hb dX1_loggedOf_51 (by decide) (fun b9 => ?_) (fun b9 => ?_)
    · have hf := lm_F b9 hf
      exact w_X1_loggedOf_60 hc C0 _ _ _ _ hR hS (lv_sub hl [1, 3] rfl) hf
    · have hf := lm_T b9 hf
      refine lv_iload_n hx hb dX1_loggedOf_54 rfl (lv_at hl 0 rfl) ?_
      refine lv_if_ne (tgt := 60) hx hb dX1_loggedOf_55 (by decide) (fun b10 => ?_) (fun b10 => ?_)
      · have hf := lm_F b10 hf
        exact w_X1_loggedOf_60 hc C0 _ _ _ _ hR hS (lv_sub hl [1, 3] rfl) hf
      · have hf := lm_T b10 hf
        refine lv_iconst (v := (3 : Int32)) hx hb dX1_loggedOf_58 (by decide) ?_
        exact lm_riP C0 hR hS hf dX1_loggedOf_59
  · have hf := lm_T b8 hf
    refine lv_iload_n hx hb dX1_loggedOf_43 rfl (lv_at hl 3 rfl) ?_
    refine lv_iconst (v := (2 : Int32)) hx hb dX1_loggedOf_44 (by decide) ?_
    refine lv_icmp_le (tgt := 50) hx hb dX1_loggedOf_45 (by decide) (fun b11 => ?_) (fun b11 => ?_)
    · have hf := lm_T b11 hf
      refine lv_iload_n hx hb dX1_loggedOf_50 rfl (lv_at hl 3 rfl) ?_
      refine lv_if_ne (tgt := 60) hx hb dX1_loggedOf_51 (by decide) (fun b12 => ?_) (fun b12 => ?_)
      · have hf := lm_F b12 hf
        exact w_X1_loggedOf_60 hc C0 _ _ _ _ hR hS (lv_sub hl [1, 3] rfl) hf
      · have hf := lm_T b12 hf
        refine lv_iload_n hx hb dX1_loggedOf_54 rfl (lv_at hl 0 rfl) ?_
        refine lv_if_ne (tgt := 60) hx hb dX1_loggedOf_55 (by decide) (fun b13 => ?_) (fun b13 => ?_)
        · have hf := lm_F b13 hf
          exact w_X1_loggedOf_60 hc C0 _ _ _ _ hR hS (lv_sub hl [1, 3] rfl) hf
        · have hf := lm_T b13 hf
          refine lv_iconst (v := (3 : Int32)) hx hb dX1_loggedOf_58 (by decide) ?_
          exact lm_riP C0 hR hS hf dX1_loggedOf_59
    · have hf := lm_F b11 hf
      refine lv_iconst (v := (0 : Int32)) hx hb dX1_loggedOf_48 (by decide) ?_
      exact lm_riP C0 hR hS hf dX1_loggedOf_49
set_option maxRecDepth 100000 in
set_option maxHeartbeats 4000000 in
theorem c_X1_loggedOf {c : Nat} (hc : isL c) {σ τ : Mem} {p1 : Int32} {r : Int32}  (hf : f_X1_loggedOf c σ p1 = some r) : lm_CI l yX1_loggedOf wsX1_loggedOf rmX1_loggedOf D cI cZ cL cR B [.ref (B + c), .int p1] σ τ r σ τ := by
  unfold f_X1_loggedOf at hf
  refine lm_of (cc := cX1_loggedOf) (maxL := 6) (ret := (some .int)) (own := RX1) (by decide) rfl (Nat.le_of_ble_eq_true rfl) (fun p e s m below meth c0 C0 hR ls hl => ?_)
  have hS : va_S (lm_A B) s.heap s.heap [] := va_S.rf
  have hl : lv_has ls 6 [(0, .ref (B + c)), (1, .int p1)] := hl
  obtain ⟨hx, hb, hml, hr, hlk, hown, hts, hK, hX⟩ := id C0
  refine lv_aload_n hx hb dX1_loggedOf_0 rfl (lv_at hl 0 rfl) ?_
  refine lm_get C0 hR (isL_lt hc) (cell_L hc) rfl lw_in_X1 2 (by decide) uw_44 rfl rfl dX1_loggedOf_1 ?_
  refine lv_iload_n hx hb dX1_loggedOf_4 rfl (lv_at hl 1 rfl) ?_
  obtain ⟨z1, hf⟩ := lm_ck_e hf
  refine lm_ild C0 hR (isL_lt3 hc) (cell_L3 hc) z1 dX1_loggedOf_5 ?_
  obtain ⟨v2, ev2, hf⟩ := lm_nm_e hf
  refine lm_topi ev2 ?_
  refine lv_istore_n (lv' := [(2, .int v2), (0, .ref (B + c)), (1, .int p1)]) hx hb dX1_loggedOf_6 rfl hl (by decide) rfl (fun ls hl => ?_)
  refine lv_aload_n hx hb dX1_loggedOf_7 rfl (lv_at hl 1 rfl) ?_
  refine lm_get C0 hR (isL_lt hc) (cell_L hc) rfl lw_in_X1 1 (by decide) uw_41 rfl rfl dX1_loggedOf_8 ?_
  refine lv_iload_n hx hb dX1_loggedOf_11 rfl (lv_at hl 2 rfl) ?_
  obtain ⟨z3, hf⟩ := lm_ck_e hf
  refine lm_ild C0 hR (isL_lt2 hc) (cell_L2 hc) z3 dX1_loggedOf_12 ?_
  refine lv_iconst (v := (4 : Int32)) hx hb dX1_loggedOf_13 (by decide) ?_
  refine lv_icmp_eq (tgt := 27) hx hb dX1_loggedOf_14 (by decide) (fun b4 => ?_) (fun b4 => ?_)
  · have hf := lm_T b4 hf
    refine lv_iconst (v := (1 : Int32)) hx hb dX1_loggedOf_27 (by decide) ?_
    refine lv_goto (tgt := 32) hx hb dX1_loggedOf_28 (by decide) ?_
    exact w_X1_loggedOf_32 hc C0 _ _ _ _ _ _ hR hS (lv_sub hl [1, 2, 0] rfl) hf
  · have hf := lm_F b4 hf
    refine lv_aload_n hx hb dX1_loggedOf_17 rfl (lv_at hl 1 rfl) ?_
    refine lm_get C0 hR (isL_lt hc) (cell_L hc) rfl lw_in_X1 1 (by decide) uw_41 rfl rfl dX1_loggedOf_18 ?_
    refine lv_iload_n hx hb dX1_loggedOf_21 rfl (lv_at hl 2 rfl) ?_
    obtain ⟨z5, hf⟩ := lm_ck_e hf
    refine lm_ild C0 hR (isL_lt2 hc) (cell_L2 hc) z5 dX1_loggedOf_22 ?_
    refine lv_iconst (v := (5 : Int32)) hx hb dX1_loggedOf_23 (by decide) ?_
    refine lv_icmp_ne (tgt := 31) hx hb dX1_loggedOf_24 (by decide) (fun b6 => ?_) (fun b6 => ?_)
    · have hf := lm_F b6 hf
      refine lv_iconst (v := (0 : Int32)) hx hb dX1_loggedOf_31 (by decide) ?_
      exact w_X1_loggedOf_32 hc C0 _ _ _ _ _ _ hR hS (lv_sub hl [1, 2, 0] rfl) hf
    · have hf := lm_T b6 hf
      refine lv_iconst (v := (1 : Int32)) hx hb dX1_loggedOf_27 (by decide) ?_
      refine lv_goto (tgt := 32) hx hb dX1_loggedOf_28 (by decide) ?_
      exact w_X1_loggedOf_32 hc C0 _ _ _ _ _ _ hR hS (lv_sub hl [1, 2, 0] rfl) hf
end
/-! ===== X4_isSeenBy ===== -/
abbrev rmX4_isSeenBy : Room := { frames := 0, cells := 0, slots := 0, locals := 0 }
def f_X4_isSeenBy (p0 : Int32) (p1 : Int32) : Option (Int32) := if p1 = (0 : Int32) then (if (p0 &&& (1 : Int32)) = 0 then (some (0 : Int32)) else (some (1 : Int32))) else (if p1 = (1 : Int32) then (if (p0 &&& (2 : Int32)) = 0 then (some (0 : Int32)) else (some (1 : Int32))) else (if p0 = (1 : Int32) then (some (1 : Int32)) else (if p0 = (2 : Int32) then (some (1 : Int32)) else (some (0 : Int32)))))
abbrev wsX4_isSeenBy : List Cond := Cond.code yX4_isSeenBy cX4_isSeenBy 2 (some .boolean) :: lw_u
theorem mv_X4_isSeenBy : Cond.static yX4_isSeenBy ∈ lw_u ∧ Cond.initialized yX4_isSeenBy.cls ∈ lw_u ∧ Cond.code yX4_isSeenBy cX4_isSeenBy 2 (some .boolean) ∈ lw_u := ⟨uw_268, uw_1, uw_269⟩
theorem hd_X4_isSeenBy : yX4_isSeenBy.cls ≠ "java/lang/invoke/MethodHandle" ∧ yX4_isSeenBy.cls ≠ "java/lang/invoke/VarHandle" ∧ (parseMethodDescriptor yX4_isSeenBy.desc).map (fun d => d.parameters.length) = some 2 := by decide +kernel
section
variable {l : Launch} {D : va_G} {cI cZ cL cR : ClassId} {B : Nat}
set_option maxRecDepth 100000 in
set_option maxHeartbeats 4000000 in
theorem c_X4_isSeenBy {σ τ : Mem} {p0 : Int32} {p1 : Int32} {r : Int32}  (hf : f_X4_isSeenBy p0 p1 = some r) : lm_CI l yX4_isSeenBy wsX4_isSeenBy rmX4_isSeenBy D cI cZ cL cR B [.int p0, .int p1] σ τ r σ τ := by
  unfold f_X4_isSeenBy at hf
  refine lm_of (cc := cX4_isSeenBy) (maxL := 2) (ret := (some .boolean)) (own := RX4) (by decide) rfl (Nat.le_of_ble_eq_true rfl) (fun p e s m below meth c0 C0 hR ls hl => ?_)
  have hS : va_S (lm_A B) s.heap s.heap [] := va_S.rf
  have hl : lv_has ls 2 [(0, .int p0), (1, .int p1)] := hl
  obtain ⟨hx, hb, hml, hr, hlk, hown, hts, hK, hX⟩ := id C0
  refine lv_iload_n hx hb dX4_isSeenBy_0 rfl (lv_at hl 1 rfl) ?_
  by_cases b1 : p1 = (0 : Int32)
  · have hf := lm_T b1 hf
    refine lv_lookup (off := 27) (tgt := 28) hx hb dX4_isSeenBy_1 (by decide) (by rw [b1]; decide) (by decide) ?_
    refine lv_iload_n hx hb dX4_isSeenBy_28 rfl (lv_at hl 0 rfl) ?_
    refine lv_iconst (v := (1 : Int32)) hx hb dX4_isSeenBy_29 (by decide) ?_
    refine lv_iand hx hb dX4_isSeenBy_30 ?_
    refine lv_if_eq (tgt := 38) hx hb dX4_isSeenBy_31 (by decide) (fun b2 => ?_) (fun b2 => ?_)
    · have hf := lm_T b2 hf
      refine lv_iconst (v := (0 : Int32)) hx hb dX4_isSeenBy_38 (by decide) ?_
      exact lm_rzP C0 hR hS hf rfl dX4_isSeenBy_39
    · have hf := lm_F b2 hf
      refine lv_iconst (v := (1 : Int32)) hx hb dX4_isSeenBy_34 (by decide) ?_
      refine lv_goto (tgt := 39) hx hb dX4_isSeenBy_35 (by decide) ?_
      exact lm_rzP C0 hR hS hf rfl dX4_isSeenBy_39
  have hf := lm_F b1 hf
  by_cases b3 : p1 = (1 : Int32)
  · have hf := lm_T b3 hf
    refine lv_lookup (off := 39) (tgt := 40) hx hb dX4_isSeenBy_1 (by decide) (by rw [b3]; decide) (by decide) ?_
    refine lv_iload_n hx hb dX4_isSeenBy_40 rfl (lv_at hl 0 rfl) ?_
    refine lv_iconst (v := (2 : Int32)) hx hb dX4_isSeenBy_41 (by decide) ?_
    refine lv_iand hx hb dX4_isSeenBy_42 ?_
    refine lv_if_eq (tgt := 50) hx hb dX4_isSeenBy_43 (by decide) (fun b4 => ?_) (fun b4 => ?_)
    · have hf := lm_T b4 hf
      refine lv_iconst (v := (0 : Int32)) hx hb dX4_isSeenBy_50 (by decide) ?_
      exact lm_rzP C0 hR hS hf rfl dX4_isSeenBy_51
    · have hf := lm_F b4 hf
      refine lv_iconst (v := (1 : Int32)) hx hb dX4_isSeenBy_46 (by decide) ?_
      refine lv_goto (tgt := 51) hx hb dX4_isSeenBy_47 (by decide) ?_
      exact lm_rzP C0 hR hS hf rfl dX4_isSeenBy_51
  have hf := lm_F b3 hf
  refine lv_lookup (off := 51) (tgt := 52) hx hb dX4_isSeenBy_1 (by decide) ((lv_osw b1 (by decide)).trans <| (lv_osw b3 (by decide)).trans <| rfl) (by decide) ?_
  refine lv_iload_n hx hb dX4_isSeenBy_52 rfl (lv_at hl 0 rfl) ?_
  refine lv_iconst (v := (1 : Int32)) hx hb dX4_isSeenBy_53 (by decide) ?_
  refine lv_icmp_eq (tgt := 62) hx hb dX4_isSeenBy_54 (by decide) (fun b5 => ?_) (fun b5 => ?_)
  · have hf := lm_T b5 hf
    refine lv_iconst (v := (1 : Int32)) hx hb dX4_isSeenBy_62 (by decide) ?_
    refine lv_goto (tgt := 67) hx hb dX4_isSeenBy_63 (by decide) ?_
    exact lm_rzP C0 hR hS hf rfl dX4_isSeenBy_67
  · have hf := lm_F b5 hf
    refine lv_iload_n hx hb dX4_isSeenBy_57 rfl (lv_at hl 0 rfl) ?_
    refine lv_iconst (v := (2 : Int32)) hx hb dX4_isSeenBy_58 (by decide) ?_
    refine lv_icmp_ne (tgt := 66) hx hb dX4_isSeenBy_59 (by decide) (fun b6 => ?_) (fun b6 => ?_)
    · have hf := lm_F b6 hf
      refine lv_iconst (v := (0 : Int32)) hx hb dX4_isSeenBy_66 (by decide) ?_
      exact lm_rzP C0 hR hS hf rfl dX4_isSeenBy_67
    · have hf := lm_T b6 hf
      refine lv_iconst (v := (1 : Int32)) hx hb dX4_isSeenBy_62 (by decide) ?_
      refine lv_goto (tgt := 67) hx hb dX4_isSeenBy_63 (by decide) ?_
      exact lm_rzP C0 hR hS hf rfl dX4_isSeenBy_67
end
/-! ===== X1_differOn ===== -/
abbrev rmX1_differOn : Room := { frames := 2, cells := 0, slots := 0, locals := 46 }
def f_X1_differOn (c : Nat) (σ : Mem) (p1 : Int32) : Option (Int32) := lm_bd (f_X1_loggedOf c σ p1) fun r2 => lm_bd (f_X4_isSeenBy r2 (2 : Int32)) fun r5 => lm_ck (lm_bo r5) (some r5)
abbrev wsX1_differOn : List Cond := Cond.code yX1_differOn cX1_differOn 2 (some .boolean) :: lw_u
theorem mv_X1_differOn : Cond.instanceMethod yX1_differOn ∈ lw_u ∧ Cond.selects yX1_differOn.cls yX1_differOn yX1_differOn ∈ lw_u ∧ Cond.initialized yX1_differOn.cls ∈ lw_u ∧ Cond.code yX1_differOn cX1_differOn 2 (some .boolean) ∈ lw_u := ⟨uw_329, uw_330, uw_3, uw_331⟩
theorem hd_X1_differOn : yX1_differOn.cls ≠ "java/lang/invoke/MethodHandle" ∧ yX1_differOn.cls ≠ "java/lang/invoke/VarHandle" ∧ (parseMethodDescriptor yX1_differOn.desc).map (fun d => d.parameters.length) = some 1 := by decide +kernel
section
variable {l : Launch} {D : va_G} {cI cZ cL cR : ClassId} {B : Nat}
set_option maxRecDepth 100000 in
set_option maxHeartbeats 4000000 in
theorem c_X1_differOn {c : Nat} (hc : isL c) {σ τ : Mem} {p1 : Int32} {r : Int32}  (hf : f_X1_differOn c σ p1 = some r) : lm_CI l yX1_differOn wsX1_differOn rmX1_differOn D cI cZ cL cR B [.ref (B + c), .int p1] σ τ r σ τ := by
  unfold f_X1_differOn at hf
  refine lm_of (cc := cX1_differOn) (maxL := 2) (ret := (some .boolean)) (own := RX1) (by decide) rfl (Nat.le_of_ble_eq_true rfl) (fun p e s m below meth c0 C0 hR ls hl => ?_)
  have hS : va_S (lm_A B) s.heap s.heap [] := va_S.rf
  have hl : lv_has ls 2 [(0, .ref (B + c)), (1, .int p1)] := hl
  obtain ⟨hx, hb, hml, hr, hlk, hown, hts, hK, hX⟩ := id C0
  refine lv_aload_n hx hb dX1_differOn_0 rfl (lv_at hl 0 rfl) ?_
  refine lv_iload_n hx hb dX1_differOn_1 rfl (lv_at hl 1 rfl) ?_
  obtain ⟨r2, u1, hf⟩ := lm_bd_e hf
  refine lm_endi (lm_runV C0 hR hS (c_X1_loggedOf hc u1) (lw_cV 1 hts uw_264 mv_X1_loggedOf rfl rfl hd_X1_loggedOf ⟨Nat.le_of_ble_eq_true rfl, Nat.le_of_ble_eq_true rfl⟩) (isL_lt hc) (cell_L hc) rfl rfl hl rfl (Nat.le_of_ble_eq_true rfl) dX1_differOn_2) hS (fun H locs hR hS => ?_)
  refine lv_iconst (v := (2 : Int32)) hx hb dX1_differOn_5 (by decide) ?_
  obtain ⟨r5, u4, hf⟩ := lm_bd_e hf
  refine lm_endi (lm_runSN C0 hR hS (c_X4_isSeenBy u4) (lw_cN 2 hts hX.2.2.2.1 mv_X4_isSeenBy rfl rfl hd_X4_isSeenBy ⟨Nat.le_of_ble_eq_true rfl, Nat.le_of_ble_eq_true rfl⟩) rfl hl rfl (Nat.le_of_ble_eq_true rfl) dX1_differOn_6) hS (fun H locs hR hS => ?_)
  obtain ⟨z7, hf⟩ := lm_ck_e hf
  exact lm_rzP C0 hR hS hf (lm_boT z7) dX1_differOn_9
end
/-! ===== X4_bitIf ===== -/
abbrev rmX4_bitIf : Room := { frames := 0, cells := 0, slots := 0, locals := 0 }
def f_X4_bitIf (p0 : Int32) (p1 : Int32) : Option (Int32) := if p0 = 0 then (some (0 : Int32)) else (some ((1 : Int32) <<< (p1 &&& 31)))
abbrev wsX4_bitIf : List Cond := Cond.code yX4_bitIf cX4_bitIf 2 (some .int) :: lw_u
theorem mv_X4_bitIf : Cond.static yX4_bitIf ∈ lw_u ∧ Cond.initialized yX4_bitIf.cls ∈ lw_u ∧ Cond.code yX4_bitIf cX4_bitIf 2 (some .int) ∈ lw_u := ⟨uw_270, uw_1, uw_271⟩
theorem hd_X4_bitIf : yX4_bitIf.cls ≠ "java/lang/invoke/MethodHandle" ∧ yX4_bitIf.cls ≠ "java/lang/invoke/VarHandle" ∧ (parseMethodDescriptor yX4_bitIf.desc).map (fun d => d.parameters.length) = some 2 := by decide +kernel
section
variable {l : Launch} {D : va_G} {cI cZ cL cR : ClassId} {B : Nat}
set_option maxRecDepth 100000 in
set_option maxHeartbeats 4000000 in
theorem c_X4_bitIf {σ τ : Mem} {p0 : Int32} {p1 : Int32} {r : Int32}  (hf : f_X4_bitIf p0 p1 = some r) : lm_CI l yX4_bitIf wsX4_bitIf rmX4_bitIf D cI cZ cL cR B [.int p0, .int p1] σ τ r σ τ := by
  unfold f_X4_bitIf at hf
  refine lm_of (cc := cX4_bitIf) (maxL := 2) (ret := (some .int)) (own := RX4) (by decide) rfl (Nat.le_of_ble_eq_true rfl) (fun p e s m below meth c0 C0 hR ls hl => ?_)
  have hS : va_S (lm_A B) s.heap s.heap [] := va_S.rf
  have hl : lv_has ls 2 [(0, .int p0), (1, .int p1)] := hl
  obtain ⟨hx, hb, hml, hr, hlk, hown, hts, hK, hX⟩ := id C0
  refine lv_iload_n hx hb dX4_bitIf_0 rfl (lv_at hl 0 rfl) ?_
  refine lv_if_eq (tgt := 10) hx hb dX4_bitIf_1 (by decide) (fun b1 => ?_) (fun b1 => ?_)
  · have hf := lm_T b1 hf
    refine lv_iconst (v := (0 : Int32)) hx hb dX4_bitIf_10 (by decide) ?_
    exact lm_riP C0 hR hS hf dX4_bitIf_11
  · have hf := lm_F b1 hf
    refine lv_iconst (v := (1 : Int32)) hx hb dX4_bitIf_4 (by decide) ?_
    refine lv_iload_n hx hb dX4_bitIf_5 rfl (lv_at hl 1 rfl) ?_
    refine lv_ishl hx hb dX4_bitIf_6 ?_
    refine lv_goto (tgt := 11) hx hb dX4_bitIf_7 (by decide) ?_
    exact lm_riP C0 hR hS hf dX4_bitIf_11
end
/-! ===== X1_shipsSeen ===== -/
abbrev rmX1_shipsSeen : Room := { frames := 2, cells := 0, slots := 0, locals := 46 }
def f_X1_shipsSeen_4 (c : Nat) (σ : Mem) : Nat → Int32 → Int32 → Int32 → Option (Int32)
  | 0, _, _, _ => none
  | n + 1, x1, x2, x3 => if (σ c 8) ≤ x3 then (some x2) else (lm_bd (f_X1_loggedOf c σ x3) fun r3 => lm_bd (f_X4_isSeenBy r3 x1) fun r6 => lm_bd (f_X4_bitIf r6 x3) fun r9 => lm_nm (x2 ||| r9) fun v11 => lm_nm (x3 + (1 : Int32)) fun v12 => f_X1_shipsSeen_4 c σ n x1 v11 v12)
def f_X1_shipsSeen (c : Nat) (σ : Mem) (p1 : Int32) : Option (Int32) := f_X1_shipsSeen_4 c σ lm_fu p1 (0 : Int32) (0 : Int32)
abbrev wsX1_shipsSeen : List Cond := Cond.code yX1_shipsSeen cX1_shipsSeen 4 (some .int) :: lw_u
theorem mv_X1_shipsSeen : Cond.instanceMethod yX1_shipsSeen ∈ lw_u ∧ Cond.selects yX1_shipsSeen.cls yX1_shipsSeen yX1_shipsSeen ∈ lw_u ∧ Cond.initialized yX1_shipsSeen.cls ∈ lw_u ∧ Cond.code yX1_shipsSeen cX1_shipsSeen 4 (some .int) ∈ lw_u := ⟨uw_261, uw_262, uw_3, uw_263⟩
theorem hd_X1_shipsSeen : yX1_shipsSeen.cls ≠ "java/lang/invoke/MethodHandle" ∧ yX1_shipsSeen.cls ≠ "java/lang/invoke/VarHandle" ∧ (parseMethodDescriptor yX1_shipsSeen.desc).map (fun d => d.parameters.length) = some 1 := by decide +kernel
section
variable {l : Launch} {D : va_G} {cI cZ cL cR : ClassId} {B : Nat}
set_option maxRecDepth 100000 in
set_option maxHeartbeats 4000000 in
theorem w_X1_shipsSeen_4 {c : Nat} (hc : isL c) {p : Program} {e : Env} {s : State} {m : MethodId} {args : Array Value} {below : List Frame} {meth : Method} {c0 : Code} {τ σ : Mem} {r : Int32} (C0 : lm_Cx D cI cZ cL cR B p s m args meth c0 cX1_shipsSeen 4 (some .int) RX1) : ∀ (n : Nat), ∀ (x1 : Int32) (x2 : Int32) (x3 : Int32) (H : Heap) (locs : List Loc) (ls : Array Slot), va_P D vwCl (wl cI cZ cL cR B σ τ) H → va_S (lm_A B) s.heap H locs → lv_has ls 4 [(0, .ref (B + c)), (1, .int x1), (2, .int x2), (3, .int x3)] → f_X1_shipsSeen_4 c σ n x1 x2 x3 = some r → W p l e rmX1_shipsSeen s m args below meth c0 H locs 0 0 (MQ below (lm_QI D cI cZ cL cR B r σ τ) args s 0 0 (lm_A B)) (F0 m 4 ls []) := by
  obtain ⟨hx, hb, hml, hr, hlk, hown, hts, hK, hX⟩ := id C0
  intro n
  induction n with
  | zero =>
    intro x1 x2 x3 H locs ls hR hS hl hf
    cases hf
  | succ n ih =>
    intro x1 x2 x3 H locs ls hR hS hl hf
    rw [f_X1_shipsSeen_4] at hf
    refine lv_iload_n hx hb dX1_shipsSeen_4 rfl (lv_at hl 3 rfl) ?_
    refine lv_aload_n hx hb dX1_shipsSeen_5 rfl (lv_at hl 0 rfl) ?_
    refine lm_get C0 hR (isL_lt hc) (cell_L hc) rfl lw_in_X1 8 (by decide) uw_61 rfl rfl dX1_shipsSeen_6 ?_
    refine lv_icmp_ge (tgt := 34) hx hb dX1_shipsSeen_9 (by decide) (fun b1 => ?_) (fun b1 => ?_)
    · have hf := lm_T b1 hf
      refine lv_iload_n hx hb dX1_shipsSeen_34 rfl (lv_at hl 2 rfl) ?_
      exact lm_riP C0 hR hS hf dX1_shipsSeen_35
    · have hf := lm_F b1 hf
      refine lv_iload_n hx hb dX1_shipsSeen_12 rfl (lv_at hl 2 rfl) ?_
      refine lv_aload_n hx hb dX1_shipsSeen_13 rfl (lv_at hl 0 rfl) ?_
      refine lv_iload_n hx hb dX1_shipsSeen_14 rfl (lv_at hl 3 rfl) ?_
      obtain ⟨r3, u2, hf⟩ := lm_bd_e hf
      refine lm_endi (lm_runV C0 hR hS (c_X1_loggedOf hc u2) (lw_cV 1 hts uw_264 mv_X1_loggedOf rfl rfl hd_X1_loggedOf ⟨Nat.le_of_ble_eq_true rfl, Nat.le_of_ble_eq_true rfl⟩) (isL_lt hc) (cell_L hc) rfl rfl hl rfl (Nat.le_of_ble_eq_true rfl) dX1_shipsSeen_15) hS (fun H locs hR hS => ?_)
      refine lv_iload_n hx hb dX1_shipsSeen_18 rfl (lv_at hl 1 rfl) ?_
      obtain ⟨r6, u5, hf⟩ := lm_bd_e hf
      refine lm_endi (lm_runSN C0 hR hS (c_X4_isSeenBy u5) (lw_cN 2 hts hX.2.2.2.1 mv_X4_isSeenBy rfl rfl hd_X4_isSeenBy ⟨Nat.le_of_ble_eq_true rfl, Nat.le_of_ble_eq_true rfl⟩) rfl hl rfl (Nat.le_of_ble_eq_true rfl) dX1_shipsSeen_19) hS (fun H locs hR hS => ?_)
      refine lv_iload_n hx hb dX1_shipsSeen_22 rfl (lv_at hl 3 rfl) ?_
      obtain ⟨r9, u8, hf⟩ := lm_bd_e hf
      refine lm_endi (lm_runSN C0 hR hS (c_X4_bitIf u8) (lw_cN 2 hts hX.2.2.2.2.1 mv_X4_bitIf rfl rfl hd_X4_bitIf ⟨Nat.le_of_ble_eq_true rfl, Nat.le_of_ble_eq_true rfl⟩) rfl hl rfl (Nat.le_of_ble_eq_true rfl) dX1_shipsSeen_23) hS (fun H locs hR hS => ?_)
      refine lv_ior hx hb dX1_shipsSeen_26 ?_
      obtain ⟨v11, ev11, hf⟩ := lm_nm_e hf
      refine lm_topi ev11 ?_
      refine lv_istore_n (lv' := [(2, .int v11), (0, .ref (B + c)), (1, .int x1), (3, .int x3)]) hx hb dX1_shipsSeen_27 rfl hl (by decide) rfl (fun ls hl => ?_)
      obtain ⟨v12, ev12, hf⟩ := lm_nm_e hf
      refine lv_iinc (v := v12) (lv' := [(3, .int v12), (2, .int v11), (0, .ref (B + c)), (1, .int x1)]) hx hb dX1_shipsSeen_28 hl (k := 3) rfl (by rw [ev12]; rfl) (by decide) rfl (fun ls hl => ?_)
      refine lv_goto (tgt := 4) hx hb dX1_shipsSeen_31 (by decide) ?_
      exact ih _ _ _ _ _ _ hR hS (lv_sub hl [2, 3, 1, 0] rfl) hf
set_option maxRecDepth 100000 in
set_option maxHeartbeats 4000000 in
theorem c_X1_shipsSeen {c : Nat} (hc : isL c) {σ τ : Mem} {p1 : Int32} {r : Int32}  (hf : f_X1_shipsSeen c σ p1 = some r) : lm_CI l yX1_shipsSeen wsX1_shipsSeen rmX1_shipsSeen D cI cZ cL cR B [.ref (B + c), .int p1] σ τ r σ τ := by
  unfold f_X1_shipsSeen at hf
  refine lm_of (cc := cX1_shipsSeen) (maxL := 4) (ret := (some .int)) (own := RX1) (by decide) rfl (Nat.le_of_ble_eq_true rfl) (fun p e s m below meth c0 C0 hR ls hl => ?_)
  have hS : va_S (lm_A B) s.heap s.heap [] := va_S.rf
  have hl : lv_has ls 4 [(0, .ref (B + c)), (1, .int p1)] := hl
  obtain ⟨hx, hb, hml, hr, hlk, hown, hts, hK, hX⟩ := id C0
  refine lv_iconst (v := (0 : Int32)) hx hb dX1_shipsSeen_0 (by decide) ?_
  refine lv_istore_n (lv' := [(2, .int (0 : Int32)), (0, .ref (B + c)), (1, .int p1)]) hx hb dX1_shipsSeen_1 rfl hl (by decide) rfl (fun ls hl => ?_)
  refine lv_iconst (v := (0 : Int32)) hx hb dX1_shipsSeen_2 (by decide) ?_
  refine lv_istore_n (lv' := [(3, .int (0 : Int32)), (2, .int (0 : Int32)), (0, .ref (B + c)), (1, .int p1)]) hx hb dX1_shipsSeen_3 rfl hl (by decide) rfl (fun ls hl => ?_)
  exact w_X1_shipsSeen_4 hc C0 _ _ _ _ _ _ _ hR hS (lv_sub hl [2, 3, 1, 0] rfl) hf
end
/-! ===== X1_inward ===== -/
abbrev rmX1_inward : Room := { frames := 1, cells := 0, slots := 0, locals := 60 }
def f_X1_inward (p0 : Int32) (p1 : Int32) : Option (Int32) := some (if (0 : Int32) < (p0 - p1) then (p0 - p1) else (0 : Int32))
abbrev wsX1_inward : List Cond := Cond.code yX1_inward cX1_inward 2 (some .int) :: lw_u
theorem mv_X1_inward : Cond.static yX1_inward ∈ lw_u ∧ Cond.initialized yX1_inward.cls ∈ lw_u ∧ Cond.code yX1_inward cX1_inward 2 (some .int) ∈ lw_u := ⟨uw_247, uw_3, uw_248⟩
theorem hd_X1_inward : yX1_inward.cls ≠ "java/lang/invoke/MethodHandle" ∧ yX1_inward.cls ≠ "java/lang/invoke/VarHandle" ∧ (parseMethodDescriptor yX1_inward.desc).map (fun d => d.parameters.length) = some 2 := by decide +kernel
section
variable {l : Launch} {D : va_G} {cI cZ cL cR : ClassId} {B : Nat}
set_option maxRecDepth 100000 in
set_option maxHeartbeats 4000000 in
theorem c_X1_inward {σ τ : Mem} {p0 : Int32} {p1 : Int32} {r : Int32}  (hf : f_X1_inward p0 p1 = some r) : lm_CI l yX1_inward wsX1_inward rmX1_inward D cI cZ cL cR B [.int p0, .int p1] σ τ r σ τ := by
  unfold f_X1_inward at hf
  refine lm_of (cc := cX1_inward) (maxL := 2) (ret := (some .int)) (own := RX1) (by decide) rfl (Nat.le_of_ble_eq_true rfl) (fun p e s m below meth c0 C0 hR ls hl => ?_)
  have hS : va_S (lm_A B) s.heap s.heap [] := va_S.rf
  have hl : lv_has ls 2 [(0, .int p0), (1, .int p1)] := hl
  obtain ⟨hx, hb, hml, hr, hlk, hown, hts, hK, hX⟩ := id C0
  refine lv_iconst (v := (0 : Int32)) hx hb dX1_inward_0 (by decide) ?_
  refine lv_iload_n hx hb dX1_inward_1 rfl (lv_at hl 0 rfl) ?_
  refine lv_iload_n hx hb dX1_inward_2 rfl (lv_at hl 1 rfl) ?_
  refine lv_isub hx hb dX1_inward_3 ?_
  refine va_mmax hx hb (hml.trans hl.1.symm) hown (hts _ uw_249) (hts _ uw_250) (hts _ uw_8) (hts _ uw_251) (Nat.le_of_ble_eq_true rfl) (Nat.le_of_ble_eq_true rfl) (Nat.zero_le _) (Nat.zero_le _) dX1_inward_4 ?_
  exact lm_riP C0 hR hS hf dX1_inward_7
end
/-! ===== X1_outward ===== -/
abbrev rmX1_outward : Room := { frames := 1, cells := 0, slots := 0, locals := 60 }
def f_X1_outward (c : Nat) (σ : Mem) (p1 : Int32) (p2 : Int32) : Option (Int32) := some (if (p1 + p2) < ((σ c 3) - (1 : Int32)) then (p1 + p2) else ((σ c 3) - (1 : Int32)))
abbrev wsX1_outward : List Cond := Cond.code yX1_outward cX1_outward 3 (some .int) :: lw_u
theorem mv_X1_outward : Cond.instanceMethod yX1_outward ∈ lw_u ∧ Cond.selects yX1_outward.cls yX1_outward yX1_outward ∈ lw_u ∧ Cond.initialized yX1_outward.cls ∈ lw_u ∧ Cond.code yX1_outward cX1_outward 3 (some .int) ∈ lw_u := ⟨uw_253, uw_856, uw_3, uw_254⟩
theorem hd_X1_outward : yX1_outward.cls ≠ "java/lang/invoke/MethodHandle" ∧ yX1_outward.cls ≠ "java/lang/invoke/VarHandle" ∧ (parseMethodDescriptor yX1_outward.desc).map (fun d => d.parameters.length) = some 2 := by decide +kernel
section
variable {l : Launch} {D : va_G} {cI cZ cL cR : ClassId} {B : Nat}
set_option maxRecDepth 100000 in
set_option maxHeartbeats 4000000 in
theorem c_X1_outward {c : Nat} (hc : isL c) {σ τ : Mem} {p1 : Int32} {p2 : Int32} {r : Int32}  (hf : f_X1_outward c σ p1 p2 = some r) : lm_CI l yX1_outward wsX1_outward rmX1_outward D cI cZ cL cR B [.ref (B + c), .int p1, .int p2] σ τ r σ τ := by
  unfold f_X1_outward at hf
  refine lm_of (cc := cX1_outward) (maxL := 3) (ret := (some .int)) (own := RX1) (by decide) rfl (Nat.le_of_ble_eq_true rfl) (fun p e s m below meth c0 C0 hR ls hl => ?_)
  have hS : va_S (lm_A B) s.heap s.heap [] := va_S.rf
  have hl : lv_has ls 3 [(0, .ref (B + c)), (1, .int p1), (2, .int p2)] := hl
  obtain ⟨hx, hb, hml, hr, hlk, hown, hts, hK, hX⟩ := id C0
  refine lv_aload_n hx hb dX1_outward_0 rfl (lv_at hl 0 rfl) ?_
  refine lm_get C0 hR (isL_lt hc) (cell_L hc) rfl lw_in_X1 3 (by decide) uw_47 rfl rfl dX1_outward_1 ?_
  refine lv_iconst (v := (1 : Int32)) hx hb dX1_outward_4 (by decide) ?_
  refine lv_isub hx hb dX1_outward_5 ?_
  refine lv_iload_n hx hb dX1_outward_6 rfl (lv_at hl 1 rfl) ?_
  refine lv_iload_n hx hb dX1_outward_7 rfl (lv_at hl 2 rfl) ?_
  refine lv_iadd hx hb dX1_outward_8 ?_
  refine va_mmin hx hb (hml.trans hl.1.symm) hown (hts _ uw_255) (hts _ uw_236) (hts _ uw_8) (hts _ uw_237) (Nat.le_of_ble_eq_true rfl) (Nat.le_of_ble_eq_true rfl) (Nat.zero_le _) (Nat.zero_le _) dX1_outward_9 ?_
  exact lm_riP C0 hR hS hf dX1_outward_12
end
/-! ===== X1_nextPlaceOf ===== -/
abbrev rmX1_nextPlaceOf : Room := { frames := 2, cells := 0, slots := 0, locals := 82 }
def f_X1_nextPlaceOf_14 (c : Nat) (σ : Mem) (x1 : Int32) (y0 : Int32) : Option (Int32) := lm_ck (lm_in x1 6) (if (σ (c + 2) x1.toNatClampNeg) = (1 : Int32) then (lm_ck (lm_in x1 6) (lm_bd (f_X1_inward (σ (c + 3) x1.toNatClampNeg) (1 : Int32)) fun r6 => some r6)) else (if (σ (c + 2) x1.toNatClampNeg) = (2 : Int32) then (if y0 = 0 then (lm_ck (lm_in x1 6) (some (σ (c + 3) x1.toNatClampNeg))) else (lm_ck (lm_in x1 6) (lm_bd (f_X1_inward (σ (c + 3) x1.toNatClampNeg) (1 : Int32)) fun r13 => some r13))) else (if (σ (c + 2) x1.toNatClampNeg) = (3 : Int32) then (lm_ck (lm_in x1 6) (lm_bd (f_X1_inward (σ (c + 3) x1.toNatClampNeg) (2 : Int32)) fun r18 => some r18)) else (if (σ (c + 2) x1.toNatClampNeg) = (4 : Int32) then (if y0 = 0 then (lm_ck (lm_in x1 6) (lm_bd (f_X1_inward (σ (c + 3) x1.toNatClampNeg) (1 : Int32)) fun r24 => some r24)) else (lm_ck (lm_in x1 6) (lm_bd (f_X1_outward c σ (σ (c + 3) x1.toNatClampNeg) (1 : Int32)) fun r28 => some r28))) else (if (σ (c + 2) x1.toNatClampNeg) = (5 : Int32) then (if y0 = 0 then (lm_ck (lm_in x1 6) (lm_bd (f_X1_inward (σ (c + 3) x1.toNatClampNeg) (2 : Int32)) fun r34 => some r34)) else (lm_ck (lm_in x1 6) (lm_bd (f_X1_outward c σ (σ (c + 3) x1.toNatClampNeg) (2 : Int32)) fun r38 => some r38))) else (lm_ck (lm_in x1 6) (some (σ (c + 3) x1.toNatClampNeg))))))))
def f_X1_nextPlaceOf (c : Nat) (σ : Mem) (p1 : Int32) : Option (Int32) := if ((σ c 6) - (σ c 6) / (2 : Int32) * (2 : Int32)) = 0 then (f_X1_nextPlaceOf_14 c σ p1 (1 : Int32)) else (f_X1_nextPlaceOf_14 c σ p1 (0 : Int32))
abbrev wsX1_nextPlaceOf : List Cond := Cond.code yX1_nextPlaceOf cX1_nextPlaceOf 3 (some .int) :: lw_u
theorem mv_X1_nextPlaceOf : Cond.instanceMethod yX1_nextPlaceOf ∈ lw_u ∧ Cond.selects yX1_nextPlaceOf.cls yX1_nextPlaceOf yX1_nextPlaceOf ∈ lw_u ∧ Cond.initialized yX1_nextPlaceOf.cls ∈ lw_u ∧ Cond.code yX1_nextPlaceOf cX1_nextPlaceOf 3 (some .int) ∈ lw_u := ⟨uw_243, uw_244, uw_3, uw_245⟩
theorem hd_X1_nextPlaceOf : yX1_nextPlaceOf.cls ≠ "java/lang/invoke/MethodHandle" ∧ yX1_nextPlaceOf.cls ≠ "java/lang/invoke/VarHandle" ∧ (parseMethodDescriptor yX1_nextPlaceOf.desc).map (fun d => d.parameters.length) = some 1 := by decide +kernel
section
variable {l : Launch} {D : va_G} {cI cZ cL cR : ClassId} {B : Nat}
set_option maxRecDepth 100000 in
set_option maxHeartbeats 4000000 in
theorem w_X1_nextPlaceOf_14 {c : Nat} (hc : isL c) {p : Program} {e : Env} {s : State} {m : MethodId} {args : Array Value} {below : List Frame} {meth : Method} {c0 : Code} {τ σ : Mem} {r : Int32} (C0 : lm_Cx D cI cZ cL cR B p s m args meth c0 cX1_nextPlaceOf 3 (some .int) RX1) : ∀ (x1 : Int32) (y0 : Int32) (H : Heap) (locs : List Loc) (ls : Array Slot), va_P D vwCl (wl cI cZ cL cR B σ τ) H → va_S (lm_A B) s.heap H locs → lv_has ls 3 [(0, .ref (B + c)), (1, .int x1)] → f_X1_nextPlaceOf_14 c σ x1 y0 = some r → W p l e rmX1_nextPlaceOf s m args below meth c0 H locs 0 0 (MQ below (lm_QI D cI cZ cL cR B r σ τ) args s 0 0 (lm_A B)) (F0 m 14 ls [.int y0]) := by
  obtain ⟨hx, hb, hml, hr, hlk, hown, hts, hK, hX⟩ := id C0
  intro x1 y0 H locs ls hR hS hl hf
  unfold f_X1_nextPlaceOf_14 at hf
  refine lv_istore_n (lv' := [(2, .int y0), (0, .ref (B + c)), (1, .int x1)]) hx hb dX1_nextPlaceOf_14 rfl hl (by decide) rfl (fun ls hl => ?_)
  refine lv_aload_n hx hb dX1_nextPlaceOf_15 rfl (lv_at hl 1 rfl) ?_
  refine lm_get C0 hR (isL_lt hc) (cell_L hc) rfl lw_in_X1 1 (by decide) uw_41 rfl rfl dX1_nextPlaceOf_16 ?_
  refine lv_iload_n hx hb dX1_nextPlaceOf_19 rfl (lv_at hl 2 rfl) ?_
  obtain ⟨z2, hf⟩ := lm_ck_e hf
  refine lm_ild C0 hR (isL_lt2 hc) (cell_L2 hc) z2 dX1_nextPlaceOf_20 ?_
  by_cases b3 : (σ (c + 2) x1.toNatClampNeg) = (1 : Int32)
  · have hf := lm_T b3 hf
    refine lv_tableIn (off := 35) (tgt := 56) hx hb dX1_nextPlaceOf_21 (by rw [b3]; decide) (by rw [b3]; decide) (by rw [b3]; decide) (by decide) ?_
    refine lv_aload_n hx hb dX1_nextPlaceOf_56 rfl (lv_at hl 1 rfl) ?_
    refine lm_get C0 hR (isL_lt hc) (cell_L hc) rfl lw_in_X1 2 (by decide) uw_44 rfl rfl dX1_nextPlaceOf_57 ?_
    refine lv_iload_n hx hb dX1_nextPlaceOf_60 rfl (lv_at hl 2 rfl) ?_
    obtain ⟨z4, hf⟩ := lm_ck_e hf
    refine lm_ild C0 hR (isL_lt3 hc) (cell_L3 hc) z4 dX1_nextPlaceOf_61 ?_
    refine lv_iconst (v := (1 : Int32)) hx hb dX1_nextPlaceOf_62 (by decide) ?_
    obtain ⟨r6, u5, hf⟩ := lm_bd_e hf
    refine lm_endi (lm_runS C0 hR hS (c_X1_inward u5) (lw_cS 2 hts uw_246 mv_X1_inward rfl rfl hd_X1_inward ⟨Nat.le_of_ble_eq_true rfl, Nat.le_of_ble_eq_true rfl⟩) rfl hl rfl (Nat.le_of_ble_eq_true rfl) dX1_nextPlaceOf_63) hS (fun H locs hR hS => ?_)
    exact lm_riP C0 hR hS hf dX1_nextPlaceOf_66
  have hf := lm_F b3 hf
  by_cases b8 : (σ (c + 2) x1.toNatClampNeg) = (2 : Int32)
  · have hf := lm_T b8 hf
    refine lv_tableIn (off := 46) (tgt := 67) hx hb dX1_nextPlaceOf_21 (by rw [b8]; decide) (by rw [b8]; decide) (by rw [b8]; decide) (by decide) ?_
    refine lv_iload_n hx hb dX1_nextPlaceOf_67 rfl (lv_at hl 0 rfl) ?_
    refine lv_if_eq (tgt := 84) hx hb dX1_nextPlaceOf_68 (by decide) (fun b9 => ?_) (fun b9 => ?_)
    · have hf := lm_T b9 hf
      refine lv_aload_n hx hb dX1_nextPlaceOf_84 rfl (lv_at hl 1 rfl) ?_
      refine lm_get C0 hR (isL_lt hc) (cell_L hc) rfl lw_in_X1 2 (by decide) uw_44 rfl rfl dX1_nextPlaceOf_85 ?_
      refine lv_iload_n hx hb dX1_nextPlaceOf_88 rfl (lv_at hl 2 rfl) ?_
      obtain ⟨z10, hf⟩ := lm_ck_e hf
      refine lm_ild C0 hR (isL_lt3 hc) (cell_L3 hc) z10 dX1_nextPlaceOf_89 ?_
      exact lm_riP C0 hR hS hf dX1_nextPlaceOf_90
    · have hf := lm_F b9 hf
      refine lv_aload_n hx hb dX1_nextPlaceOf_71 rfl (lv_at hl 1 rfl) ?_
      refine lm_get C0 hR (isL_lt hc) (cell_L hc) rfl lw_in_X1 2 (by decide) uw_44 rfl rfl dX1_nextPlaceOf_72 ?_
      refine lv_iload_n hx hb dX1_nextPlaceOf_75 rfl (lv_at hl 2 rfl) ?_
      obtain ⟨z11, hf⟩ := lm_ck_e hf
      refine lm_ild C0 hR (isL_lt3 hc) (cell_L3 hc) z11 dX1_nextPlaceOf_76 ?_
      refine lv_iconst (v := (1 : Int32)) hx hb dX1_nextPlaceOf_77 (by decide) ?_
      obtain ⟨r13, u12, hf⟩ := lm_bd_e hf
      refine lm_endi (lm_runS C0 hR hS (c_X1_inward u12) (lw_cS 2 hts uw_246 mv_X1_inward rfl rfl hd_X1_inward ⟨Nat.le_of_ble_eq_true rfl, Nat.le_of_ble_eq_true rfl⟩) rfl hl rfl (Nat.le_of_ble_eq_true rfl) dX1_nextPlaceOf_78) hS (fun H locs hR hS => ?_)
      refine lv_goto (tgt := 90) hx hb dX1_nextPlaceOf_81 (by decide) ?_
      exact lm_riP C0 hR hS hf dX1_nextPlaceOf_90
  have hf := lm_F b8 hf
  by_cases b15 : (σ (c + 2) x1.toNatClampNeg) = (3 : Int32)
  · have hf := lm_T b15 hf
    refine lv_tableIn (off := 70) (tgt := 91) hx hb dX1_nextPlaceOf_21 (by rw [b15]; decide) (by rw [b15]; decide) (by rw [b15]; decide) (by decide) ?_
    refine lv_aload_n hx hb dX1_nextPlaceOf_91 rfl (lv_at hl 1 rfl) ?_
    refine lm_get C0 hR (isL_lt hc) (cell_L hc) rfl lw_in_X1 2 (by decide) uw_44 rfl rfl dX1_nextPlaceOf_92 ?_
    refine lv_iload_n hx hb dX1_nextPlaceOf_95 rfl (lv_at hl 2 rfl) ?_
    obtain ⟨z16, hf⟩ := lm_ck_e hf
    refine lm_ild C0 hR (isL_lt3 hc) (cell_L3 hc) z16 dX1_nextPlaceOf_96 ?_
    refine lv_iconst (v := (2 : Int32)) hx hb dX1_nextPlaceOf_97 (by decide) ?_
    obtain ⟨r18, u17, hf⟩ := lm_bd_e hf
    refine lm_endi (lm_runS C0 hR hS (c_X1_inward u17) (lw_cS 2 hts uw_246 mv_X1_inward rfl rfl hd_X1_inward ⟨Nat.le_of_ble_eq_true rfl, Nat.le_of_ble_eq_true rfl⟩) rfl hl rfl (Nat.le_of_ble_eq_true rfl) dX1_nextPlaceOf_98) hS (fun H locs hR hS => ?_)
    exact lm_riP C0 hR hS hf dX1_nextPlaceOf_101
  have hf := lm_F b15 hf
  by_cases b20 : (σ (c + 2) x1.toNatClampNeg) = (4 : Int32)
  · have hf := lm_T b20 hf
    refine lv_tableIn (off := 81) (tgt := 102) hx hb dX1_nextPlaceOf_21 (by rw [b20]; decide) (by rw [b20]; decide) (by rw [b20]; decide) (by decide) ?_
    refine lv_iload_n hx hb dX1_nextPlaceOf_102 rfl (lv_at hl 0 rfl) ?_
    refine lv_if_eq (tgt := 120) hx hb dX1_nextPlaceOf_103 (by decide) (fun b21 => ?_) (fun b21 => ?_)
    · have hf := lm_T b21 hf
      refine lv_aload_n hx hb dX1_nextPlaceOf_120 rfl (lv_at hl 1 rfl) ?_
      refine lm_get C0 hR (isL_lt hc) (cell_L hc) rfl lw_in_X1 2 (by decide) uw_44 rfl rfl dX1_nextPlaceOf_121 ?_
      refine lv_iload_n hx hb dX1_nextPlaceOf_124 rfl (lv_at hl 2 rfl) ?_
      obtain ⟨z22, hf⟩ := lm_ck_e hf
      refine lm_ild C0 hR (isL_lt3 hc) (cell_L3 hc) z22 dX1_nextPlaceOf_125 ?_
      refine lv_iconst (v := (1 : Int32)) hx hb dX1_nextPlaceOf_126 (by decide) ?_
      obtain ⟨r24, u23, hf⟩ := lm_bd_e hf
      refine lm_endi (lm_runS C0 hR hS (c_X1_inward u23) (lw_cS 2 hts uw_246 mv_X1_inward rfl rfl hd_X1_inward ⟨Nat.le_of_ble_eq_true rfl, Nat.le_of_ble_eq_true rfl⟩) rfl hl rfl (Nat.le_of_ble_eq_true rfl) dX1_nextPlaceOf_127) hS (fun H locs hR hS => ?_)
      exact lm_riP C0 hR hS hf dX1_nextPlaceOf_130
    · have hf := lm_F b21 hf
      refine lv_aload_n hx hb dX1_nextPlaceOf_106 rfl (lv_at hl 1 rfl) ?_
      refine lv_aload_n hx hb dX1_nextPlaceOf_107 rfl (lv_at hl 1 rfl) ?_
      refine lm_get C0 hR (isL_lt hc) (cell_L hc) rfl lw_in_X1 2 (by decide) uw_44 rfl rfl dX1_nextPlaceOf_108 ?_
      refine lv_iload_n hx hb dX1_nextPlaceOf_111 rfl (lv_at hl 2 rfl) ?_
      obtain ⟨z26, hf⟩ := lm_ck_e hf
      refine lm_ild C0 hR (isL_lt3 hc) (cell_L3 hc) z26 dX1_nextPlaceOf_112 ?_
      refine lv_iconst (v := (1 : Int32)) hx hb dX1_nextPlaceOf_113 (by decide) ?_
      obtain ⟨r28, u27, hf⟩ := lm_bd_e hf
      refine lm_endi (lm_runV C0 hR hS (c_X1_outward hc u27) (lw_cV 2 hts uw_252 mv_X1_outward rfl rfl hd_X1_outward ⟨Nat.le_of_ble_eq_true rfl, Nat.le_of_ble_eq_true rfl⟩) (isL_lt hc) (cell_L hc) rfl rfl hl rfl (Nat.le_of_ble_eq_true rfl) dX1_nextPlaceOf_114) hS (fun H locs hR hS => ?_)
      refine lv_goto (tgt := 130) hx hb dX1_nextPlaceOf_117 (by decide) ?_
      exact lm_riP C0 hR hS hf dX1_nextPlaceOf_130
  have hf := lm_F b20 hf
  by_cases b30 : (σ (c + 2) x1.toNatClampNeg) = (5 : Int32)
  · have hf := lm_T b30 hf
    refine lv_tableIn (off := 110) (tgt := 131) hx hb dX1_nextPlaceOf_21 (by rw [b30]; decide) (by rw [b30]; decide) (by rw [b30]; decide) (by decide) ?_
    refine lv_iload_n hx hb dX1_nextPlaceOf_131 rfl (lv_at hl 0 rfl) ?_
    refine lv_if_eq (tgt := 149) hx hb dX1_nextPlaceOf_132 (by decide) (fun b31 => ?_) (fun b31 => ?_)
    · have hf := lm_T b31 hf
      refine lv_aload_n hx hb dX1_nextPlaceOf_149 rfl (lv_at hl 1 rfl) ?_
      refine lm_get C0 hR (isL_lt hc) (cell_L hc) rfl lw_in_X1 2 (by decide) uw_44 rfl rfl dX1_nextPlaceOf_150 ?_
      refine lv_iload_n hx hb dX1_nextPlaceOf_153 rfl (lv_at hl 2 rfl) ?_
      obtain ⟨z32, hf⟩ := lm_ck_e hf
      refine lm_ild C0 hR (isL_lt3 hc) (cell_L3 hc) z32 dX1_nextPlaceOf_154 ?_
      refine lv_iconst (v := (2 : Int32)) hx hb dX1_nextPlaceOf_155 (by decide) ?_
      obtain ⟨r34, u33, hf⟩ := lm_bd_e hf
      refine lm_endi (lm_runS C0 hR hS (c_X1_inward u33) (lw_cS 2 hts uw_246 mv_X1_inward rfl rfl hd_X1_inward ⟨Nat.le_of_ble_eq_true rfl, Nat.le_of_ble_eq_true rfl⟩) rfl hl rfl (Nat.le_of_ble_eq_true rfl) dX1_nextPlaceOf_156) hS (fun H locs hR hS => ?_)
      exact lm_riP C0 hR hS hf dX1_nextPlaceOf_159
    · have hf := lm_F b31 hf
      refine lv_aload_n hx hb dX1_nextPlaceOf_135 rfl (lv_at hl 1 rfl) ?_
      refine lv_aload_n hx hb dX1_nextPlaceOf_136 rfl (lv_at hl 1 rfl) ?_
      refine lm_get C0 hR (isL_lt hc) (cell_L hc) rfl lw_in_X1 2 (by decide) uw_44 rfl rfl dX1_nextPlaceOf_137 ?_
      refine lv_iload_n hx hb dX1_nextPlaceOf_140 rfl (lv_at hl 2 rfl) ?_
      obtain ⟨z36, hf⟩ := lm_ck_e hf
      refine lm_ild C0 hR (isL_lt3 hc) (cell_L3 hc) z36 dX1_nextPlaceOf_141 ?_
      refine lv_iconst (v := (2 : Int32)) hx hb dX1_nextPlaceOf_142 (by decide) ?_
      obtain ⟨r38, u37, hf⟩ := lm_bd_e hf
      refine lm_endi (lm_runV C0 hR hS (c_X1_outward hc u37) (lw_cV 2 hts uw_252 mv_X1_outward rfl rfl hd_X1_outward ⟨Nat.le_of_ble_eq_true rfl, Nat.le_of_ble_eq_true rfl⟩) (isL_lt hc) (cell_L hc) rfl rfl hl rfl (Nat.le_of_ble_eq_true rfl) dX1_nextPlaceOf_143) hS (fun H locs hR hS => ?_)
      refine lv_goto (tgt := 159) hx hb dX1_nextPlaceOf_146 (by decide) ?_
      exact lm_riP C0 hR hS hf dX1_nextPlaceOf_159
  have hf := lm_F b30 hf
  refine lv_tableOut (tgt := 160) hx hb dX1_nextPlaceOf_21 (by have qb3 := lv_neT b3 (a := 1) (by decide); have qb8 := lv_neT b8 (a := 2) (by decide); have qb15 := lv_neT b15 (a := 3) (by decide); have qb20 := lv_neT b20 (a := 4) (by decide); have qb30 := lv_neT b30 (a := 5) (by decide); omega) (by decide) ?_
  refine lv_aload_n hx hb dX1_nextPlaceOf_160 rfl (lv_at hl 1 rfl) ?_
  refine lm_get C0 hR (isL_lt hc) (cell_L hc) rfl lw_in_X1 2 (by decide) uw_44 rfl rfl dX1_nextPlaceOf_161 ?_
  refine lv_iload_n hx hb dX1_nextPlaceOf_164 rfl (lv_at hl 2 rfl) ?_
  obtain ⟨z40, hf⟩ := lm_ck_e hf
  refine lm_ild C0 hR (isL_lt3 hc) (cell_L3 hc) z40 dX1_nextPlaceOf_165 ?_
  exact lm_riP C0 hR hS hf dX1_nextPlaceOf_166
set_option maxRecDepth 100000 in
set_option maxHeartbeats 4000000 in
theorem c_X1_nextPlaceOf {c : Nat} (hc : isL c) {σ τ : Mem} {p1 : Int32} {r : Int32}  (hf : f_X1_nextPlaceOf c σ p1 = some r) : lm_CI l yX1_nextPlaceOf wsX1_nextPlaceOf rmX1_nextPlaceOf D cI cZ cL cR B [.ref (B + c), .int p1] σ τ r σ τ := by
  unfold f_X1_nextPlaceOf at hf
  refine lm_of (cc := cX1_nextPlaceOf) (maxL := 3) (ret := (some .int)) (own := RX1) (by decide) rfl (Nat.le_of_ble_eq_true rfl) (fun p e s m below meth c0 C0 hR ls hl => ?_)
  have hS : va_S (lm_A B) s.heap s.heap [] := va_S.rf
  have hl : lv_has ls 3 [(0, .ref (B + c)), (1, .int p1)] := hl
  obtain ⟨hx, hb, hml, hr, hlk, hown, hts, hK, hX⟩ := id C0
  refine lv_aload_n hx hb dX1_nextPlaceOf_0 rfl (lv_at hl 0 rfl) ?_
  refine lm_get C0 hR (isL_lt hc) (cell_L hc) rfl lw_in_X1 6 (by decide) uw_56 rfl rfl dX1_nextPlaceOf_1 ?_
  refine lv_iconst (v := (2 : Int32)) hx hb dX1_nextPlaceOf_4 (by decide) ?_
  refine lv_irem hx hb dX1_nextPlaceOf_5 (by decide) ?_
  refine lv_if_ne (tgt := 13) hx hb dX1_nextPlaceOf_6 (by decide) (fun b1 => ?_) (fun b1 => ?_)
  · have hf := lm_F b1 hf
    refine lv_iconst (v := (0 : Int32)) hx hb dX1_nextPlaceOf_13 (by decide) ?_
    exact w_X1_nextPlaceOf_14 hc C0 _ _ _ _ _ hR hS (lv_sub hl [0, 1] rfl) hf
  · have hf := lm_T b1 hf
    refine lv_iconst (v := (1 : Int32)) hx hb dX1_nextPlaceOf_9 (by decide) ?_
    refine lv_goto (tgt := 14) hx hb dX1_nextPlaceOf_10 (by decide) ?_
    exact w_X1_nextPlaceOf_14 hc C0 _ _ _ _ _ hR hS (lv_sub hl [0, 1] rfl) hf
end
/-! ===== X1_addOil ===== -/
abbrev rmX1_addOil : Room := { frames := 1, cells := 0, slots := 0, locals := 60 }
def f_X1_addOil (c : Nat) (σ : Mem) (p1 : Int32) : Option (Mem) := lm_nm (up σ c 5 (if ((σ c 5) + p1) < (60 : Int32) then ((σ c 5) + p1) else (60 : Int32))) fun σ1 => some σ1
abbrev wsX1_addOil : List Cond := Cond.code yX1_addOil cX1_addOil 2 none :: lw_u
theorem mv_X1_addOil : Cond.instanceMethod yX1_addOil ∈ lw_u ∧ Cond.selects yX1_addOil.cls yX1_addOil yX1_addOil ∈ lw_u ∧ Cond.initialized yX1_addOil.cls ∈ lw_u ∧ Cond.code yX1_addOil cX1_addOil 2 none ∈ lw_u := ⟨uw_277, uw_278, uw_3, uw_279⟩
theorem hd_X1_addOil : yX1_addOil.cls ≠ "java/lang/invoke/MethodHandle" ∧ yX1_addOil.cls ≠ "java/lang/invoke/VarHandle" ∧ (parseMethodDescriptor yX1_addOil.desc).map (fun d => d.parameters.length) = some 1 := by decide +kernel
section
variable {l : Launch} {D : va_G} {cI cZ cL cR : ClassId} {B : Nat}
set_option maxRecDepth 100000 in
set_option maxHeartbeats 4000000 in
theorem c_X1_addOil {c : Nat} (hc : isL c) {σ τ σ' : Mem} {p1 : Int32}  (hf : f_X1_addOil c σ p1 = some σ') : lm_CV l yX1_addOil wsX1_addOil rmX1_addOil D cI cZ cL cR B [.ref (B + c), .int p1] σ τ σ' τ := by
  unfold f_X1_addOil at hf
  refine lm_of (cc := cX1_addOil) (maxL := 2) (ret := none) (own := RX1) (by decide) rfl (Nat.le_of_ble_eq_true rfl) (fun p e s m below meth c0 C0 hR ls hl => ?_)
  have hS : va_S (lm_A B) s.heap s.heap [] := va_S.rf
  have hl : lv_has ls 2 [(0, .ref (B + c)), (1, .int p1)] := hl
  obtain ⟨hx, hb, hml, hr, hlk, hown, hts, hK, hX⟩ := id C0
  refine lv_aload_n hx hb dX1_addOil_0 rfl (lv_at hl 0 rfl) ?_
  refine lv_bipush (v := (60 : Int32)) hx hb dX1_addOil_1 (by decide) ?_
  refine lv_aload_n hx hb dX1_addOil_3 rfl (lv_at hl 0 rfl) ?_
  refine lm_get C0 hR (isL_lt hc) (cell_L hc) rfl lw_in_X1 5 (by decide) uw_53 rfl rfl dX1_addOil_4 ?_
  refine lv_iload_n hx hb dX1_addOil_7 rfl (lv_at hl 1 rfl) ?_
  refine lv_iadd hx hb dX1_addOil_8 ?_
  refine va_mmin hx hb (hml.trans hl.1.symm) hown (hts _ uw_255) (hts _ uw_236) (hts _ uw_8) (hts _ uw_237) (Nat.le_of_ble_eq_true rfl) (Nat.le_of_ble_eq_true rfl) (Nat.zero_le _) (Nat.zero_le _) dX1_addOil_9 ?_
  obtain ⟨σ1, eσ1, hf⟩ := lm_nm_e hf
  refine lm_putC C0 hR hS (isL_lt hc) (cell_L hc) rfl lw_in_X1 tyX1 tyX1_ok nmX1 5 (by decide) uw_53 rfl rfl rfl rfl rfl (Nat.le_of_ble_eq_true rfl) eσ1 (cell_Lu hc) dX1_addOil_12 (fun H locs hR hS => ?_)
  exact lm_rvC C0 hR hS hf dX1_addOil_15
end
/-! ===== X1_passWatch ===== -/
abbrev rmX1_passWatch : Room := { frames := 3, cells := 0, slots := 0, locals := 104 }
def f_X1_passWatch_44 (c : Nat) (y0 : Int32) (σ : Mem) : Option (Mem) := lm_nm (up σ c 5 (if (0 : Int32) < ((σ c 5) - y0) then ((σ c 5) - y0) else (0 : Int32))) fun σ12 => lm_nm (up σ12 c 6 ((σ12 c 6) + (1 : Int32))) fun σ13 => some σ13
def f_X1_passWatch_2 (c : Nat) : Nat → Int32 → Mem → Option (Mem)
  | 0, _, _ => none
  | n + 1, x1, σ => if (σ c 8) ≤ x1 then (lm_bd (f_X1_thickOf c σ (σ c 6)) fun r3 => if r3 < (5 : Int32) then (f_X1_passWatch_44 c (1 : Int32) σ) else (f_X1_passWatch_44 c (2 : Int32) σ)) else (lm_bd (f_X1_nextPlaceOf c σ x1) fun r7 => lm_ck (lm_in x1 6) (lm_nm (up σ (c + 3) x1.toNatClampNeg r7) fun σ10 => lm_nm (x1 + (1 : Int32)) fun v11 => f_X1_passWatch_2 c n v11 σ10))
def f_X1_passWatch (c : Nat) (σ : Mem) : Option (Mem) := f_X1_passWatch_2 c lm_fu (0 : Int32) σ
abbrev wsX1_passWatch : List Cond := Cond.code yX1_passWatch cX1_passWatch 2 none :: lw_u
theorem mv_X1_passWatch : Cond.instanceMethod yX1_passWatch ∈ lw_u ∧ Cond.selects yX1_passWatch.cls yX1_passWatch yX1_passWatch ∈ lw_u ∧ Cond.initialized yX1_passWatch.cls ∈ lw_u ∧ Cond.code yX1_passWatch cX1_passWatch 2 none ∈ lw_u := ⟨uw_239, uw_240, uw_3, uw_241⟩
theorem hd_X1_passWatch : yX1_passWatch.cls ≠ "java/lang/invoke/MethodHandle" ∧ yX1_passWatch.cls ≠ "java/lang/invoke/VarHandle" ∧ (parseMethodDescriptor yX1_passWatch.desc).map (fun d => d.parameters.length) = some 0 := by decide +kernel
section
variable {l : Launch} {D : va_G} {cI cZ cL cR : ClassId} {B : Nat}
set_option maxRecDepth 100000 in
set_option maxHeartbeats 4000000 in
theorem w_X1_passWatch_44 {c : Nat} (hc : isL c) {p : Program} {e : Env} {s : State} {m : MethodId} {args : Array Value} {below : List Frame} {meth : Method} {c0 : Code} {τ σ' : Mem} (C0 : lm_Cx D cI cZ cL cR B p s m args meth c0 cX1_passWatch 2 none RX1) : ∀ (y0 : Int32) (σ : Mem) (H : Heap) (locs : List Loc) (ls : Array Slot), va_P D vwCl (wl cI cZ cL cR B σ τ) H → va_S (lm_A B) s.heap H locs → lv_has ls 2 [(0, .ref (B + c))] → f_X1_passWatch_44 c y0 σ = some σ' → W p l e rmX1_passWatch s m args below meth c0 H locs 0 0 (MQ below (lm_QV D cI cZ cL cR B σ' τ) args s 0 0 (lm_A B)) (F0 m 44 ls [.int y0]) := by
  obtain ⟨hx, hb, hml, hr, hlk, hown, hts, hK, hX⟩ := id C0
  intro y0 σ H locs ls hR hS hl hf
  unfold f_X1_passWatch_44 at hf
  refine lv_istore_n (lv' := [(1, .int y0), (0, .ref (B + c))]) hx hb dX1_passWatch_44 rfl hl (by decide) rfl (fun ls hl => ?_)
  refine lv_aload_n hx hb dX1_passWatch_45 rfl (lv_at hl 1 rfl) ?_
  refine lv_iconst (v := (0 : Int32)) hx hb dX1_passWatch_46 (by decide) ?_
  refine lv_aload_n hx hb dX1_passWatch_47 rfl (lv_at hl 1 rfl) ?_
  refine lm_get C0 hR (isL_lt hc) (cell_L hc) rfl lw_in_X1 5 (by decide) uw_53 rfl rfl dX1_passWatch_48 ?_
  refine lv_iload_n hx hb dX1_passWatch_51 rfl (lv_at hl 0 rfl) ?_
  refine lv_isub hx hb dX1_passWatch_52 ?_
  refine va_mmax hx hb (hml.trans hl.1.symm) hown (hts _ uw_249) (hts _ uw_250) (hts _ uw_8) (hts _ uw_251) (Nat.le_of_ble_eq_true rfl) (Nat.le_of_ble_eq_true rfl) (Nat.zero_le _) (Nat.zero_le _) dX1_passWatch_53 ?_
  obtain ⟨σ12, eσ12, hf⟩ := lm_nm_e hf
  refine lm_putC C0 hR hS (isL_lt hc) (cell_L hc) rfl lw_in_X1 tyX1 tyX1_ok nmX1 5 (by decide) uw_53 rfl rfl rfl rfl rfl (Nat.le_of_ble_eq_true rfl) eσ12 (cell_Lu hc) dX1_passWatch_56 (fun H locs hR hS => ?_)
  refine lv_aload_n hx hb dX1_passWatch_59 rfl (lv_at hl 1 rfl) ?_
  refine lv_dup hx hb dX1_passWatch_60 rfl ?_
  refine lm_get C0 hR (isL_lt hc) (cell_L hc) rfl lw_in_X1 6 (by decide) uw_56 rfl rfl dX1_passWatch_61 ?_
  refine lv_iconst (v := (1 : Int32)) hx hb dX1_passWatch_64 (by decide) ?_
  refine lv_iadd hx hb dX1_passWatch_65 ?_
  obtain ⟨σ13, eσ13, hf⟩ := lm_nm_e hf
  refine lm_putC C0 hR hS (isL_lt hc) (cell_L hc) rfl lw_in_X1 tyX1 tyX1_ok nmX1 6 (by decide) uw_56 rfl rfl rfl rfl rfl (Nat.le_of_ble_eq_true rfl) eσ13 (cell_Lu hc) dX1_passWatch_66 (fun H locs hR hS => ?_)
  exact lm_rvC C0 hR hS hf dX1_passWatch_69
set_option maxRecDepth 100000 in
set_option maxHeartbeats 4000000 in
theorem w_X1_passWatch_2 {c : Nat} (hc : isL c) {p : Program} {e : Env} {s : State} {m : MethodId} {args : Array Value} {below : List Frame} {meth : Method} {c0 : Code} {τ σ' : Mem} (C0 : lm_Cx D cI cZ cL cR B p s m args meth c0 cX1_passWatch 2 none RX1) : ∀ (n : Nat), ∀ (x1 : Int32) (σ : Mem) (H : Heap) (locs : List Loc) (ls : Array Slot), va_P D vwCl (wl cI cZ cL cR B σ τ) H → va_S (lm_A B) s.heap H locs → lv_has ls 2 [(0, .ref (B + c)), (1, .int x1)] → f_X1_passWatch_2 c n x1 σ = some σ' → W p l e rmX1_passWatch s m args below meth c0 H locs 0 0 (MQ below (lm_QV D cI cZ cL cR B σ' τ) args s 0 0 (lm_A B)) (F0 m 2 ls []) := by
  obtain ⟨hx, hb, hml, hr, hlk, hown, hts, hK, hX⟩ := id C0
  intro n
  induction n with
  | zero =>
    intro x1 σ H locs ls hR hS hl hf
    cases hf
  | succ n ih =>
    intro x1 σ H locs ls hR hS hl hf
    rw [f_X1_passWatch_2] at hf
    refine lv_iload_n hx hb dX1_passWatch_2 rfl (lv_at hl 1 rfl) ?_
    refine lv_aload_n hx hb dX1_passWatch_3 rfl (lv_at hl 0 rfl) ?_
    refine lm_get C0 hR (isL_lt hc) (cell_L hc) rfl lw_in_X1 8 (by decide) uw_61 rfl rfl dX1_passWatch_4 ?_
    refine lv_icmp_ge (tgt := 27) hx hb dX1_passWatch_7 (by decide) (fun b1 => ?_) (fun b1 => ?_)
    · have hf := lm_T b1 hf
      refine lv_aload_n hx hb dX1_passWatch_27 rfl (lv_at hl 0 rfl) ?_
      refine lv_aload_n hx hb dX1_passWatch_28 rfl (lv_at hl 0 rfl) ?_
      refine lm_get C0 hR (isL_lt hc) (cell_L hc) rfl lw_in_X1 6 (by decide) uw_56 rfl rfl dX1_passWatch_29 ?_
      obtain ⟨r3, u2, hf⟩ := lm_bd_e hf
      refine lm_endi (lm_runV C0 hR hS (c_X1_thickOf hc u2) (lw_cV 1 hts uw_256 mv_X1_thickOf rfl rfl hd_X1_thickOf ⟨Nat.le_of_ble_eq_true rfl, Nat.le_of_ble_eq_true rfl⟩) (isL_lt hc) (cell_L hc) rfl rfl hl rfl (Nat.le_of_ble_eq_true rfl) dX1_passWatch_32) hS (fun H locs hR hS => ?_)
      refine lv_iconst (v := (5 : Int32)) hx hb dX1_passWatch_35 (by decide) ?_
      refine lv_icmp_lt (tgt := 43) hx hb dX1_passWatch_36 (by decide) (fun b5 => ?_) (fun b5 => ?_)
      · have hf := lm_T b5 hf
        refine lv_iconst (v := (1 : Int32)) hx hb dX1_passWatch_43 (by decide) ?_
        exact w_X1_passWatch_44 hc C0 _ _ _ _ _ hR hS (lv_sub hl [0] rfl) hf
      · have hf := lm_F b5 hf
        refine lv_iconst (v := (2 : Int32)) hx hb dX1_passWatch_39 (by decide) ?_
        refine lv_goto (tgt := 44) hx hb dX1_passWatch_40 (by decide) ?_
        exact w_X1_passWatch_44 hc C0 _ _ _ _ _ hR hS (lv_sub hl [0] rfl) hf
    · have hf := lm_F b1 hf
      refine lv_aload_n hx hb dX1_passWatch_10 rfl (lv_at hl 0 rfl) ?_
      refine lm_get C0 hR (isL_lt hc) (cell_L hc) rfl lw_in_X1 2 (by decide) uw_44 rfl rfl dX1_passWatch_11 ?_
      refine lv_iload_n hx hb dX1_passWatch_14 rfl (lv_at hl 1 rfl) ?_
      refine lv_aload_n hx hb dX1_passWatch_15 rfl (lv_at hl 0 rfl) ?_
      refine lv_iload_n hx hb dX1_passWatch_16 rfl (lv_at hl 1 rfl) ?_
      obtain ⟨r7, u6, hf⟩ := lm_bd_e hf
      refine lm_endi (lm_runV C0 hR hS (c_X1_nextPlaceOf hc u6) (lw_cV 1 hts uw_242 mv_X1_nextPlaceOf rfl rfl hd_X1_nextPlaceOf ⟨Nat.le_of_ble_eq_true rfl, Nat.le_of_ble_eq_true rfl⟩) (isL_lt hc) (cell_L hc) rfl rfl hl rfl (Nat.le_of_ble_eq_true rfl) dX1_passWatch_17) hS (fun H locs hR hS => ?_)
      obtain ⟨z9, hf⟩ := lm_ck_e hf
      obtain ⟨σ10, eσ10, hf⟩ := lm_nm_e hf
      refine lm_istC C0 hR hS (isL_lt3 hc) (cell_L3 hc) z9  eσ10 (cell_L3u hc) dX1_passWatch_20 (fun H locs hR hS => ?_)
      obtain ⟨v11, ev11, hf⟩ := lm_nm_e hf
      refine lv_iinc (v := v11) (lv' := [(1, .int v11), (0, .ref (B + c))]) hx hb dX1_passWatch_21 hl (k := 1) rfl (by rw [ev11]; rfl) (by decide) rfl (fun ls hl => ?_)
      refine lv_goto (tgt := 2) hx hb dX1_passWatch_24 (by decide) ?_
      exact ih _ _ _ _ _ hR hS (lv_sub hl [1, 0] rfl) hf
set_option maxRecDepth 100000 in
set_option maxHeartbeats 4000000 in
theorem c_X1_passWatch {c : Nat} (hc : isL c) {σ τ σ' : Mem}  (hf : f_X1_passWatch c σ = some σ') : lm_CV l yX1_passWatch wsX1_passWatch rmX1_passWatch D cI cZ cL cR B [.ref (B + c)] σ τ σ' τ := by
  unfold f_X1_passWatch at hf
  refine lm_of (cc := cX1_passWatch) (maxL := 2) (ret := none) (own := RX1) (by decide) rfl (Nat.le_of_ble_eq_true rfl) (fun p e s m below meth c0 C0 hR ls hl => ?_)
  have hS : va_S (lm_A B) s.heap s.heap [] := va_S.rf
  have hl : lv_has ls 2 [(0, .ref (B + c))] := hl
  obtain ⟨hx, hb, hml, hr, hlk, hown, hts, hK, hX⟩ := id C0
  refine lv_iconst (v := (0 : Int32)) hx hb dX1_passWatch_0 (by decide) ?_
  refine lv_istore_n (lv' := [(1, .int (0 : Int32)), (0, .ref (B + c))]) hx hb dX1_passWatch_1 rfl hl (by decide) rfl (fun ls hl => ?_)
  exact w_X1_passWatch_2 hc C0 _ _ _ _ _ _ hR hS (lv_sub hl [1, 0] rfl) hf
end
/-! ===== X1_passWatches ===== -/
abbrev rmX1_passWatches : Room := { frames := 4, cells := 0, slots := 0, locals := 125 }
def f_X1_passWatches_2 (c : Nat) : Nat → Int32 → Int32 → Mem → Option (Mem)
  | 0, _, _, _ => none
  | n + 1, x1, x2, σ => if x1 ≤ x2 then (some σ) else (lm_bd (f_X1_passWatch c σ) fun σ4 => lm_nm (x2 + (1 : Int32)) fun v5 => f_X1_passWatches_2 c n x1 v5 σ4)
def f_X1_passWatches (c : Nat) (σ : Mem) (p1 : Int32) : Option (Mem) := f_X1_passWatches_2 c lm_fu p1 (0 : Int32) σ
abbrev wsX1_passWatches : List Cond := Cond.code yX1_passWatches cX1_passWatches 3 none :: lw_u
theorem mv_X1_passWatches : Cond.instanceMethod yX1_passWatches ∈ lw_u ∧ Cond.selects yX1_passWatches.cls yX1_passWatches yX1_passWatches ∈ lw_u ∧ Cond.initialized yX1_passWatches.cls ∈ lw_u ∧ Cond.code yX1_passWatches cX1_passWatches 3 none ∈ lw_u := ⟨uw_316, uw_317, uw_3, uw_318⟩
theorem hd_X1_passWatches : yX1_passWatches.cls ≠ "java/lang/invoke/MethodHandle" ∧ yX1_passWatches.cls ≠ "java/lang/invoke/VarHandle" ∧ (parseMethodDescriptor yX1_passWatches.desc).map (fun d => d.parameters.length) = some 1 := by decide +kernel
section
variable {l : Launch} {D : va_G} {cI cZ cL cR : ClassId} {B : Nat}
set_option maxRecDepth 100000 in
set_option maxHeartbeats 4000000 in
theorem w_X1_passWatches_2 {c : Nat} (hc : isL c) {p : Program} {e : Env} {s : State} {m : MethodId} {args : Array Value} {below : List Frame} {meth : Method} {c0 : Code} {τ σ' : Mem} (C0 : lm_Cx D cI cZ cL cR B p s m args meth c0 cX1_passWatches 3 none RX1) : ∀ (n : Nat), ∀ (x1 : Int32) (x2 : Int32) (σ : Mem) (H : Heap) (locs : List Loc) (ls : Array Slot), va_P D vwCl (wl cI cZ cL cR B σ τ) H → va_S (lm_A B) s.heap H locs → lv_has ls 3 [(0, .ref (B + c)), (1, .int x1), (2, .int x2)] → f_X1_passWatches_2 c n x1 x2 σ = some σ' → W p l e rmX1_passWatches s m args below meth c0 H locs 0 0 (MQ below (lm_QV D cI cZ cL cR B σ' τ) args s 0 0 (lm_A B)) (F0 m 2 ls []) := by
  obtain ⟨hx, hb, hml, hr, hlk, hown, hts, hK, hX⟩ := id C0
  intro n
  induction n with
  | zero =>
    intro x1 x2 σ H locs ls hR hS hl hf
    cases hf
  | succ n ih =>
    intro x1 x2 σ H locs ls hR hS hl hf
    rw [f_X1_passWatches_2] at hf
    refine lv_iload_n hx hb dX1_passWatches_2 rfl (lv_at hl 2 rfl) ?_
    refine lv_iload_n hx hb dX1_passWatches_3 rfl (lv_at hl 1 rfl) ?_
    refine lv_icmp_ge (tgt := 17) hx hb dX1_passWatches_4 (by decide) (fun b1 => ?_) (fun b1 => ?_)
    · have hf := lm_T b1 hf
      exact lm_rvC C0 hR hS hf dX1_passWatches_17
    · have hf := lm_F b1 hf
      refine lv_aload_n hx hb dX1_passWatches_7 rfl (lv_at hl 0 rfl) ?_
      obtain ⟨σ4, u2, hf⟩ := lm_bd_e hf
      refine lm_endv (lm_runV C0 hR hS (c_X1_passWatch hc u2) (lw_cV 0 hts uw_319 mv_X1_passWatch rfl rfl hd_X1_passWatch ⟨Nat.le_of_ble_eq_true rfl, Nat.le_of_ble_eq_true rfl⟩) (isL_lt hc) (cell_L hc) rfl rfl hl rfl (Nat.le_of_ble_eq_true rfl) dX1_passWatches_8) hS (fun H locs hR hS => ?_)
      obtain ⟨v5, ev5, hf⟩ := lm_nm_e hf
      refine lv_iinc (v := v5) (lv' := [(2, .int v5), (0, .ref (B + c)), (1, .int x1)]) hx hb dX1_passWatches_11 hl (k := 2) rfl (by rw [ev5]; rfl) (by decide) rfl (fun ls hl => ?_)
      refine lv_goto (tgt := 2) hx hb dX1_passWatches_14 (by decide) ?_
      exact ih _ _ _ _ _ _ hR hS (lv_sub hl [1, 2, 0] rfl) hf
set_option maxRecDepth 100000 in
set_option maxHeartbeats 4000000 in
theorem c_X1_passWatches {c : Nat} (hc : isL c) {σ τ σ' : Mem} {p1 : Int32}  (hf : f_X1_passWatches c σ p1 = some σ') : lm_CV l yX1_passWatches wsX1_passWatches rmX1_passWatches D cI cZ cL cR B [.ref (B + c), .int p1] σ τ σ' τ := by
  unfold f_X1_passWatches at hf
  refine lm_of (cc := cX1_passWatches) (maxL := 3) (ret := none) (own := RX1) (by decide) rfl (Nat.le_of_ble_eq_true rfl) (fun p e s m below meth c0 C0 hR ls hl => ?_)
  have hS : va_S (lm_A B) s.heap s.heap [] := va_S.rf
  have hl : lv_has ls 3 [(0, .ref (B + c)), (1, .int p1)] := hl
  obtain ⟨hx, hb, hml, hr, hlk, hown, hts, hK, hX⟩ := id C0
  refine lv_iconst (v := (0 : Int32)) hx hb dX1_passWatches_0 (by decide) ?_
  refine lv_istore_n (lv' := [(2, .int (0 : Int32)), (0, .ref (B + c)), (1, .int p1)]) hx hb dX1_passWatches_1 rfl hl (by decide) rfl (fun ls hl => ?_)
  exact w_X1_passWatches_2 hc C0 _ _ _ _ _ _ _ hR hS (lv_sub hl [1, 2, 0] rfl) hf
end
/-! ===== X1_befall ===== -/
abbrev rmX1_befall : Room := { frames := 2, cells := 0, slots := 0, locals := 81 }
def f_X1_befall_52 (c : Nat) (x1 : Int64) (σ : Mem) : Option (Mem) := lm_ck (lm_nzl ((σ c 8).toInt64)) (lm_nm ((x1 - x1 / ((σ c 8).toInt64) * ((σ c 8).toInt64)).toInt32) fun v9 => lm_ck (lm_in v9 6) (if (σ (c + 3) v9.toNatClampNeg) = 0 then (lm_ck (lm_in v9 6) (lm_nm (up σ (c + 3) v9.toNatClampNeg ((σ c 3) - (1 : Int32))) fun σ17 => if (σ17 c 5) = 0 then (lm_bd (f_X1_addOil c σ17 (9 : Int32)) fun σ21 => some σ21) else (some σ17))) else (if (σ c 5) = 0 then (lm_bd (f_X1_addOil c σ (9 : Int32)) fun σ15 => some σ15) else (some σ))))
def f_X1_befall (c : Nat) (σ : Mem) (p1 : Int64) : Option (Mem) := if (σ c 7) < (1 : Int32) then (some σ) else (if (σ c 8) < (1 : Int32) then (some σ) else (if 0 ≤ (lg_cmp p1 (0 : Int64)) then (if (lg_cmp (p1 - p1 / (3 : Int64) * (3 : Int64)) (0 : Int64)) = 0 then (lm_ck (lm_nzl ((σ c 7).toInt64)) (lm_ck (lm_in ((p1 - p1 / ((σ c 7).toInt64) * ((σ c 7).toInt64)).toInt32) 6) (lm_nm (up σ (c + 1) ((p1 - p1 / ((σ c 7).toInt64) * ((σ c 7).toInt64)).toInt32).toNatClampNeg ((p1 - p1 / (10 : Int64) * (10 : Int64)).toInt32)) fun σ7 => f_X1_befall_52 c p1 σ7))) else (f_X1_befall_52 c p1 σ)) else (some σ)))
abbrev wsX1_befall : List Cond := Cond.code yX1_befall cX1_befall 4 none :: lw_u
theorem mv_X1_befall : Cond.instanceMethod yX1_befall ∈ lw_u ∧ Cond.selects yX1_befall.cls yX1_befall yX1_befall ∈ lw_u ∧ Cond.initialized yX1_befall.cls ∈ lw_u ∧ Cond.code yX1_befall cX1_befall 4 none ∈ lw_u := ⟨uw_442, uw_443, uw_3, uw_444⟩
theorem hd_X1_befall : yX1_befall.cls ≠ "java/lang/invoke/MethodHandle" ∧ yX1_befall.cls ≠ "java/lang/invoke/VarHandle" ∧ (parseMethodDescriptor yX1_befall.desc).map (fun d => d.parameters.length) = some 1 := by decide +kernel
section
variable {l : Launch} {D : va_G} {cI cZ cL cR : ClassId} {B : Nat}
set_option maxRecDepth 100000 in
set_option maxHeartbeats 4000000 in
theorem w_X1_befall_52 {c : Nat} (hc : isL c) {p : Program} {e : Env} {s : State} {m : MethodId} {args : Array Value} {below : List Frame} {meth : Method} {c0 : Code} {τ σ' : Mem} (C0 : lm_Cx D cI cZ cL cR B p s m args meth c0 cX1_befall 4 none RX1) : ∀ (x1 : Int64) (σ : Mem) (H : Heap) (locs : List Loc) (ls : Array Slot), va_P D vwCl (wl cI cZ cL cR B σ τ) H → va_S (lm_A B) s.heap H locs → lv_has ls 4 [(0, .ref (B + c)), (1, .long x1)] → f_X1_befall_52 c x1 σ = some σ' → W p l e rmX1_befall s m args below meth c0 H locs 0 0 (MQ below (lm_QV D cI cZ cL cR B σ' τ) args s 0 0 (lm_A B)) (F0 m 52 ls []) := by
  obtain ⟨hx, hb, hml, hr, hlk, hown, hts, hK, hX⟩ := id C0
  intro x1 σ H locs ls hR hS hl hf
  unfold f_X1_befall_52 at hf
  refine lv_lload_n hx hb dX1_befall_52 rfl (lv_at hl 1 rfl) ?_
  refine lv_aload_n hx hb dX1_befall_53 rfl (lv_at hl 0 rfl) ?_
  refine lm_get C0 hR (isL_lt hc) (cell_L hc) rfl lw_in_X1 8 (by decide) uw_61 rfl rfl dX1_befall_54 ?_
  refine lv_i2l hx hb dX1_befall_57 rfl ?_
  obtain ⟨z8, hf⟩ := lm_ck_e hf
  refine lv_lrem hx hb dX1_befall_58 (lm_nzlT z8) ?_
  refine lv_l2i hx hb dX1_befall_59 rfl ?_
  obtain ⟨v9, ev9, hf⟩ := lm_nm_e hf
  refine lm_topi ev9 ?_
  refine lv_istore_n (lv' := [(3, .int v9), (0, .ref (B + c)), (1, .long x1)]) hx hb dX1_befall_60 rfl hl (by decide) rfl (fun ls hl => ?_)
  refine lv_aload_n hx hb dX1_befall_61 rfl (lv_at hl 1 rfl) ?_
  refine lm_get C0 hR (isL_lt hc) (cell_L hc) rfl lw_in_X1 2 (by decide) uw_44 rfl rfl dX1_befall_62 ?_
  refine lv_iload_n hx hb dX1_befall_65 rfl (lv_at hl 0 rfl) ?_
  obtain ⟨z10, hf⟩ := lm_ck_e hf
  refine lm_ild C0 hR (isL_lt3 hc) (cell_L3 hc) z10 dX1_befall_66 ?_
  refine lv_if_ne (tgt := 82) hx hb dX1_befall_67 (by decide) (fun b11 => ?_) (fun b11 => ?_)
  · have hf := lm_F b11 hf
    refine lv_aload_n hx hb dX1_befall_82 rfl (lv_at hl 1 rfl) ?_
    refine lm_get C0 hR (isL_lt hc) (cell_L hc) rfl lw_in_X1 5 (by decide) uw_53 rfl rfl dX1_befall_83 ?_
    refine lv_if_ne (tgt := 95) hx hb dX1_befall_86 (by decide) (fun b12 => ?_) (fun b12 => ?_)
    · have hf := lm_F b12 hf
      exact lm_rvC C0 hR hS hf dX1_befall_95
    · have hf := lm_T b12 hf
      refine lv_aload_n hx hb dX1_befall_89 rfl (lv_at hl 1 rfl) ?_
      refine lv_bipush (v := (9 : Int32)) hx hb dX1_befall_90 (by decide) ?_
      obtain ⟨σ15, u13, hf⟩ := lm_bd_e hf
      refine lm_endv (lm_runV C0 hR hS (c_X1_addOil hc u13) (lw_cV 1 hts uw_447 mv_X1_addOil rfl rfl hd_X1_addOil ⟨Nat.le_of_ble_eq_true rfl, Nat.le_of_ble_eq_true rfl⟩) (isL_lt hc) (cell_L hc) rfl rfl hl rfl (Nat.le_of_ble_eq_true rfl) dX1_befall_92) hS (fun H locs hR hS => ?_)
      exact lm_rvC C0 hR hS hf dX1_befall_95
  · have hf := lm_T b11 hf
    refine lv_aload_n hx hb dX1_befall_70 rfl (lv_at hl 1 rfl) ?_
    refine lm_get C0 hR (isL_lt hc) (cell_L hc) rfl lw_in_X1 2 (by decide) uw_44 rfl rfl dX1_befall_71 ?_
    refine lv_iload_n hx hb dX1_befall_74 rfl (lv_at hl 0 rfl) ?_
    refine lv_aload_n hx hb dX1_befall_75 rfl (lv_at hl 1 rfl) ?_
    refine lm_get C0 hR (isL_lt hc) (cell_L hc) rfl lw_in_X1 3 (by decide) uw_47 rfl rfl dX1_befall_76 ?_
    refine lv_iconst (v := (1 : Int32)) hx hb dX1_befall_79 (by decide) ?_
    refine lv_isub hx hb dX1_befall_80 ?_
    obtain ⟨z16, hf⟩ := lm_ck_e hf
    obtain ⟨σ17, eσ17, hf⟩ := lm_nm_e hf
    refine lm_istC C0 hR hS (isL_lt3 hc) (cell_L3 hc) z16  eσ17 (cell_L3u hc) dX1_befall_81 (fun H locs hR hS => ?_)
    refine lv_aload_n hx hb dX1_befall_82 rfl (lv_at hl 1 rfl) ?_
    refine lm_get C0 hR (isL_lt hc) (cell_L hc) rfl lw_in_X1 5 (by decide) uw_53 rfl rfl dX1_befall_83 ?_
    refine lv_if_ne (tgt := 95) hx hb dX1_befall_86 (by decide) (fun b18 => ?_) (fun b18 => ?_)
    · have hf := lm_F b18 hf
      exact lm_rvC C0 hR hS hf dX1_befall_95
    · have hf := lm_T b18 hf
      refine lv_aload_n hx hb dX1_befall_89 rfl (lv_at hl 1 rfl) ?_
      refine lv_bipush (v := (9 : Int32)) hx hb dX1_befall_90 (by decide) ?_
      obtain ⟨σ21, u19, hf⟩ := lm_bd_e hf
      refine lm_endv (lm_runV C0 hR hS (c_X1_addOil hc u19) (lw_cV 1 hts uw_447 mv_X1_addOil rfl rfl hd_X1_addOil ⟨Nat.le_of_ble_eq_true rfl, Nat.le_of_ble_eq_true rfl⟩) (isL_lt hc) (cell_L hc) rfl rfl hl rfl (Nat.le_of_ble_eq_true rfl) dX1_befall_92) hS (fun H locs hR hS => ?_)
      exact lm_rvC C0 hR hS hf dX1_befall_95
set_option maxRecDepth 100000 in
set_option maxHeartbeats 4000000 in
theorem c_X1_befall {c : Nat} (hc : isL c) {σ τ σ' : Mem} {p1 : Int64}  (hf : f_X1_befall c σ p1 = some σ') : lm_CV l yX1_befall wsX1_befall rmX1_befall D cI cZ cL cR B [.ref (B + c), .long p1] σ τ σ' τ := by
  unfold f_X1_befall at hf
  refine lm_of (cc := cX1_befall) (maxL := 4) (ret := none) (own := RX1) (by decide) rfl (Nat.le_of_ble_eq_true rfl) (fun p e s m below meth c0 C0 hR ls hl => ?_)
  have hS : va_S (lm_A B) s.heap s.heap [] := va_S.rf
  have hl : lv_has ls 4 [(0, .ref (B + c)), (1, .long p1)] := hl
  obtain ⟨hx, hb, hml, hr, hlk, hown, hts, hK, hX⟩ := id C0
  refine lv_aload_n hx hb dX1_befall_0 rfl (lv_at hl 0 rfl) ?_
  refine lm_get C0 hR (isL_lt hc) (cell_L hc) rfl lw_in_X1 7 (by decide) uw_58 rfl rfl dX1_befall_1 ?_
  refine lv_iconst (v := (1 : Int32)) hx hb dX1_befall_4 (by decide) ?_
  refine lv_icmp_lt (tgt := 22) hx hb dX1_befall_5 (by decide) (fun b1 => ?_) (fun b1 => ?_)
  · have hf := lm_T b1 hf
    exact lm_rvC C0 hR hS hf dX1_befall_22
  · have hf := lm_F b1 hf
    refine lv_aload_n hx hb dX1_befall_8 rfl (lv_at hl 0 rfl) ?_
    refine lm_get C0 hR (isL_lt hc) (cell_L hc) rfl lw_in_X1 8 (by decide) uw_61 rfl rfl dX1_befall_9 ?_
    refine lv_iconst (v := (1 : Int32)) hx hb dX1_befall_12 (by decide) ?_
    refine lv_icmp_lt (tgt := 22) hx hb dX1_befall_13 (by decide) (fun b2 => ?_) (fun b2 => ?_)
    · have hf := lm_T b2 hf
      exact lm_rvC C0 hR hS hf dX1_befall_22
    · have hf := lm_F b2 hf
      refine lv_lload_n hx hb dX1_befall_16 rfl (lv_at hl 1 rfl) ?_
      refine lv_lconst (v := (0 : Int64)) hx hb dX1_befall_17 (by decide) ?_
      refine W.lcmp hx hb dX1_befall_18 ?_
      refine lv_if_ge (tgt := 23) hx hb dX1_befall_19 (by decide) (fun b3 => ?_) (fun b3 => ?_)
      · have hf := lm_T b3 hf
        refine lv_lload_n hx hb dX1_befall_23 rfl (lv_at hl 1 rfl) ?_
        refine lv_ldc2 hx hb hown (hts _ uw_445) dX1_befall_24 ?_
        refine lv_lrem hx hb dX1_befall_27 (by decide) ?_
        refine lv_lconst (v := (0 : Int64)) hx hb dX1_befall_28 (by decide) ?_
        refine W.lcmp hx hb dX1_befall_29 ?_
        refine lv_if_ne (tgt := 52) hx hb dX1_befall_30 (by decide) (fun b4 => ?_) (fun b4 => ?_)
        · have hf := lm_F b4 hf
          exact w_X1_befall_52 hc C0 _ _ _ _ _ hR hS (lv_sub hl [0, 1] rfl) hf
        · have hf := lm_T b4 hf
          refine lv_aload_n hx hb dX1_befall_33 rfl (lv_at hl 0 rfl) ?_
          refine lm_get C0 hR (isL_lt hc) (cell_L hc) rfl lw_in_X1 0 (by decide) uw_38 rfl rfl dX1_befall_34 ?_
          refine lv_lload_n hx hb dX1_befall_37 rfl (lv_at hl 1 rfl) ?_
          refine lv_aload_n hx hb dX1_befall_38 rfl (lv_at hl 0 rfl) ?_
          refine lm_get C0 hR (isL_lt hc) (cell_L hc) rfl lw_in_X1 7 (by decide) uw_58 rfl rfl dX1_befall_39 ?_
          refine lv_i2l hx hb dX1_befall_42 rfl ?_
          obtain ⟨z5, hf⟩ := lm_ck_e hf
          refine lv_lrem hx hb dX1_befall_43 (lm_nzlT z5) ?_
          refine lv_l2i hx hb dX1_befall_44 rfl ?_
          refine lv_lload_n hx hb dX1_befall_45 rfl (lv_at hl 1 rfl) ?_
          refine lv_ldc2 hx hb hown (hts _ uw_446) dX1_befall_46 ?_
          refine lv_lrem hx hb dX1_befall_49 (by decide) ?_
          refine lv_l2i hx hb dX1_befall_50 rfl ?_
          obtain ⟨z6, hf⟩ := lm_ck_e hf
          obtain ⟨σ7, eσ7, hf⟩ := lm_nm_e hf
          refine lm_istC C0 hR hS (isL_lt1 hc) (cell_L1 hc) z6  eσ7 (cell_L1u hc) dX1_befall_51 (fun H locs hR hS => ?_)
          exact w_X1_befall_52 hc C0 _ _ _ _ _ hR hS (lv_sub hl [0, 1] rfl) hf
      · have hf := lm_F b3 hf
        exact lm_rvC C0 hR hS hf dX1_befall_22
end
/-! ===== X2_begin ===== -/
abbrev rmX2_begin : Room := { frames := 0, cells := 0, slots := 0, locals := 0 }
def f_X2_begin_17 (c : Nat) : Nat → Int32 → Mem → Option (Mem)
  | 0, _, _ => none
  | n + 1, x3, σ => if (40 : Int32) ≤ x3 then (some σ) else (lm_ck (lm_in x3 40) (lm_nm (up σ (c + 1) x3.toNatClampNeg (0 : Int32)) fun σ6 => lm_nm (x3 + (1 : Int32)) fun v7 => f_X2_begin_17 c n v7 σ6))
def f_X2_begin (c : Nat) (σ : Mem) (p1 : Int32) (p2 : Int32) : Option (Mem) := lm_nm (up σ c 1 (0 : Int32)) fun σ1 => lm_nm (up σ1 c 2 p1) fun σ2 => lm_nm (up σ2 c 3 p2) fun σ3 => f_X2_begin_17 c lm_fu (0 : Int32) σ3
abbrev wsX2_begin : List Cond := Cond.code yX2_begin cX2_begin 4 none :: lw_u
theorem mv_X2_begin : Cond.instanceMethod yX2_begin ∈ lw_u ∧ Cond.selects yX2_begin.cls yX2_begin yX2_begin ∈ lw_u ∧ Cond.initialized yX2_begin.cls ∈ lw_u ∧ Cond.code yX2_begin cX2_begin 4 none ∈ lw_u := ⟨uw_111, uw_112, uw_5, uw_113⟩
theorem hd_X2_begin : yX2_begin.cls ≠ "java/lang/invoke/MethodHandle" ∧ yX2_begin.cls ≠ "java/lang/invoke/VarHandle" ∧ (parseMethodDescriptor yX2_begin.desc).map (fun d => d.parameters.length) = some 2 := by decide +kernel
section
variable {l : Launch} {D : va_G} {cI cZ cL cR : ClassId} {B : Nat}
set_option maxRecDepth 100000 in
set_option maxHeartbeats 4000000 in
theorem w_X2_begin_17 {c : Nat} (hc : isR c) {p : Program} {e : Env} {s : State} {m : MethodId} {args : Array Value} {below : List Frame} {meth : Method} {c0 : Code} {τ σ' : Mem} (C0 : lm_Cx D cI cZ cL cR B p s m args meth c0 cX2_begin 4 none RX2) : ∀ (n : Nat), ∀ (x3 : Int32) (σ : Mem) (H : Heap) (locs : List Loc) (ls : Array Slot), va_P D vwCl (wl cI cZ cL cR B σ τ) H → va_S (lm_A B) s.heap H locs → lv_has ls 4 [(0, .ref (B + c)), (3, .int x3)] → f_X2_begin_17 c n x3 σ = some σ' → W p l e rmX2_begin s m args below meth c0 H locs 0 0 (MQ below (lm_QV D cI cZ cL cR B σ' τ) args s 0 0 (lm_A B)) (F0 m 17 ls []) := by
  obtain ⟨hx, hb, hml, hr, hlk, hown, hts, hK, hX⟩ := id C0
  intro n
  induction n with
  | zero =>
    intro x3 σ H locs ls hR hS hl hf
    cases hf
  | succ n ih =>
    intro x3 σ H locs ls hR hS hl hf
    rw [f_X2_begin_17] at hf
    refine lv_iload_n hx hb dX2_begin_17 rfl (lv_at hl 1 rfl) ?_
    refine lv_bipush (v := (40 : Int32)) hx hb dX2_begin_18 (by decide) ?_
    refine lv_icmp_ge (tgt := 36) hx hb dX2_begin_20 (by decide) (fun b4 => ?_) (fun b4 => ?_)
    · have hf := lm_T b4 hf
      exact lm_rvC C0 hR hS hf dX2_begin_36
    · have hf := lm_F b4 hf
      refine lv_aload_n hx hb dX2_begin_23 rfl (lv_at hl 0 rfl) ?_
      refine lm_get C0 hR (isR_lt hc) (cell_R hc) rfl lw_in_X2 0 (by decide) uw_79 rfl rfl dX2_begin_24 ?_
      refine lv_iload_n hx hb dX2_begin_27 rfl (lv_at hl 1 rfl) ?_
      refine lv_iconst (v := (0 : Int32)) hx hb dX2_begin_28 (by decide) ?_
      obtain ⟨z5, hf⟩ := lm_ck_e hf
      obtain ⟨σ6, eσ6, hf⟩ := lm_nm_e hf
      refine lm_istC C0 hR hS (isR_lt1 hc) (cell_R1 hc) z5  eσ6 (cell_R1u hc) dX2_begin_29 (fun H locs hR hS => ?_)
      obtain ⟨v7, ev7, hf⟩ := lm_nm_e hf
      refine lv_iinc (v := v7) (lv' := [(3, .int v7), (0, .ref (B + c))]) hx hb dX2_begin_30 hl (k := 1) rfl (by rw [ev7]; rfl) (by decide) rfl (fun ls hl => ?_)
      refine lv_goto (tgt := 17) hx hb dX2_begin_33 (by decide) ?_
      exact ih _ _ _ _ _ hR hS (lv_sub hl [1, 0] rfl) hf
set_option maxRecDepth 100000 in
set_option maxHeartbeats 4000000 in
theorem c_X2_begin {c : Nat} (hc : isR c) {σ τ σ' : Mem} {p1 : Int32} {p2 : Int32}  (hf : f_X2_begin c σ p1 p2 = some σ') : lm_CV l yX2_begin wsX2_begin rmX2_begin D cI cZ cL cR B [.ref (B + c), .int p1, .int p2] σ τ σ' τ := by
  unfold f_X2_begin at hf
  refine lm_of (cc := cX2_begin) (maxL := 4) (ret := none) (own := RX2) (by decide) rfl (Nat.le_of_ble_eq_true rfl) (fun p e s m below meth c0 C0 hR ls hl => ?_)
  have hS : va_S (lm_A B) s.heap s.heap [] := va_S.rf
  have hl : lv_has ls 4 [(0, .ref (B + c)), (1, .int p1), (2, .int p2)] := hl
  obtain ⟨hx, hb, hml, hr, hlk, hown, hts, hK, hX⟩ := id C0
  refine lv_aload_n hx hb dX2_begin_0 rfl (lv_at hl 0 rfl) ?_
  refine lv_iconst (v := (0 : Int32)) hx hb dX2_begin_1 (by decide) ?_
  obtain ⟨σ1, eσ1, hf⟩ := lm_nm_e hf
  refine lm_putC C0 hR hS (isR_lt hc) (cell_R hc) rfl lw_in_X2 tyX2 tyX2_ok nmX2 1 (by decide) uw_81 rfl rfl rfl rfl rfl (Nat.le_of_ble_eq_true rfl) eσ1 (cell_Ru hc) dX2_begin_2 (fun H locs hR hS => ?_)
  refine lv_aload_n hx hb dX2_begin_5 rfl (lv_at hl 0 rfl) ?_
  refine lv_iload_n hx hb dX2_begin_6 rfl (lv_at hl 1 rfl) ?_
  obtain ⟨σ2, eσ2, hf⟩ := lm_nm_e hf
  refine lm_putC C0 hR hS (isR_lt hc) (cell_R hc) rfl lw_in_X2 tyX2 tyX2_ok nmX2 2 (by decide) uw_83 rfl rfl rfl rfl rfl (Nat.le_of_ble_eq_true rfl) eσ2 (cell_Ru hc) dX2_begin_7 (fun H locs hR hS => ?_)
  refine lv_aload_n hx hb dX2_begin_10 rfl (lv_at hl 0 rfl) ?_
  refine lv_iload_n hx hb dX2_begin_11 rfl (lv_at hl 2 rfl) ?_
  obtain ⟨σ3, eσ3, hf⟩ := lm_nm_e hf
  refine lm_putC C0 hR hS (isR_lt hc) (cell_R hc) rfl lw_in_X2 tyX2 tyX2_ok nmX2 3 (by decide) uw_85 rfl rfl rfl rfl rfl (Nat.le_of_ble_eq_true rfl) eσ3 (cell_Ru hc) dX2_begin_12 (fun H locs hR hS => ?_)
  refine lv_iconst (v := (0 : Int32)) hx hb dX2_begin_15 (by decide) ?_
  refine lv_istore_n (lv' := [(3, .int (0 : Int32)), (0, .ref (B + c)), (1, .int p1), (2, .int p2)]) hx hb dX2_begin_16 rfl hl (by decide) rfl (fun ls hl => ?_)
  exact w_X2_begin_17 hc C0 _ _ _ _ _ _ hR hS (lv_sub hl [1, 0] rfl) hf
end
/-! ===== X2_hasSpan ===== -/
abbrev rmX2_hasSpan : Room := { frames := 0, cells := 0, slots := 0, locals := 0 }
def f_X2_hasSpan (c : Nat) (σ : Mem) (p1 : Int32) (p2 : Int32) : Option (Int32) := if p1 < 0 then (some (0 : Int32)) else (if p2 < 0 then (some (0 : Int32)) else (if (σ c 3) < p2 then (some (0 : Int32)) else (if ((σ c 3) - p2) < p1 then (some (0 : Int32)) else (some (1 : Int32)))))
abbrev wsX2_hasSpan : List Cond := Cond.code yX2_hasSpan cX2_hasSpan 3 (some .boolean) :: lw_u
theorem mv_X2_hasSpan : Cond.instanceMethod yX2_hasSpan ∈ lw_u ∧ Cond.selects yX2_hasSpan.cls yX2_hasSpan yX2_hasSpan ∈ lw_u ∧ Cond.initialized yX2_hasSpan.cls ∈ lw_u ∧ Cond.code yX2_hasSpan cX2_hasSpan 3 (some .boolean) ∈ lw_u := ⟨uw_126, uw_127, uw_5, uw_128⟩
theorem hd_X2_hasSpan : yX2_hasSpan.cls ≠ "java/lang/invoke/MethodHandle" ∧ yX2_hasSpan.cls ≠ "java/lang/invoke/VarHandle" ∧ (parseMethodDescriptor yX2_hasSpan.desc).map (fun d => d.parameters.length) = some 2 := by decide +kernel
section
variable {l : Launch} {D : va_G} {cI cZ cL cR : ClassId} {B : Nat}
set_option maxRecDepth 100000 in
set_option maxHeartbeats 4000000 in
theorem c_X2_hasSpan {c : Nat} (hc : isR c) {σ τ : Mem} {p1 : Int32} {p2 : Int32} {r : Int32}  (hf : f_X2_hasSpan c σ p1 p2 = some r) : lm_CI l yX2_hasSpan wsX2_hasSpan rmX2_hasSpan D cI cZ cL cR B [.ref (B + c), .int p1, .int p2] σ τ r σ τ := by
  unfold f_X2_hasSpan at hf
  refine lm_of (cc := cX2_hasSpan) (maxL := 3) (ret := (some .boolean)) (own := RX2) (by decide) rfl (Nat.le_of_ble_eq_true rfl) (fun p e s m below meth c0 C0 hR ls hl => ?_)
  have hS : va_S (lm_A B) s.heap s.heap [] := va_S.rf
  have hl : lv_has ls 3 [(0, .ref (B + c)), (1, .int p1), (2, .int p2)] := hl
  obtain ⟨hx, hb, hml, hr, hlk, hown, hts, hK, hX⟩ := id C0
  refine lv_iload_n hx hb dX2_hasSpan_0 rfl (lv_at hl 1 rfl) ?_
  refine lv_if_lt (tgt := 30) hx hb dX2_hasSpan_1 (by decide) (fun b1 => ?_) (fun b1 => ?_)
  · have hf := lm_T b1 hf
    refine lv_iconst (v := (0 : Int32)) hx hb dX2_hasSpan_30 (by decide) ?_
    exact lm_rzP C0 hR hS hf rfl dX2_hasSpan_31
  · have hf := lm_F b1 hf
    refine lv_iload_n hx hb dX2_hasSpan_4 rfl (lv_at hl 2 rfl) ?_
    refine lv_if_lt (tgt := 30) hx hb dX2_hasSpan_5 (by decide) (fun b2 => ?_) (fun b2 => ?_)
    · have hf := lm_T b2 hf
      refine lv_iconst (v := (0 : Int32)) hx hb dX2_hasSpan_30 (by decide) ?_
      exact lm_rzP C0 hR hS hf rfl dX2_hasSpan_31
    · have hf := lm_F b2 hf
      refine lv_iload_n hx hb dX2_hasSpan_8 rfl (lv_at hl 2 rfl) ?_
      refine lv_aload_n hx hb dX2_hasSpan_9 rfl (lv_at hl 0 rfl) ?_
      refine lm_get C0 hR (isR_lt hc) (cell_R hc) rfl lw_in_X2 3 (by decide) uw_85 rfl rfl dX2_hasSpan_10 ?_
      refine lv_icmp_gt (tgt := 30) hx hb dX2_hasSpan_13 (by decide) (fun b3 => ?_) (fun b3 => ?_)
      · have hf := lm_T b3 hf
        refine lv_iconst (v := (0 : Int32)) hx hb dX2_hasSpan_30 (by decide) ?_
        exact lm_rzP C0 hR hS hf rfl dX2_hasSpan_31
      · have hf := lm_F b3 hf
        refine lv_iload_n hx hb dX2_hasSpan_16 rfl (lv_at hl 1 rfl) ?_
        refine lv_aload_n hx hb dX2_hasSpan_17 rfl (lv_at hl 0 rfl) ?_
        refine lm_get C0 hR (isR_lt hc) (cell_R hc) rfl lw_in_X2 3 (by decide) uw_85 rfl rfl dX2_hasSpan_18 ?_
        refine lv_iload_n hx hb dX2_hasSpan_21 rfl (lv_at hl 2 rfl) ?_
        refine lv_isub hx hb dX2_hasSpan_22 ?_
        refine lv_icmp_gt (tgt := 30) hx hb dX2_hasSpan_23 (by decide) (fun b4 => ?_) (fun b4 => ?_)
        · have hf := lm_T b4 hf
          refine lv_iconst (v := (0 : Int32)) hx hb dX2_hasSpan_30 (by decide) ?_
          exact lm_rzP C0 hR hS hf rfl dX2_hasSpan_31
        · have hf := lm_F b4 hf
          refine lv_iconst (v := (1 : Int32)) hx hb dX2_hasSpan_26 (by decide) ?_
          refine lv_goto (tgt := 31) hx hb dX2_hasSpan_27 (by decide) ?_
          exact lm_rzP C0 hR hS hf rfl dX2_hasSpan_31
end
/-! ===== X2_findingOf ===== -/
abbrev rmX2_findingOf : Room := { frames := 1, cells := 0, slots := 0, locals := 22 }
def f_X2_findingOf (c : Nat) (σ : Mem) (p1 : Int32) (p2 : Int32) : Option (Int32) := if (σ c 1) = 0 then (lm_bd (f_X2_hasSpan c σ p1 p2) fun r3 => if r3 = 0 then (some (2 : Int32)) else (some (0 : Int32))) else (some (1 : Int32))
abbrev wsX2_findingOf : List Cond := Cond.code yX2_findingOf cX2_findingOf 3 (some .int) :: lw_u
theorem mv_X2_findingOf : Cond.instanceMethod yX2_findingOf ∈ lw_u ∧ Cond.selects yX2_findingOf.cls yX2_findingOf yX2_findingOf ∈ lw_u ∧ Cond.initialized yX2_findingOf.cls ∈ lw_u ∧ Cond.code yX2_findingOf cX2_findingOf 3 (some .int) ∈ lw_u := ⟨uw_122, uw_123, uw_5, uw_124⟩
theorem hd_X2_findingOf : yX2_findingOf.cls ≠ "java/lang/invoke/MethodHandle" ∧ yX2_findingOf.cls ≠ "java/lang/invoke/VarHandle" ∧ (parseMethodDescriptor yX2_findingOf.desc).map (fun d => d.parameters.length) = some 2 := by decide +kernel
section
variable {l : Launch} {D : va_G} {cI cZ cL cR : ClassId} {B : Nat}
set_option maxRecDepth 100000 in
set_option maxHeartbeats 4000000 in
theorem c_X2_findingOf {c : Nat} (hc : isR c) {σ τ : Mem} {p1 : Int32} {p2 : Int32} {r : Int32}  (hf : f_X2_findingOf c σ p1 p2 = some r) : lm_CI l yX2_findingOf wsX2_findingOf rmX2_findingOf D cI cZ cL cR B [.ref (B + c), .int p1, .int p2] σ τ r σ τ := by
  unfold f_X2_findingOf at hf
  refine lm_of (cc := cX2_findingOf) (maxL := 3) (ret := (some .int)) (own := RX2) (by decide) rfl (Nat.le_of_ble_eq_true rfl) (fun p e s m below meth c0 C0 hR ls hl => ?_)
  have hS : va_S (lm_A B) s.heap s.heap [] := va_S.rf
  have hl : lv_has ls 3 [(0, .ref (B + c)), (1, .int p1), (2, .int p2)] := hl
  obtain ⟨hx, hb, hml, hr, hlk, hown, hts, hK, hX⟩ := id C0
  refine lv_aload_n hx hb dX2_findingOf_0 rfl (lv_at hl 0 rfl) ?_
  refine lm_get C0 hR (isR_lt hc) (cell_R hc) rfl lw_in_X2 1 (by decide) uw_81 rfl rfl dX2_findingOf_1 ?_
  refine lv_if_eq (tgt := 9) hx hb dX2_findingOf_4 (by decide) (fun b1 => ?_) (fun b1 => ?_)
  · have hf := lm_T b1 hf
    refine lv_aload_n hx hb dX2_findingOf_9 rfl (lv_at hl 0 rfl) ?_
    refine lv_iload_n hx hb dX2_findingOf_10 rfl (lv_at hl 1 rfl) ?_
    refine lv_iload_n hx hb dX2_findingOf_11 rfl (lv_at hl 2 rfl) ?_
    obtain ⟨r3, u2, hf⟩ := lm_bd_e hf
    refine lm_endi (lm_runV C0 hR hS (c_X2_hasSpan hc u2) (lw_cV 2 hts uw_125 mv_X2_hasSpan rfl rfl hd_X2_hasSpan ⟨Nat.le_of_ble_eq_true rfl, Nat.le_of_ble_eq_true rfl⟩) (isR_lt hc) (cell_R hc) rfl rfl hl rfl (Nat.le_of_ble_eq_true rfl) dX2_findingOf_12) hS (fun H locs hR hS => ?_)
    refine lv_if_eq (tgt := 22) hx hb dX2_findingOf_15 (by decide) (fun b5 => ?_) (fun b5 => ?_)
    · have hf := lm_T b5 hf
      refine lv_iconst (v := (2 : Int32)) hx hb dX2_findingOf_22 (by decide) ?_
      exact lm_riP C0 hR hS hf dX2_findingOf_23
    · have hf := lm_F b5 hf
      refine lv_iconst (v := (0 : Int32)) hx hb dX2_findingOf_18 (by decide) ?_
      refine lv_goto (tgt := 23) hx hb dX2_findingOf_19 (by decide) ?_
      exact lm_riP C0 hR hS hf dX2_findingOf_23
  · have hf := lm_F b1 hf
    refine lv_iconst (v := (1 : Int32)) hx hb dX2_findingOf_7 (by decide) ?_
    exact lm_riP C0 hR hS hf dX2_findingOf_8
end
/-! ===== X2_put ===== -/
abbrev rmX2_put : Room := { frames := 0, cells := 0, slots := 0, locals := 0 }
def f_X2_put (c : Nat) (σ : Mem) (p1 : Int32) (p2 : Int32) : Option (Int32 × Mem) := if (σ c 2) = 0 then (lm_nm p2.toInt8.toInt32 fun v8 => lm_ck (lm_in p1 40) (lm_nm (up σ (c + 1) p1.toNatClampNeg v8) fun σ10 => some (v8, σ10))) else (if (σ c 2) = (1 : Int32) then (lm_nm p2.toInt16.toInt32 fun v5 => lm_ck (lm_in p1 40) (lm_nm (up σ (c + 1) p1.toNatClampNeg v5) fun σ7 => some (v5, σ7))) else (lm_ck (lm_in p1 40) (lm_nm (up σ (c + 1) p1.toNatClampNeg p2) fun σ4 => some (p2, σ4))))
abbrev wsX2_put : List Cond := Cond.code yX2_put cX2_put 4 (some .int) :: lw_u
theorem mv_X2_put : Cond.instanceMethod yX2_put ∈ lw_u ∧ Cond.selects yX2_put.cls yX2_put yX2_put ∈ lw_u ∧ Cond.initialized yX2_put.cls ∈ lw_u ∧ Cond.code yX2_put cX2_put 4 (some .int) ∈ lw_u := ⟨uw_130, uw_131, uw_5, uw_132⟩
theorem hd_X2_put : yX2_put.cls ≠ "java/lang/invoke/MethodHandle" ∧ yX2_put.cls ≠ "java/lang/invoke/VarHandle" ∧ (parseMethodDescriptor yX2_put.desc).map (fun d => d.parameters.length) = some 2 := by decide +kernel
section
variable {l : Launch} {D : va_G} {cI cZ cL cR : ClassId} {B : Nat}
set_option maxRecDepth 100000 in
set_option maxHeartbeats 4000000 in
theorem c_X2_put {c : Nat} (hc : isR c) {σ τ σ' : Mem} {p1 : Int32} {p2 : Int32} {r : Int32}  (hf : f_X2_put c σ p1 p2 = some (r, σ')) : lm_CI l yX2_put wsX2_put rmX2_put D cI cZ cL cR B [.ref (B + c), .int p1, .int p2] σ τ r σ' τ := by
  unfold f_X2_put at hf
  refine lm_of (cc := cX2_put) (maxL := 4) (ret := (some .int)) (own := RX2) (by decide) rfl (Nat.le_of_ble_eq_true rfl) (fun p e s m below meth c0 C0 hR ls hl => ?_)
  have hS : va_S (lm_A B) s.heap s.heap [] := va_S.rf
  have hl : lv_has ls 4 [(0, .ref (B + c)), (1, .int p1), (2, .int p2)] := hl
  obtain ⟨hx, hb, hml, hr, hlk, hown, hts, hK, hX⟩ := id C0
  refine lv_aload_n hx hb dX2_put_0 rfl (lv_at hl 0 rfl) ?_
  refine lm_get C0 hR (isR_lt hc) (cell_R hc) rfl lw_in_X2 2 (by decide) uw_83 rfl rfl dX2_put_1 ?_
  refine lv_if_ne (tgt := 12) hx hb dX2_put_4 (by decide) (fun b1 => ?_) (fun b1 => ?_)
  · have hf := lm_F b1 hf
    refine lv_aload_n hx hb dX2_put_12 rfl (lv_at hl 0 rfl) ?_
    refine lm_get C0 hR (isR_lt hc) (cell_R hc) rfl lw_in_X2 2 (by decide) uw_83 rfl rfl dX2_put_13 ?_
    refine lv_iconst (v := (1 : Int32)) hx hb dX2_put_16 (by decide) ?_
    refine lv_icmp_ne (tgt := 25) hx hb dX2_put_17 (by decide) (fun b2 => ?_) (fun b2 => ?_)
    · have hf := lm_F b2 hf
      refine lv_iload_n hx hb dX2_put_25 rfl (lv_at hl 2 rfl) ?_
      refine lv_istore_n (lv' := [(3, .int p2), (0, .ref (B + c)), (1, .int p1), (2, .int p2)]) hx hb dX2_put_26 rfl hl (by decide) rfl (fun ls hl => ?_)
      refine lv_aload_n hx hb dX2_put_27 rfl (lv_at hl 1 rfl) ?_
      refine lm_get C0 hR (isR_lt hc) (cell_R hc) rfl lw_in_X2 0 (by decide) uw_79 rfl rfl dX2_put_28 ?_
      refine lv_iload_n hx hb dX2_put_31 rfl (lv_at hl 2 rfl) ?_
      refine lv_iload_n hx hb dX2_put_32 rfl (lv_at hl 0 rfl) ?_
      obtain ⟨z3, hf⟩ := lm_ck_e hf
      obtain ⟨σ4, eσ4, hf⟩ := lm_nm_e hf
      refine lm_istC C0 hR hS (isR_lt1 hc) (cell_R1 hc) z3  eσ4 (cell_R1u hc) dX2_put_33 (fun H locs hR hS => ?_)
      refine lv_iload_n hx hb dX2_put_34 rfl (lv_at hl 0 rfl) ?_
      exact lm_riC C0 hR hS hf dX2_put_35
    · have hf := lm_T b2 hf
      refine lv_iload_n hx hb dX2_put_20 rfl (lv_at hl 2 rfl) ?_
      refine lv_i2s hx hb dX2_put_21 rfl ?_
      refine lv_goto (tgt := 26) hx hb dX2_put_22 (by decide) ?_
      obtain ⟨v5, ev5, hf⟩ := lm_nm_e hf
      refine lm_topi ev5 ?_
      refine lv_istore_n (lv' := [(3, .int v5), (0, .ref (B + c)), (1, .int p1), (2, .int p2)]) hx hb dX2_put_26 rfl hl (by decide) rfl (fun ls hl => ?_)
      refine lv_aload_n hx hb dX2_put_27 rfl (lv_at hl 1 rfl) ?_
      refine lm_get C0 hR (isR_lt hc) (cell_R hc) rfl lw_in_X2 0 (by decide) uw_79 rfl rfl dX2_put_28 ?_
      refine lv_iload_n hx hb dX2_put_31 rfl (lv_at hl 2 rfl) ?_
      refine lv_iload_n hx hb dX2_put_32 rfl (lv_at hl 0 rfl) ?_
      obtain ⟨z6, hf⟩ := lm_ck_e hf
      obtain ⟨σ7, eσ7, hf⟩ := lm_nm_e hf
      refine lm_istC C0 hR hS (isR_lt1 hc) (cell_R1 hc) z6  eσ7 (cell_R1u hc) dX2_put_33 (fun H locs hR hS => ?_)
      refine lv_iload_n hx hb dX2_put_34 rfl (lv_at hl 0 rfl) ?_
      exact lm_riC C0 hR hS hf dX2_put_35
  · have hf := lm_T b1 hf
    refine lv_iload_n hx hb dX2_put_7 rfl (lv_at hl 2 rfl) ?_
    refine lv_i2b hx hb dX2_put_8 rfl ?_
    refine lv_goto (tgt := 26) hx hb dX2_put_9 (by decide) ?_
    obtain ⟨v8, ev8, hf⟩ := lm_nm_e hf
    refine lm_topi ev8 ?_
    refine lv_istore_n (lv' := [(3, .int v8), (0, .ref (B + c)), (1, .int p1), (2, .int p2)]) hx hb dX2_put_26 rfl hl (by decide) rfl (fun ls hl => ?_)
    refine lv_aload_n hx hb dX2_put_27 rfl (lv_at hl 1 rfl) ?_
    refine lm_get C0 hR (isR_lt hc) (cell_R hc) rfl lw_in_X2 0 (by decide) uw_79 rfl rfl dX2_put_28 ?_
    refine lv_iload_n hx hb dX2_put_31 rfl (lv_at hl 2 rfl) ?_
    refine lv_iload_n hx hb dX2_put_32 rfl (lv_at hl 0 rfl) ?_
    obtain ⟨z9, hf⟩ := lm_ck_e hf
    obtain ⟨σ10, eσ10, hf⟩ := lm_nm_e hf
    refine lm_istC C0 hR hS (isR_lt1 hc) (cell_R1 hc) z9  eσ10 (cell_R1u hc) dX2_put_33 (fun H locs hR hS => ?_)
    refine lv_iload_n hx hb dX2_put_34 rfl (lv_at hl 0 rfl) ?_
    exact lm_riC C0 hR hS hf dX2_put_35
end
/-! ===== X3_append ===== -/
abbrev rmX3_append : Room := { frames := 0, cells := 0, slots := 0, locals := 0 }
def f_X3_append (σ : Mem) (p1 : Int32) : Option (Int32 × Mem) := lm_ck (lm_in (σ 2 1) 120) (lm_nm (up σ 3 (σ 2 1).toNatClampNeg p1) fun σ2 => lm_nm (up σ2 2 1 ((σ2 2 1) + (1 : Int32))) fun σ3 => some ((σ3 2 1), σ3))
abbrev wsX3_append : List Cond := Cond.code yX3_append cX3_append 2 (some .int) :: lw_u
theorem mv_X3_append : Cond.instanceMethod yX3_append ∈ lw_u ∧ Cond.selects yX3_append.cls yX3_append yX3_append ∈ lw_u ∧ Cond.initialized yX3_append.cls ∈ lw_u ∧ Cond.code yX3_append cX3_append 2 (some .int) ∈ lw_u := ⟨uw_151, uw_152, uw_2, uw_153⟩
theorem hd_X3_append : yX3_append.cls ≠ "java/lang/invoke/MethodHandle" ∧ yX3_append.cls ≠ "java/lang/invoke/VarHandle" ∧ (parseMethodDescriptor yX3_append.desc).map (fun d => d.parameters.length) = some 1 := by decide +kernel
section
variable {l : Launch} {D : va_G} {cI cZ cL cR : ClassId} {B : Nat}
set_option maxRecDepth 100000 in
set_option maxHeartbeats 4000000 in
theorem c_X3_append {σ τ σ' : Mem} {p1 : Int32} {r : Int32}  (hf : f_X3_append σ p1 = some (r, σ')) : lm_CI l yX3_append wsX3_append rmX3_append D cI cZ cL cR B [.ref (B + 2), .int p1] σ τ r σ' τ := by
  unfold f_X3_append at hf
  refine lm_of (cc := cX3_append) (maxL := 2) (ret := (some .int)) (own := RX3) (by decide) rfl (Nat.le_of_ble_eq_true rfl) (fun p e s m below meth c0 C0 hR ls hl => ?_)
  have hS : va_S (lm_A B) s.heap s.heap [] := va_S.rf
  have hl : lv_has ls 2 [(0, .ref (B + 2)), (1, .int p1)] := hl
  obtain ⟨hx, hb, hml, hr, hlk, hown, hts, hK, hX⟩ := id C0
  refine lv_aload_n hx hb dX3_append_0 rfl (lv_at hl 0 rfl) ?_
  refine lm_get C0 hR (by decide) cell_2 rfl lw_in_X3 0 (by decide) uw_24 rfl rfl dX3_append_1 ?_
  refine lv_aload_n hx hb dX3_append_4 rfl (lv_at hl 0 rfl) ?_
  refine lm_get C0 hR (by decide) cell_2 rfl lw_in_X3 1 (by decide) uw_25 rfl rfl dX3_append_5 ?_
  refine lv_iload_n hx hb dX3_append_8 rfl (lv_at hl 1 rfl) ?_
  obtain ⟨z1, hf⟩ := lm_ck_e hf
  obtain ⟨σ2, eσ2, hf⟩ := lm_nm_e hf
  refine lm_istC C0 hR hS (by decide) cell_3 z1  eσ2 cell_3u dX3_append_9 (fun H locs hR hS => ?_)
  refine lv_aload_n hx hb dX3_append_10 rfl (lv_at hl 0 rfl) ?_
  refine lv_dup hx hb dX3_append_11 rfl ?_
  refine lm_get C0 hR (by decide) cell_2 rfl lw_in_X3 1 (by decide) uw_25 rfl rfl dX3_append_12 ?_
  refine lv_iconst (v := (1 : Int32)) hx hb dX3_append_15 (by decide) ?_
  refine lv_iadd hx hb dX3_append_16 ?_
  obtain ⟨σ3, eσ3, hf⟩ := lm_nm_e hf
  refine lm_putC C0 hR hS (by decide) cell_2 rfl lw_in_X3 tyX3 tyX3_ok nmX3 1 (by decide) uw_25 rfl rfl rfl rfl rfl (Nat.le_of_ble_eq_true rfl) eσ3 cell_2u dX3_append_17 (fun H locs hR hS => ?_)
  refine lv_aload_n hx hb dX3_append_20 rfl (lv_at hl 0 rfl) ?_
  refine lm_get C0 hR (by decide) cell_2 rfl lw_in_X3 1 (by decide) uw_25 rfl rfl dX3_append_21 ?_
  exact lm_riC C0 hR hS hf dX3_append_24
end
/-! ===== X3_byteHere ===== -/
abbrev rmX3_byteHere : Room := { frames := 0, cells := 0, slots := 0, locals := 0 }
def f_X3_byteHere (σ : Mem) : Option (Int32) := if (σ 2 1) ≤ (σ 2 2) then (some (-1 : Int32)) else (lm_ck (lm_in (σ 2 2) 120) (some (σ 3 (σ 2 2).toNatClampNeg)))
abbrev wsX3_byteHere : List Cond := Cond.code yX3_byteHere cX3_byteHere 1 (some .int) :: lw_u
theorem mv_X3_byteHere : Cond.instanceMethod yX3_byteHere ∈ lw_u ∧ Cond.selects yX3_byteHere.cls yX3_byteHere yX3_byteHere ∈ lw_u ∧ Cond.initialized yX3_byteHere.cls ∈ lw_u ∧ Cond.code yX3_byteHere cX3_byteHere 1 (some .int) ∈ lw_u := ⟨uw_173, uw_850, uw_2, uw_174⟩
theorem hd_X3_byteHere : yX3_byteHere.cls ≠ "java/lang/invoke/MethodHandle" ∧ yX3_byteHere.cls ≠ "java/lang/invoke/VarHandle" ∧ (parseMethodDescriptor yX3_byteHere.desc).map (fun d => d.parameters.length) = some 0 := by decide +kernel
section
variable {l : Launch} {D : va_G} {cI cZ cL cR : ClassId} {B : Nat}
set_option maxRecDepth 100000 in
set_option maxHeartbeats 4000000 in
theorem c_X3_byteHere {σ τ : Mem} {r : Int32}  (hf : f_X3_byteHere σ = some r) : lm_CI l yX3_byteHere wsX3_byteHere rmX3_byteHere D cI cZ cL cR B [.ref (B + 2)] σ τ r σ τ := by
  unfold f_X3_byteHere at hf
  refine lm_of (cc := cX3_byteHere) (maxL := 1) (ret := (some .int)) (own := RX3) (by decide) rfl (Nat.le_of_ble_eq_true rfl) (fun p e s m below meth c0 C0 hR ls hl => ?_)
  have hS : va_S (lm_A B) s.heap s.heap [] := va_S.rf
  have hl : lv_has ls 1 [(0, .ref (B + 2))] := hl
  obtain ⟨hx, hb, hml, hr, hlk, hown, hts, hK, hX⟩ := id C0
  refine lv_aload_n hx hb dX3_byteHere_0 rfl (lv_at hl 0 rfl) ?_
  refine lm_get C0 hR (by decide) cell_2 rfl lw_in_X3 2 (by decide) uw_27 rfl rfl dX3_byteHere_1 ?_
  refine lv_aload_n hx hb dX3_byteHere_4 rfl (lv_at hl 0 rfl) ?_
  refine lm_get C0 hR (by decide) cell_2 rfl lw_in_X3 1 (by decide) uw_25 rfl rfl dX3_byteHere_5 ?_
  refine lv_icmp_ge (tgt := 23) hx hb dX3_byteHere_8 (by decide) (fun b1 => ?_) (fun b1 => ?_)
  · have hf := lm_T b1 hf
    refine lv_iconst (v := (-1 : Int32)) hx hb dX3_byteHere_23 (by decide) ?_
    exact lm_riP C0 hR hS hf dX3_byteHere_24
  · have hf := lm_F b1 hf
    refine lv_aload_n hx hb dX3_byteHere_11 rfl (lv_at hl 0 rfl) ?_
    refine lm_get C0 hR (by decide) cell_2 rfl lw_in_X3 0 (by decide) uw_24 rfl rfl dX3_byteHere_12 ?_
    refine lv_aload_n hx hb dX3_byteHere_15 rfl (lv_at hl 0 rfl) ?_
    refine lm_get C0 hR (by decide) cell_2 rfl lw_in_X3 2 (by decide) uw_27 rfl rfl dX3_byteHere_16 ?_
    obtain ⟨z2, hf⟩ := lm_ck_e hf
    refine lm_ild C0 hR (by decide) cell_3 z2 dX3_byteHere_19 ?_
    refine lv_goto (tgt := 24) hx hb dX3_byteHere_20 (by decide) ?_
    exact lm_riP C0 hR hS hf dX3_byteHere_24
end
/-! ===== X3_failAt ===== -/
abbrev rmX3_failAt : Room := { frames := 0, cells := 0, slots := 0, locals := 0 }
def f_X3_failAt (σ : Mem) (p1 : Int32) (p2 : Int32) : Option (Int32 × Mem) := lm_nm (up σ 2 4 p1) fun σ1 => lm_nm (up σ1 2 3 p2) fun σ2 => some ((0 : Int32), σ2)
abbrev wsX3_failAt : List Cond := Cond.code yX3_failAt cX3_failAt 3 (some .boolean) :: lw_u
theorem mv_X3_failAt : Cond.instanceMethod yX3_failAt ∈ lw_u ∧ Cond.selects yX3_failAt.cls yX3_failAt yX3_failAt ∈ lw_u ∧ Cond.initialized yX3_failAt.cls ∈ lw_u ∧ Cond.code yX3_failAt cX3_failAt 3 (some .boolean) ∈ lw_u := ⟨uw_176, uw_851, uw_2, uw_177⟩
theorem hd_X3_failAt : yX3_failAt.cls ≠ "java/lang/invoke/MethodHandle" ∧ yX3_failAt.cls ≠ "java/lang/invoke/VarHandle" ∧ (parseMethodDescriptor yX3_failAt.desc).map (fun d => d.parameters.length) = some 2 := by decide +kernel
section
variable {l : Launch} {D : va_G} {cI cZ cL cR : ClassId} {B : Nat}
set_option maxRecDepth 100000 in
set_option maxHeartbeats 4000000 in
theorem c_X3_failAt {σ τ σ' : Mem} {p1 : Int32} {p2 : Int32} {r : Int32}  (hf : f_X3_failAt σ p1 p2 = some (r, σ')) : lm_CI l yX3_failAt wsX3_failAt rmX3_failAt D cI cZ cL cR B [.ref (B + 2), .int p1, .int p2] σ τ r σ' τ := by
  unfold f_X3_failAt at hf
  refine lm_of (cc := cX3_failAt) (maxL := 3) (ret := (some .boolean)) (own := RX3) (by decide) rfl (Nat.le_of_ble_eq_true rfl) (fun p e s m below meth c0 C0 hR ls hl => ?_)
  have hS : va_S (lm_A B) s.heap s.heap [] := va_S.rf
  have hl : lv_has ls 3 [(0, .ref (B + 2)), (1, .int p1), (2, .int p2)] := hl
  obtain ⟨hx, hb, hml, hr, hlk, hown, hts, hK, hX⟩ := id C0
  refine lv_aload_n hx hb dX3_failAt_0 rfl (lv_at hl 0 rfl) ?_
  refine lv_iload_n hx hb dX3_failAt_1 rfl (lv_at hl 1 rfl) ?_
  obtain ⟨σ1, eσ1, hf⟩ := lm_nm_e hf
  refine lm_putC C0 hR hS (by decide) cell_2 rfl lw_in_X3 tyX3 tyX3_ok nmX3 4 (by decide) uw_30 rfl rfl rfl rfl rfl (Nat.le_of_ble_eq_true rfl) eσ1 cell_2u dX3_failAt_2 (fun H locs hR hS => ?_)
  refine lv_aload_n hx hb dX3_failAt_5 rfl (lv_at hl 0 rfl) ?_
  refine lv_iload_n hx hb dX3_failAt_6 rfl (lv_at hl 2 rfl) ?_
  obtain ⟨σ2, eσ2, hf⟩ := lm_nm_e hf
  refine lm_putC C0 hR hS (by decide) cell_2 rfl lw_in_X3 tyX3 tyX3_ok nmX3 3 (by decide) uw_28 rfl rfl rfl rfl rfl (Nat.le_of_ble_eq_true rfl) eσ2 cell_2u dX3_failAt_7 (fun H locs hR hS => ?_)
  refine lv_iconst (v := (0 : Int32)) hx hb dX3_failAt_10 (by decide) ?_
  exact lm_rzC C0 hR hS hf rfl dX3_failAt_11
end
/-! ===== X4_isWithin ===== -/
abbrev rmX4_isWithin : Room := { frames := 0, cells := 0, slots := 0, locals := 0 }
def f_X4_isWithin (p0 : Int32) (p1 : Int32) (p2 : Int32) : Option (Int32) := if p0 < p1 then (some (0 : Int32)) else (if p2 < p0 then (some (0 : Int32)) else (some (1 : Int32)))
abbrev wsX4_isWithin : List Cond := Cond.code yX4_isWithin cX4_isWithin 3 (some .boolean) :: lw_u
theorem mv_X4_isWithin : Cond.static yX4_isWithin ∈ lw_u ∧ Cond.initialized yX4_isWithin.cls ∈ lw_u ∧ Cond.code yX4_isWithin cX4_isWithin 3 (some .boolean) ∈ lw_u := ⟨uw_181, uw_1, uw_182⟩
theorem hd_X4_isWithin : yX4_isWithin.cls ≠ "java/lang/invoke/MethodHandle" ∧ yX4_isWithin.cls ≠ "java/lang/invoke/VarHandle" ∧ (parseMethodDescriptor yX4_isWithin.desc).map (fun d => d.parameters.length) = some 3 := by decide +kernel
section
variable {l : Launch} {D : va_G} {cI cZ cL cR : ClassId} {B : Nat}
set_option maxRecDepth 100000 in
set_option maxHeartbeats 4000000 in
theorem c_X4_isWithin {σ τ : Mem} {p0 : Int32} {p1 : Int32} {p2 : Int32} {r : Int32}  (hf : f_X4_isWithin p0 p1 p2 = some r) : lm_CI l yX4_isWithin wsX4_isWithin rmX4_isWithin D cI cZ cL cR B [.int p0, .int p1, .int p2] σ τ r σ τ := by
  unfold f_X4_isWithin at hf
  refine lm_of (cc := cX4_isWithin) (maxL := 3) (ret := (some .boolean)) (own := RX4) (by decide) rfl (Nat.le_of_ble_eq_true rfl) (fun p e s m below meth c0 C0 hR ls hl => ?_)
  have hS : va_S (lm_A B) s.heap s.heap [] := va_S.rf
  have hl : lv_has ls 3 [(0, .int p0), (1, .int p1), (2, .int p2)] := hl
  obtain ⟨hx, hb, hml, hr, hlk, hown, hts, hK, hX⟩ := id C0
  refine lv_iload_n hx hb dX4_isWithin_0 rfl (lv_at hl 0 rfl) ?_
  refine lv_iload_n hx hb dX4_isWithin_1 rfl (lv_at hl 1 rfl) ?_
  refine lv_icmp_lt (tgt := 14) hx hb dX4_isWithin_2 (by decide) (fun b1 => ?_) (fun b1 => ?_)
  · have hf := lm_T b1 hf
    refine lv_iconst (v := (0 : Int32)) hx hb dX4_isWithin_14 (by decide) ?_
    exact lm_rzP C0 hR hS hf rfl dX4_isWithin_15
  · have hf := lm_F b1 hf
    refine lv_iload_n hx hb dX4_isWithin_5 rfl (lv_at hl 0 rfl) ?_
    refine lv_iload_n hx hb dX4_isWithin_6 rfl (lv_at hl 2 rfl) ?_
    refine lv_icmp_gt (tgt := 14) hx hb dX4_isWithin_7 (by decide) (fun b2 => ?_) (fun b2 => ?_)
    · have hf := lm_T b2 hf
      refine lv_iconst (v := (0 : Int32)) hx hb dX4_isWithin_14 (by decide) ?_
      exact lm_rzP C0 hR hS hf rfl dX4_isWithin_15
    · have hf := lm_F b2 hf
      refine lv_iconst (v := (1 : Int32)) hx hb dX4_isWithin_10 (by decide) ?_
      refine lv_goto (tgt := 15) hx hb dX4_isWithin_11 (by decide) ?_
      exact lm_rzP C0 hR hS hf rfl dX4_isWithin_15
end
/-! ===== X3_readNumber ===== -/
abbrev rmX3_readNumber : Room := { frames := 1, cells := 0, slots := 0, locals := 22 }
def f_X3_readNumber_74 (x1 : Int32) (x2 : Int32) (x3 : Int32) (x4 : Int32) (σ : Mem) : Option (Int32 × Mem) := if x4 = (σ 2 2) then (lm_bd2 (f_X3_failAt σ (σ 2 2) (1 : Int32)) fun r13 σ14 => some ((-1 : Int32), σ14)) else (if (x4 - (σ 2 2)) ≤ (2 : Int32) then (lm_bd (f_X4_isWithin x3 x1 x2) fun r17 => if r17 = 0 then (lm_bd2 (f_X3_failAt σ (σ 2 2) (2 : Int32)) fun r22 σ23 => some ((-1 : Int32), σ23)) else (lm_nm (up σ 2 2 x4) fun σ20 => some (x3, σ20))) else (lm_bd2 (f_X3_failAt σ (σ 2 2) (1 : Int32)) fun r25 σ26 => some ((-1 : Int32), σ26)))
def f_X3_readNumber_8 : Nat → Int32 → Int32 → Int32 → Int32 → Mem → Option (Int32 × Mem)
  | 0, _, _, _, _, _ => none
  | n + 1, x1, x2, x3, x4, σ => if (σ 2 1) ≤ x4 then (f_X3_readNumber_74 x1 x2 x3 x4 σ) else (lm_ck (lm_in x4 120) (if (σ 3 x4.toNatClampNeg) < (48 : Int32) then (f_X3_readNumber_74 x1 x2 x3 x4 σ) else (lm_ck (lm_in x4 120) (if (57 : Int32) < (σ 3 x4.toNatClampNeg) then (f_X3_readNumber_74 x1 x2 x3 x4 σ) else (if (3 : Int32) ≤ (x4 - (σ 2 2)) then (f_X3_readNumber_74 x1 x2 x3 x4 σ) else (lm_ck (lm_in x4 120) (lm_nm (((x3 * (10 : Int32)) + (σ 3 x4.toNatClampNeg)) - (48 : Int32)) fun v9 => lm_nm (x4 + (1 : Int32)) fun v10 => f_X3_readNumber_8 n x1 x2 v9 v10 σ)))))))
def f_X3_readNumber (σ : Mem) (p1 : Int32) (p2 : Int32) : Option (Int32 × Mem) := lm_nm (σ 2 2) fun v1 => f_X3_readNumber_8 lm_fu p1 p2 (0 : Int32) v1 σ
abbrev wsX3_readNumber : List Cond := Cond.code yX3_readNumber cX3_readNumber 5 (some .int) :: lw_u
theorem mv_X3_readNumber : Cond.instanceMethod yX3_readNumber ∈ lw_u ∧ Cond.selects yX3_readNumber.cls yX3_readNumber yX3_readNumber ∈ lw_u ∧ Cond.initialized yX3_readNumber.cls ∈ lw_u ∧ Cond.code yX3_readNumber cX3_readNumber 5 (some .int) ∈ lw_u := ⟨uw_179, uw_852, uw_2, uw_180⟩
theorem hd_X3_readNumber : yX3_readNumber.cls ≠ "java/lang/invoke/MethodHandle" ∧ yX3_readNumber.cls ≠ "java/lang/invoke/VarHandle" ∧ (parseMethodDescriptor yX3_readNumber.desc).map (fun d => d.parameters.length) = some 2 := by decide +kernel
section
variable {l : Launch} {D : va_G} {cI cZ cL cR : ClassId} {B : Nat}
set_option maxRecDepth 100000 in
set_option maxHeartbeats 4000000 in
theorem w_X3_readNumber_74 {p : Program} {e : Env} {s : State} {m : MethodId} {args : Array Value} {below : List Frame} {meth : Method} {c0 : Code} {τ σ' : Mem} {r : Int32} (C0 : lm_Cx D cI cZ cL cR B p s m args meth c0 cX3_readNumber 5 (some .int) RX3) : ∀ (x1 : Int32) (x2 : Int32) (x3 : Int32) (x4 : Int32) (σ : Mem) (H : Heap) (locs : List Loc) (ls : Array Slot), va_P D vwCl (wl cI cZ cL cR B σ τ) H → va_S (lm_A B) s.heap H locs → lv_has ls 5 [(0, .ref (B + 2)), (1, .int x1), (2, .int x2), (3, .int x3), (4, .int x4)] → f_X3_readNumber_74 x1 x2 x3 x4 σ = some (r, σ') → W p l e rmX3_readNumber s m args below meth c0 H locs 0 0 (MQ below (lm_QI D cI cZ cL cR B r σ' τ) args s 0 0 (lm_A B)) (F0 m 74 ls []) := by
  obtain ⟨hx, hb, hml, hr, hlk, hown, hts, hK, hX⟩ := id C0
  intro x1 x2 x3 x4 σ H locs ls hR hS hl hf
  unfold f_X3_readNumber_74 at hf
  refine lv_iload hx hb dX3_readNumber_74 (lv_at hl 4 rfl) ?_
  refine lv_aload_n hx hb dX3_readNumber_76 rfl (lv_at hl 0 rfl) ?_
  refine lm_get C0 hR (by decide) cell_2 rfl lw_in_X3 2 (by decide) uw_27 rfl rfl dX3_readNumber_77 ?_
  refine lv_icmp_eq (tgt := 94) hx hb dX3_readNumber_80 (by decide) (fun b11 => ?_) (fun b11 => ?_)
  · have hf := lm_T b11 hf
    refine lv_aload_n hx hb dX3_readNumber_94 rfl (lv_at hl 0 rfl) ?_
    refine lv_aload_n hx hb dX3_readNumber_95 rfl (lv_at hl 0 rfl) ?_
    refine lm_get C0 hR (by decide) cell_2 rfl lw_in_X3 2 (by decide) uw_27 rfl rfl dX3_readNumber_96 ?_
    refine lv_iconst (v := (1 : Int32)) hx hb dX3_readNumber_99 (by decide) ?_
    obtain ⟨r13, σ14, u12, hf⟩ := lm_bd2_e hf
    refine lm_endi (lm_runV C0 hR hS (c_X3_failAt u12) (lw_cV 2 hts uw_175 mv_X3_failAt rfl rfl hd_X3_failAt ⟨Nat.le_of_ble_eq_true rfl, Nat.le_of_ble_eq_true rfl⟩) (by decide) cell_2 rfl rfl hl rfl (Nat.le_of_ble_eq_true rfl) dX3_readNumber_100) hS (fun H locs hR hS => ?_)
    refine lv_pop hx hb dX3_readNumber_103 rfl ?_
    refine lv_iconst (v := (-1 : Int32)) hx hb dX3_readNumber_104 (by decide) ?_
    exact lm_riC C0 hR hS hf dX3_readNumber_105
  · have hf := lm_F b11 hf
    refine lv_iload hx hb dX3_readNumber_83 (lv_at hl 4 rfl) ?_
    refine lv_aload_n hx hb dX3_readNumber_85 rfl (lv_at hl 0 rfl) ?_
    refine lm_get C0 hR (by decide) cell_2 rfl lw_in_X3 2 (by decide) uw_27 rfl rfl dX3_readNumber_86 ?_
    refine lv_isub hx hb dX3_readNumber_89 ?_
    refine lv_iconst (v := (2 : Int32)) hx hb dX3_readNumber_90 (by decide) ?_
    refine lv_icmp_le (tgt := 106) hx hb dX3_readNumber_91 (by decide) (fun b15 => ?_) (fun b15 => ?_)
    · have hf := lm_T b15 hf
      refine lv_iload_n hx hb dX3_readNumber_106 rfl (lv_at hl 3 rfl) ?_
      refine lv_iload_n hx hb dX3_readNumber_107 rfl (lv_at hl 1 rfl) ?_
      refine lv_iload_n hx hb dX3_readNumber_108 rfl (lv_at hl 2 rfl) ?_
      obtain ⟨r17, u16, hf⟩ := lm_bd_e hf
      refine lm_endi (lm_runSN C0 hR hS (c_X4_isWithin u16) (lw_cN 3 hts hX.2.2.2.2.2 mv_X4_isWithin rfl rfl hd_X4_isWithin ⟨Nat.le_of_ble_eq_true rfl, Nat.le_of_ble_eq_true rfl⟩) rfl hl rfl (Nat.le_of_ble_eq_true rfl) dX3_readNumber_109) hS (fun H locs hR hS => ?_)
      refine lv_if_ne (tgt := 127) hx hb dX3_readNumber_112 (by decide) (fun b19 => ?_) (fun b19 => ?_)
      · have hf := lm_F b19 hf
        refine lv_aload_n hx hb dX3_readNumber_127 rfl (lv_at hl 0 rfl) ?_
        refine lv_iload hx hb dX3_readNumber_128 (lv_at hl 4 rfl) ?_
        obtain ⟨σ20, eσ20, hf⟩ := lm_nm_e hf
        refine lm_putC C0 hR hS (by decide) cell_2 rfl lw_in_X3 tyX3 tyX3_ok nmX3 2 (by decide) uw_27 rfl rfl rfl rfl rfl (Nat.le_of_ble_eq_true rfl) eσ20 cell_2u dX3_readNumber_130 (fun H locs hR hS => ?_)
        refine lv_iload_n hx hb dX3_readNumber_133 rfl (lv_at hl 3 rfl) ?_
        exact lm_riC C0 hR hS hf dX3_readNumber_134
      · have hf := lm_T b19 hf
        refine lv_aload_n hx hb dX3_readNumber_115 rfl (lv_at hl 0 rfl) ?_
        refine lv_aload_n hx hb dX3_readNumber_116 rfl (lv_at hl 0 rfl) ?_
        refine lm_get C0 hR (by decide) cell_2 rfl lw_in_X3 2 (by decide) uw_27 rfl rfl dX3_readNumber_117 ?_
        refine lv_iconst (v := (2 : Int32)) hx hb dX3_readNumber_120 (by decide) ?_
        obtain ⟨r22, σ23, u21, hf⟩ := lm_bd2_e hf
        refine lm_endi (lm_runV C0 hR hS (c_X3_failAt u21) (lw_cV 2 hts uw_175 mv_X3_failAt rfl rfl hd_X3_failAt ⟨Nat.le_of_ble_eq_true rfl, Nat.le_of_ble_eq_true rfl⟩) (by decide) cell_2 rfl rfl hl rfl (Nat.le_of_ble_eq_true rfl) dX3_readNumber_121) hS (fun H locs hR hS => ?_)
        refine lv_pop hx hb dX3_readNumber_124 rfl ?_
        refine lv_iconst (v := (-1 : Int32)) hx hb dX3_readNumber_125 (by decide) ?_
        exact lm_riC C0 hR hS hf dX3_readNumber_126
    · have hf := lm_F b15 hf
      refine lv_aload_n hx hb dX3_readNumber_94 rfl (lv_at hl 0 rfl) ?_
      refine lv_aload_n hx hb dX3_readNumber_95 rfl (lv_at hl 0 rfl) ?_
      refine lm_get C0 hR (by decide) cell_2 rfl lw_in_X3 2 (by decide) uw_27 rfl rfl dX3_readNumber_96 ?_
      refine lv_iconst (v := (1 : Int32)) hx hb dX3_readNumber_99 (by decide) ?_
      obtain ⟨r25, σ26, u24, hf⟩ := lm_bd2_e hf
      refine lm_endi (lm_runV C0 hR hS (c_X3_failAt u24) (lw_cV 2 hts uw_175 mv_X3_failAt rfl rfl hd_X3_failAt ⟨Nat.le_of_ble_eq_true rfl, Nat.le_of_ble_eq_true rfl⟩) (by decide) cell_2 rfl rfl hl rfl (Nat.le_of_ble_eq_true rfl) dX3_readNumber_100) hS (fun H locs hR hS => ?_)
      refine lv_pop hx hb dX3_readNumber_103 rfl ?_
      refine lv_iconst (v := (-1 : Int32)) hx hb dX3_readNumber_104 (by decide) ?_
      exact lm_riC C0 hR hS hf dX3_readNumber_105
set_option maxRecDepth 100000 in
set_option maxHeartbeats 4000000 in
theorem w_X3_readNumber_8 {p : Program} {e : Env} {s : State} {m : MethodId} {args : Array Value} {below : List Frame} {meth : Method} {c0 : Code} {τ σ' : Mem} {r : Int32} (C0 : lm_Cx D cI cZ cL cR B p s m args meth c0 cX3_readNumber 5 (some .int) RX3) : ∀ (n : Nat), ∀ (x1 : Int32) (x2 : Int32) (x3 : Int32) (x4 : Int32) (σ : Mem) (H : Heap) (locs : List Loc) (ls : Array Slot), va_P D vwCl (wl cI cZ cL cR B σ τ) H → va_S (lm_A B) s.heap H locs → lv_has ls 5 [(0, .ref (B + 2)), (1, .int x1), (2, .int x2), (3, .int x3), (4, .int x4)] → f_X3_readNumber_8 n x1 x2 x3 x4 σ = some (r, σ') → W p l e rmX3_readNumber s m args below meth c0 H locs 0 0 (MQ below (lm_QI D cI cZ cL cR B r σ' τ) args s 0 0 (lm_A B)) (F0 m 8 ls []) := by
  obtain ⟨hx, hb, hml, hr, hlk, hown, hts, hK, hX⟩ := id C0
  intro n
  induction n with
  | zero =>
    intro x1 x2 x3 x4 σ H locs ls hR hS hl hf
    cases hf
  | succ n ih =>
    intro x1 x2 x3 x4 σ H locs ls hR hS hl hf
    rw [f_X3_readNumber_8] at hf
    refine lv_iload hx hb dX3_readNumber_8 (lv_at hl 4 rfl) ?_
    refine lv_aload_n hx hb dX3_readNumber_10 rfl (lv_at hl 0 rfl) ?_
    refine lm_get C0 hR (by decide) cell_2 rfl lw_in_X3 1 (by decide) uw_25 rfl rfl dX3_readNumber_11 ?_
    refine lv_icmp_ge (tgt := 74) hx hb dX3_readNumber_14 (by decide) (fun b2 => ?_) (fun b2 => ?_)
    · have hf := lm_T b2 hf
      exact w_X3_readNumber_74 C0 _ _ _ _ _ _ _ _ hR hS (lv_sub hl [0, 1, 2, 3, 4] rfl) hf
    · have hf := lm_F b2 hf
      refine lv_aload_n hx hb dX3_readNumber_17 rfl (lv_at hl 0 rfl) ?_
      refine lm_get C0 hR (by decide) cell_2 rfl lw_in_X3 0 (by decide) uw_24 rfl rfl dX3_readNumber_18 ?_
      refine lv_iload hx hb dX3_readNumber_21 (lv_at hl 4 rfl) ?_
      obtain ⟨z3, hf⟩ := lm_ck_e hf
      refine lm_ild C0 hR (by decide) cell_3 z3 dX3_readNumber_23 ?_
      refine lv_bipush (v := (48 : Int32)) hx hb dX3_readNumber_24 (by decide) ?_
      refine lv_icmp_lt (tgt := 74) hx hb dX3_readNumber_26 (by decide) (fun b4 => ?_) (fun b4 => ?_)
      · have hf := lm_T b4 hf
        exact w_X3_readNumber_74 C0 _ _ _ _ _ _ _ _ hR hS (lv_sub hl [0, 1, 2, 3, 4] rfl) hf
      · have hf := lm_F b4 hf
        refine lv_aload_n hx hb dX3_readNumber_29 rfl (lv_at hl 0 rfl) ?_
        refine lm_get C0 hR (by decide) cell_2 rfl lw_in_X3 0 (by decide) uw_24 rfl rfl dX3_readNumber_30 ?_
        refine lv_iload hx hb dX3_readNumber_33 (lv_at hl 4 rfl) ?_
        obtain ⟨z5, hf⟩ := lm_ck_e hf
        refine lm_ild C0 hR (by decide) cell_3 z5 dX3_readNumber_35 ?_
        refine lv_bipush (v := (57 : Int32)) hx hb dX3_readNumber_36 (by decide) ?_
        refine lv_icmp_gt (tgt := 74) hx hb dX3_readNumber_38 (by decide) (fun b6 => ?_) (fun b6 => ?_)
        · have hf := lm_T b6 hf
          exact w_X3_readNumber_74 C0 _ _ _ _ _ _ _ _ hR hS (lv_sub hl [0, 1, 2, 3, 4] rfl) hf
        · have hf := lm_F b6 hf
          refine lv_iload hx hb dX3_readNumber_41 (lv_at hl 4 rfl) ?_
          refine lv_aload_n hx hb dX3_readNumber_43 rfl (lv_at hl 0 rfl) ?_
          refine lm_get C0 hR (by decide) cell_2 rfl lw_in_X3 2 (by decide) uw_27 rfl rfl dX3_readNumber_44 ?_
          refine lv_isub hx hb dX3_readNumber_47 ?_
          refine lv_iconst (v := (3 : Int32)) hx hb dX3_readNumber_48 (by decide) ?_
          refine lv_icmp_ge (tgt := 74) hx hb dX3_readNumber_49 (by decide) (fun b7 => ?_) (fun b7 => ?_)
          · have hf := lm_T b7 hf
            exact w_X3_readNumber_74 C0 _ _ _ _ _ _ _ _ hR hS (lv_sub hl [0, 1, 2, 3, 4] rfl) hf
          · have hf := lm_F b7 hf
            refine lv_iload_n hx hb dX3_readNumber_52 rfl (lv_at hl 3 rfl) ?_
            refine lv_bipush (v := (10 : Int32)) hx hb dX3_readNumber_53 (by decide) ?_
            refine lv_imul hx hb dX3_readNumber_55 ?_
            refine lv_aload_n hx hb dX3_readNumber_56 rfl (lv_at hl 0 rfl) ?_
            refine lm_get C0 hR (by decide) cell_2 rfl lw_in_X3 0 (by decide) uw_24 rfl rfl dX3_readNumber_57 ?_
            refine lv_iload hx hb dX3_readNumber_60 (lv_at hl 4 rfl) ?_
            obtain ⟨z8, hf⟩ := lm_ck_e hf
            refine lm_ild C0 hR (by decide) cell_3 z8 dX3_readNumber_62 ?_
            refine lv_iadd hx hb dX3_readNumber_63 ?_
            refine lv_bipush (v := (48 : Int32)) hx hb dX3_readNumber_64 (by decide) ?_
            refine lv_isub hx hb dX3_readNumber_66 ?_
            obtain ⟨v9, ev9, hf⟩ := lm_nm_e hf
            refine lm_topi ev9 ?_
            refine lv_istore_n (lv' := [(3, .int v9), (0, .ref (B + 2)), (1, .int x1), (2, .int x2), (4, .int x4)]) hx hb dX3_readNumber_67 rfl hl (by decide) rfl (fun ls hl => ?_)
            obtain ⟨v10, ev10, hf⟩ := lm_nm_e hf
            refine lv_iinc (v := v10) (lv' := [(4, .int v10), (3, .int v9), (0, .ref (B + 2)), (1, .int x1), (2, .int x2)]) hx hb dX3_readNumber_68 hl (k := 4) rfl (by rw [ev10]; rfl) (by decide) rfl (fun ls hl => ?_)
            refine lv_goto (tgt := 8) hx hb dX3_readNumber_71 (by decide) ?_
            exact ih _ _ _ _ _ _ _ _ hR hS (lv_sub hl [2, 3, 4, 1, 0] rfl) hf
set_option maxRecDepth 100000 in
set_option maxHeartbeats 4000000 in
theorem c_X3_readNumber {σ τ σ' : Mem} {p1 : Int32} {p2 : Int32} {r : Int32}  (hf : f_X3_readNumber σ p1 p2 = some (r, σ')) : lm_CI l yX3_readNumber wsX3_readNumber rmX3_readNumber D cI cZ cL cR B [.ref (B + 2), .int p1, .int p2] σ τ r σ' τ := by
  unfold f_X3_readNumber at hf
  refine lm_of (cc := cX3_readNumber) (maxL := 5) (ret := (some .int)) (own := RX3) (by decide) rfl (Nat.le_of_ble_eq_true rfl) (fun p e s m below meth c0 C0 hR ls hl => ?_)
  have hS : va_S (lm_A B) s.heap s.heap [] := va_S.rf
  have hl : lv_has ls 5 [(0, .ref (B + 2)), (1, .int p1), (2, .int p2)] := hl
  obtain ⟨hx, hb, hml, hr, hlk, hown, hts, hK, hX⟩ := id C0
  refine lv_iconst (v := (0 : Int32)) hx hb dX3_readNumber_0 (by decide) ?_
  refine lv_istore_n (lv' := [(3, .int (0 : Int32)), (0, .ref (B + 2)), (1, .int p1), (2, .int p2)]) hx hb dX3_readNumber_1 rfl hl (by decide) rfl (fun ls hl => ?_)
  refine lv_aload_n hx hb dX3_readNumber_2 rfl (lv_at hl 1 rfl) ?_
  refine lm_get C0 hR (by decide) cell_2 rfl lw_in_X3 2 (by decide) uw_27 rfl rfl dX3_readNumber_3 ?_
  obtain ⟨v1, ev1, hf⟩ := lm_nm_e hf
  refine lm_topi ev1 ?_
  refine lv_istore (lv' := [(4, .int v1), (3, .int (0 : Int32)), (0, .ref (B + 2)), (1, .int p1), (2, .int p2)]) hx hb dX3_readNumber_6 hl (by decide) rfl (fun ls hl => ?_)
  exact w_X3_readNumber_8 C0 _ _ _ _ _ _ _ _ _ hR hS (lv_sub hl [2, 3, 4, 1, 0] rfl) hf
end
/-! ===== X3_readSign ===== -/
abbrev rmX3_readSign : Room := { frames := 1, cells := 0, slots := 0, locals := 22 }
def f_X3_readSign (σ : Mem) (p1 : Int32) : Option (Int32 × Mem) := lm_bd (f_X3_byteHere σ) fun r2 => if r2 = p1 then (lm_nm (up σ 2 2 ((σ 2 2) + (1 : Int32))) fun σ5 => some ((1 : Int32), σ5)) else (lm_bd2 (f_X3_failAt σ (σ 2 2) (1 : Int32)) fun r7 σ8 => lm_ck (lm_bo r7) (some (r7, σ8)))
abbrev wsX3_readSign : List Cond := Cond.code yX3_readSign cX3_readSign 2 (some .boolean) :: lw_u
theorem mv_X3_readSign : Cond.instanceMethod yX3_readSign ∈ lw_u ∧ Cond.selects yX3_readSign.cls yX3_readSign yX3_readSign ∈ lw_u ∧ Cond.initialized yX3_readSign.cls ∈ lw_u ∧ Cond.code yX3_readSign cX3_readSign 2 (some .boolean) ∈ lw_u := ⟨uw_170, uw_849, uw_2, uw_171⟩
theorem hd_X3_readSign : yX3_readSign.cls ≠ "java/lang/invoke/MethodHandle" ∧ yX3_readSign.cls ≠ "java/lang/invoke/VarHandle" ∧ (parseMethodDescriptor yX3_readSign.desc).map (fun d => d.parameters.length) = some 1 := by decide +kernel
section
variable {l : Launch} {D : va_G} {cI cZ cL cR : ClassId} {B : Nat}
set_option maxRecDepth 100000 in
set_option maxHeartbeats 4000000 in
theorem c_X3_readSign {σ τ σ' : Mem} {p1 : Int32} {r : Int32}  (hf : f_X3_readSign σ p1 = some (r, σ')) : lm_CI l yX3_readSign wsX3_readSign rmX3_readSign D cI cZ cL cR B [.ref (B + 2), .int p1] σ τ r σ' τ := by
  unfold f_X3_readSign at hf
  refine lm_of (cc := cX3_readSign) (maxL := 2) (ret := (some .boolean)) (own := RX3) (by decide) rfl (Nat.le_of_ble_eq_true rfl) (fun p e s m below meth c0 C0 hR ls hl => ?_)
  have hS : va_S (lm_A B) s.heap s.heap [] := va_S.rf
  have hl : lv_has ls 2 [(0, .ref (B + 2)), (1, .int p1)] := hl
  obtain ⟨hx, hb, hml, hr, hlk, hown, hts, hK, hX⟩ := id C0
  refine lv_aload_n hx hb dX3_readSign_0 rfl (lv_at hl 0 rfl) ?_
  obtain ⟨r2, u1, hf⟩ := lm_bd_e hf
  refine lm_endi (lm_runV C0 hR hS (c_X3_byteHere u1) (lw_cV 0 hts uw_172 mv_X3_byteHere rfl rfl hd_X3_byteHere ⟨Nat.le_of_ble_eq_true rfl, Nat.le_of_ble_eq_true rfl⟩) (by decide) cell_2 rfl rfl hl rfl (Nat.le_of_ble_eq_true rfl) dX3_readSign_1) hS (fun H locs hR hS => ?_)
  refine lv_iload_n hx hb dX3_readSign_4 rfl (lv_at hl 1 rfl) ?_
  refine lv_icmp_eq (tgt := 18) hx hb dX3_readSign_5 (by decide) (fun b4 => ?_) (fun b4 => ?_)
  · have hf := lm_T b4 hf
    refine lv_aload_n hx hb dX3_readSign_18 rfl (lv_at hl 0 rfl) ?_
    refine lv_dup hx hb dX3_readSign_19 rfl ?_
    refine lm_get C0 hR (by decide) cell_2 rfl lw_in_X3 2 (by decide) uw_27 rfl rfl dX3_readSign_20 ?_
    refine lv_iconst (v := (1 : Int32)) hx hb dX3_readSign_23 (by decide) ?_
    refine lv_iadd hx hb dX3_readSign_24 ?_
    obtain ⟨σ5, eσ5, hf⟩ := lm_nm_e hf
    refine lm_putC C0 hR hS (by decide) cell_2 rfl lw_in_X3 tyX3 tyX3_ok nmX3 2 (by decide) uw_27 rfl rfl rfl rfl rfl (Nat.le_of_ble_eq_true rfl) eσ5 cell_2u dX3_readSign_25 (fun H locs hR hS => ?_)
    refine lv_iconst (v := (1 : Int32)) hx hb dX3_readSign_28 (by decide) ?_
    exact lm_rzC C0 hR hS hf rfl dX3_readSign_29
  · have hf := lm_F b4 hf
    refine lv_aload_n hx hb dX3_readSign_8 rfl (lv_at hl 0 rfl) ?_
    refine lv_aload_n hx hb dX3_readSign_9 rfl (lv_at hl 0 rfl) ?_
    refine lm_get C0 hR (by decide) cell_2 rfl lw_in_X3 2 (by decide) uw_27 rfl rfl dX3_readSign_10 ?_
    refine lv_iconst (v := (1 : Int32)) hx hb dX3_readSign_13 (by decide) ?_
    obtain ⟨r7, σ8, u6, hf⟩ := lm_bd2_e hf
    refine lm_endi (lm_runV C0 hR hS (c_X3_failAt u6) (lw_cV 2 hts uw_175 mv_X3_failAt rfl rfl hd_X3_failAt ⟨Nat.le_of_ble_eq_true rfl, Nat.le_of_ble_eq_true rfl⟩) (by decide) cell_2 rfl rfl hl rfl (Nat.le_of_ble_eq_true rfl) dX3_readSign_14) hS (fun H locs hR hS => ?_)
    obtain ⟨z9, hf⟩ := lm_ck_e hf
    exact lm_rzC C0 hR hS hf (lm_boT z9) dX3_readSign_17
end
/-! ===== X3_readFogs ===== -/
abbrev rmX3_readFogs : Room := { frames := 2, cells := 0, slots := 0, locals := 46 }
def f_X3_readFogs_23 (o1 : Nat) (k2 : Int32 → Mem → Option (Int32 × Mem)) (x2 : Int32) (σ : Mem) : Option (Int32 × Mem) := if x2 = (6 : Int32) then (lm_bd2 (f_X3_failAt σ (σ 2 2) (3 : Int32)) fun r26 σ27 => lm_ck (lm_bo r26) (some (r26, σ27))) else (lm_bd2 (f_X3_readSign σ (102 : Int32)) fun r9 σ10 => if r9 = 0 then (some ((0 : Int32), σ10)) else (lm_bd2 (f_X3_readNumber σ10 (0 : Int32) (9 : Int32)) fun r13 σ14 => lm_ck (lm_in x2 6) (lm_nm (up σ14 (o1 + 1) x2.toNatClampNeg r13) fun σ16 => lm_ck (lm_in x2 6) (if (σ16 (o1 + 1) x2.toNatClampNeg) < 0 then (some ((0 : Int32), σ16)) else (lm_bd2 (f_X3_readSign σ16 (59 : Int32)) fun r20 σ21 => if r20 = 0 then (some ((0 : Int32), σ21)) else (lm_nm (up σ21 o1 7 (x2 + (1 : Int32))) fun σ23 => lm_nm (x2 + (1 : Int32)) fun v24 => k2 v24 σ23))))))
def f_X3_readFogs_2 (o1 : Nat) : Nat → Int32 → Mem → Option (Int32 × Mem)
  | 0, _, _ => none
  | n + 1, x2, σ => if (6 : Int32) < x2 then (some ((1 : Int32), σ)) else (if x2 ≤ 0 then (f_X3_readFogs_23 o1 (f_X3_readFogs_2 o1 n) x2 σ) else (lm_bd (f_X3_byteHere σ) fun r4 => if r4 = (102 : Int32) then (f_X3_readFogs_23 o1 (f_X3_readFogs_2 o1 n) x2 σ) else (some ((1 : Int32), σ))))
def f_X3_readFogs (o1 : Nat) (σ : Mem) : Option (Int32 × Mem) := f_X3_readFogs_2 o1 lm_fu (0 : Int32) σ
abbrev wsX3_readFogs : List Cond := Cond.code yX3_readFogs cX3_readFogs 3 (some .boolean) :: lw_u
theorem mv_X3_readFogs : Cond.instanceMethod yX3_readFogs ∈ lw_u ∧ Cond.selects yX3_readFogs.cls yX3_readFogs yX3_readFogs ∈ lw_u ∧ Cond.initialized yX3_readFogs.cls ∈ lw_u ∧ Cond.code yX3_readFogs cX3_readFogs 3 (some .boolean) ∈ lw_u := ⟨uw_184, uw_853, uw_2, uw_185⟩
theorem hd_X3_readFogs : yX3_readFogs.cls ≠ "java/lang/invoke/MethodHandle" ∧ yX3_readFogs.cls ≠ "java/lang/invoke/VarHandle" ∧ (parseMethodDescriptor yX3_readFogs.desc).map (fun d => d.parameters.length) = some 1 := by decide +kernel
section
variable {l : Launch} {D : va_G} {cI cZ cL cR : ClassId} {B : Nat}
set_option maxRecDepth 100000 in
set_option maxHeartbeats 4000000 in
theorem w_X3_readFogs_23 {o1 : Nat} (h1 : isL o1) {p : Program} {e : Env} {s : State} {m : MethodId} {args : Array Value} {below : List Frame} {meth : Method} {c0 : Code} {τ σ' : Mem} {r : Int32} (C0 : lm_Cx D cI cZ cL cR B p s m args meth c0 cX3_readFogs 3 (some .boolean) RX3) {k2 : Int32 → Mem → Option (Int32 × Mem)} (hk2 : ∀ (x2 : Int32) (σ : Mem) (H : Heap) (locs : List Loc) (ls : Array Slot), va_P D vwCl (wl cI cZ cL cR B σ τ) H → va_S (lm_A B) s.heap H locs → lv_has ls 3 [(0, .ref (B + 2)), (1, .ref (B + o1)), (2, .int x2)] → k2 x2 σ = some (r, σ') → W p l e rmX3_readFogs s m args below meth c0 H locs 0 0 (MQ below (lm_QI D cI cZ cL cR B r σ' τ) args s 0 0 (lm_A B)) (F0 m 2 ls [])) : ∀ (x2 : Int32) (σ : Mem) (H : Heap) (locs : List Loc) (ls : Array Slot), va_P D vwCl (wl cI cZ cL cR B σ τ) H → va_S (lm_A B) s.heap H locs → lv_has ls 3 [(0, .ref (B + 2)), (1, .ref (B + o1)), (2, .int x2)] → f_X3_readFogs_23 o1 k2 x2 σ = some (r, σ') → W p l e rmX3_readFogs s m args below meth c0 H locs 0 0 (MQ below (lm_QI D cI cZ cL cR B r σ' τ) args s 0 0 (lm_A B)) (F0 m 23 ls []) := by
  obtain ⟨hx, hb, hml, hr, hlk, hown, hts, hK, hX⟩ := id C0
  intro x2 σ H locs ls hR hS hl hf
  unfold f_X3_readFogs_23 at hf
  refine lv_iload_n hx hb dX3_readFogs_23 rfl (lv_at hl 2 rfl) ?_
  refine lv_bipush (v := (6 : Int32)) hx hb dX3_readFogs_24 (by decide) ?_
  refine lv_icmp_ne (tgt := 39) hx hb dX3_readFogs_26 (by decide) (fun b7 => ?_) (fun b7 => ?_)
  · have hf := lm_F b7 hf
    refine lv_aload_n hx hb dX3_readFogs_39 rfl (lv_at hl 0 rfl) ?_
    refine lv_bipush (v := (102 : Int32)) hx hb dX3_readFogs_40 (by decide) ?_
    obtain ⟨r9, σ10, u8, hf⟩ := lm_bd2_e hf
    refine lm_endi (lm_runV C0 hR hS (c_X3_readSign u8) (lw_cV 1 hts uw_169 mv_X3_readSign rfl rfl hd_X3_readSign ⟨Nat.le_of_ble_eq_true rfl, Nat.le_of_ble_eq_true rfl⟩) (by decide) cell_2 rfl rfl hl rfl (Nat.le_of_ble_eq_true rfl) dX3_readFogs_42) hS (fun H locs hR hS => ?_)
    refine lv_if_ne (tgt := 50) hx hb dX3_readFogs_45 (by decide) (fun b11 => ?_) (fun b11 => ?_)
    · have hf := lm_F b11 hf
      refine lv_aload_n hx hb dX3_readFogs_50 rfl (lv_at hl 1 rfl) ?_
      refine lm_get C0 hR (isL_lt h1) (cell_L h1) rfl lw_in_X1 0 (by decide) uw_39 rfl rfl dX3_readFogs_51 ?_
      refine lv_iload_n hx hb dX3_readFogs_54 rfl (lv_at hl 2 rfl) ?_
      refine lv_aload_n hx hb dX3_readFogs_55 rfl (lv_at hl 0 rfl) ?_
      refine lv_iconst (v := (0 : Int32)) hx hb dX3_readFogs_56 (by decide) ?_
      refine lv_bipush (v := (9 : Int32)) hx hb dX3_readFogs_57 (by decide) ?_
      obtain ⟨r13, σ14, u12, hf⟩ := lm_bd2_e hf
      refine lm_endi (lm_runV C0 hR hS (c_X3_readNumber u12) (lw_cV 2 hts uw_178 mv_X3_readNumber rfl rfl hd_X3_readNumber ⟨Nat.le_of_ble_eq_true rfl, Nat.le_of_ble_eq_true rfl⟩) (by decide) cell_2 rfl rfl hl rfl (Nat.le_of_ble_eq_true rfl) dX3_readFogs_59) hS (fun H locs hR hS => ?_)
      obtain ⟨z15, hf⟩ := lm_ck_e hf
      obtain ⟨σ16, eσ16, hf⟩ := lm_nm_e hf
      refine lm_istC C0 hR hS (isL_lt1 h1) (cell_L1 h1) z15  eσ16 (cell_L1u h1) dX3_readFogs_62 (fun H locs hR hS => ?_)
      refine lv_aload_n hx hb dX3_readFogs_63 rfl (lv_at hl 1 rfl) ?_
      refine lm_get C0 hR (isL_lt h1) (cell_L h1) rfl lw_in_X1 0 (by decide) uw_39 rfl rfl dX3_readFogs_64 ?_
      refine lv_iload_n hx hb dX3_readFogs_67 rfl (lv_at hl 2 rfl) ?_
      obtain ⟨z17, hf⟩ := lm_ck_e hf
      refine lm_ild C0 hR (isL_lt1 h1) (cell_L1 h1) z17 dX3_readFogs_68 ?_
      refine lv_if_lt (tgt := 81) hx hb dX3_readFogs_69 (by decide) (fun b18 => ?_) (fun b18 => ?_)
      · have hf := lm_T b18 hf
        refine lv_iconst (v := (0 : Int32)) hx hb dX3_readFogs_81 (by decide) ?_
        exact lm_rzC C0 hR hS hf rfl dX3_readFogs_82
      · have hf := lm_F b18 hf
        refine lv_aload_n hx hb dX3_readFogs_72 rfl (lv_at hl 0 rfl) ?_
        refine lv_bipush (v := (59 : Int32)) hx hb dX3_readFogs_73 (by decide) ?_
        obtain ⟨r20, σ21, u19, hf⟩ := lm_bd2_e hf
        refine lm_endi (lm_runV C0 hR hS (c_X3_readSign u19) (lw_cV 1 hts uw_169 mv_X3_readSign rfl rfl hd_X3_readSign ⟨Nat.le_of_ble_eq_true rfl, Nat.le_of_ble_eq_true rfl⟩) (by decide) cell_2 rfl rfl hl rfl (Nat.le_of_ble_eq_true rfl) dX3_readFogs_75) hS (fun H locs hR hS => ?_)
        refine lv_if_ne (tgt := 83) hx hb dX3_readFogs_78 (by decide) (fun b22 => ?_) (fun b22 => ?_)
        · have hf := lm_F b22 hf
          refine lv_aload_n hx hb dX3_readFogs_83 rfl (lv_at hl 1 rfl) ?_
          refine lv_iload_n hx hb dX3_readFogs_84 rfl (lv_at hl 2 rfl) ?_
          refine lv_iconst (v := (1 : Int32)) hx hb dX3_readFogs_85 (by decide) ?_
          refine lv_iadd hx hb dX3_readFogs_86 ?_
          obtain ⟨σ23, eσ23, hf⟩ := lm_nm_e hf
          refine lm_putC C0 hR hS (isL_lt h1) (cell_L h1) rfl lw_in_X1 tyX1 tyX1_ok nmX1 7 (by decide) uw_59 rfl rfl rfl rfl rfl (Nat.le_of_ble_eq_true rfl) eσ23 (cell_Lu h1) dX3_readFogs_87 (fun H locs hR hS => ?_)
          obtain ⟨v24, ev24, hf⟩ := lm_nm_e hf
          refine lv_iinc (v := v24) (lv' := [(2, .int v24), (0, .ref (B + 2)), (1, .ref (B + o1))]) hx hb dX3_readFogs_90 hl (k := 2) rfl (by rw [ev24]; rfl) (by decide) rfl (fun ls hl => ?_)
          refine lv_goto (tgt := 2) hx hb dX3_readFogs_93 (by decide) ?_
          exact hk2 _ _ _ _ _ hR hS (lv_sub hl [1, 2, 0] rfl) hf
        · have hf := lm_T b22 hf
          refine lv_iconst (v := (0 : Int32)) hx hb dX3_readFogs_81 (by decide) ?_
          exact lm_rzC C0 hR hS hf rfl dX3_readFogs_82
    · have hf := lm_T b11 hf
      refine lv_iconst (v := (0 : Int32)) hx hb dX3_readFogs_48 (by decide) ?_
      exact lm_rzC C0 hR hS hf rfl dX3_readFogs_49
  · have hf := lm_T b7 hf
    refine lv_aload_n hx hb dX3_readFogs_29 rfl (lv_at hl 0 rfl) ?_
    refine lv_aload_n hx hb dX3_readFogs_30 rfl (lv_at hl 0 rfl) ?_
    refine lm_get C0 hR (by decide) cell_2 rfl lw_in_X3 2 (by decide) uw_27 rfl rfl dX3_readFogs_31 ?_
    refine lv_iconst (v := (3 : Int32)) hx hb dX3_readFogs_34 (by decide) ?_
    obtain ⟨r26, σ27, u25, hf⟩ := lm_bd2_e hf
    refine lm_endi (lm_runV C0 hR hS (c_X3_failAt u25) (lw_cV 2 hts uw_175 mv_X3_failAt rfl rfl hd_X3_failAt ⟨Nat.le_of_ble_eq_true rfl, Nat.le_of_ble_eq_true rfl⟩) (by decide) cell_2 rfl rfl hl rfl (Nat.le_of_ble_eq_true rfl) dX3_readFogs_35) hS (fun H locs hR hS => ?_)
    obtain ⟨z28, hf⟩ := lm_ck_e hf
    exact lm_rzC C0 hR hS hf (lm_boT z28) dX3_readFogs_38
set_option maxRecDepth 100000 in
set_option maxHeartbeats 4000000 in
theorem w_X3_readFogs_2 {o1 : Nat} (h1 : isL o1) {p : Program} {e : Env} {s : State} {m : MethodId} {args : Array Value} {below : List Frame} {meth : Method} {c0 : Code} {τ σ' : Mem} {r : Int32} (C0 : lm_Cx D cI cZ cL cR B p s m args meth c0 cX3_readFogs 3 (some .boolean) RX3) : ∀ (n : Nat), ∀ (x2 : Int32) (σ : Mem) (H : Heap) (locs : List Loc) (ls : Array Slot), va_P D vwCl (wl cI cZ cL cR B σ τ) H → va_S (lm_A B) s.heap H locs → lv_has ls 3 [(0, .ref (B + 2)), (1, .ref (B + o1)), (2, .int x2)] → f_X3_readFogs_2 o1 n x2 σ = some (r, σ') → W p l e rmX3_readFogs s m args below meth c0 H locs 0 0 (MQ below (lm_QI D cI cZ cL cR B r σ' τ) args s 0 0 (lm_A B)) (F0 m 2 ls []) := by
  obtain ⟨hx, hb, hml, hr, hlk, hown, hts, hK, hX⟩ := id C0
  intro n
  induction n with
  | zero =>
    intro x2 σ H locs ls hR hS hl hf
    cases hf
  | succ n ih =>
    intro x2 σ H locs ls hR hS hl hf
    rw [f_X3_readFogs_2] at hf
    refine lv_iload_n hx hb dX3_readFogs_2 rfl (lv_at hl 2 rfl) ?_
    refine lv_bipush (v := (6 : Int32)) hx hb dX3_readFogs_3 (by decide) ?_
    refine lv_icmp_gt (tgt := 96) hx hb dX3_readFogs_5 (by decide) (fun b1 => ?_) (fun b1 => ?_)
    · have hf := lm_T b1 hf
      refine lv_iconst (v := (1 : Int32)) hx hb dX3_readFogs_96 (by decide) ?_
      exact lm_rzC C0 hR hS hf rfl dX3_readFogs_97
    · have hf := lm_F b1 hf
      refine lv_iload_n hx hb dX3_readFogs_8 rfl (lv_at hl 2 rfl) ?_
      refine lv_if_le (tgt := 23) hx hb dX3_readFogs_9 (by decide) (fun b2 => ?_) (fun b2 => ?_)
      · have hf := lm_T b2 hf
        exact w_X3_readFogs_23 h1 C0 ih _ _ _ _ _ hR hS (lv_sub hl [0, 1, 2] rfl) hf
      · have hf := lm_F b2 hf
        refine lv_aload_n hx hb dX3_readFogs_12 rfl (lv_at hl 0 rfl) ?_
        obtain ⟨r4, u3, hf⟩ := lm_bd_e hf
        refine lm_endi (lm_runV C0 hR hS (c_X3_byteHere u3) (lw_cV 0 hts uw_172 mv_X3_byteHere rfl rfl hd_X3_byteHere ⟨Nat.le_of_ble_eq_true rfl, Nat.le_of_ble_eq_true rfl⟩) (by decide) cell_2 rfl rfl hl rfl (Nat.le_of_ble_eq_true rfl) dX3_readFogs_13) hS (fun H locs hR hS => ?_)
        refine lv_bipush (v := (102 : Int32)) hx hb dX3_readFogs_16 (by decide) ?_
        refine lv_icmp_eq (tgt := 23) hx hb dX3_readFogs_18 (by decide) (fun b6 => ?_) (fun b6 => ?_)
        · have hf := lm_T b6 hf
          exact w_X3_readFogs_23 h1 C0 ih _ _ _ _ _ hR hS (lv_sub hl [0, 1, 2] rfl) hf
        · have hf := lm_F b6 hf
          refine lv_iconst (v := (1 : Int32)) hx hb dX3_readFogs_21 (by decide) ?_
          exact lm_rzC C0 hR hS hf rfl dX3_readFogs_22
set_option maxRecDepth 100000 in
set_option maxHeartbeats 4000000 in
theorem c_X3_readFogs {o1 : Nat} (h1 : isL o1) {σ τ σ' : Mem} {r : Int32}  (hf : f_X3_readFogs o1 σ = some (r, σ')) : lm_CI l yX3_readFogs wsX3_readFogs rmX3_readFogs D cI cZ cL cR B [.ref (B + 2), .ref (B + o1)] σ τ r σ' τ := by
  unfold f_X3_readFogs at hf
  refine lm_of (cc := cX3_readFogs) (maxL := 3) (ret := (some .boolean)) (own := RX3) (by decide) rfl (Nat.le_of_ble_eq_true rfl) (fun p e s m below meth c0 C0 hR ls hl => ?_)
  have hS : va_S (lm_A B) s.heap s.heap [] := va_S.rf
  have hl : lv_has ls 3 [(0, .ref (B + 2)), (1, .ref (B + o1))] := hl
  obtain ⟨hx, hb, hml, hr, hlk, hown, hts, hK, hX⟩ := id C0
  refine lv_iconst (v := (0 : Int32)) hx hb dX3_readFogs_0 (by decide) ?_
  refine lv_istore_n (lv' := [(2, .int (0 : Int32)), (0, .ref (B + 2)), (1, .ref (B + o1))]) hx hb dX3_readFogs_1 rfl hl (by decide) rfl (fun ls hl => ?_)
  exact w_X3_readFogs_2 h1 C0 _ _ _ _ _ _ hR hS (lv_sub hl [1, 2, 0] rfl) hf
end
/-! ===== X3_readLaw ===== -/
abbrev rmX3_readLaw : Room := { frames := 2, cells := 0, slots := 0, locals := 46 }
def f_X3_readLaw (o1 : Nat) (σ : Mem) : Option (Int32 × Mem) := lm_bd2 (f_X3_readSign σ (108 : Int32)) fun r2 σ3 => if r2 = 0 then (some ((0 : Int32), σ3)) else (lm_bd2 (f_X3_readNumber σ3 (4 : Int32) (12 : Int32)) fun r6 σ7 => lm_nm (up σ7 o1 3 r6) fun σ8 => if (σ8 o1 3) < 0 then (some ((0 : Int32), σ8)) else (lm_bd2 (f_X3_readSign σ8 (44 : Int32)) fun r11 σ12 => if r11 = 0 then (some ((0 : Int32), σ12)) else (lm_bd2 (f_X3_readNumber σ12 (0 : Int32) (12 : Int32)) fun r15 σ16 => lm_nm (up σ16 o1 4 r15) fun σ17 => if (σ17 o1 4) < 0 then (some ((0 : Int32), σ17)) else (lm_bd2 (f_X3_readSign σ17 (44 : Int32)) fun r20 σ21 => if r20 = 0 then (some ((0 : Int32), σ21)) else (lm_bd2 (f_X3_readNumber σ21 (0 : Int32) (60 : Int32)) fun r24 σ25 => lm_nm (up σ25 o1 5 r24) fun σ26 => if (σ26 o1 5) < 0 then (some ((0 : Int32), σ26)) else (lm_bd2 (f_X3_readSign σ26 (59 : Int32)) fun r29 σ30 => if r29 = 0 then (some ((0 : Int32), σ30)) else (some ((1 : Int32), σ30))))))))
abbrev wsX3_readLaw : List Cond := Cond.code yX3_readLaw cX3_readLaw 2 (some .boolean) :: lw_u
theorem mv_X3_readLaw : Cond.instanceMethod yX3_readLaw ∈ lw_u ∧ Cond.selects yX3_readLaw.cls yX3_readLaw yX3_readLaw ∈ lw_u ∧ Cond.initialized yX3_readLaw.cls ∈ lw_u ∧ Cond.code yX3_readLaw cX3_readLaw 2 (some .boolean) ∈ lw_u := ⟨uw_167, uw_848, uw_2, uw_168⟩
theorem hd_X3_readLaw : yX3_readLaw.cls ≠ "java/lang/invoke/MethodHandle" ∧ yX3_readLaw.cls ≠ "java/lang/invoke/VarHandle" ∧ (parseMethodDescriptor yX3_readLaw.desc).map (fun d => d.parameters.length) = some 1 := by decide +kernel
section
variable {l : Launch} {D : va_G} {cI cZ cL cR : ClassId} {B : Nat}
set_option maxRecDepth 100000 in
set_option maxHeartbeats 4000000 in
theorem c_X3_readLaw {o1 : Nat} (h1 : isL o1) {σ τ σ' : Mem} {r : Int32}  (hf : f_X3_readLaw o1 σ = some (r, σ')) : lm_CI l yX3_readLaw wsX3_readLaw rmX3_readLaw D cI cZ cL cR B [.ref (B + 2), .ref (B + o1)] σ τ r σ' τ := by
  unfold f_X3_readLaw at hf
  refine lm_of (cc := cX3_readLaw) (maxL := 2) (ret := (some .boolean)) (own := RX3) (by decide) rfl (Nat.le_of_ble_eq_true rfl) (fun p e s m below meth c0 C0 hR ls hl => ?_)
  have hS : va_S (lm_A B) s.heap s.heap [] := va_S.rf
  have hl : lv_has ls 2 [(0, .ref (B + 2)), (1, .ref (B + o1))] := hl
  obtain ⟨hx, hb, hml, hr, hlk, hown, hts, hK, hX⟩ := id C0
  refine lv_aload_n hx hb dX3_readLaw_0 rfl (lv_at hl 0 rfl) ?_
  refine lv_bipush (v := (108 : Int32)) hx hb dX3_readLaw_1 (by decide) ?_
  obtain ⟨r2, σ3, u1, hf⟩ := lm_bd2_e hf
  refine lm_endi (lm_runV C0 hR hS (c_X3_readSign u1) (lw_cV 1 hts uw_169 mv_X3_readSign rfl rfl hd_X3_readSign ⟨Nat.le_of_ble_eq_true rfl, Nat.le_of_ble_eq_true rfl⟩) (by decide) cell_2 rfl rfl hl rfl (Nat.le_of_ble_eq_true rfl) dX3_readLaw_3) hS (fun H locs hR hS => ?_)
  refine lv_if_ne (tgt := 11) hx hb dX3_readLaw_6 (by decide) (fun b4 => ?_) (fun b4 => ?_)
  · have hf := lm_F b4 hf
    refine lv_aload_n hx hb dX3_readLaw_11 rfl (lv_at hl 1 rfl) ?_
    refine lv_aload_n hx hb dX3_readLaw_12 rfl (lv_at hl 0 rfl) ?_
    refine lv_iconst (v := (4 : Int32)) hx hb dX3_readLaw_13 (by decide) ?_
    refine lv_bipush (v := (12 : Int32)) hx hb dX3_readLaw_14 (by decide) ?_
    obtain ⟨r6, σ7, u5, hf⟩ := lm_bd2_e hf
    refine lm_endi (lm_runV C0 hR hS (c_X3_readNumber u5) (lw_cV 2 hts uw_178 mv_X3_readNumber rfl rfl hd_X3_readNumber ⟨Nat.le_of_ble_eq_true rfl, Nat.le_of_ble_eq_true rfl⟩) (by decide) cell_2 rfl rfl hl rfl (Nat.le_of_ble_eq_true rfl) dX3_readLaw_16) hS (fun H locs hR hS => ?_)
    obtain ⟨σ8, eσ8, hf⟩ := lm_nm_e hf
    refine lm_putC C0 hR hS (isL_lt h1) (cell_L h1) rfl lw_in_X1 tyX1 tyX1_ok nmX1 3 (by decide) uw_48 rfl rfl rfl rfl rfl (Nat.le_of_ble_eq_true rfl) eσ8 (cell_Lu h1) dX3_readLaw_19 (fun H locs hR hS => ?_)
    refine lv_aload_n hx hb dX3_readLaw_22 rfl (lv_at hl 1 rfl) ?_
    refine lm_get C0 hR (isL_lt h1) (cell_L h1) rfl lw_in_X1 3 (by decide) uw_48 rfl rfl dX3_readLaw_23 ?_
    refine lv_if_lt (tgt := 38) hx hb dX3_readLaw_26 (by decide) (fun b9 => ?_) (fun b9 => ?_)
    · have hf := lm_T b9 hf
      refine lv_iconst (v := (0 : Int32)) hx hb dX3_readLaw_38 (by decide) ?_
      exact lm_rzC C0 hR hS hf rfl dX3_readLaw_39
    · have hf := lm_F b9 hf
      refine lv_aload_n hx hb dX3_readLaw_29 rfl (lv_at hl 0 rfl) ?_
      refine lv_bipush (v := (44 : Int32)) hx hb dX3_readLaw_30 (by decide) ?_
      obtain ⟨r11, σ12, u10, hf⟩ := lm_bd2_e hf
      refine lm_endi (lm_runV C0 hR hS (c_X3_readSign u10) (lw_cV 1 hts uw_169 mv_X3_readSign rfl rfl hd_X3_readSign ⟨Nat.le_of_ble_eq_true rfl, Nat.le_of_ble_eq_true rfl⟩) (by decide) cell_2 rfl rfl hl rfl (Nat.le_of_ble_eq_true rfl) dX3_readLaw_32) hS (fun H locs hR hS => ?_)
      refine lv_if_ne (tgt := 40) hx hb dX3_readLaw_35 (by decide) (fun b13 => ?_) (fun b13 => ?_)
      · have hf := lm_F b13 hf
        refine lv_aload_n hx hb dX3_readLaw_40 rfl (lv_at hl 1 rfl) ?_
        refine lv_aload_n hx hb dX3_readLaw_41 rfl (lv_at hl 0 rfl) ?_
        refine lv_iconst (v := (0 : Int32)) hx hb dX3_readLaw_42 (by decide) ?_
        refine lv_bipush (v := (12 : Int32)) hx hb dX3_readLaw_43 (by decide) ?_
        obtain ⟨r15, σ16, u14, hf⟩ := lm_bd2_e hf
        refine lm_endi (lm_runV C0 hR hS (c_X3_readNumber u14) (lw_cV 2 hts uw_178 mv_X3_readNumber rfl rfl hd_X3_readNumber ⟨Nat.le_of_ble_eq_true rfl, Nat.le_of_ble_eq_true rfl⟩) (by decide) cell_2 rfl rfl hl rfl (Nat.le_of_ble_eq_true rfl) dX3_readLaw_45) hS (fun H locs hR hS => ?_)
        obtain ⟨σ17, eσ17, hf⟩ := lm_nm_e hf
        refine lm_putC C0 hR hS (isL_lt h1) (cell_L h1) rfl lw_in_X1 tyX1 tyX1_ok nmX1 4 (by decide) uw_51 rfl rfl rfl rfl rfl (Nat.le_of_ble_eq_true rfl) eσ17 (cell_Lu h1) dX3_readLaw_48 (fun H locs hR hS => ?_)
        refine lv_aload_n hx hb dX3_readLaw_51 rfl (lv_at hl 1 rfl) ?_
        refine lm_get C0 hR (isL_lt h1) (cell_L h1) rfl lw_in_X1 4 (by decide) uw_51 rfl rfl dX3_readLaw_52 ?_
        refine lv_if_lt (tgt := 67) hx hb dX3_readLaw_55 (by decide) (fun b18 => ?_) (fun b18 => ?_)
        · have hf := lm_T b18 hf
          refine lv_iconst (v := (0 : Int32)) hx hb dX3_readLaw_67 (by decide) ?_
          exact lm_rzC C0 hR hS hf rfl dX3_readLaw_68
        · have hf := lm_F b18 hf
          refine lv_aload_n hx hb dX3_readLaw_58 rfl (lv_at hl 0 rfl) ?_
          refine lv_bipush (v := (44 : Int32)) hx hb dX3_readLaw_59 (by decide) ?_
          obtain ⟨r20, σ21, u19, hf⟩ := lm_bd2_e hf
          refine lm_endi (lm_runV C0 hR hS (c_X3_readSign u19) (lw_cV 1 hts uw_169 mv_X3_readSign rfl rfl hd_X3_readSign ⟨Nat.le_of_ble_eq_true rfl, Nat.le_of_ble_eq_true rfl⟩) (by decide) cell_2 rfl rfl hl rfl (Nat.le_of_ble_eq_true rfl) dX3_readLaw_61) hS (fun H locs hR hS => ?_)
          refine lv_if_ne (tgt := 69) hx hb dX3_readLaw_64 (by decide) (fun b22 => ?_) (fun b22 => ?_)
          · have hf := lm_F b22 hf
            refine lv_aload_n hx hb dX3_readLaw_69 rfl (lv_at hl 1 rfl) ?_
            refine lv_aload_n hx hb dX3_readLaw_70 rfl (lv_at hl 0 rfl) ?_
            refine lv_iconst (v := (0 : Int32)) hx hb dX3_readLaw_71 (by decide) ?_
            refine lv_bipush (v := (60 : Int32)) hx hb dX3_readLaw_72 (by decide) ?_
            obtain ⟨r24, σ25, u23, hf⟩ := lm_bd2_e hf
            refine lm_endi (lm_runV C0 hR hS (c_X3_readNumber u23) (lw_cV 2 hts uw_178 mv_X3_readNumber rfl rfl hd_X3_readNumber ⟨Nat.le_of_ble_eq_true rfl, Nat.le_of_ble_eq_true rfl⟩) (by decide) cell_2 rfl rfl hl rfl (Nat.le_of_ble_eq_true rfl) dX3_readLaw_74) hS (fun H locs hR hS => ?_)
            obtain ⟨σ26, eσ26, hf⟩ := lm_nm_e hf
            refine lm_putC C0 hR hS (isL_lt h1) (cell_L h1) rfl lw_in_X1 tyX1 tyX1_ok nmX1 5 (by decide) uw_54 rfl rfl rfl rfl rfl (Nat.le_of_ble_eq_true rfl) eσ26 (cell_Lu h1) dX3_readLaw_77 (fun H locs hR hS => ?_)
            refine lv_aload_n hx hb dX3_readLaw_80 rfl (lv_at hl 1 rfl) ?_
            refine lm_get C0 hR (isL_lt h1) (cell_L h1) rfl lw_in_X1 5 (by decide) uw_54 rfl rfl dX3_readLaw_81 ?_
            refine lv_if_lt (tgt := 100) hx hb dX3_readLaw_84 (by decide) (fun b27 => ?_) (fun b27 => ?_)
            · have hf := lm_T b27 hf
              refine lv_iconst (v := (0 : Int32)) hx hb dX3_readLaw_100 (by decide) ?_
              exact lm_rzC C0 hR hS hf rfl dX3_readLaw_101
            · have hf := lm_F b27 hf
              refine lv_aload_n hx hb dX3_readLaw_87 rfl (lv_at hl 0 rfl) ?_
              refine lv_bipush (v := (59 : Int32)) hx hb dX3_readLaw_88 (by decide) ?_
              obtain ⟨r29, σ30, u28, hf⟩ := lm_bd2_e hf
              refine lm_endi (lm_runV C0 hR hS (c_X3_readSign u28) (lw_cV 1 hts uw_169 mv_X3_readSign rfl rfl hd_X3_readSign ⟨Nat.le_of_ble_eq_true rfl, Nat.le_of_ble_eq_true rfl⟩) (by decide) cell_2 rfl rfl hl rfl (Nat.le_of_ble_eq_true rfl) dX3_readLaw_90) hS (fun H locs hR hS => ?_)
              refine lv_if_eq (tgt := 100) hx hb dX3_readLaw_93 (by decide) (fun b31 => ?_) (fun b31 => ?_)
              · have hf := lm_T b31 hf
                refine lv_iconst (v := (0 : Int32)) hx hb dX3_readLaw_100 (by decide) ?_
                exact lm_rzC C0 hR hS hf rfl dX3_readLaw_101
              · have hf := lm_F b31 hf
                refine lv_iconst (v := (1 : Int32)) hx hb dX3_readLaw_96 (by decide) ?_
                refine lv_goto (tgt := 101) hx hb dX3_readLaw_97 (by decide) ?_
                exact lm_rzC C0 hR hS hf rfl dX3_readLaw_101
          · have hf := lm_T b22 hf
            refine lv_iconst (v := (0 : Int32)) hx hb dX3_readLaw_67 (by decide) ?_
            exact lm_rzC C0 hR hS hf rfl dX3_readLaw_68
      · have hf := lm_T b13 hf
        refine lv_iconst (v := (0 : Int32)) hx hb dX3_readLaw_38 (by decide) ?_
        exact lm_rzC C0 hR hS hf rfl dX3_readLaw_39
  · have hf := lm_T b4 hf
    refine lv_iconst (v := (0 : Int32)) hx hb dX3_readLaw_9 (by decide) ?_
    exact lm_rzC C0 hR hS hf rfl dX3_readLaw_10
end
/-! ===== X3_kindOfSort ===== -/
abbrev rmX3_kindOfSort : Room := { frames := 0, cells := 0, slots := 0, locals := 0 }
def f_X3_kindOfSort (p0 : Int32) : Option (Int32) := if p0 = (98 : Int32) then (some (2 : Int32)) else (if p0 = (103 : Int32) then (some (4 : Int32)) else (if p0 = (109 : Int32) then (some (3 : Int32)) else (if p0 = (111 : Int32) then (some (5 : Int32)) else (if p0 = (115 : Int32) then (some (1 : Int32)) else (some (0 : Int32))))))
abbrev wsX3_kindOfSort : List Cond := Cond.code yX3_kindOfSort cX3_kindOfSort 1 (some .int) :: lw_u
theorem mv_X3_kindOfSort : Cond.static yX3_kindOfSort ∈ lw_u ∧ Cond.initialized yX3_kindOfSort.cls ∈ lw_u ∧ Cond.code yX3_kindOfSort cX3_kindOfSort 1 (some .int) ∈ lw_u := ⟨uw_190, uw_2, uw_191⟩
theorem hd_X3_kindOfSort : yX3_kindOfSort.cls ≠ "java/lang/invoke/MethodHandle" ∧ yX3_kindOfSort.cls ≠ "java/lang/invoke/VarHandle" ∧ (parseMethodDescriptor yX3_kindOfSort.desc).map (fun d => d.parameters.length) = some 1 := by decide +kernel
section
variable {l : Launch} {D : va_G} {cI cZ cL cR : ClassId} {B : Nat}
set_option maxRecDepth 100000 in
set_option maxHeartbeats 4000000 in
theorem c_X3_kindOfSort {σ τ : Mem} {p0 : Int32} {r : Int32}  (hf : f_X3_kindOfSort p0 = some r) : lm_CI l yX3_kindOfSort wsX3_kindOfSort rmX3_kindOfSort D cI cZ cL cR B [.int p0] σ τ r σ τ := by
  unfold f_X3_kindOfSort at hf
  refine lm_of (cc := cX3_kindOfSort) (maxL := 1) (ret := (some .int)) (own := RX3) (by decide) rfl (Nat.le_of_ble_eq_true rfl) (fun p e s m below meth c0 C0 hR ls hl => ?_)
  have hS : va_S (lm_A B) s.heap s.heap [] := va_S.rf
  have hl : lv_has ls 1 [(0, .int p0)] := hl
  obtain ⟨hx, hb, hml, hr, hlk, hown, hts, hK, hX⟩ := id C0
  refine lv_iload_n hx hb dX3_kindOfSort_0 rfl (lv_at hl 0 rfl) ?_
  by_cases b1 : p0 = (98 : Int32)
  · have hf := lm_T b1 hf
    refine lv_lookup (off := 53) (tgt := 54) hx hb dX3_kindOfSort_1 (by decide) (by rw [b1]; decide) (by decide) ?_
    refine lv_iconst (v := (2 : Int32)) hx hb dX3_kindOfSort_54 (by decide) ?_
    exact lm_riP C0 hR hS hf dX3_kindOfSort_55
  have hf := lm_F b1 hf
  by_cases b2 : p0 = (103 : Int32)
  · have hf := lm_T b2 hf
    refine lv_lookup (off := 57) (tgt := 58) hx hb dX3_kindOfSort_1 (by decide) (by rw [b2]; decide) (by decide) ?_
    refine lv_iconst (v := (4 : Int32)) hx hb dX3_kindOfSort_58 (by decide) ?_
    exact lm_riP C0 hR hS hf dX3_kindOfSort_59
  have hf := lm_F b2 hf
  by_cases b3 : p0 = (109 : Int32)
  · have hf := lm_T b3 hf
    refine lv_lookup (off := 55) (tgt := 56) hx hb dX3_kindOfSort_1 (by decide) (by rw [b3]; decide) (by decide) ?_
    refine lv_iconst (v := (3 : Int32)) hx hb dX3_kindOfSort_56 (by decide) ?_
    exact lm_riP C0 hR hS hf dX3_kindOfSort_57
  have hf := lm_F b3 hf
  by_cases b4 : p0 = (111 : Int32)
  · have hf := lm_T b4 hf
    refine lv_lookup (off := 59) (tgt := 60) hx hb dX3_kindOfSort_1 (by decide) (by rw [b4]; decide) (by decide) ?_
    refine lv_iconst (v := (5 : Int32)) hx hb dX3_kindOfSort_60 (by decide) ?_
    exact lm_riP C0 hR hS hf dX3_kindOfSort_61
  have hf := lm_F b4 hf
  by_cases b5 : p0 = (115 : Int32)
  · have hf := lm_T b5 hf
    refine lv_lookup (off := 51) (tgt := 52) hx hb dX3_kindOfSort_1 (by decide) (by rw [b5]; decide) (by decide) ?_
    refine lv_iconst (v := (1 : Int32)) hx hb dX3_kindOfSort_52 (by decide) ?_
    exact lm_riP C0 hR hS hf dX3_kindOfSort_53
  have hf := lm_F b5 hf
  refine lv_lookup (off := 61) (tgt := 62) hx hb dX3_kindOfSort_1 (by decide) ((lv_osw b1 (by decide)).trans <| (lv_osw b2 (by decide)).trans <| (lv_osw b3 (by decide)).trans <| (lv_osw b4 (by decide)).trans <| (lv_osw b5 (by decide)).trans <| rfl) (by decide) ?_
  refine lv_iconst (v := (0 : Int32)) hx hb dX3_kindOfSort_62 (by decide) ?_
  exact lm_riP C0 hR hS hf dX3_kindOfSort_63
end
/-! ===== X3_readShips ===== -/
abbrev rmX3_readShips : Room := { frames := 2, cells := 0, slots := 0, locals := 46 }
def f_X3_readShips_25 (o1 : Nat) (k2 : Int32 → Mem → Option (Int32 × Mem)) (x2 : Int32) (σ : Mem) : Option (Int32 × Mem) := lm_bd (f_X3_byteHere σ) fun r5 => lm_bd (f_X3_kindOfSort r5) fun r8 => if r8 = 0 then (lm_bd2 (f_X3_failAt σ (σ 2 2) (1 : Int32)) fun r33 σ34 => lm_ck (lm_bo r33) (some (r33, σ34))) else (if x2 = (6 : Int32) then (lm_bd2 (f_X3_failAt σ (σ 2 2) (3 : Int32)) fun r29 σ30 => lm_ck (lm_bo r29) (some (r29, σ30))) else (lm_nm (up σ 2 2 ((σ 2 2) + (1 : Int32))) fun σ12 => lm_ck (lm_in x2 6) (lm_nm (up σ12 (o1 + 2) x2.toNatClampNeg r8) fun σ14 => lm_bd2 (f_X3_readNumber σ14 (0 : Int32) ((σ14 o1 3) - (1 : Int32))) fun r16 σ17 => lm_ck (lm_in x2 6) (lm_nm (up σ17 (o1 + 3) x2.toNatClampNeg r16) fun σ19 => lm_ck (lm_in x2 6) (if (σ19 (o1 + 3) x2.toNatClampNeg) < 0 then (some ((0 : Int32), σ19)) else (lm_bd2 (f_X3_readSign σ19 (59 : Int32)) fun r23 σ24 => if r23 = 0 then (some ((0 : Int32), σ24)) else (lm_nm (up σ24 o1 8 (x2 + (1 : Int32))) fun σ26 => lm_nm (x2 + (1 : Int32)) fun v27 => k2 v27 σ26)))))))
def f_X3_readShips_2 (o1 : Nat) : Nat → Int32 → Mem → Option (Int32 × Mem)
  | 0, _, _ => none
  | n + 1, x2, σ => if (6 : Int32) < x2 then (some ((1 : Int32), σ)) else (if x2 ≤ 0 then (f_X3_readShips_25 o1 (f_X3_readShips_2 o1 n) x2 σ) else (if (σ 2 2) < (σ 2 1) then (f_X3_readShips_25 o1 (f_X3_readShips_2 o1 n) x2 σ) else (some ((1 : Int32), σ))))
def f_X3_readShips (o1 : Nat) (σ : Mem) : Option (Int32 × Mem) := f_X3_readShips_2 o1 lm_fu (0 : Int32) σ
abbrev wsX3_readShips : List Cond := Cond.code yX3_readShips cX3_readShips 4 (some .boolean) :: lw_u
theorem mv_X3_readShips : Cond.instanceMethod yX3_readShips ∈ lw_u ∧ Cond.selects yX3_readShips.cls yX3_readShips yX3_readShips ∈ lw_u ∧ Cond.initialized yX3_readShips.cls ∈ lw_u ∧ Cond.code yX3_readShips cX3_readShips 4 (some .boolean) ∈ lw_u := ⟨uw_187, uw_854, uw_2, uw_188⟩
theorem hd_X3_readShips : yX3_readShips.cls ≠ "java/lang/invoke/MethodHandle" ∧ yX3_readShips.cls ≠ "java/lang/invoke/VarHandle" ∧ (parseMethodDescriptor yX3_readShips.desc).map (fun d => d.parameters.length) = some 1 := by decide +kernel
section
variable {l : Launch} {D : va_G} {cI cZ cL cR : ClassId} {B : Nat}
set_option maxRecDepth 100000 in
set_option maxHeartbeats 4000000 in
theorem w_X3_readShips_25 {o1 : Nat} (h1 : isL o1) {p : Program} {e : Env} {s : State} {m : MethodId} {args : Array Value} {below : List Frame} {meth : Method} {c0 : Code} {τ σ' : Mem} {r : Int32} (C0 : lm_Cx D cI cZ cL cR B p s m args meth c0 cX3_readShips 4 (some .boolean) RX3) {k2 : Int32 → Mem → Option (Int32 × Mem)} (hk2 : ∀ (x2 : Int32) (σ : Mem) (H : Heap) (locs : List Loc) (ls : Array Slot), va_P D vwCl (wl cI cZ cL cR B σ τ) H → va_S (lm_A B) s.heap H locs → lv_has ls 4 [(0, .ref (B + 2)), (1, .ref (B + o1)), (2, .int x2)] → k2 x2 σ = some (r, σ') → W p l e rmX3_readShips s m args below meth c0 H locs 0 0 (MQ below (lm_QI D cI cZ cL cR B r σ' τ) args s 0 0 (lm_A B)) (F0 m 2 ls [])) : ∀ (x2 : Int32) (σ : Mem) (H : Heap) (locs : List Loc) (ls : Array Slot), va_P D vwCl (wl cI cZ cL cR B σ τ) H → va_S (lm_A B) s.heap H locs → lv_has ls 4 [(0, .ref (B + 2)), (1, .ref (B + o1)), (2, .int x2)] → f_X3_readShips_25 o1 k2 x2 σ = some (r, σ') → W p l e rmX3_readShips s m args below meth c0 H locs 0 0 (MQ below (lm_QI D cI cZ cL cR B r σ' τ) args s 0 0 (lm_A B)) (F0 m 25 ls []) := by
  obtain ⟨hx, hb, hml, hr, hlk, hown, hts, hK, hX⟩ := id C0
  intro x2 σ H locs ls hR hS hl hf
  unfold f_X3_readShips_25 at hf
  refine lv_aload_n hx hb dX3_readShips_25 rfl (lv_at hl 0 rfl) ?_
  obtain ⟨r5, u4, hf⟩ := lm_bd_e hf
  refine lm_endi (lm_runV C0 hR hS (c_X3_byteHere u4) (lw_cV 0 hts uw_172 mv_X3_byteHere rfl rfl hd_X3_byteHere ⟨Nat.le_of_ble_eq_true rfl, Nat.le_of_ble_eq_true rfl⟩) (by decide) cell_2 rfl rfl hl rfl (Nat.le_of_ble_eq_true rfl) dX3_readShips_26) hS (fun H locs hR hS => ?_)
  obtain ⟨r8, u7, hf⟩ := lm_bd_e hf
  refine lm_endi (lm_runS C0 hR hS (c_X3_kindOfSort u7) (lw_cS 1 hts uw_189 mv_X3_kindOfSort rfl rfl hd_X3_kindOfSort ⟨Nat.le_of_ble_eq_true rfl, Nat.le_of_ble_eq_true rfl⟩) rfl hl rfl (Nat.le_of_ble_eq_true rfl) dX3_readShips_29) hS (fun H locs hR hS => ?_)
  refine lv_istore_n (lv' := [(3, .int r8), (0, .ref (B + 2)), (1, .ref (B + o1)), (2, .int x2)]) hx hb dX3_readShips_32 rfl hl (by decide) rfl (fun ls hl => ?_)
  refine lv_iload_n hx hb dX3_readShips_33 rfl (lv_at hl 0 rfl) ?_
  refine lv_if_ne (tgt := 47) hx hb dX3_readShips_34 (by decide) (fun b10 => ?_) (fun b10 => ?_)
  · have hf := lm_F b10 hf
    refine lv_iload_n hx hb dX3_readShips_47 rfl (lv_at hl 3 rfl) ?_
    refine lv_bipush (v := (6 : Int32)) hx hb dX3_readShips_48 (by decide) ?_
    refine lv_icmp_ne (tgt := 63) hx hb dX3_readShips_50 (by decide) (fun b11 => ?_) (fun b11 => ?_)
    · have hf := lm_F b11 hf
      refine lv_aload_n hx hb dX3_readShips_63 rfl (lv_at hl 1 rfl) ?_
      refine lv_dup hx hb dX3_readShips_64 rfl ?_
      refine lm_get C0 hR (by decide) cell_2 rfl lw_in_X3 2 (by decide) uw_27 rfl rfl dX3_readShips_65 ?_
      refine lv_iconst (v := (1 : Int32)) hx hb dX3_readShips_68 (by decide) ?_
      refine lv_iadd hx hb dX3_readShips_69 ?_
      obtain ⟨σ12, eσ12, hf⟩ := lm_nm_e hf
      refine lm_putC C0 hR hS (by decide) cell_2 rfl lw_in_X3 tyX3 tyX3_ok nmX3 2 (by decide) uw_27 rfl rfl rfl rfl rfl (Nat.le_of_ble_eq_true rfl) eσ12 cell_2u dX3_readShips_70 (fun H locs hR hS => ?_)
      refine lv_aload_n hx hb dX3_readShips_73 rfl (lv_at hl 2 rfl) ?_
      refine lm_get C0 hR (isL_lt h1) (cell_L h1) rfl lw_in_X1 1 (by decide) uw_42 rfl rfl dX3_readShips_74 ?_
      refine lv_iload_n hx hb dX3_readShips_77 rfl (lv_at hl 3 rfl) ?_
      refine lv_iload_n hx hb dX3_readShips_78 rfl (lv_at hl 0 rfl) ?_
      obtain ⟨z13, hf⟩ := lm_ck_e hf
      obtain ⟨σ14, eσ14, hf⟩ := lm_nm_e hf
      refine lm_istC C0 hR hS (isL_lt2 h1) (cell_L2 h1) z13  eσ14 (cell_L2u h1) dX3_readShips_79 (fun H locs hR hS => ?_)
      refine lv_aload_n hx hb dX3_readShips_80 rfl (lv_at hl 2 rfl) ?_
      refine lm_get C0 hR (isL_lt h1) (cell_L h1) rfl lw_in_X1 2 (by decide) uw_45 rfl rfl dX3_readShips_81 ?_
      refine lv_iload_n hx hb dX3_readShips_84 rfl (lv_at hl 3 rfl) ?_
      refine lv_aload_n hx hb dX3_readShips_85 rfl (lv_at hl 1 rfl) ?_
      refine lv_iconst (v := (0 : Int32)) hx hb dX3_readShips_86 (by decide) ?_
      refine lv_aload_n hx hb dX3_readShips_87 rfl (lv_at hl 2 rfl) ?_
      refine lm_get C0 hR (isL_lt h1) (cell_L h1) rfl lw_in_X1 3 (by decide) uw_48 rfl rfl dX3_readShips_88 ?_
      refine lv_iconst (v := (1 : Int32)) hx hb dX3_readShips_91 (by decide) ?_
      refine lv_isub hx hb dX3_readShips_92 ?_
      obtain ⟨r16, σ17, u15, hf⟩ := lm_bd2_e hf
      refine lm_endi (lm_runV C0 hR hS (c_X3_readNumber u15) (lw_cV 2 hts uw_178 mv_X3_readNumber rfl rfl hd_X3_readNumber ⟨Nat.le_of_ble_eq_true rfl, Nat.le_of_ble_eq_true rfl⟩) (by decide) cell_2 rfl rfl hl rfl (Nat.le_of_ble_eq_true rfl) dX3_readShips_93) hS (fun H locs hR hS => ?_)
      obtain ⟨z18, hf⟩ := lm_ck_e hf
      obtain ⟨σ19, eσ19, hf⟩ := lm_nm_e hf
      refine lm_istC C0 hR hS (isL_lt3 h1) (cell_L3 h1) z18  eσ19 (cell_L3u h1) dX3_readShips_96 (fun H locs hR hS => ?_)
      refine lv_aload_n hx hb dX3_readShips_97 rfl (lv_at hl 2 rfl) ?_
      refine lm_get C0 hR (isL_lt h1) (cell_L h1) rfl lw_in_X1 2 (by decide) uw_45 rfl rfl dX3_readShips_98 ?_
      refine lv_iload_n hx hb dX3_readShips_101 rfl (lv_at hl 3 rfl) ?_
      obtain ⟨z20, hf⟩ := lm_ck_e hf
      refine lm_ild C0 hR (isL_lt3 h1) (cell_L3 h1) z20 dX3_readShips_102 ?_
      refine lv_if_lt (tgt := 115) hx hb dX3_readShips_103 (by decide) (fun b21 => ?_) (fun b21 => ?_)
      · have hf := lm_T b21 hf
        refine lv_iconst (v := (0 : Int32)) hx hb dX3_readShips_115 (by decide) ?_
        exact lm_rzC C0 hR hS hf rfl dX3_readShips_116
      · have hf := lm_F b21 hf
        refine lv_aload_n hx hb dX3_readShips_106 rfl (lv_at hl 1 rfl) ?_
        refine lv_bipush (v := (59 : Int32)) hx hb dX3_readShips_107 (by decide) ?_
        obtain ⟨r23, σ24, u22, hf⟩ := lm_bd2_e hf
        refine lm_endi (lm_runV C0 hR hS (c_X3_readSign u22) (lw_cV 1 hts uw_169 mv_X3_readSign rfl rfl hd_X3_readSign ⟨Nat.le_of_ble_eq_true rfl, Nat.le_of_ble_eq_true rfl⟩) (by decide) cell_2 rfl rfl hl rfl (Nat.le_of_ble_eq_true rfl) dX3_readShips_109) hS (fun H locs hR hS => ?_)
        refine lv_if_ne (tgt := 117) hx hb dX3_readShips_112 (by decide) (fun b25 => ?_) (fun b25 => ?_)
        · have hf := lm_F b25 hf
          refine lv_aload_n hx hb dX3_readShips_117 rfl (lv_at hl 2 rfl) ?_
          refine lv_iload_n hx hb dX3_readShips_118 rfl (lv_at hl 3 rfl) ?_
          refine lv_iconst (v := (1 : Int32)) hx hb dX3_readShips_119 (by decide) ?_
          refine lv_iadd hx hb dX3_readShips_120 ?_
          obtain ⟨σ26, eσ26, hf⟩ := lm_nm_e hf
          refine lm_putC C0 hR hS (isL_lt h1) (cell_L h1) rfl lw_in_X1 tyX1 tyX1_ok nmX1 8 (by decide) uw_63 rfl rfl rfl rfl rfl (Nat.le_of_ble_eq_true rfl) eσ26 (cell_Lu h1) dX3_readShips_121 (fun H locs hR hS => ?_)
          obtain ⟨v27, ev27, hf⟩ := lm_nm_e hf
          refine lv_iinc (v := v27) (lv' := [(2, .int v27), (3, .int r8), (0, .ref (B + 2)), (1, .ref (B + o1))]) hx hb dX3_readShips_124 hl (k := 3) rfl (by rw [ev27]; rfl) (by decide) rfl (fun ls hl => ?_)
          refine lv_goto (tgt := 2) hx hb dX3_readShips_127 (by decide) ?_
          exact hk2 _ _ _ _ _ hR hS (lv_sub hl [2, 3, 0] rfl) hf
        · have hf := lm_T b25 hf
          refine lv_iconst (v := (0 : Int32)) hx hb dX3_readShips_115 (by decide) ?_
          exact lm_rzC C0 hR hS hf rfl dX3_readShips_116
    · have hf := lm_T b11 hf
      refine lv_aload_n hx hb dX3_readShips_53 rfl (lv_at hl 1 rfl) ?_
      refine lv_aload_n hx hb dX3_readShips_54 rfl (lv_at hl 1 rfl) ?_
      refine lm_get C0 hR (by decide) cell_2 rfl lw_in_X3 2 (by decide) uw_27 rfl rfl dX3_readShips_55 ?_
      refine lv_iconst (v := (3 : Int32)) hx hb dX3_readShips_58 (by decide) ?_
      obtain ⟨r29, σ30, u28, hf⟩ := lm_bd2_e hf
      refine lm_endi (lm_runV C0 hR hS (c_X3_failAt u28) (lw_cV 2 hts uw_175 mv_X3_failAt rfl rfl hd_X3_failAt ⟨Nat.le_of_ble_eq_true rfl, Nat.le_of_ble_eq_true rfl⟩) (by decide) cell_2 rfl rfl hl rfl (Nat.le_of_ble_eq_true rfl) dX3_readShips_59) hS (fun H locs hR hS => ?_)
      obtain ⟨z31, hf⟩ := lm_ck_e hf
      exact lm_rzC C0 hR hS hf (lm_boT z31) dX3_readShips_62
  · have hf := lm_T b10 hf
    refine lv_aload_n hx hb dX3_readShips_37 rfl (lv_at hl 1 rfl) ?_
    refine lv_aload_n hx hb dX3_readShips_38 rfl (lv_at hl 1 rfl) ?_
    refine lm_get C0 hR (by decide) cell_2 rfl lw_in_X3 2 (by decide) uw_27 rfl rfl dX3_readShips_39 ?_
    refine lv_iconst (v := (1 : Int32)) hx hb dX3_readShips_42 (by decide) ?_
    obtain ⟨r33, σ34, u32, hf⟩ := lm_bd2_e hf
    refine lm_endi (lm_runV C0 hR hS (c_X3_failAt u32) (lw_cV 2 hts uw_175 mv_X3_failAt rfl rfl hd_X3_failAt ⟨Nat.le_of_ble_eq_true rfl, Nat.le_of_ble_eq_true rfl⟩) (by decide) cell_2 rfl rfl hl rfl (Nat.le_of_ble_eq_true rfl) dX3_readShips_43) hS (fun H locs hR hS => ?_)
    obtain ⟨z35, hf⟩ := lm_ck_e hf
    exact lm_rzC C0 hR hS hf (lm_boT z35) dX3_readShips_46
set_option maxRecDepth 100000 in
set_option maxHeartbeats 4000000 in
theorem w_X3_readShips_2 {o1 : Nat} (h1 : isL o1) {p : Program} {e : Env} {s : State} {m : MethodId} {args : Array Value} {below : List Frame} {meth : Method} {c0 : Code} {τ σ' : Mem} {r : Int32} (C0 : lm_Cx D cI cZ cL cR B p s m args meth c0 cX3_readShips 4 (some .boolean) RX3) : ∀ (n : Nat), ∀ (x2 : Int32) (σ : Mem) (H : Heap) (locs : List Loc) (ls : Array Slot), va_P D vwCl (wl cI cZ cL cR B σ τ) H → va_S (lm_A B) s.heap H locs → lv_has ls 4 [(0, .ref (B + 2)), (1, .ref (B + o1)), (2, .int x2)] → f_X3_readShips_2 o1 n x2 σ = some (r, σ') → W p l e rmX3_readShips s m args below meth c0 H locs 0 0 (MQ below (lm_QI D cI cZ cL cR B r σ' τ) args s 0 0 (lm_A B)) (F0 m 2 ls []) := by
  obtain ⟨hx, hb, hml, hr, hlk, hown, hts, hK, hX⟩ := id C0
  intro n
  induction n with
  | zero =>
    intro x2 σ H locs ls hR hS hl hf
    cases hf
  | succ n ih =>
    intro x2 σ H locs ls hR hS hl hf
    rw [f_X3_readShips_2] at hf
    refine lv_iload_n hx hb dX3_readShips_2 rfl (lv_at hl 2 rfl) ?_
    refine lv_bipush (v := (6 : Int32)) hx hb dX3_readShips_3 (by decide) ?_
    refine lv_icmp_gt (tgt := 130) hx hb dX3_readShips_5 (by decide) (fun b1 => ?_) (fun b1 => ?_)
    · have hf := lm_T b1 hf
      refine lv_iconst (v := (1 : Int32)) hx hb dX3_readShips_130 (by decide) ?_
      exact lm_rzC C0 hR hS hf rfl dX3_readShips_131
    · have hf := lm_F b1 hf
      refine lv_iload_n hx hb dX3_readShips_8 rfl (lv_at hl 2 rfl) ?_
      refine lv_if_le (tgt := 25) hx hb dX3_readShips_9 (by decide) (fun b2 => ?_) (fun b2 => ?_)
      · have hf := lm_T b2 hf
        exact w_X3_readShips_25 h1 C0 ih _ _ _ _ _ hR hS (lv_sub hl [0, 1, 2] rfl) hf
      · have hf := lm_F b2 hf
        refine lv_aload_n hx hb dX3_readShips_12 rfl (lv_at hl 0 rfl) ?_
        refine lm_get C0 hR (by decide) cell_2 rfl lw_in_X3 2 (by decide) uw_27 rfl rfl dX3_readShips_13 ?_
        refine lv_aload_n hx hb dX3_readShips_16 rfl (lv_at hl 0 rfl) ?_
        refine lm_get C0 hR (by decide) cell_2 rfl lw_in_X3 1 (by decide) uw_25 rfl rfl dX3_readShips_17 ?_
        refine lv_icmp_lt (tgt := 25) hx hb dX3_readShips_20 (by decide) (fun b3 => ?_) (fun b3 => ?_)
        · have hf := lm_T b3 hf
          exact w_X3_readShips_25 h1 C0 ih _ _ _ _ _ hR hS (lv_sub hl [0, 1, 2] rfl) hf
        · have hf := lm_F b3 hf
          refine lv_iconst (v := (1 : Int32)) hx hb dX3_readShips_23 (by decide) ?_
          exact lm_rzC C0 hR hS hf rfl dX3_readShips_24
set_option maxRecDepth 100000 in
set_option maxHeartbeats 4000000 in
theorem c_X3_readShips {o1 : Nat} (h1 : isL o1) {σ τ σ' : Mem} {r : Int32}  (hf : f_X3_readShips o1 σ = some (r, σ')) : lm_CI l yX3_readShips wsX3_readShips rmX3_readShips D cI cZ cL cR B [.ref (B + 2), .ref (B + o1)] σ τ r σ' τ := by
  unfold f_X3_readShips at hf
  refine lm_of (cc := cX3_readShips) (maxL := 4) (ret := (some .boolean)) (own := RX3) (by decide) rfl (Nat.le_of_ble_eq_true rfl) (fun p e s m below meth c0 C0 hR ls hl => ?_)
  have hS : va_S (lm_A B) s.heap s.heap [] := va_S.rf
  have hl : lv_has ls 4 [(0, .ref (B + 2)), (1, .ref (B + o1))] := hl
  obtain ⟨hx, hb, hml, hr, hlk, hown, hts, hK, hX⟩ := id C0
  refine lv_iconst (v := (0 : Int32)) hx hb dX3_readShips_0 (by decide) ?_
  refine lv_istore_n (lv' := [(2, .int (0 : Int32)), (0, .ref (B + 2)), (1, .ref (B + o1))]) hx hb dX3_readShips_1 rfl hl (by decide) rfl (fun ls hl => ?_)
  exact w_X3_readShips_2 h1 C0 _ _ _ _ _ _ hR hS (lv_sub hl [1, 2, 0] rfl) hf
end
/-! ===== X3_readInto ===== -/
abbrev rmX3_readInto : Room := { frames := 3, cells := 0, slots := 0, locals := 69 }
def f_X3_readInto (o1 : Nat) (σ : Mem) : Option (Int32 × Mem) := lm_nm (up σ 2 2 (0 : Int32)) fun σ1 => lm_bd (f_X1_clear o1 σ1) fun σ4 => lm_bd2 (f_X3_readLaw o1 σ4) fun r6 σ7 => if r6 = 0 then (some ((0 : Int32), σ7)) else (lm_bd2 (f_X3_readFogs o1 σ7) fun r10 σ11 => if r10 = 0 then (some ((0 : Int32), σ11)) else (lm_bd2 (f_X3_readShips o1 σ11) fun r14 σ15 => if r14 = 0 then (some ((0 : Int32), σ15)) else (some ((1 : Int32), σ15))))
abbrev wsX3_readInto : List Cond := Cond.code yX3_readInto cX3_readInto 2 (some .boolean) :: lw_u
theorem mv_X3_readInto : Cond.instanceMethod yX3_readInto ∈ lw_u ∧ Cond.selects yX3_readInto.cls yX3_readInto yX3_readInto ∈ lw_u ∧ Cond.initialized yX3_readInto.cls ∈ lw_u ∧ Cond.code yX3_readInto cX3_readInto 2 (some .boolean) ∈ lw_u := ⟨uw_159, uw_160, uw_2, uw_161⟩
theorem hd_X3_readInto : yX3_readInto.cls ≠ "java/lang/invoke/MethodHandle" ∧ yX3_readInto.cls ≠ "java/lang/invoke/VarHandle" ∧ (parseMethodDescriptor yX3_readInto.desc).map (fun d => d.parameters.length) = some 1 := by decide +kernel
section
variable {l : Launch} {D : va_G} {cI cZ cL cR : ClassId} {B : Nat}
set_option maxRecDepth 100000 in
set_option maxHeartbeats 4000000 in
theorem c_X3_readInto {o1 : Nat} (h1 : isL o1) {σ τ σ' : Mem} {r : Int32}  (hf : f_X3_readInto o1 σ = some (r, σ')) : lm_CI l yX3_readInto wsX3_readInto rmX3_readInto D cI cZ cL cR B [.ref (B + 2), .ref (B + o1)] σ τ r σ' τ := by
  unfold f_X3_readInto at hf
  refine lm_of (cc := cX3_readInto) (maxL := 2) (ret := (some .boolean)) (own := RX3) (by decide) rfl (Nat.le_of_ble_eq_true rfl) (fun p e s m below meth c0 C0 hR ls hl => ?_)
  have hS : va_S (lm_A B) s.heap s.heap [] := va_S.rf
  have hl : lv_has ls 2 [(0, .ref (B + 2)), (1, .ref (B + o1))] := hl
  obtain ⟨hx, hb, hml, hr, hlk, hown, hts, hK, hX⟩ := id C0
  refine lv_aload_n hx hb dX3_readInto_0 rfl (lv_at hl 0 rfl) ?_
  refine lv_iconst (v := (0 : Int32)) hx hb dX3_readInto_1 (by decide) ?_
  obtain ⟨σ1, eσ1, hf⟩ := lm_nm_e hf
  refine lm_putC C0 hR hS (by decide) cell_2 rfl lw_in_X3 tyX3 tyX3_ok nmX3 2 (by decide) uw_27 rfl rfl rfl rfl rfl (Nat.le_of_ble_eq_true rfl) eσ1 cell_2u dX3_readInto_2 (fun H locs hR hS => ?_)
  refine lv_aload_n hx hb dX3_readInto_5 rfl (lv_at hl 1 rfl) ?_
  obtain ⟨σ4, u2, hf⟩ := lm_bd_e hf
  refine lm_endv (lm_runV C0 hR hS (c_X1_clear h1 u2) (lw_cV 0 hts uw_162 mv_X1_clear rfl rfl hd_X1_clear ⟨Nat.le_of_ble_eq_true rfl, Nat.le_of_ble_eq_true rfl⟩) (isL_lt h1) (cell_L h1) rfl rfl hl rfl (Nat.le_of_ble_eq_true rfl) dX3_readInto_6) hS (fun H locs hR hS => ?_)
  refine lv_aload_n hx hb dX3_readInto_9 rfl (lv_at hl 0 rfl) ?_
  refine lv_aload_n hx hb dX3_readInto_10 rfl (lv_at hl 1 rfl) ?_
  obtain ⟨r6, σ7, u5, hf⟩ := lm_bd2_e hf
  refine lm_endi (lm_runV C0 hR hS (c_X3_readLaw h1 u5) (lw_cV 1 hts uw_166 mv_X3_readLaw rfl rfl hd_X3_readLaw ⟨Nat.le_of_ble_eq_true rfl, Nat.le_of_ble_eq_true rfl⟩) (by decide) cell_2 rfl rfl hl rfl (Nat.le_of_ble_eq_true rfl) dX3_readInto_11) hS (fun H locs hR hS => ?_)
  refine lv_if_eq (tgt := 37) hx hb dX3_readInto_14 (by decide) (fun b8 => ?_) (fun b8 => ?_)
  · have hf := lm_T b8 hf
    refine lv_iconst (v := (0 : Int32)) hx hb dX3_readInto_37 (by decide) ?_
    exact lm_rzC C0 hR hS hf rfl dX3_readInto_38
  · have hf := lm_F b8 hf
    refine lv_aload_n hx hb dX3_readInto_17 rfl (lv_at hl 0 rfl) ?_
    refine lv_aload_n hx hb dX3_readInto_18 rfl (lv_at hl 1 rfl) ?_
    obtain ⟨r10, σ11, u9, hf⟩ := lm_bd2_e hf
    refine lm_endi (lm_runV C0 hR hS (c_X3_readFogs h1 u9) (lw_cV 1 hts uw_183 mv_X3_readFogs rfl rfl hd_X3_readFogs ⟨Nat.le_of_ble_eq_true rfl, Nat.le_of_ble_eq_true rfl⟩) (by decide) cell_2 rfl rfl hl rfl (Nat.le_of_ble_eq_true rfl) dX3_readInto_19) hS (fun H locs hR hS => ?_)
    refine lv_if_eq (tgt := 37) hx hb dX3_readInto_22 (by decide) (fun b12 => ?_) (fun b12 => ?_)
    · have hf := lm_T b12 hf
      refine lv_iconst (v := (0 : Int32)) hx hb dX3_readInto_37 (by decide) ?_
      exact lm_rzC C0 hR hS hf rfl dX3_readInto_38
    · have hf := lm_F b12 hf
      refine lv_aload_n hx hb dX3_readInto_25 rfl (lv_at hl 0 rfl) ?_
      refine lv_aload_n hx hb dX3_readInto_26 rfl (lv_at hl 1 rfl) ?_
      obtain ⟨r14, σ15, u13, hf⟩ := lm_bd2_e hf
      refine lm_endi (lm_runV C0 hR hS (c_X3_readShips h1 u13) (lw_cV 1 hts uw_186 mv_X3_readShips rfl rfl hd_X3_readShips ⟨Nat.le_of_ble_eq_true rfl, Nat.le_of_ble_eq_true rfl⟩) (by decide) cell_2 rfl rfl hl rfl (Nat.le_of_ble_eq_true rfl) dX3_readInto_27) hS (fun H locs hR hS => ?_)
      refine lv_if_eq (tgt := 37) hx hb dX3_readInto_30 (by decide) (fun b16 => ?_) (fun b16 => ?_)
      · have hf := lm_T b16 hf
        refine lv_iconst (v := (0 : Int32)) hx hb dX3_readInto_37 (by decide) ?_
        exact lm_rzC C0 hR hS hf rfl dX3_readInto_38
      · have hf := lm_F b16 hf
        refine lv_iconst (v := (1 : Int32)) hx hb dX3_readInto_33 (by decide) ?_
        refine lv_goto (tgt := 38) hx hb dX3_readInto_34 (by decide) ?_
        exact lm_rzC C0 hR hS hf rfl dX3_readInto_38
end
/-! ===== X4_found ===== -/
abbrev rmX4_found : Room := { frames := 0, cells := 0, slots := 0, locals := 0 }
def f_X4_found (σ : Mem) (p1 : Int32) : Option (Int32 × Mem) := lm_nm (up σ 0 10 p1) fun σ1 => some (((-1000010 : Int32) - p1), σ1)
abbrev wsX4_found : List Cond := Cond.code yX4_found cX4_found 2 (some .int) :: lw_u
theorem mv_X4_found : Cond.instanceMethod yX4_found ∈ lw_u ∧ Cond.selects yX4_found.cls yX4_found yX4_found ∈ lw_u ∧ Cond.initialized yX4_found.cls ∈ lw_u ∧ Cond.code yX4_found cX4_found 2 (some .int) ∈ lw_u := ⟨uw_107, uw_846, uw_1, uw_108⟩
theorem hd_X4_found : yX4_found.cls ≠ "java/lang/invoke/MethodHandle" ∧ yX4_found.cls ≠ "java/lang/invoke/VarHandle" ∧ (parseMethodDescriptor yX4_found.desc).map (fun d => d.parameters.length) = some 1 := by decide +kernel
section
variable {l : Launch} {D : va_G} {cI cZ cL cR : ClassId} {B : Nat}
set_option maxRecDepth 100000 in
set_option maxHeartbeats 4000000 in
theorem c_X4_found {σ τ σ' : Mem} {p1 : Int32} {r : Int32}  (hf : f_X4_found σ p1 = some (r, σ')) : lm_CI l yX4_found wsX4_found rmX4_found D cI cZ cL cR B [.ref (B + 0), .int p1] σ τ r σ' τ := by
  unfold f_X4_found at hf
  refine lm_of (cc := cX4_found) (maxL := 2) (ret := (some .int)) (own := RX4) (by decide) rfl (Nat.le_of_ble_eq_true rfl) (fun p e s m below meth c0 C0 hR ls hl => ?_)
  have hS : va_S (lm_A B) s.heap s.heap [] := va_S.rf
  have hl : lv_has ls 2 [(0, .ref (B + 0)), (1, .int p1)] := hl
  obtain ⟨hx, hb, hml, hr, hlk, hown, hts, hK, hX⟩ := id C0
  refine lv_aload_n hx hb dX4_found_0 rfl (lv_at hl 0 rfl) ?_
  refine lv_iload_n hx hb dX4_found_1 rfl (lv_at hl 1 rfl) ?_
  obtain ⟨σ1, eσ1, hf⟩ := lm_nm_e hf
  refine lm_putC C0 hR hS (by decide) cell_0 rfl lw_in_X4 tyX4 tyX4_ok nmX4 10 (by decide) uw_97 rfl rfl rfl rfl rfl (Nat.le_of_ble_eq_true rfl) eσ1 cell_0u dX4_found_2 (fun H locs hR hS => ?_)
  refine lv_ldcw hx hb hown (hts _ uw_109) dX4_found_5 ?_
  refine lv_iload_n hx hb dX4_found_8 rfl (lv_at hl 1 rfl) ?_
  refine lv_isub hx hb dX4_found_9 ?_
  exact lm_riC C0 hR hS hf dX4_found_10
end
/-! ===== X4_isBelow ===== -/
abbrev rmX4_isBelow : Room := { frames := 0, cells := 0, slots := 0, locals := 0 }
def f_X4_isBelow (p0 : Int32) (p1 : Int32) : Option (Int32) := if p0 < 0 then (some (0 : Int32)) else (if p1 ≤ p0 then (some (0 : Int32)) else (some (1 : Int32)))
abbrev wsX4_isBelow : List Cond := Cond.code yX4_isBelow cX4_isBelow 2 (some .boolean) :: lw_u
theorem mv_X4_isBelow : Cond.static yX4_isBelow ∈ lw_u ∧ Cond.initialized yX4_isBelow.cls ∈ lw_u ∧ Cond.code yX4_isBelow cX4_isBelow 2 (some .boolean) ∈ lw_u := ⟨uw_103, uw_1, uw_104⟩
theorem hd_X4_isBelow : yX4_isBelow.cls ≠ "java/lang/invoke/MethodHandle" ∧ yX4_isBelow.cls ≠ "java/lang/invoke/VarHandle" ∧ (parseMethodDescriptor yX4_isBelow.desc).map (fun d => d.parameters.length) = some 2 := by decide +kernel
section
variable {l : Launch} {D : va_G} {cI cZ cL cR : ClassId} {B : Nat}
set_option maxRecDepth 100000 in
set_option maxHeartbeats 4000000 in
theorem c_X4_isBelow {σ τ : Mem} {p0 : Int32} {p1 : Int32} {r : Int32}  (hf : f_X4_isBelow p0 p1 = some r) : lm_CI l yX4_isBelow wsX4_isBelow rmX4_isBelow D cI cZ cL cR B [.int p0, .int p1] σ τ r σ τ := by
  unfold f_X4_isBelow at hf
  refine lm_of (cc := cX4_isBelow) (maxL := 2) (ret := (some .boolean)) (own := RX4) (by decide) rfl (Nat.le_of_ble_eq_true rfl) (fun p e s m below meth c0 C0 hR ls hl => ?_)
  have hS : va_S (lm_A B) s.heap s.heap [] := va_S.rf
  have hl : lv_has ls 2 [(0, .int p0), (1, .int p1)] := hl
  obtain ⟨hx, hb, hml, hr, hlk, hown, hts, hK, hX⟩ := id C0
  refine lv_iload_n hx hb dX4_isBelow_0 rfl (lv_at hl 0 rfl) ?_
  refine lv_if_lt (tgt := 13) hx hb dX4_isBelow_1 (by decide) (fun b1 => ?_) (fun b1 => ?_)
  · have hf := lm_T b1 hf
    refine lv_iconst (v := (0 : Int32)) hx hb dX4_isBelow_13 (by decide) ?_
    exact lm_rzP C0 hR hS hf rfl dX4_isBelow_14
  · have hf := lm_F b1 hf
    refine lv_iload_n hx hb dX4_isBelow_4 rfl (lv_at hl 0 rfl) ?_
    refine lv_iload_n hx hb dX4_isBelow_5 rfl (lv_at hl 1 rfl) ?_
    refine lv_icmp_ge (tgt := 13) hx hb dX4_isBelow_6 (by decide) (fun b2 => ?_) (fun b2 => ?_)
    · have hf := lm_T b2 hf
      refine lv_iconst (v := (0 : Int32)) hx hb dX4_isBelow_13 (by decide) ?_
      exact lm_rzP C0 hR hS hf rfl dX4_isBelow_14
    · have hf := lm_F b2 hf
      refine lv_iconst (v := (1 : Int32)) hx hb dX4_isBelow_9 (by decide) ?_
      refine lv_goto (tgt := 14) hx hb dX4_isBelow_10 (by decide) ?_
      exact lm_rzP C0 hR hS hf rfl dX4_isBelow_14
end
/-! ===== X4_unfound ===== -/
abbrev rmX4_unfound : Room := { frames := 0, cells := 0, slots := 0, locals := 0 }
def f_X4_unfound (σ : Mem) (p1 : Int32) : Option (Int32 × Mem) := lm_nm (up σ 0 10 (0 : Int32)) fun σ1 => some (p1, σ1)
abbrev wsX4_unfound : List Cond := Cond.code yX4_unfound cX4_unfound 2 (some .int) :: lw_u
theorem mv_X4_unfound : Cond.instanceMethod yX4_unfound ∈ lw_u ∧ Cond.selects yX4_unfound.cls yX4_unfound yX4_unfound ∈ lw_u ∧ Cond.initialized yX4_unfound.cls ∈ lw_u ∧ Cond.code yX4_unfound cX4_unfound 2 (some .int) ∈ lw_u := ⟨uw_115, uw_847, uw_1, uw_116⟩
theorem hd_X4_unfound : yX4_unfound.cls ≠ "java/lang/invoke/MethodHandle" ∧ yX4_unfound.cls ≠ "java/lang/invoke/VarHandle" ∧ (parseMethodDescriptor yX4_unfound.desc).map (fun d => d.parameters.length) = some 1 := by decide +kernel
section
variable {l : Launch} {D : va_G} {cI cZ cL cR : ClassId} {B : Nat}
set_option maxRecDepth 100000 in
set_option maxHeartbeats 4000000 in
theorem c_X4_unfound {σ τ σ' : Mem} {p1 : Int32} {r : Int32}  (hf : f_X4_unfound σ p1 = some (r, σ')) : lm_CI l yX4_unfound wsX4_unfound rmX4_unfound D cI cZ cL cR B [.ref (B + 0), .int p1] σ τ r σ' τ := by
  unfold f_X4_unfound at hf
  refine lm_of (cc := cX4_unfound) (maxL := 2) (ret := (some .int)) (own := RX4) (by decide) rfl (Nat.le_of_ble_eq_true rfl) (fun p e s m below meth c0 C0 hR ls hl => ?_)
  have hS : va_S (lm_A B) s.heap s.heap [] := va_S.rf
  have hl : lv_has ls 2 [(0, .ref (B + 0)), (1, .int p1)] := hl
  obtain ⟨hx, hb, hml, hr, hlk, hown, hts, hK, hX⟩ := id C0
  refine lv_aload_n hx hb dX4_unfound_0 rfl (lv_at hl 0 rfl) ?_
  refine lv_iconst (v := (0 : Int32)) hx hb dX4_unfound_1 (by decide) ?_
  obtain ⟨σ1, eσ1, hf⟩ := lm_nm_e hf
  refine lm_putC C0 hR hS (by decide) cell_0 rfl lw_in_X4 tyX4 tyX4_ok nmX4 10 (by decide) uw_97 rfl rfl rfl rfl rfl (Nat.le_of_ble_eq_true rfl) eσ1 cell_0u dX4_unfound_2 (fun H locs hR hS => ?_)
  refine lv_iload_n hx hb dX4_unfound_5 rfl (lv_at hl 1 rfl) ?_
  exact lm_riC C0 hR hS hf dX4_unfound_6
end
/-! ===== X4_row ===== -/
abbrev rmX4_row : Room := { frames := 1, cells := 0, slots := 0, locals := 23 }
def f_X4_row (σ : Mem) (p1 : Int32) (p2 : Int32) (p3 : Int32) : Option (Int32 × Mem) := lm_bd (f_X4_isBelow p1 (8 : Int32)) fun r2 => if r2 = 0 then (some ((-1000001 : Int32), σ)) else (lm_bd (f_X4_isBelow p2 (3 : Int32)) fun r6 => if r6 = 0 then (some ((-1000001 : Int32), σ)) else (if p3 ≤ (40 : Int32) then (if 0 ≤ p3 then (lm_ck (lm_in p1 8) (lm_bd (f_X2_begin (116 + 2 * p1.toNatClampNeg) σ p2 p3) fun σ14 => lm_bd2 (f_X4_unfound σ14 p3) fun r16 σ17 => some (r16, σ17))) else (lm_bd2 (f_X4_found σ (4 : Int32)) fun r19 σ20 => some (r19, σ20))) else (some ((-1000001 : Int32), σ))))
abbrev wsX4_row : List Cond := Cond.code yX4_row cX4_row 4 (some .int) :: lw_u
theorem mv_X4_row : Cond.instanceMethod yX4_row ∈ lw_u ∧ Cond.selects yX4_row.cls yX4_row yX4_row ∈ lw_u ∧ Cond.initialized yX4_row.cls ∈ lw_u ∧ Cond.code yX4_row cX4_row 4 (some .int) ∈ lw_u := ⟨uw_99, uw_100, uw_1, uw_101⟩
theorem hd_X4_row : yX4_row.cls ≠ "java/lang/invoke/MethodHandle" ∧ yX4_row.cls ≠ "java/lang/invoke/VarHandle" ∧ (parseMethodDescriptor yX4_row.desc).map (fun d => d.parameters.length) = some 3 := by decide +kernel
section
variable {l : Launch} {D : va_G} {cI cZ cL cR : ClassId} {B : Nat}
set_option maxRecDepth 100000 in
set_option maxHeartbeats 4000000 in
theorem c_X4_row {σ τ σ' : Mem} {p1 : Int32} {p2 : Int32} {p3 : Int32} {r : Int32}  (hf : f_X4_row σ p1 p2 p3 = some (r, σ')) : lm_CI l yX4_row wsX4_row rmX4_row D cI cZ cL cR B [.ref (B + 0), .int p1, .int p2, .int p3] σ τ r σ' τ := by
  unfold f_X4_row at hf
  refine lm_of (cc := cX4_row) (maxL := 4) (ret := (some .int)) (own := RX4) (by decide) rfl (Nat.le_of_ble_eq_true rfl) (fun p e s m below meth c0 C0 hR ls hl => ?_)
  have hS : va_S (lm_A B) s.heap s.heap [] := va_S.rf
  have hl : lv_has ls 4 [(0, .ref (B + 0)), (1, .int p1), (2, .int p2), (3, .int p3)] := hl
  obtain ⟨hx, hb, hml, hr, hlk, hown, hts, hK, hX⟩ := id C0
  refine lv_iload_n hx hb dX4_row_0 rfl (lv_at hl 1 rfl) ?_
  refine lv_bipush (v := (8 : Int32)) hx hb dX4_row_1 (by decide) ?_
  obtain ⟨r2, u1, hf⟩ := lm_bd_e hf
  refine lm_endi (lm_runS C0 hR hS (c_X4_isBelow u1) (lw_cS 2 hts uw_102 mv_X4_isBelow rfl rfl hd_X4_isBelow ⟨Nat.le_of_ble_eq_true rfl, Nat.le_of_ble_eq_true rfl⟩) rfl hl rfl (Nat.le_of_ble_eq_true rfl) dX4_row_3) hS (fun H locs hR hS => ?_)
  refine lv_if_eq (tgt := 23) hx hb dX4_row_6 (by decide) (fun b4 => ?_) (fun b4 => ?_)
  · have hf := lm_T b4 hf
    refine lv_ldc hx hb hown (hts _ uw_105) dX4_row_23 ?_
    exact lm_riC C0 hR hS hf dX4_row_25
  · have hf := lm_F b4 hf
    refine lv_iload_n hx hb dX4_row_9 rfl (lv_at hl 2 rfl) ?_
    refine lv_iconst (v := (3 : Int32)) hx hb dX4_row_10 (by decide) ?_
    obtain ⟨r6, u5, hf⟩ := lm_bd_e hf
    refine lm_endi (lm_runS C0 hR hS (c_X4_isBelow u5) (lw_cS 2 hts uw_102 mv_X4_isBelow rfl rfl hd_X4_isBelow ⟨Nat.le_of_ble_eq_true rfl, Nat.le_of_ble_eq_true rfl⟩) rfl hl rfl (Nat.le_of_ble_eq_true rfl) dX4_row_11) hS (fun H locs hR hS => ?_)
    refine lv_if_eq (tgt := 23) hx hb dX4_row_14 (by decide) (fun b8 => ?_) (fun b8 => ?_)
    · have hf := lm_T b8 hf
      refine lv_ldc hx hb hown (hts _ uw_105) dX4_row_23 ?_
      exact lm_riC C0 hR hS hf dX4_row_25
    · have hf := lm_F b8 hf
      refine lv_iload_n hx hb dX4_row_17 rfl (lv_at hl 3 rfl) ?_
      refine lv_bipush (v := (40 : Int32)) hx hb dX4_row_18 (by decide) ?_
      refine lv_icmp_le (tgt := 26) hx hb dX4_row_20 (by decide) (fun b9 => ?_) (fun b9 => ?_)
      · have hf := lm_T b9 hf
        refine lv_iload_n hx hb dX4_row_26 rfl (lv_at hl 3 rfl) ?_
        refine lv_if_ge (tgt := 36) hx hb dX4_row_27 (by decide) (fun b10 => ?_) (fun b10 => ?_)
        · have hf := lm_T b10 hf
          refine lv_aload_n hx hb dX4_row_36 rfl (lv_at hl 0 rfl) ?_
          refine lm_get C0 hR (by decide) cell_0 rfl lw_in_X4 0 (by decide) uw_87 rfl rfl dX4_row_37 ?_
          refine lv_iload_n hx hb dX4_row_40 rfl (lv_at hl 1 rfl) ?_
          obtain ⟨z11, hf⟩ := lm_ck_e hf
          refine lm_ald C0 hR (t0 := 3) (by decide) cell_1 rfl z11 rfl dX4_row_41 ?_
          refine lv_iload_n hx hb dX4_row_42 rfl (lv_at hl 2 rfl) ?_
          refine lv_iload_n hx hb dX4_row_43 rfl (lv_at hl 3 rfl) ?_
          obtain ⟨σ14, u12, hf⟩ := lm_bd_e hf
          refine lm_endv (lm_runV C0 hR hS (c_X2_begin (isR_row z11) u12) (lw_cV 2 hts uw_110 mv_X2_begin rfl rfl hd_X2_begin ⟨Nat.le_of_ble_eq_true rfl, Nat.le_of_ble_eq_true rfl⟩) (isR_lt (isR_row z11)) (cell_R (isR_row z11)) rfl rfl hl rfl (Nat.le_of_ble_eq_true rfl) dX4_row_44) hS (fun H locs hR hS => ?_)
          refine lv_aload_n hx hb dX4_row_47 rfl (lv_at hl 0 rfl) ?_
          refine lv_iload_n hx hb dX4_row_48 rfl (lv_at hl 3 rfl) ?_
          obtain ⟨r16, σ17, u15, hf⟩ := lm_bd2_e hf
          refine lm_endi (lm_runV C0 hR hS (c_X4_unfound u15) (lw_cV 1 hts uw_114 mv_X4_unfound rfl rfl hd_X4_unfound ⟨Nat.le_of_ble_eq_true rfl, Nat.le_of_ble_eq_true rfl⟩) (by decide) cell_0 rfl rfl hl rfl (Nat.le_of_ble_eq_true rfl) dX4_row_49) hS (fun H locs hR hS => ?_)
          exact lm_riC C0 hR hS hf dX4_row_52
        · have hf := lm_F b10 hf
          refine lv_aload_n hx hb dX4_row_30 rfl (lv_at hl 0 rfl) ?_
          refine lv_iconst (v := (4 : Int32)) hx hb dX4_row_31 (by decide) ?_
          obtain ⟨r19, σ20, u18, hf⟩ := lm_bd2_e hf
          refine lm_endi (lm_runV C0 hR hS (c_X4_found u18) (lw_cV 1 hts uw_106 mv_X4_found rfl rfl hd_X4_found ⟨Nat.le_of_ble_eq_true rfl, Nat.le_of_ble_eq_true rfl⟩) (by decide) cell_0 rfl rfl hl rfl (Nat.le_of_ble_eq_true rfl) dX4_row_32) hS (fun H locs hR hS => ?_)
          exact lm_riC C0 hR hS hf dX4_row_35
      · have hf := lm_F b9 hf
        refine lv_ldc hx hb hown (hts _ uw_105) dX4_row_23 ?_
        exact lm_riC C0 hR hS hf dX4_row_25
end
/-! ===== X4_set ===== -/
abbrev rmX4_set : Room := { frames := 2, cells := 0, slots := 0, locals := 44 }
def f_X4_set (σ : Mem) (p1 : Int32) (p2 : Int32) (p3 : Int32) : Option (Int32 × Mem) := lm_bd (f_X4_isBelow p1 (8 : Int32)) fun r2 => if r2 = 0 then (some ((-1000001 : Int32), σ)) else (lm_ck (lm_in p1 8) (lm_bd (f_X2_findingOf (116 + 2 * p1.toNatClampNeg) σ p2 (1 : Int32)) fun r7 => if r7 = 0 then (lm_bd2 (f_X2_put (116 + 2 * p1.toNatClampNeg) σ p2 p3) fun r11 σ12 => lm_bd2 (f_X4_unfound σ12 r11) fun r14 σ15 => some (r14, σ15)) else (lm_bd2 (f_X4_found σ r7) fun r17 σ18 => some (r17, σ18))))
abbrev wsX4_set : List Cond := Cond.code yX4_set cX4_set 6 (some .int) :: lw_u
theorem mv_X4_set : Cond.instanceMethod yX4_set ∈ lw_u ∧ Cond.selects yX4_set.cls yX4_set yX4_set ∈ lw_u ∧ Cond.initialized yX4_set.cls ∈ lw_u ∧ Cond.code yX4_set cX4_set 6 (some .int) ∈ lw_u := ⟨uw_118, uw_119, uw_1, uw_120⟩
theorem hd_X4_set : yX4_set.cls ≠ "java/lang/invoke/MethodHandle" ∧ yX4_set.cls ≠ "java/lang/invoke/VarHandle" ∧ (parseMethodDescriptor yX4_set.desc).map (fun d => d.parameters.length) = some 3 := by decide +kernel
section
variable {l : Launch} {D : va_G} {cI cZ cL cR : ClassId} {B : Nat}
set_option maxRecDepth 100000 in
set_option maxHeartbeats 4000000 in
theorem c_X4_set {σ τ σ' : Mem} {p1 : Int32} {p2 : Int32} {p3 : Int32} {r : Int32}  (hf : f_X4_set σ p1 p2 p3 = some (r, σ')) : lm_CI l yX4_set wsX4_set rmX4_set D cI cZ cL cR B [.ref (B + 0), .int p1, .int p2, .int p3] σ τ r σ' τ := by
  unfold f_X4_set at hf
  refine lm_of (cc := cX4_set) (maxL := 6) (ret := (some .int)) (own := RX4) (by decide) rfl (Nat.le_of_ble_eq_true rfl) (fun p e s m below meth c0 C0 hR ls hl => ?_)
  have hS : va_S (lm_A B) s.heap s.heap [] := va_S.rf
  have hl : lv_has ls 6 [(0, .ref (B + 0)), (1, .int p1), (2, .int p2), (3, .int p3)] := hl
  obtain ⟨hx, hb, hml, hr, hlk, hown, hts, hK, hX⟩ := id C0
  refine lv_iload_n hx hb dX4_set_0 rfl (lv_at hl 1 rfl) ?_
  refine lv_bipush (v := (8 : Int32)) hx hb dX4_set_1 (by decide) ?_
  obtain ⟨r2, u1, hf⟩ := lm_bd_e hf
  refine lm_endi (lm_runS C0 hR hS (c_X4_isBelow u1) (lw_cS 2 hts uw_102 mv_X4_isBelow rfl rfl hd_X4_isBelow ⟨Nat.le_of_ble_eq_true rfl, Nat.le_of_ble_eq_true rfl⟩) rfl hl rfl (Nat.le_of_ble_eq_true rfl) dX4_set_3) hS (fun H locs hR hS => ?_)
  refine lv_if_ne (tgt := 12) hx hb dX4_set_6 (by decide) (fun b4 => ?_) (fun b4 => ?_)
  · have hf := lm_F b4 hf
    refine lv_aload_n hx hb dX4_set_12 rfl (lv_at hl 0 rfl) ?_
    refine lm_get C0 hR (by decide) cell_0 rfl lw_in_X4 0 (by decide) uw_87 rfl rfl dX4_set_13 ?_
    refine lv_iload_n hx hb dX4_set_16 rfl (lv_at hl 1 rfl) ?_
    obtain ⟨z5, hf⟩ := lm_ck_e hf
    refine lm_ald C0 hR (t0 := 3) (by decide) cell_1 rfl z5 rfl dX4_set_17 ?_
    refine lv_astore (lv' := [(4, .ref (B + (116 + 2 * p1.toNatClampNeg))), (0, .ref (B + 0)), (1, .int p1), (2, .int p2), (3, .int p3)]) hx hb dX4_set_18 hl (by decide) rfl (fun ls hl => ?_)
    refine lv_aload hx hb dX4_set_20 (lv_at hl 0 rfl) ?_
    refine lv_iload_n hx hb dX4_set_22 rfl (lv_at hl 3 rfl) ?_
    refine lv_iconst (v := (1 : Int32)) hx hb dX4_set_23 (by decide) ?_
    obtain ⟨r7, u6, hf⟩ := lm_bd_e hf
    refine lm_endi (lm_runV C0 hR hS (c_X2_findingOf (isR_row z5) u6) (lw_cV 2 hts uw_121 mv_X2_findingOf rfl rfl hd_X2_findingOf ⟨Nat.le_of_ble_eq_true rfl, Nat.le_of_ble_eq_true rfl⟩) (isR_lt (isR_row z5)) (cell_R (isR_row z5)) rfl rfl hl rfl (Nat.le_of_ble_eq_true rfl) dX4_set_24) hS (fun H locs hR hS => ?_)
    refine lv_istore (lv' := [(5, .int r7), (4, .ref (B + (116 + 2 * p1.toNatClampNeg))), (0, .ref (B + 0)), (1, .int p1), (2, .int p2), (3, .int p3)]) hx hb dX4_set_27 hl (by decide) rfl (fun ls hl => ?_)
    refine lv_iload hx hb dX4_set_29 (lv_at hl 0 rfl) ?_
    refine lv_if_eq (tgt := 41) hx hb dX4_set_31 (by decide) (fun b9 => ?_) (fun b9 => ?_)
    · have hf := lm_T b9 hf
      refine lv_aload_n hx hb dX4_set_41 rfl (lv_at hl 2 rfl) ?_
      refine lv_aload hx hb dX4_set_42 (lv_at hl 1 rfl) ?_
      refine lv_iload_n hx hb dX4_set_44 rfl (lv_at hl 4 rfl) ?_
      refine lv_iload_n hx hb dX4_set_45 rfl (lv_at hl 5 rfl) ?_
      obtain ⟨r11, σ12, u10, hf⟩ := lm_bd2_e hf
      refine lm_endi (lm_runV C0 hR hS (c_X2_put (isR_row z5) u10) (lw_cV 2 hts uw_129 mv_X2_put rfl rfl hd_X2_put ⟨Nat.le_of_ble_eq_true rfl, Nat.le_of_ble_eq_true rfl⟩) (isR_lt (isR_row z5)) (cell_R (isR_row z5)) rfl rfl hl rfl (Nat.le_of_ble_eq_true rfl) dX4_set_46) hS (fun H locs hR hS => ?_)
      obtain ⟨r14, σ15, u13, hf⟩ := lm_bd2_e hf
      refine lm_endi (lm_runV C0 hR hS (c_X4_unfound u13) (lw_cV 1 hts uw_114 mv_X4_unfound rfl rfl hd_X4_unfound ⟨Nat.le_of_ble_eq_true rfl, Nat.le_of_ble_eq_true rfl⟩) (by decide) cell_0 rfl rfl hl rfl (Nat.le_of_ble_eq_true rfl) dX4_set_49) hS (fun H locs hR hS => ?_)
      exact lm_riC C0 hR hS hf dX4_set_52
    · have hf := lm_F b9 hf
      refine lv_aload_n hx hb dX4_set_34 rfl (lv_at hl 2 rfl) ?_
      refine lv_iload hx hb dX4_set_35 (lv_at hl 0 rfl) ?_
      obtain ⟨r17, σ18, u16, hf⟩ := lm_bd2_e hf
      refine lm_endi (lm_runV C0 hR hS (c_X4_found u16) (lw_cV 1 hts uw_106 mv_X4_found rfl rfl hd_X4_found ⟨Nat.le_of_ble_eq_true rfl, Nat.le_of_ble_eq_true rfl⟩) (by decide) cell_0 rfl rfl hl rfl (Nat.le_of_ble_eq_true rfl) dX4_set_37) hS (fun H locs hR hS => ?_)
      exact lm_riC C0 hR hS hf dX4_set_40
  · have hf := lm_T b4 hf
    refine lv_ldc hx hb hown (hts _ uw_105) dX4_set_9 ?_
    exact lm_riC C0 hR hS hf dX4_set_11
end
/-! ===== X4_copy ===== -/
abbrev rmX4_copy : Room := { frames := 1, cells := 0, slots := 0, locals := 60 }
def f_X4_copy (σ : Mem) (p1 : Int32) (p2 : Int32) (p3 : Int32) (p4 : Int32) (p5 : Int32) : Option (Int32 × Mem) := lm_bd (f_X4_isBelow p1 (8 : Int32)) fun r2 => if r2 = 0 then (some ((-1000001 : Int32), σ)) else (lm_bd (f_X4_isBelow p3 (8 : Int32)) fun r6 => if r6 = 0 then (some ((-1000001 : Int32), σ)) else (lm_ck (lm_in p1 8) (lm_ck (lm_in p3 8) (if (σ (116 + 2 * p1.toNatClampNeg) 1) = 0 then (if (σ (116 + 2 * p3.toNatClampNeg) 1) = 0 then (if (σ (116 + 2 * p1.toNatClampNeg) 2) = (σ (116 + 2 * p3.toNatClampNeg) 2) then (lm_bd (f_X2_hasSpan (116 + 2 * p1.toNatClampNeg) σ p2 p5) fun r18 => if r18 = 0 then (lm_bd2 (f_X4_found σ (2 : Int32)) fun r22 σ23 => some (r22, σ23)) else (lm_bd (f_X2_hasSpan (116 + 2 * p3.toNatClampNeg) σ p4 p5) fun r25 => if r25 = 0 then (lm_bd2 (f_X4_found σ (2 : Int32)) fun r34 σ35 => some (r34, σ35)) else (lm_ck (lm_cp p2 p4 p5 40 40) (lm_nm (upA σ (116 + 2 * p3.toNatClampNeg + 1) (va_cpy (σ (116 + 2 * p1.toNatClampNeg + 1)) (σ (116 + 2 * p3.toNatClampNeg + 1)) p2.toNatClampNeg p4.toNatClampNeg p5.toNatClampNeg)) fun σ29 => lm_bd2 (f_X4_unfound σ29 p5) fun r31 σ32 => some (r31, σ32))))) else (lm_bd2 (f_X4_found σ (5 : Int32)) fun r37 σ38 => some (r37, σ38))) else (lm_bd2 (f_X4_found σ (1 : Int32)) fun r40 σ41 => some (r40, σ41))) else (lm_bd2 (f_X4_found σ (1 : Int32)) fun r13 σ14 => some (r13, σ14))))))
abbrev wsX4_copy : List Cond := Cond.code yX4_copy cX4_copy 8 (some .int) :: lw_u
theorem mv_X4_copy : Cond.instanceMethod yX4_copy ∈ lw_u ∧ Cond.selects yX4_copy.cls yX4_copy yX4_copy ∈ lw_u ∧ Cond.initialized yX4_copy.cls ∈ lw_u ∧ Cond.code yX4_copy cX4_copy 8 (some .int) ∈ lw_u := ⟨uw_134, uw_135, uw_1, uw_136⟩
theorem hd_X4_copy : yX4_copy.cls ≠ "java/lang/invoke/MethodHandle" ∧ yX4_copy.cls ≠ "java/lang/invoke/VarHandle" ∧ (parseMethodDescriptor yX4_copy.desc).map (fun d => d.parameters.length) = some 5 := by decide +kernel
section
variable {l : Launch} {D : va_G} {cI cZ cL cR : ClassId} {B : Nat}
set_option maxRecDepth 100000 in
set_option maxHeartbeats 4000000 in
theorem c_X4_copy {σ τ σ' : Mem} {p1 : Int32} {p2 : Int32} {p3 : Int32} {p4 : Int32} {p5 : Int32} {r : Int32}  (hf : f_X4_copy σ p1 p2 p3 p4 p5 = some (r, σ')) : lm_CI l yX4_copy wsX4_copy rmX4_copy D cI cZ cL cR B [.ref (B + 0), .int p1, .int p2, .int p3, .int p4, .int p5] σ τ r σ' τ := by
  unfold f_X4_copy at hf
  refine lm_of (cc := cX4_copy) (maxL := 8) (ret := (some .int)) (own := RX4) (by decide) rfl (Nat.le_of_ble_eq_true rfl) (fun p e s m below meth c0 C0 hR ls hl => ?_)
  have hS : va_S (lm_A B) s.heap s.heap [] := va_S.rf
  have hl : lv_has ls 8 [(0, .ref (B + 0)), (1, .int p1), (2, .int p2), (3, .int p3), (4, .int p4), (5, .int p5)] := hl
  obtain ⟨hx, hb, hml, hr, hlk, hown, hts, hK, hX⟩ := id C0
  refine lv_iload_n hx hb dX4_copy_0 rfl (lv_at hl 1 rfl) ?_
  refine lv_bipush (v := (8 : Int32)) hx hb dX4_copy_1 (by decide) ?_
  obtain ⟨r2, u1, hf⟩ := lm_bd_e hf
  refine lm_endi (lm_runS C0 hR hS (c_X4_isBelow u1) (lw_cS 2 hts uw_102 mv_X4_isBelow rfl rfl hd_X4_isBelow ⟨Nat.le_of_ble_eq_true rfl, Nat.le_of_ble_eq_true rfl⟩) rfl hl rfl (Nat.le_of_ble_eq_true rfl) dX4_copy_3) hS (fun H locs hR hS => ?_)
  refine lv_if_eq (tgt := 18) hx hb dX4_copy_6 (by decide) (fun b4 => ?_) (fun b4 => ?_)
  · have hf := lm_T b4 hf
    refine lv_ldc hx hb hown (hts _ uw_105) dX4_copy_18 ?_
    exact lm_riC C0 hR hS hf dX4_copy_20
  · have hf := lm_F b4 hf
    refine lv_iload_n hx hb dX4_copy_9 rfl (lv_at hl 3 rfl) ?_
    refine lv_bipush (v := (8 : Int32)) hx hb dX4_copy_10 (by decide) ?_
    obtain ⟨r6, u5, hf⟩ := lm_bd_e hf
    refine lm_endi (lm_runS C0 hR hS (c_X4_isBelow u5) (lw_cS 2 hts uw_102 mv_X4_isBelow rfl rfl hd_X4_isBelow ⟨Nat.le_of_ble_eq_true rfl, Nat.le_of_ble_eq_true rfl⟩) rfl hl rfl (Nat.le_of_ble_eq_true rfl) dX4_copy_12) hS (fun H locs hR hS => ?_)
    refine lv_if_ne (tgt := 21) hx hb dX4_copy_15 (by decide) (fun b8 => ?_) (fun b8 => ?_)
    · have hf := lm_F b8 hf
      refine lv_aload_n hx hb dX4_copy_21 rfl (lv_at hl 0 rfl) ?_
      refine lm_get C0 hR (by decide) cell_0 rfl lw_in_X4 0 (by decide) uw_87 rfl rfl dX4_copy_22 ?_
      refine lv_iload_n hx hb dX4_copy_25 rfl (lv_at hl 1 rfl) ?_
      obtain ⟨z9, hf⟩ := lm_ck_e hf
      refine lm_ald C0 hR (t0 := 3) (by decide) cell_1 rfl z9 rfl dX4_copy_26 ?_
      refine lv_astore (lv' := [(6, .ref (B + (116 + 2 * p1.toNatClampNeg))), (0, .ref (B + 0)), (1, .int p1), (2, .int p2), (3, .int p3), (4, .int p4), (5, .int p5)]) hx hb dX4_copy_27 hl (by decide) rfl (fun ls hl => ?_)
      refine lv_aload_n hx hb dX4_copy_29 rfl (lv_at hl 1 rfl) ?_
      refine lm_get C0 hR (by decide) cell_0 rfl lw_in_X4 0 (by decide) uw_87 rfl rfl dX4_copy_30 ?_
      refine lv_iload_n hx hb dX4_copy_33 rfl (lv_at hl 4 rfl) ?_
      obtain ⟨z10, hf⟩ := lm_ck_e hf
      refine lm_ald C0 hR (t0 := 3) (by decide) cell_1 rfl z10 rfl dX4_copy_34 ?_
      refine lv_astore (lv' := [(7, .ref (B + (116 + 2 * p3.toNatClampNeg))), (6, .ref (B + (116 + 2 * p1.toNatClampNeg))), (0, .ref (B + 0)), (1, .int p1), (2, .int p2), (3, .int p3), (4, .int p4), (5, .int p5)]) hx hb dX4_copy_35 hl (by decide) rfl (fun ls hl => ?_)
      refine lv_aload hx hb dX4_copy_37 (lv_at hl 1 rfl) ?_
      refine lm_get C0 hR (isR_lt (isR_row z9)) (cell_R (isR_row z9)) rfl lw_in_X2 1 (by decide) uw_82 rfl rfl dX4_copy_39 ?_
      refine lv_if_ne (tgt := 53) hx hb dX4_copy_42 (by decide) (fun b11 => ?_) (fun b11 => ?_)
      · have hf := lm_F b11 hf
        refine lv_aload_n hx hb dX4_copy_53 rfl (lv_at hl 2 rfl) ?_
        refine lv_iconst (v := (1 : Int32)) hx hb dX4_copy_54 (by decide) ?_
        obtain ⟨r13, σ14, u12, hf⟩ := lm_bd2_e hf
        refine lm_endi (lm_runV C0 hR hS (c_X4_found u12) (lw_cV 1 hts uw_106 mv_X4_found rfl rfl hd_X4_found ⟨Nat.le_of_ble_eq_true rfl, Nat.le_of_ble_eq_true rfl⟩) (by decide) cell_0 rfl rfl hl rfl (Nat.le_of_ble_eq_true rfl) dX4_copy_55) hS (fun H locs hR hS => ?_)
        exact lm_riC C0 hR hS hf dX4_copy_58
      · have hf := lm_T b11 hf
        refine lv_aload hx hb dX4_copy_45 (lv_at hl 0 rfl) ?_
        refine lm_get C0 hR (isR_lt (isR_row z10)) (cell_R (isR_row z10)) rfl lw_in_X2 1 (by decide) uw_82 rfl rfl dX4_copy_47 ?_
        refine lv_if_eq (tgt := 59) hx hb dX4_copy_50 (by decide) (fun b15 => ?_) (fun b15 => ?_)
        · have hf := lm_T b15 hf
          refine lv_aload hx hb dX4_copy_59 (lv_at hl 1 rfl) ?_
          refine lm_get C0 hR (isR_lt (isR_row z9)) (cell_R (isR_row z9)) rfl lw_in_X2 2 (by decide) uw_84 rfl rfl dX4_copy_61 ?_
          refine lv_aload hx hb dX4_copy_64 (lv_at hl 0 rfl) ?_
          refine lm_get C0 hR (isR_lt (isR_row z10)) (cell_R (isR_row z10)) rfl lw_in_X2 2 (by decide) uw_84 rfl rfl dX4_copy_66 ?_
          refine lv_icmp_eq (tgt := 78) hx hb dX4_copy_69 (by decide) (fun b16 => ?_) (fun b16 => ?_)
          · have hf := lm_T b16 hf
            refine lv_aload hx hb dX4_copy_78 (lv_at hl 1 rfl) ?_
            refine lv_iload_n hx hb dX4_copy_80 rfl (lv_at hl 4 rfl) ?_
            refine lv_iload hx hb dX4_copy_81 (lv_at hl 7 rfl) ?_
            obtain ⟨r18, u17, hf⟩ := lm_bd_e hf
            refine lm_endi (lm_runV C0 hR hS (c_X2_hasSpan (isR_row z9) u17) (lw_cV 2 hts uw_137 mv_X2_hasSpan rfl rfl hd_X2_hasSpan ⟨Nat.le_of_ble_eq_true rfl, Nat.le_of_ble_eq_true rfl⟩) (isR_lt (isR_row z9)) (cell_R (isR_row z9)) rfl rfl hl rfl (Nat.le_of_ble_eq_true rfl) dX4_copy_83) hS (fun H locs hR hS => ?_)
            refine lv_if_eq (tgt := 101) hx hb dX4_copy_86 (by decide) (fun b20 => ?_) (fun b20 => ?_)
            · have hf := lm_T b20 hf
              refine lv_aload_n hx hb dX4_copy_101 rfl (lv_at hl 2 rfl) ?_
              refine lv_iconst (v := (2 : Int32)) hx hb dX4_copy_102 (by decide) ?_
              obtain ⟨r22, σ23, u21, hf⟩ := lm_bd2_e hf
              refine lm_endi (lm_runV C0 hR hS (c_X4_found u21) (lw_cV 1 hts uw_106 mv_X4_found rfl rfl hd_X4_found ⟨Nat.le_of_ble_eq_true rfl, Nat.le_of_ble_eq_true rfl⟩) (by decide) cell_0 rfl rfl hl rfl (Nat.le_of_ble_eq_true rfl) dX4_copy_103) hS (fun H locs hR hS => ?_)
              exact lm_riC C0 hR hS hf dX4_copy_106
            · have hf := lm_F b20 hf
              refine lv_aload hx hb dX4_copy_89 (lv_at hl 0 rfl) ?_
              refine lv_iload hx hb dX4_copy_91 (lv_at hl 6 rfl) ?_
              refine lv_iload hx hb dX4_copy_93 (lv_at hl 7 rfl) ?_
              obtain ⟨r25, u24, hf⟩ := lm_bd_e hf
              refine lm_endi (lm_runV C0 hR hS (c_X2_hasSpan (isR_row z10) u24) (lw_cV 2 hts uw_137 mv_X2_hasSpan rfl rfl hd_X2_hasSpan ⟨Nat.le_of_ble_eq_true rfl, Nat.le_of_ble_eq_true rfl⟩) (isR_lt (isR_row z10)) (cell_R (isR_row z10)) rfl rfl hl rfl (Nat.le_of_ble_eq_true rfl) dX4_copy_95) hS (fun H locs hR hS => ?_)
              refine lv_if_ne (tgt := 107) hx hb dX4_copy_98 (by decide) (fun b27 => ?_) (fun b27 => ?_)
              · have hf := lm_F b27 hf
                refine lv_aload hx hb dX4_copy_107 (lv_at hl 1 rfl) ?_
                refine lm_get C0 hR (isR_lt (isR_row z9)) (cell_R (isR_row z9)) rfl lw_in_X2 0 (by decide) uw_80 rfl rfl dX4_copy_109 ?_
                refine lv_iload_n hx hb dX4_copy_112 rfl (lv_at hl 4 rfl) ?_
                refine lv_aload hx hb dX4_copy_113 (lv_at hl 0 rfl) ?_
                refine lm_get C0 hR (isR_lt (isR_row z10)) (cell_R (isR_row z10)) rfl lw_in_X2 0 (by decide) uw_80 rfl rfl dX4_copy_115 ?_
                refine lv_iload hx hb dX4_copy_118 (lv_at hl 6 rfl) ?_
                refine lv_iload hx hb dX4_copy_120 (lv_at hl 7 rfl) ?_
                obtain ⟨z28, hf⟩ := lm_ck_e hf
                obtain ⟨σ29, eσ29, hf⟩ := lm_nm_e hf
                refine lm_copy C0 hR hS hl (hts _ uw_138) (hts _ uw_140) (hts _ uw_139) (hts _ uw_7) (isR_lt1 (isR_row z9)) (cell_R1 (isR_row z9)) (isR_lt1 (isR_row z10)) (cell_R1 (isR_row z10)) z28 eσ29 (cell_R1v (isR_row z10)) (Nat.le_of_ble_eq_true rfl) (Nat.le_of_ble_eq_true rfl) dX4_copy_122 (fun H locs hR hS => ?_)
                refine lv_aload_n hx hb dX4_copy_125 rfl (lv_at hl 2 rfl) ?_
                refine lv_iload hx hb dX4_copy_126 (lv_at hl 7 rfl) ?_
                obtain ⟨r31, σ32, u30, hf⟩ := lm_bd2_e hf
                refine lm_endi (lm_runV C0 hR hS (c_X4_unfound u30) (lw_cV 1 hts uw_114 mv_X4_unfound rfl rfl hd_X4_unfound ⟨Nat.le_of_ble_eq_true rfl, Nat.le_of_ble_eq_true rfl⟩) (by decide) cell_0 rfl rfl hl rfl (Nat.le_of_ble_eq_true rfl) dX4_copy_128) hS (fun H locs hR hS => ?_)
                exact lm_riC C0 hR hS hf dX4_copy_131
              · have hf := lm_T b27 hf
                refine lv_aload_n hx hb dX4_copy_101 rfl (lv_at hl 2 rfl) ?_
                refine lv_iconst (v := (2 : Int32)) hx hb dX4_copy_102 (by decide) ?_
                obtain ⟨r34, σ35, u33, hf⟩ := lm_bd2_e hf
                refine lm_endi (lm_runV C0 hR hS (c_X4_found u33) (lw_cV 1 hts uw_106 mv_X4_found rfl rfl hd_X4_found ⟨Nat.le_of_ble_eq_true rfl, Nat.le_of_ble_eq_true rfl⟩) (by decide) cell_0 rfl rfl hl rfl (Nat.le_of_ble_eq_true rfl) dX4_copy_103) hS (fun H locs hR hS => ?_)
                exact lm_riC C0 hR hS hf dX4_copy_106
          · have hf := lm_F b16 hf
            refine lv_aload_n hx hb dX4_copy_72 rfl (lv_at hl 2 rfl) ?_
            refine lv_iconst (v := (5 : Int32)) hx hb dX4_copy_73 (by decide) ?_
            obtain ⟨r37, σ38, u36, hf⟩ := lm_bd2_e hf
            refine lm_endi (lm_runV C0 hR hS (c_X4_found u36) (lw_cV 1 hts uw_106 mv_X4_found rfl rfl hd_X4_found ⟨Nat.le_of_ble_eq_true rfl, Nat.le_of_ble_eq_true rfl⟩) (by decide) cell_0 rfl rfl hl rfl (Nat.le_of_ble_eq_true rfl) dX4_copy_74) hS (fun H locs hR hS => ?_)
            exact lm_riC C0 hR hS hf dX4_copy_77
        · have hf := lm_F b15 hf
          refine lv_aload_n hx hb dX4_copy_53 rfl (lv_at hl 2 rfl) ?_
          refine lv_iconst (v := (1 : Int32)) hx hb dX4_copy_54 (by decide) ?_
          obtain ⟨r40, σ41, u39, hf⟩ := lm_bd2_e hf
          refine lm_endi (lm_runV C0 hR hS (c_X4_found u39) (lw_cV 1 hts uw_106 mv_X4_found rfl rfl hd_X4_found ⟨Nat.le_of_ble_eq_true rfl, Nat.le_of_ble_eq_true rfl⟩) (by decide) cell_0 rfl rfl hl rfl (Nat.le_of_ble_eq_true rfl) dX4_copy_55) hS (fun H locs hR hS => ?_)
          exact lm_riC C0 hR hS hf dX4_copy_58
    · have hf := lm_T b8 hf
      refine lv_ldc hx hb hown (hts _ uw_105) dX4_copy_18 ?_
      exact lm_riC C0 hR hS hf dX4_copy_20
end
/-! ===== X4_drop ===== -/
abbrev rmX4_drop : Room := { frames := 1, cells := 0, slots := 0, locals := 21 }
def f_X4_drop (σ : Mem) (p1 : Int32) : Option (Int32 × Mem) := lm_bd (f_X4_isBelow p1 (8 : Int32)) fun r2 => if r2 = 0 then (some ((-1000001 : Int32), σ)) else (lm_ck (lm_in p1 8) (if (σ (116 + 2 * p1.toNatClampNeg) 1) = 0 then (lm_nm (up σ (116 + 2 * p1.toNatClampNeg) 1 (1 : Int32)) fun σ7 => lm_bd2 (f_X4_unfound σ7 (σ7 (116 + 2 * p1.toNatClampNeg) 3)) fun r9 σ10 => some (r9, σ10)) else (lm_bd2 (f_X4_found σ (1 : Int32)) fun r12 σ13 => some (r12, σ13))))
abbrev wsX4_drop : List Cond := Cond.code yX4_drop cX4_drop 3 (some .int) :: lw_u
theorem mv_X4_drop : Cond.instanceMethod yX4_drop ∈ lw_u ∧ Cond.selects yX4_drop.cls yX4_drop yX4_drop ∈ lw_u ∧ Cond.initialized yX4_drop.cls ∈ lw_u ∧ Cond.code yX4_drop cX4_drop 3 (some .int) ∈ lw_u := ⟨uw_142, uw_143, uw_1, uw_144⟩
theorem hd_X4_drop : yX4_drop.cls ≠ "java/lang/invoke/MethodHandle" ∧ yX4_drop.cls ≠ "java/lang/invoke/VarHandle" ∧ (parseMethodDescriptor yX4_drop.desc).map (fun d => d.parameters.length) = some 1 := by decide +kernel
section
variable {l : Launch} {D : va_G} {cI cZ cL cR : ClassId} {B : Nat}
set_option maxRecDepth 100000 in
set_option maxHeartbeats 4000000 in
theorem c_X4_drop {σ τ σ' : Mem} {p1 : Int32} {r : Int32}  (hf : f_X4_drop σ p1 = some (r, σ')) : lm_CI l yX4_drop wsX4_drop rmX4_drop D cI cZ cL cR B [.ref (B + 0), .int p1] σ τ r σ' τ := by
  unfold f_X4_drop at hf
  refine lm_of (cc := cX4_drop) (maxL := 3) (ret := (some .int)) (own := RX4) (by decide) rfl (Nat.le_of_ble_eq_true rfl) (fun p e s m below meth c0 C0 hR ls hl => ?_)
  have hS : va_S (lm_A B) s.heap s.heap [] := va_S.rf
  have hl : lv_has ls 3 [(0, .ref (B + 0)), (1, .int p1)] := hl
  obtain ⟨hx, hb, hml, hr, hlk, hown, hts, hK, hX⟩ := id C0
  refine lv_iload_n hx hb dX4_drop_0 rfl (lv_at hl 1 rfl) ?_
  refine lv_bipush (v := (8 : Int32)) hx hb dX4_drop_1 (by decide) ?_
  obtain ⟨r2, u1, hf⟩ := lm_bd_e hf
  refine lm_endi (lm_runS C0 hR hS (c_X4_isBelow u1) (lw_cS 2 hts uw_102 mv_X4_isBelow rfl rfl hd_X4_isBelow ⟨Nat.le_of_ble_eq_true rfl, Nat.le_of_ble_eq_true rfl⟩) rfl hl rfl (Nat.le_of_ble_eq_true rfl) dX4_drop_3) hS (fun H locs hR hS => ?_)
  refine lv_if_ne (tgt := 12) hx hb dX4_drop_6 (by decide) (fun b4 => ?_) (fun b4 => ?_)
  · have hf := lm_F b4 hf
    refine lv_aload_n hx hb dX4_drop_12 rfl (lv_at hl 0 rfl) ?_
    refine lm_get C0 hR (by decide) cell_0 rfl lw_in_X4 0 (by decide) uw_87 rfl rfl dX4_drop_13 ?_
    refine lv_iload_n hx hb dX4_drop_16 rfl (lv_at hl 1 rfl) ?_
    obtain ⟨z5, hf⟩ := lm_ck_e hf
    refine lm_ald C0 hR (t0 := 3) (by decide) cell_1 rfl z5 rfl dX4_drop_17 ?_
    refine lv_astore_n (lv' := [(2, .ref (B + (116 + 2 * p1.toNatClampNeg))), (0, .ref (B + 0)), (1, .int p1)]) hx hb dX4_drop_18 rfl hl (by decide) rfl (fun ls hl => ?_)
    refine lv_aload_n hx hb dX4_drop_19 rfl (lv_at hl 0 rfl) ?_
    refine lm_get C0 hR (isR_lt (isR_row z5)) (cell_R (isR_row z5)) rfl lw_in_X2 1 (by decide) uw_82 rfl rfl dX4_drop_20 ?_
    refine lv_if_eq (tgt := 32) hx hb dX4_drop_23 (by decide) (fun b6 => ?_) (fun b6 => ?_)
    · have hf := lm_T b6 hf
      refine lv_aload_n hx hb dX4_drop_32 rfl (lv_at hl 0 rfl) ?_
      refine lv_iconst (v := (1 : Int32)) hx hb dX4_drop_33 (by decide) ?_
      obtain ⟨σ7, eσ7, hf⟩ := lm_nm_e hf
      refine lm_putC C0 hR hS (isR_lt (isR_row z5)) (cell_R (isR_row z5)) rfl lw_in_X2 tyX2 tyX2_ok nmX2 1 (by decide) uw_82 rfl rfl rfl rfl rfl (Nat.le_of_ble_eq_true rfl) eσ7 (cell_Ru (isR_row z5)) dX4_drop_34 (fun H locs hR hS => ?_)
      refine lv_aload_n hx hb dX4_drop_37 rfl (lv_at hl 1 rfl) ?_
      refine lv_aload_n hx hb dX4_drop_38 rfl (lv_at hl 0 rfl) ?_
      refine lm_get C0 hR (isR_lt (isR_row z5)) (cell_R (isR_row z5)) rfl lw_in_X2 3 (by decide) uw_86 rfl rfl dX4_drop_39 ?_
      obtain ⟨r9, σ10, u8, hf⟩ := lm_bd2_e hf
      refine lm_endi (lm_runV C0 hR hS (c_X4_unfound u8) (lw_cV 1 hts uw_114 mv_X4_unfound rfl rfl hd_X4_unfound ⟨Nat.le_of_ble_eq_true rfl, Nat.le_of_ble_eq_true rfl⟩) (by decide) cell_0 rfl rfl hl rfl (Nat.le_of_ble_eq_true rfl) dX4_drop_42) hS (fun H locs hR hS => ?_)
      exact lm_riC C0 hR hS hf dX4_drop_45
    · have hf := lm_F b6 hf
      refine lv_aload_n hx hb dX4_drop_26 rfl (lv_at hl 1 rfl) ?_
      refine lv_iconst (v := (1 : Int32)) hx hb dX4_drop_27 (by decide) ?_
      obtain ⟨r12, σ13, u11, hf⟩ := lm_bd2_e hf
      refine lm_endi (lm_runV C0 hR hS (c_X4_found u11) (lw_cV 1 hts uw_106 mv_X4_found rfl rfl hd_X4_found ⟨Nat.le_of_ble_eq_true rfl, Nat.le_of_ble_eq_true rfl⟩) (by decide) cell_0 rfl rfl hl rfl (Nat.le_of_ble_eq_true rfl) dX4_drop_28) hS (fun H locs hR hS => ?_)
      exact lm_riC C0 hR hS hf dX4_drop_31
  · have hf := lm_T b4 hf
    refine lv_ldc hx hb hown (hts _ uw_105) dX4_drop_9 ?_
    exact lm_riC C0 hR hS hf dX4_drop_11
end
/-! ===== X4_feed ===== -/
abbrev rmX4_feed : Room := { frames := 1, cells := 0, slots := 0, locals := 21 }
def f_X4_feed (σ : Mem) (p1 : Int32) : Option (Int32 × Mem) := lm_bd (f_X4_isBelow p1 (256 : Int32)) fun r2 => if r2 = 0 then (some ((-1000001 : Int32), σ)) else (if (σ 2 1) < (120 : Int32) then (lm_bd2 (f_X3_append σ p1) fun r7 σ8 => some (r7, σ8)) else (some ((-1000003 : Int32), σ)))
abbrev wsX4_feed : List Cond := Cond.code yX4_feed cX4_feed 2 (some .int) :: lw_u
theorem mv_X4_feed : Cond.instanceMethod yX4_feed ∈ lw_u ∧ Cond.selects yX4_feed.cls yX4_feed yX4_feed ∈ lw_u ∧ Cond.initialized yX4_feed.cls ∈ lw_u ∧ Cond.code yX4_feed cX4_feed 2 (some .int) ∈ lw_u := ⟨uw_146, uw_147, uw_1, uw_148⟩
theorem hd_X4_feed : yX4_feed.cls ≠ "java/lang/invoke/MethodHandle" ∧ yX4_feed.cls ≠ "java/lang/invoke/VarHandle" ∧ (parseMethodDescriptor yX4_feed.desc).map (fun d => d.parameters.length) = some 1 := by decide +kernel
section
variable {l : Launch} {D : va_G} {cI cZ cL cR : ClassId} {B : Nat}
set_option maxRecDepth 100000 in
set_option maxHeartbeats 4000000 in
theorem c_X4_feed {σ τ σ' : Mem} {p1 : Int32} {r : Int32}  (hf : f_X4_feed σ p1 = some (r, σ')) : lm_CI l yX4_feed wsX4_feed rmX4_feed D cI cZ cL cR B [.ref (B + 0), .int p1] σ τ r σ' τ := by
  unfold f_X4_feed at hf
  refine lm_of (cc := cX4_feed) (maxL := 2) (ret := (some .int)) (own := RX4) (by decide) rfl (Nat.le_of_ble_eq_true rfl) (fun p e s m below meth c0 C0 hR ls hl => ?_)
  have hS : va_S (lm_A B) s.heap s.heap [] := va_S.rf
  have hl : lv_has ls 2 [(0, .ref (B + 0)), (1, .int p1)] := hl
  obtain ⟨hx, hb, hml, hr, hlk, hown, hts, hK, hX⟩ := id C0
  refine lv_iload_n hx hb dX4_feed_0 rfl (lv_at hl 1 rfl) ?_
  refine lv_sipush (v := (256 : Int32)) hx hb dX4_feed_1 (by decide) ?_
  obtain ⟨r2, u1, hf⟩ := lm_bd_e hf
  refine lm_endi (lm_runS C0 hR hS (c_X4_isBelow u1) (lw_cS 2 hts uw_102 mv_X4_isBelow rfl rfl hd_X4_isBelow ⟨Nat.le_of_ble_eq_true rfl, Nat.le_of_ble_eq_true rfl⟩) rfl hl rfl (Nat.le_of_ble_eq_true rfl) dX4_feed_4) hS (fun H locs hR hS => ?_)
  refine lv_if_ne (tgt := 13) hx hb dX4_feed_7 (by decide) (fun b4 => ?_) (fun b4 => ?_)
  · have hf := lm_F b4 hf
    refine lv_aload_n hx hb dX4_feed_13 rfl (lv_at hl 0 rfl) ?_
    refine lm_get C0 hR (by decide) cell_0 rfl lw_in_X4 1 (by decide) uw_88 rfl rfl dX4_feed_14 ?_
    refine lm_get C0 hR (by decide) cell_2 rfl lw_in_X3 1 (by decide) uw_26 rfl rfl dX4_feed_17 ?_
    refine lv_bipush (v := (120 : Int32)) hx hb dX4_feed_20 (by decide) ?_
    refine lv_icmp_lt (tgt := 28) hx hb dX4_feed_22 (by decide) (fun b5 => ?_) (fun b5 => ?_)
    · have hf := lm_T b5 hf
      refine lv_aload_n hx hb dX4_feed_28 rfl (lv_at hl 0 rfl) ?_
      refine lm_get C0 hR (by decide) cell_0 rfl lw_in_X4 1 (by decide) uw_88 rfl rfl dX4_feed_29 ?_
      refine lv_iload_n hx hb dX4_feed_32 rfl (lv_at hl 1 rfl) ?_
      obtain ⟨r7, σ8, u6, hf⟩ := lm_bd2_e hf
      refine lm_endi (lm_runV C0 hR hS (c_X3_append u6) (lw_cV 1 hts uw_150 mv_X3_append rfl rfl hd_X3_append ⟨Nat.le_of_ble_eq_true rfl, Nat.le_of_ble_eq_true rfl⟩) (by decide) cell_2 rfl rfl hl rfl (Nat.le_of_ble_eq_true rfl) dX4_feed_33) hS (fun H locs hR hS => ?_)
      exact lm_riC C0 hR hS hf dX4_feed_36
    · have hf := lm_F b5 hf
      refine lv_ldc hx hb hown (hts _ uw_149) dX4_feed_25 ?_
      exact lm_riC C0 hR hS hf dX4_feed_27
  · have hf := lm_T b4 hf
    refine lv_ldc hx hb hown (hts _ uw_105) dX4_feed_10 ?_
    exact lm_riC C0 hR hS hf dX4_feed_12
end
/-! ===== X4_light ===== -/
abbrev rmX4_light : Room := { frames := 4, cells := 0, slots := 0, locals := 90 }
def f_X4_light (σ : Mem) : Option (Int32 × Mem) := lm_bd2 (f_X3_readInto 8 σ) fun r2 σ3 => lm_nm (up σ3 2 1 (0 : Int32)) fun σ4 => if r2 = 0 then (lm_nm (up σ4 0 9 (σ4 2 3)) fun σ12 => some (((-1000100 : Int32) - (σ12 2 4)), σ12)) else (lm_bd (f_X1_takeFrom 4 8 σ4) fun σ8 => lm_bd (f_X0_forget σ8) fun σ11 => some ((σ11 4 8), σ11))
abbrev wsX4_light : List Cond := Cond.code yX4_light cX4_light 2 (some .int) :: lw_u
theorem mv_X4_light : Cond.instanceMethod yX4_light ∈ lw_u ∧ Cond.selects yX4_light.cls yX4_light yX4_light ∈ lw_u ∧ Cond.initialized yX4_light.cls ∈ lw_u ∧ Cond.code yX4_light cX4_light 2 (some .int) ∈ lw_u := ⟨uw_155, uw_156, uw_1, uw_157⟩
theorem hd_X4_light : yX4_light.cls ≠ "java/lang/invoke/MethodHandle" ∧ yX4_light.cls ≠ "java/lang/invoke/VarHandle" ∧ (parseMethodDescriptor yX4_light.desc).map (fun d => d.parameters.length) = some 0 := by decide +kernel
section
variable {l : Launch} {D : va_G} {cI cZ cL cR : ClassId} {B : Nat}
set_option maxRecDepth 100000 in
set_option maxHeartbeats 4000000 in
theorem c_X4_light {σ τ σ' : Mem} {r : Int32}  (hf : f_X4_light σ = some (r, σ')) : lm_CI l yX4_light wsX4_light rmX4_light D cI cZ cL cR B [.ref (B + 0)] σ τ r σ' τ := by
  unfold f_X4_light at hf
  refine lm_of (cc := cX4_light) (maxL := 2) (ret := (some .int)) (own := RX4) (by decide) rfl (Nat.le_of_ble_eq_true rfl) (fun p e s m below meth c0 C0 hR ls hl => ?_)
  have hS : va_S (lm_A B) s.heap s.heap [] := va_S.rf
  have hl : lv_has ls 2 [(0, .ref (B + 0))] := hl
  obtain ⟨hx, hb, hml, hr, hlk, hown, hts, hK, hX⟩ := id C0
  refine lv_aload_n hx hb dX4_light_0 rfl (lv_at hl 0 rfl) ?_
  refine lm_get C0 hR (by decide) cell_0 rfl lw_in_X4 1 (by decide) uw_88 rfl rfl dX4_light_1 ?_
  refine lv_aload_n hx hb dX4_light_4 rfl (lv_at hl 0 rfl) ?_
  refine lm_get C0 hR (by decide) cell_0 rfl lw_in_X4 3 (by decide) uw_90 rfl rfl dX4_light_5 ?_
  obtain ⟨r2, σ3, u1, hf⟩ := lm_bd2_e hf
  refine lm_endi (lm_runV C0 hR hS (c_X3_readInto isL_8 u1) (lw_cV 1 hts uw_158 mv_X3_readInto rfl rfl hd_X3_readInto ⟨Nat.le_of_ble_eq_true rfl, Nat.le_of_ble_eq_true rfl⟩) (by decide) cell_2 rfl rfl hl rfl (Nat.le_of_ble_eq_true rfl) dX4_light_8) hS (fun H locs hR hS => ?_)
  refine lv_istore_n (lv' := [(1, .int r2), (0, .ref (B + 0))]) hx hb dX4_light_11 rfl hl (by decide) rfl (fun ls hl => ?_)
  refine lv_aload_n hx hb dX4_light_12 rfl (lv_at hl 1 rfl) ?_
  refine lm_get C0 hR (by decide) cell_0 rfl lw_in_X4 1 (by decide) uw_88 rfl rfl dX4_light_13 ?_
  refine lv_iconst (v := (0 : Int32)) hx hb dX4_light_16 (by decide) ?_
  obtain ⟨σ4, eσ4, hf⟩ := lm_nm_e hf
  refine lm_putC C0 hR hS (by decide) cell_2 rfl lw_in_X3 tyX3 tyX3_ok nmX3 1 (by decide) uw_26 rfl rfl rfl rfl rfl (Nat.le_of_ble_eq_true rfl) eσ4 cell_2u dX4_light_17 (fun H locs hR hS => ?_)
  refine lv_iload_n hx hb dX4_light_20 rfl (lv_at hl 0 rfl) ?_
  refine lv_if_ne (tgt := 46) hx hb dX4_light_21 (by decide) (fun b5 => ?_) (fun b5 => ?_)
  · have hf := lm_F b5 hf
    refine lv_aload_n hx hb dX4_light_46 rfl (lv_at hl 1 rfl) ?_
    refine lm_get C0 hR (by decide) cell_0 rfl lw_in_X4 2 (by decide) uw_89 rfl rfl dX4_light_47 ?_
    refine lv_aload_n hx hb dX4_light_50 rfl (lv_at hl 1 rfl) ?_
    refine lm_get C0 hR (by decide) cell_0 rfl lw_in_X4 3 (by decide) uw_90 rfl rfl dX4_light_51 ?_
    obtain ⟨σ8, u6, hf⟩ := lm_bd_e hf
    refine lm_endv (lm_runV C0 hR hS (c_X1_takeFrom isL_4 isL_8 u6) (lw_cV 1 hts uw_193 mv_X1_takeFrom rfl rfl hd_X1_takeFrom ⟨Nat.le_of_ble_eq_true rfl, Nat.le_of_ble_eq_true rfl⟩) (isL_lt isL_4) (cell_L isL_4) rfl rfl hl rfl (Nat.le_of_ble_eq_true rfl) dX4_light_54) hS (fun H locs hR hS => ?_)
    refine lv_aload_n hx hb dX4_light_57 rfl (lv_at hl 1 rfl) ?_
    refine lm_get C0 hR (by decide) cell_0 rfl lw_in_X4 5 (by decide) uw_92 rfl rfl dX4_light_58 ?_
    obtain ⟨σ11, u9, hf⟩ := lm_bd_e hf
    refine lm_endv (lm_runV C0 hR hS (c_X0_forget u9) (lw_cV 0 hts uw_204 mv_X0_forget rfl rfl hd_X0_forget ⟨Nat.le_of_ble_eq_true rfl, Nat.le_of_ble_eq_true rfl⟩) (by decide) cell_16 rfl rfl hl rfl (Nat.le_of_ble_eq_true rfl) dX4_light_61) hS (fun H locs hR hS => ?_)
    refine lv_aload_n hx hb dX4_light_64 rfl (lv_at hl 1 rfl) ?_
    refine lm_get C0 hR (by decide) cell_0 rfl lw_in_X4 2 (by decide) uw_89 rfl rfl dX4_light_65 ?_
    refine lm_get C0 hR (isL_lt isL_4) (cell_L isL_4) rfl lw_in_X1 8 (by decide) uw_62 rfl rfl dX4_light_68 ?_
    exact lm_riC C0 hR hS hf dX4_light_71
  · have hf := lm_T b5 hf
    refine lv_aload_n hx hb dX4_light_24 rfl (lv_at hl 1 rfl) ?_
    refine lv_aload_n hx hb dX4_light_25 rfl (lv_at hl 1 rfl) ?_
    refine lm_get C0 hR (by decide) cell_0 rfl lw_in_X4 1 (by decide) uw_88 rfl rfl dX4_light_26 ?_
    refine lm_get C0 hR (by decide) cell_2 rfl lw_in_X3 3 (by decide) uw_29 rfl rfl dX4_light_29 ?_
    obtain ⟨σ12, eσ12, hf⟩ := lm_nm_e hf
    refine lm_putC C0 hR hS (by decide) cell_0 rfl lw_in_X4 tyX4 tyX4_ok nmX4 9 (by decide) uw_96 rfl rfl rfl rfl rfl (Nat.le_of_ble_eq_true rfl) eσ12 cell_0u dX4_light_32 (fun H locs hR hS => ?_)
    refine lv_ldc hx hb hown (hts _ uw_192) dX4_light_35 ?_
    refine lv_aload_n hx hb dX4_light_37 rfl (lv_at hl 1 rfl) ?_
    refine lm_get C0 hR (by decide) cell_0 rfl lw_in_X4 1 (by decide) uw_88 rfl rfl dX4_light_38 ?_
    refine lm_get C0 hR (by decide) cell_2 rfl lw_in_X3 4 (by decide) uw_31 rfl rfl dX4_light_41 ?_
    refine lv_isub hx hb dX4_light_44 ?_
    exact lm_riC C0 hR hS hf dX4_light_45
end
/-! ===== X4_fault ===== -/
abbrev rmX4_fault : Room := { frames := 0, cells := 0, slots := 0, locals := 0 }
def f_X4_fault (σ : Mem) : Option (Int32) := some (σ 0 9)
abbrev wsX4_fault : List Cond := Cond.code yX4_fault cX4_fault 1 (some .int) :: lw_u
theorem mv_X4_fault : Cond.instanceMethod yX4_fault ∈ lw_u ∧ Cond.selects yX4_fault.cls yX4_fault yX4_fault ∈ lw_u ∧ Cond.initialized yX4_fault.cls ∈ lw_u ∧ Cond.code yX4_fault cX4_fault 1 (some .int) ∈ lw_u := ⟨uw_209, uw_210, uw_1, uw_211⟩
theorem hd_X4_fault : yX4_fault.cls ≠ "java/lang/invoke/MethodHandle" ∧ yX4_fault.cls ≠ "java/lang/invoke/VarHandle" ∧ (parseMethodDescriptor yX4_fault.desc).map (fun d => d.parameters.length) = some 0 := by decide +kernel
section
variable {l : Launch} {D : va_G} {cI cZ cL cR : ClassId} {B : Nat}
set_option maxRecDepth 100000 in
set_option maxHeartbeats 4000000 in
theorem c_X4_fault {σ τ : Mem} {r : Int32}  (hf : f_X4_fault σ = some r) : lm_CI l yX4_fault wsX4_fault rmX4_fault D cI cZ cL cR B [.ref (B + 0)] σ τ r σ τ := by
  unfold f_X4_fault at hf
  refine lm_of (cc := cX4_fault) (maxL := 1) (ret := (some .int)) (own := RX4) (by decide) rfl (Nat.le_of_ble_eq_true rfl) (fun p e s m below meth c0 C0 hR ls hl => ?_)
  have hS : va_S (lm_A B) s.heap s.heap [] := va_S.rf
  have hl : lv_has ls 1 [(0, .ref (B + 0))] := hl
  obtain ⟨hx, hb, hml, hr, hlk, hown, hts, hK, hX⟩ := id C0
  refine lv_aload_n hx hb dX4_fault_0 rfl (lv_at hl 0 rfl) ?_
  refine lm_get C0 hR (by decide) cell_0 rfl lw_in_X4 9 (by decide) uw_96 rfl rfl dX4_fault_1 ?_
  exact lm_riP C0 hR hS hf dX4_fault_4
end
/-! ===== X4_undo ===== -/
abbrev rmX4_undo : Room := { frames := 3, cells := 0, slots := 0, locals := 64 }
def f_X4_undo (σ : Mem) : Option (Int32 × Mem) := if (1 : Int32) ≤ (σ 16 2) then (lm_bd2 (f_X0_takeBack 4 σ) fun r3 σ4 => some (r3, σ4)) else (some ((-1000002 : Int32), σ))
abbrev wsX4_undo : List Cond := Cond.code yX4_undo cX4_undo 1 (some .int) :: lw_u
theorem mv_X4_undo : Cond.instanceMethod yX4_undo ∈ lw_u ∧ Cond.selects yX4_undo.cls yX4_undo yX4_undo ∈ lw_u ∧ Cond.initialized yX4_undo.cls ∈ lw_u ∧ Cond.code yX4_undo cX4_undo 1 (some .int) ∈ lw_u := ⟨uw_213, uw_214, uw_1, uw_215⟩
theorem hd_X4_undo : yX4_undo.cls ≠ "java/lang/invoke/MethodHandle" ∧ yX4_undo.cls ≠ "java/lang/invoke/VarHandle" ∧ (parseMethodDescriptor yX4_undo.desc).map (fun d => d.parameters.length) = some 0 := by decide +kernel
section
variable {l : Launch} {D : va_G} {cI cZ cL cR : ClassId} {B : Nat}
set_option maxRecDepth 100000 in
set_option maxHeartbeats 4000000 in
theorem c_X4_undo {σ τ σ' : Mem} {r : Int32}  (hf : f_X4_undo σ = some (r, σ')) : lm_CI l yX4_undo wsX4_undo rmX4_undo D cI cZ cL cR B [.ref (B + 0)] σ τ r σ' τ := by
  unfold f_X4_undo at hf
  refine lm_of (cc := cX4_undo) (maxL := 1) (ret := (some .int)) (own := RX4) (by decide) rfl (Nat.le_of_ble_eq_true rfl) (fun p e s m below meth c0 C0 hR ls hl => ?_)
  have hS : va_S (lm_A B) s.heap s.heap [] := va_S.rf
  have hl : lv_has ls 1 [(0, .ref (B + 0))] := hl
  obtain ⟨hx, hb, hml, hr, hlk, hown, hts, hK, hX⟩ := id C0
  refine lv_aload_n hx hb dX4_undo_0 rfl (lv_at hl 0 rfl) ?_
  refine lm_get C0 hR (by decide) cell_0 rfl lw_in_X4 5 (by decide) uw_92 rfl rfl dX4_undo_1 ?_
  refine lm_get C0 hR (by decide) cell_16 rfl lw_in_X0 2 (by decide) uw_74 rfl rfl dX4_undo_4 ?_
  refine lv_iconst (v := (1 : Int32)) hx hb dX4_undo_7 (by decide) ?_
  refine lv_icmp_ge (tgt := 14) hx hb dX4_undo_8 (by decide) (fun b1 => ?_) (fun b1 => ?_)
  · have hf := lm_T b1 hf
    refine lv_aload_n hx hb dX4_undo_14 rfl (lv_at hl 0 rfl) ?_
    refine lm_get C0 hR (by decide) cell_0 rfl lw_in_X4 5 (by decide) uw_92 rfl rfl dX4_undo_15 ?_
    refine lv_aload_n hx hb dX4_undo_18 rfl (lv_at hl 0 rfl) ?_
    refine lm_get C0 hR (by decide) cell_0 rfl lw_in_X4 2 (by decide) uw_89 rfl rfl dX4_undo_19 ?_
    obtain ⟨r3, σ4, u2, hf⟩ := lm_bd2_e hf
    refine lm_endi (lm_runV C0 hR hS (c_X0_takeBack isL_4 u2) (lw_cV 1 hts uw_217 mv_X0_takeBack rfl rfl hd_X0_takeBack ⟨Nat.le_of_ble_eq_true rfl, Nat.le_of_ble_eq_true rfl⟩) (by decide) cell_16 rfl rfl hl rfl (Nat.le_of_ble_eq_true rfl) dX4_undo_22) hS (fun H locs hR hS => ?_)
    exact lm_riC C0 hR hS hf dX4_undo_25
  · have hf := lm_F b1 hf
    refine lv_ldc hx hb hown (hts _ uw_216) dX4_undo_11 ?_
    exact lm_riC C0 hR hS hf dX4_undo_13
end
/-! ===== X4_watches ===== -/
abbrev rmX4_watches : Room := { frames := 4, cells := 0, slots := 0, locals := 125 }
def f_X4_watches_46 : Nat → Int32 → Int32 → Mem → Option (Int32 × Mem)
  | 0, _, _, _ => none
  | n + 1, x1, x2, σ => if x1 ≤ x2 then (lm_bd (f_X1_shipsSeen 4 σ (2 : Int32)) fun r12 => some (r12, σ)) else (lm_bd (f_X0_keep 4 σ) fun σ16 => lm_bd (f_X1_passWatch 4 σ16) fun σ19 => lm_nm (x2 + (1 : Int32)) fun v20 => f_X4_watches_46 n x1 v20 σ19)
def f_X4_watches (σ : Mem) (p1 : Int32) : Option (Int32 × Mem) := lm_bd (f_X1_isLit 4 σ) fun r2 => if r2 = 0 then (some ((-1000002 : Int32), σ)) else (lm_bd (f_X4_isWithin p1 (1 : Int32) (24 : Int32)) fun r6 => if r6 = 0 then (some ((-1000001 : Int32), σ)) else (if ((σ 4 6) + p1) ≤ (999 : Int32) then (f_X4_watches_46 lm_fu p1 (0 : Int32) σ) else (some ((-1000003 : Int32), σ))))
abbrev wsX4_watches : List Cond := Cond.code yX4_watches cX4_watches 3 (some .int) :: lw_u
theorem mv_X4_watches : Cond.instanceMethod yX4_watches ∈ lw_u ∧ Cond.selects yX4_watches.cls yX4_watches yX4_watches ∈ lw_u ∧ Cond.initialized yX4_watches.cls ∈ lw_u ∧ Cond.code yX4_watches cX4_watches 3 (some .int) ∈ lw_u := ⟨uw_223, uw_224, uw_1, uw_225⟩
theorem hd_X4_watches : yX4_watches.cls ≠ "java/lang/invoke/MethodHandle" ∧ yX4_watches.cls ≠ "java/lang/invoke/VarHandle" ∧ (parseMethodDescriptor yX4_watches.desc).map (fun d => d.parameters.length) = some 1 := by decide +kernel
section
variable {l : Launch} {D : va_G} {cI cZ cL cR : ClassId} {B : Nat}
set_option maxRecDepth 100000 in
set_option maxHeartbeats 4000000 in
theorem w_X4_watches_46 {p : Program} {e : Env} {s : State} {m : MethodId} {args : Array Value} {below : List Frame} {meth : Method} {c0 : Code} {τ σ' : Mem} {r : Int32} (C0 : lm_Cx D cI cZ cL cR B p s m args meth c0 cX4_watches 3 (some .int) RX4) : ∀ (n : Nat), ∀ (x1 : Int32) (x2 : Int32) (σ : Mem) (H : Heap) (locs : List Loc) (ls : Array Slot), va_P D vwCl (wl cI cZ cL cR B σ τ) H → va_S (lm_A B) s.heap H locs → lv_has ls 3 [(0, .ref (B + 0)), (1, .int x1), (2, .int x2)] → f_X4_watches_46 n x1 x2 σ = some (r, σ') → W p l e rmX4_watches s m args below meth c0 H locs 0 0 (MQ below (lm_QI D cI cZ cL cR B r σ' τ) args s 0 0 (lm_A B)) (F0 m 46 ls []) := by
  obtain ⟨hx, hb, hml, hr, hlk, hown, hts, hK, hX⟩ := id C0
  intro n
  induction n with
  | zero =>
    intro x1 x2 σ H locs ls hR hS hl hf
    cases hf
  | succ n ih =>
    intro x1 x2 σ H locs ls hR hS hl hf
    rw [f_X4_watches_46] at hf
    refine lv_iload_n hx hb dX4_watches_46 rfl (lv_at hl 2 rfl) ?_
    refine lv_iload_n hx hb dX4_watches_47 rfl (lv_at hl 1 rfl) ?_
    refine lv_icmp_ge (tgt := 75) hx hb dX4_watches_48 (by decide) (fun b10 => ?_) (fun b10 => ?_)
    · have hf := lm_T b10 hf
      refine lv_aload_n hx hb dX4_watches_75 rfl (lv_at hl 0 rfl) ?_
      refine lm_get C0 hR (by decide) cell_0 rfl lw_in_X4 2 (by decide) uw_89 rfl rfl dX4_watches_76 ?_
      refine lv_iconst (v := (2 : Int32)) hx hb dX4_watches_79 (by decide) ?_
      obtain ⟨r12, u11, hf⟩ := lm_bd_e hf
      refine lm_endi (lm_runV C0 hR hS (c_X1_shipsSeen isL_4 u11) (lw_cV 1 hts uw_260 mv_X1_shipsSeen rfl rfl hd_X1_shipsSeen ⟨Nat.le_of_ble_eq_true rfl, Nat.le_of_ble_eq_true rfl⟩) (isL_lt isL_4) (cell_L isL_4) rfl rfl hl rfl (Nat.le_of_ble_eq_true rfl) dX4_watches_80) hS (fun H locs hR hS => ?_)
      exact lm_riC C0 hR hS hf dX4_watches_83
    · have hf := lm_F b10 hf
      refine lv_aload_n hx hb dX4_watches_51 rfl (lv_at hl 0 rfl) ?_
      refine lm_get C0 hR (by decide) cell_0 rfl lw_in_X4 5 (by decide) uw_92 rfl rfl dX4_watches_52 ?_
      refine lv_aload_n hx hb dX4_watches_55 rfl (lv_at hl 0 rfl) ?_
      refine lm_get C0 hR (by decide) cell_0 rfl lw_in_X4 2 (by decide) uw_89 rfl rfl dX4_watches_56 ?_
      obtain ⟨σ16, u14, hf⟩ := lm_bd_e hf
      refine lm_endv (lm_runV C0 hR hS (c_X0_keep isL_4 u14) (lw_cV 1 hts uw_231 mv_X0_keep rfl rfl hd_X0_keep ⟨Nat.le_of_ble_eq_true rfl, Nat.le_of_ble_eq_true rfl⟩) (by decide) cell_16 rfl rfl hl rfl (Nat.le_of_ble_eq_true rfl) dX4_watches_59) hS (fun H locs hR hS => ?_)
      refine lv_aload_n hx hb dX4_watches_62 rfl (lv_at hl 0 rfl) ?_
      refine lm_get C0 hR (by decide) cell_0 rfl lw_in_X4 2 (by decide) uw_89 rfl rfl dX4_watches_63 ?_
      obtain ⟨σ19, u17, hf⟩ := lm_bd_e hf
      refine lm_endv (lm_runV C0 hR hS (c_X1_passWatch isL_4 u17) (lw_cV 0 hts uw_238 mv_X1_passWatch rfl rfl hd_X1_passWatch ⟨Nat.le_of_ble_eq_true rfl, Nat.le_of_ble_eq_true rfl⟩) (isL_lt isL_4) (cell_L isL_4) rfl rfl hl rfl (Nat.le_of_ble_eq_true rfl) dX4_watches_66) hS (fun H locs hR hS => ?_)
      obtain ⟨v20, ev20, hf⟩ := lm_nm_e hf
      refine lv_iinc (v := v20) (lv' := [(2, .int v20), (0, .ref (B + 0)), (1, .int x1)]) hx hb dX4_watches_69 hl (k := 2) rfl (by rw [ev20]; rfl) (by decide) rfl (fun ls hl => ?_)
      refine lv_goto (tgt := 46) hx hb dX4_watches_72 (by decide) ?_
      exact ih _ _ _ _ _ _ hR hS (lv_sub hl [1, 2, 0] rfl) hf
set_option maxRecDepth 100000 in
set_option maxHeartbeats 4000000 in
theorem c_X4_watches {σ τ σ' : Mem} {p1 : Int32} {r : Int32}  (hf : f_X4_watches σ p1 = some (r, σ')) : lm_CI l yX4_watches wsX4_watches rmX4_watches D cI cZ cL cR B [.ref (B + 0), .int p1] σ τ r σ' τ := by
  unfold f_X4_watches at hf
  refine lm_of (cc := cX4_watches) (maxL := 3) (ret := (some .int)) (own := RX4) (by decide) rfl (Nat.le_of_ble_eq_true rfl) (fun p e s m below meth c0 C0 hR ls hl => ?_)
  have hS : va_S (lm_A B) s.heap s.heap [] := va_S.rf
  have hl : lv_has ls 3 [(0, .ref (B + 0)), (1, .int p1)] := hl
  obtain ⟨hx, hb, hml, hr, hlk, hown, hts, hK, hX⟩ := id C0
  refine lv_aload_n hx hb dX4_watches_0 rfl (lv_at hl 0 rfl) ?_
  refine lm_get C0 hR (by decide) cell_0 rfl lw_in_X4 2 (by decide) uw_89 rfl rfl dX4_watches_1 ?_
  obtain ⟨r2, u1, hf⟩ := lm_bd_e hf
  refine lm_endi (lm_runV C0 hR hS (c_X1_isLit isL_4 u1) (lw_cV 0 hts uw_226 mv_X1_isLit rfl rfl hd_X1_isLit ⟨Nat.le_of_ble_eq_true rfl, Nat.le_of_ble_eq_true rfl⟩) (isL_lt isL_4) (cell_L isL_4) rfl rfl hl rfl (Nat.le_of_ble_eq_true rfl) dX4_watches_4) hS (fun H locs hR hS => ?_)
  refine lv_if_ne (tgt := 13) hx hb dX4_watches_7 (by decide) (fun b4 => ?_) (fun b4 => ?_)
  · have hf := lm_F b4 hf
    refine lv_iload_n hx hb dX4_watches_13 rfl (lv_at hl 1 rfl) ?_
    refine lv_iconst (v := (1 : Int32)) hx hb dX4_watches_14 (by decide) ?_
    refine lv_bipush (v := (24 : Int32)) hx hb dX4_watches_15 (by decide) ?_
    obtain ⟨r6, u5, hf⟩ := lm_bd_e hf
    refine lm_endi (lm_runS C0 hR hS (c_X4_isWithin u5) (lw_cS 3 hts uw_230 mv_X4_isWithin rfl rfl hd_X4_isWithin ⟨Nat.le_of_ble_eq_true rfl, Nat.le_of_ble_eq_true rfl⟩) rfl hl rfl (Nat.le_of_ble_eq_true rfl) dX4_watches_17) hS (fun H locs hR hS => ?_)
    refine lv_if_ne (tgt := 26) hx hb dX4_watches_20 (by decide) (fun b8 => ?_) (fun b8 => ?_)
    · have hf := lm_F b8 hf
      refine lv_aload_n hx hb dX4_watches_26 rfl (lv_at hl 0 rfl) ?_
      refine lm_get C0 hR (by decide) cell_0 rfl lw_in_X4 2 (by decide) uw_89 rfl rfl dX4_watches_27 ?_
      refine lm_get C0 hR (isL_lt isL_4) (cell_L isL_4) rfl lw_in_X1 6 (by decide) uw_57 rfl rfl dX4_watches_30 ?_
      refine lv_iload_n hx hb dX4_watches_33 rfl (lv_at hl 1 rfl) ?_
      refine lv_iadd hx hb dX4_watches_34 ?_
      refine lv_sipush (v := (999 : Int32)) hx hb dX4_watches_35 (by decide) ?_
      refine lv_icmp_le (tgt := 44) hx hb dX4_watches_38 (by decide) (fun b9 => ?_) (fun b9 => ?_)
      · have hf := lm_T b9 hf
        refine lv_iconst (v := (0 : Int32)) hx hb dX4_watches_44 (by decide) ?_
        refine lv_istore_n (lv' := [(2, .int (0 : Int32)), (0, .ref (B + 0)), (1, .int p1)]) hx hb dX4_watches_45 rfl hl (by decide) rfl (fun ls hl => ?_)
        exact w_X4_watches_46 C0 _ _ _ _ _ _ _ hR hS (lv_sub hl [1, 2, 0] rfl) hf
      · have hf := lm_F b9 hf
        refine lv_ldc hx hb hown (hts _ uw_149) dX4_watches_41 ?_
        exact lm_riC C0 hR hS hf dX4_watches_43
    · have hf := lm_T b8 hf
      refine lv_ldc hx hb hown (hts _ uw_105) dX4_watches_23 ?_
      exact lm_riC C0 hR hS hf dX4_watches_25
  · have hf := lm_T b4 hf
    refine lv_ldc hx hb hown (hts _ uw_216) dX4_watches_10 ?_
    exact lm_riC C0 hR hS hf dX4_watches_12
end
/-! ===== X4_pour ===== -/
abbrev rmX4_pour : Room := { frames := 3, cells := 0, slots := 0, locals := 81 }
def f_X4_pour (σ : Mem) (p1 : Int32) : Option (Int32 × Mem) := lm_bd (f_X1_isLit 4 σ) fun r2 => if r2 = 0 then (some ((-1000002 : Int32), σ)) else (lm_bd (f_X4_isWithin p1 (1 : Int32) (60 : Int32)) fun r6 => if r6 = 0 then (some ((-1000001 : Int32), σ)) else (lm_bd (f_X0_keep 4 σ) fun σ11 => lm_bd (f_X1_addOil 4 σ11 p1) fun σ14 => some ((σ14 4 5), σ14)))
abbrev wsX4_pour : List Cond := Cond.code yX4_pour cX4_pour 2 (some .int) :: lw_u
theorem mv_X4_pour : Cond.instanceMethod yX4_pour ∈ lw_u ∧ Cond.selects yX4_pour.cls yX4_pour yX4_pour ∈ lw_u ∧ Cond.initialized yX4_pour.cls ∈ lw_u ∧ Cond.code yX4_pour cX4_pour 2 (some .int) ∈ lw_u := ⟨uw_273, uw_274, uw_1, uw_275⟩
theorem hd_X4_pour : yX4_pour.cls ≠ "java/lang/invoke/MethodHandle" ∧ yX4_pour.cls ≠ "java/lang/invoke/VarHandle" ∧ (parseMethodDescriptor yX4_pour.desc).map (fun d => d.parameters.length) = some 1 := by decide +kernel
section
variable {l : Launch} {D : va_G} {cI cZ cL cR : ClassId} {B : Nat}
set_option maxRecDepth 100000 in
set_option maxHeartbeats 4000000 in
theorem c_X4_pour {σ τ σ' : Mem} {p1 : Int32} {r : Int32}  (hf : f_X4_pour σ p1 = some (r, σ')) : lm_CI l yX4_pour wsX4_pour rmX4_pour D cI cZ cL cR B [.ref (B + 0), .int p1] σ τ r σ' τ := by
  unfold f_X4_pour at hf
  refine lm_of (cc := cX4_pour) (maxL := 2) (ret := (some .int)) (own := RX4) (by decide) rfl (Nat.le_of_ble_eq_true rfl) (fun p e s m below meth c0 C0 hR ls hl => ?_)
  have hS : va_S (lm_A B) s.heap s.heap [] := va_S.rf
  have hl : lv_has ls 2 [(0, .ref (B + 0)), (1, .int p1)] := hl
  obtain ⟨hx, hb, hml, hr, hlk, hown, hts, hK, hX⟩ := id C0
  refine lv_aload_n hx hb dX4_pour_0 rfl (lv_at hl 0 rfl) ?_
  refine lm_get C0 hR (by decide) cell_0 rfl lw_in_X4 2 (by decide) uw_89 rfl rfl dX4_pour_1 ?_
  obtain ⟨r2, u1, hf⟩ := lm_bd_e hf
  refine lm_endi (lm_runV C0 hR hS (c_X1_isLit isL_4 u1) (lw_cV 0 hts uw_226 mv_X1_isLit rfl rfl hd_X1_isLit ⟨Nat.le_of_ble_eq_true rfl, Nat.le_of_ble_eq_true rfl⟩) (isL_lt isL_4) (cell_L isL_4) rfl rfl hl rfl (Nat.le_of_ble_eq_true rfl) dX4_pour_4) hS (fun H locs hR hS => ?_)
  refine lv_if_ne (tgt := 13) hx hb dX4_pour_7 (by decide) (fun b4 => ?_) (fun b4 => ?_)
  · have hf := lm_F b4 hf
    refine lv_iload_n hx hb dX4_pour_13 rfl (lv_at hl 1 rfl) ?_
    refine lv_iconst (v := (1 : Int32)) hx hb dX4_pour_14 (by decide) ?_
    refine lv_bipush (v := (60 : Int32)) hx hb dX4_pour_15 (by decide) ?_
    obtain ⟨r6, u5, hf⟩ := lm_bd_e hf
    refine lm_endi (lm_runS C0 hR hS (c_X4_isWithin u5) (lw_cS 3 hts uw_230 mv_X4_isWithin rfl rfl hd_X4_isWithin ⟨Nat.le_of_ble_eq_true rfl, Nat.le_of_ble_eq_true rfl⟩) rfl hl rfl (Nat.le_of_ble_eq_true rfl) dX4_pour_17) hS (fun H locs hR hS => ?_)
    refine lv_if_ne (tgt := 26) hx hb dX4_pour_20 (by decide) (fun b8 => ?_) (fun b8 => ?_)
    · have hf := lm_F b8 hf
      refine lv_aload_n hx hb dX4_pour_26 rfl (lv_at hl 0 rfl) ?_
      refine lm_get C0 hR (by decide) cell_0 rfl lw_in_X4 5 (by decide) uw_92 rfl rfl dX4_pour_27 ?_
      refine lv_aload_n hx hb dX4_pour_30 rfl (lv_at hl 0 rfl) ?_
      refine lm_get C0 hR (by decide) cell_0 rfl lw_in_X4 2 (by decide) uw_89 rfl rfl dX4_pour_31 ?_
      obtain ⟨σ11, u9, hf⟩ := lm_bd_e hf
      refine lm_endv (lm_runV C0 hR hS (c_X0_keep isL_4 u9) (lw_cV 1 hts uw_231 mv_X0_keep rfl rfl hd_X0_keep ⟨Nat.le_of_ble_eq_true rfl, Nat.le_of_ble_eq_true rfl⟩) (by decide) cell_16 rfl rfl hl rfl (Nat.le_of_ble_eq_true rfl) dX4_pour_34) hS (fun H locs hR hS => ?_)
      refine lv_aload_n hx hb dX4_pour_37 rfl (lv_at hl 0 rfl) ?_
      refine lm_get C0 hR (by decide) cell_0 rfl lw_in_X4 2 (by decide) uw_89 rfl rfl dX4_pour_38 ?_
      refine lv_iload_n hx hb dX4_pour_41 rfl (lv_at hl 1 rfl) ?_
      obtain ⟨σ14, u12, hf⟩ := lm_bd_e hf
      refine lm_endv (lm_runV C0 hR hS (c_X1_addOil isL_4 u12) (lw_cV 1 hts uw_276 mv_X1_addOil rfl rfl hd_X1_addOil ⟨Nat.le_of_ble_eq_true rfl, Nat.le_of_ble_eq_true rfl⟩) (isL_lt isL_4) (cell_L isL_4) rfl rfl hl rfl (Nat.le_of_ble_eq_true rfl) dX4_pour_42) hS (fun H locs hR hS => ?_)
      refine lv_aload_n hx hb dX4_pour_45 rfl (lv_at hl 0 rfl) ?_
      refine lm_get C0 hR (by decide) cell_0 rfl lw_in_X4 2 (by decide) uw_89 rfl rfl dX4_pour_46 ?_
      refine lm_get C0 hR (isL_lt isL_4) (cell_L isL_4) rfl lw_in_X1 5 (by decide) uw_55 rfl rfl dX4_pour_49 ?_
      exact lm_riC C0 hR hS hf dX4_pour_52
    · have hf := lm_T b8 hf
      refine lv_ldc hx hb hown (hts _ uw_105) dX4_pour_23 ?_
      exact lm_riC C0 hR hS hf dX4_pour_25
  · have hf := lm_T b4 hf
    refine lv_ldc hx hb hown (hts _ uw_216) dX4_pour_10 ?_
    exact lm_riC C0 hR hS hf dX4_pour_12
end
/-! ===== X4_fog ===== -/
abbrev rmX4_fog : Room := { frames := 3, cells := 0, slots := 0, locals := 81 }
def f_X4_fog (σ : Mem) (p1 : Int32) (p2 : Int32) : Option (Int32 × Mem) := lm_bd (f_X4_isBelow p1 (σ 4 7)) fun r2 => if r2 = 0 then (some ((-1000001 : Int32), σ)) else (lm_bd (f_X4_isWithin p2 (0 : Int32) (9 : Int32)) fun r6 => if r6 = 0 then (some ((-1000001 : Int32), σ)) else (lm_bd (f_X0_keep 4 σ) fun σ11 => lm_ck (lm_in p1 6) (lm_nm (σ11 (4 + 1) p1.toNatClampNeg) fun v13 => lm_ck (lm_in p1 6) (lm_nm (up σ11 (4 + 1) p1.toNatClampNeg p2) fun σ15 => some (v13, σ15)))))
abbrev wsX4_fog : List Cond := Cond.code yX4_fog cX4_fog 4 (some .int) :: lw_u
theorem mv_X4_fog : Cond.instanceMethod yX4_fog ∈ lw_u ∧ Cond.selects yX4_fog.cls yX4_fog yX4_fog ∈ lw_u ∧ Cond.initialized yX4_fog.cls ∈ lw_u ∧ Cond.code yX4_fog cX4_fog 4 (some .int) ∈ lw_u := ⟨uw_281, uw_282, uw_1, uw_283⟩
theorem hd_X4_fog : yX4_fog.cls ≠ "java/lang/invoke/MethodHandle" ∧ yX4_fog.cls ≠ "java/lang/invoke/VarHandle" ∧ (parseMethodDescriptor yX4_fog.desc).map (fun d => d.parameters.length) = some 2 := by decide +kernel
section
variable {l : Launch} {D : va_G} {cI cZ cL cR : ClassId} {B : Nat}
set_option maxRecDepth 100000 in
set_option maxHeartbeats 4000000 in
theorem c_X4_fog {σ τ σ' : Mem} {p1 : Int32} {p2 : Int32} {r : Int32}  (hf : f_X4_fog σ p1 p2 = some (r, σ')) : lm_CI l yX4_fog wsX4_fog rmX4_fog D cI cZ cL cR B [.ref (B + 0), .int p1, .int p2] σ τ r σ' τ := by
  unfold f_X4_fog at hf
  refine lm_of (cc := cX4_fog) (maxL := 4) (ret := (some .int)) (own := RX4) (by decide) rfl (Nat.le_of_ble_eq_true rfl) (fun p e s m below meth c0 C0 hR ls hl => ?_)
  have hS : va_S (lm_A B) s.heap s.heap [] := va_S.rf
  have hl : lv_has ls 4 [(0, .ref (B + 0)), (1, .int p1), (2, .int p2)] := hl
  obtain ⟨hx, hb, hml, hr, hlk, hown, hts, hK, hX⟩ := id C0
  refine lv_iload_n hx hb dX4_fog_0 rfl (lv_at hl 1 rfl) ?_
  refine lv_aload_n hx hb dX4_fog_1 rfl (lv_at hl 0 rfl) ?_
  refine lm_get C0 hR (by decide) cell_0 rfl lw_in_X4 2 (by decide) uw_89 rfl rfl dX4_fog_2 ?_
  refine lm_get C0 hR (isL_lt isL_4) (cell_L isL_4) rfl lw_in_X1 7 (by decide) uw_60 rfl rfl dX4_fog_5 ?_
  obtain ⟨r2, u1, hf⟩ := lm_bd_e hf
  refine lm_endi (lm_runS C0 hR hS (c_X4_isBelow u1) (lw_cS 2 hts uw_102 mv_X4_isBelow rfl rfl hd_X4_isBelow ⟨Nat.le_of_ble_eq_true rfl, Nat.le_of_ble_eq_true rfl⟩) rfl hl rfl (Nat.le_of_ble_eq_true rfl) dX4_fog_8) hS (fun H locs hR hS => ?_)
  refine lv_if_eq (tgt := 24) hx hb dX4_fog_11 (by decide) (fun b4 => ?_) (fun b4 => ?_)
  · have hf := lm_T b4 hf
    refine lv_ldc hx hb hown (hts _ uw_105) dX4_fog_24 ?_
    exact lm_riC C0 hR hS hf dX4_fog_26
  · have hf := lm_F b4 hf
    refine lv_iload_n hx hb dX4_fog_14 rfl (lv_at hl 2 rfl) ?_
    refine lv_iconst (v := (0 : Int32)) hx hb dX4_fog_15 (by decide) ?_
    refine lv_bipush (v := (9 : Int32)) hx hb dX4_fog_16 (by decide) ?_
    obtain ⟨r6, u5, hf⟩ := lm_bd_e hf
    refine lm_endi (lm_runS C0 hR hS (c_X4_isWithin u5) (lw_cS 3 hts uw_230 mv_X4_isWithin rfl rfl hd_X4_isWithin ⟨Nat.le_of_ble_eq_true rfl, Nat.le_of_ble_eq_true rfl⟩) rfl hl rfl (Nat.le_of_ble_eq_true rfl) dX4_fog_18) hS (fun H locs hR hS => ?_)
    refine lv_if_ne (tgt := 27) hx hb dX4_fog_21 (by decide) (fun b8 => ?_) (fun b8 => ?_)
    · have hf := lm_F b8 hf
      refine lv_aload_n hx hb dX4_fog_27 rfl (lv_at hl 0 rfl) ?_
      refine lm_get C0 hR (by decide) cell_0 rfl lw_in_X4 5 (by decide) uw_92 rfl rfl dX4_fog_28 ?_
      refine lv_aload_n hx hb dX4_fog_31 rfl (lv_at hl 0 rfl) ?_
      refine lm_get C0 hR (by decide) cell_0 rfl lw_in_X4 2 (by decide) uw_89 rfl rfl dX4_fog_32 ?_
      obtain ⟨σ11, u9, hf⟩ := lm_bd_e hf
      refine lm_endv (lm_runV C0 hR hS (c_X0_keep isL_4 u9) (lw_cV 1 hts uw_231 mv_X0_keep rfl rfl hd_X0_keep ⟨Nat.le_of_ble_eq_true rfl, Nat.le_of_ble_eq_true rfl⟩) (by decide) cell_16 rfl rfl hl rfl (Nat.le_of_ble_eq_true rfl) dX4_fog_35) hS (fun H locs hR hS => ?_)
      refine lv_aload_n hx hb dX4_fog_38 rfl (lv_at hl 0 rfl) ?_
      refine lm_get C0 hR (by decide) cell_0 rfl lw_in_X4 2 (by decide) uw_89 rfl rfl dX4_fog_39 ?_
      refine lm_get C0 hR (isL_lt isL_4) (cell_L isL_4) rfl lw_in_X1 0 (by decide) uw_40 rfl rfl dX4_fog_42 ?_
      refine lv_iload_n hx hb dX4_fog_45 rfl (lv_at hl 1 rfl) ?_
      obtain ⟨z12, hf⟩ := lm_ck_e hf
      refine lm_ild C0 hR (isL_lt1 isL_4) (cell_L1 isL_4) z12 dX4_fog_46 ?_
      obtain ⟨v13, ev13, hf⟩ := lm_nm_e hf
      refine lm_topi ev13 ?_
      refine lv_istore_n (lv' := [(3, .int v13), (0, .ref (B + 0)), (1, .int p1), (2, .int p2)]) hx hb dX4_fog_47 rfl hl (by decide) rfl (fun ls hl => ?_)
      refine lv_aload_n hx hb dX4_fog_48 rfl (lv_at hl 1 rfl) ?_
      refine lm_get C0 hR (by decide) cell_0 rfl lw_in_X4 2 (by decide) uw_89 rfl rfl dX4_fog_49 ?_
      refine lm_get C0 hR (isL_lt isL_4) (cell_L isL_4) rfl lw_in_X1 0 (by decide) uw_40 rfl rfl dX4_fog_52 ?_
      refine lv_iload_n hx hb dX4_fog_55 rfl (lv_at hl 2 rfl) ?_
      refine lv_iload_n hx hb dX4_fog_56 rfl (lv_at hl 3 rfl) ?_
      obtain ⟨z14, hf⟩ := lm_ck_e hf
      obtain ⟨σ15, eσ15, hf⟩ := lm_nm_e hf
      refine lm_istC C0 hR hS (isL_lt1 isL_4) (cell_L1 isL_4) z14  eσ15 (cell_L1u isL_4) dX4_fog_57 (fun H locs hR hS => ?_)
      refine lv_iload_n hx hb dX4_fog_58 rfl (lv_at hl 0 rfl) ?_
      exact lm_riC C0 hR hS hf dX4_fog_59
    · have hf := lm_T b8 hf
      refine lv_ldc hx hb hown (hts _ uw_105) dX4_fog_24 ?_
      exact lm_riC C0 hR hS hf dX4_fog_26
end
/-! ===== X4_eyes ===== -/
abbrev rmX4_eyes : Room := { frames := 3, cells := 0, slots := 0, locals := 81 }
def f_X4_eyes (σ : Mem) (p1 : Int32) : Option (Int32 × Mem) := lm_bd (f_X1_isLit 4 σ) fun r2 => if r2 = 0 then (some ((-1000002 : Int32), σ)) else (lm_bd (f_X4_isWithin p1 (0 : Int32) (12 : Int32)) fun r6 => if r6 = 0 then (some ((-1000001 : Int32), σ)) else (lm_bd (f_X0_keep 4 σ) fun σ11 => lm_nm (σ11 4 4) fun v12 => lm_nm (up σ11 4 4 p1) fun σ13 => some (v12, σ13)))
abbrev wsX4_eyes : List Cond := Cond.code yX4_eyes cX4_eyes 3 (some .int) :: lw_u
theorem mv_X4_eyes : Cond.instanceMethod yX4_eyes ∈ lw_u ∧ Cond.selects yX4_eyes.cls yX4_eyes yX4_eyes ∈ lw_u ∧ Cond.initialized yX4_eyes.cls ∈ lw_u ∧ Cond.code yX4_eyes cX4_eyes 3 (some .int) ∈ lw_u := ⟨uw_285, uw_286, uw_1, uw_287⟩
theorem hd_X4_eyes : yX4_eyes.cls ≠ "java/lang/invoke/MethodHandle" ∧ yX4_eyes.cls ≠ "java/lang/invoke/VarHandle" ∧ (parseMethodDescriptor yX4_eyes.desc).map (fun d => d.parameters.length) = some 1 := by decide +kernel
section
variable {l : Launch} {D : va_G} {cI cZ cL cR : ClassId} {B : Nat}
set_option maxRecDepth 100000 in
set_option maxHeartbeats 4000000 in
theorem c_X4_eyes {σ τ σ' : Mem} {p1 : Int32} {r : Int32}  (hf : f_X4_eyes σ p1 = some (r, σ')) : lm_CI l yX4_eyes wsX4_eyes rmX4_eyes D cI cZ cL cR B [.ref (B + 0), .int p1] σ τ r σ' τ := by
  unfold f_X4_eyes at hf
  refine lm_of (cc := cX4_eyes) (maxL := 3) (ret := (some .int)) (own := RX4) (by decide) rfl (Nat.le_of_ble_eq_true rfl) (fun p e s m below meth c0 C0 hR ls hl => ?_)
  have hS : va_S (lm_A B) s.heap s.heap [] := va_S.rf
  have hl : lv_has ls 3 [(0, .ref (B + 0)), (1, .int p1)] := hl
  obtain ⟨hx, hb, hml, hr, hlk, hown, hts, hK, hX⟩ := id C0
  refine lv_aload_n hx hb dX4_eyes_0 rfl (lv_at hl 0 rfl) ?_
  refine lm_get C0 hR (by decide) cell_0 rfl lw_in_X4 2 (by decide) uw_89 rfl rfl dX4_eyes_1 ?_
  obtain ⟨r2, u1, hf⟩ := lm_bd_e hf
  refine lm_endi (lm_runV C0 hR hS (c_X1_isLit isL_4 u1) (lw_cV 0 hts uw_226 mv_X1_isLit rfl rfl hd_X1_isLit ⟨Nat.le_of_ble_eq_true rfl, Nat.le_of_ble_eq_true rfl⟩) (isL_lt isL_4) (cell_L isL_4) rfl rfl hl rfl (Nat.le_of_ble_eq_true rfl) dX4_eyes_4) hS (fun H locs hR hS => ?_)
  refine lv_if_ne (tgt := 13) hx hb dX4_eyes_7 (by decide) (fun b4 => ?_) (fun b4 => ?_)
  · have hf := lm_F b4 hf
    refine lv_iload_n hx hb dX4_eyes_13 rfl (lv_at hl 1 rfl) ?_
    refine lv_iconst (v := (0 : Int32)) hx hb dX4_eyes_14 (by decide) ?_
    refine lv_bipush (v := (12 : Int32)) hx hb dX4_eyes_15 (by decide) ?_
    obtain ⟨r6, u5, hf⟩ := lm_bd_e hf
    refine lm_endi (lm_runS C0 hR hS (c_X4_isWithin u5) (lw_cS 3 hts uw_230 mv_X4_isWithin rfl rfl hd_X4_isWithin ⟨Nat.le_of_ble_eq_true rfl, Nat.le_of_ble_eq_true rfl⟩) rfl hl rfl (Nat.le_of_ble_eq_true rfl) dX4_eyes_17) hS (fun H locs hR hS => ?_)
    refine lv_if_ne (tgt := 26) hx hb dX4_eyes_20 (by decide) (fun b8 => ?_) (fun b8 => ?_)
    · have hf := lm_F b8 hf
      refine lv_aload_n hx hb dX4_eyes_26 rfl (lv_at hl 0 rfl) ?_
      refine lm_get C0 hR (by decide) cell_0 rfl lw_in_X4 5 (by decide) uw_92 rfl rfl dX4_eyes_27 ?_
      refine lv_aload_n hx hb dX4_eyes_30 rfl (lv_at hl 0 rfl) ?_
      refine lm_get C0 hR (by decide) cell_0 rfl lw_in_X4 2 (by decide) uw_89 rfl rfl dX4_eyes_31 ?_
      obtain ⟨σ11, u9, hf⟩ := lm_bd_e hf
      refine lm_endv (lm_runV C0 hR hS (c_X0_keep isL_4 u9) (lw_cV 1 hts uw_231 mv_X0_keep rfl rfl hd_X0_keep ⟨Nat.le_of_ble_eq_true rfl, Nat.le_of_ble_eq_true rfl⟩) (by decide) cell_16 rfl rfl hl rfl (Nat.le_of_ble_eq_true rfl) dX4_eyes_34) hS (fun H locs hR hS => ?_)
      refine lv_aload_n hx hb dX4_eyes_37 rfl (lv_at hl 0 rfl) ?_
      refine lm_get C0 hR (by decide) cell_0 rfl lw_in_X4 2 (by decide) uw_89 rfl rfl dX4_eyes_38 ?_
      refine lm_get C0 hR (isL_lt isL_4) (cell_L isL_4) rfl lw_in_X1 4 (by decide) uw_52 rfl rfl dX4_eyes_41 ?_
      obtain ⟨v12, ev12, hf⟩ := lm_nm_e hf
      refine lm_topi ev12 ?_
      refine lv_istore_n (lv' := [(2, .int v12), (0, .ref (B + 0)), (1, .int p1)]) hx hb dX4_eyes_44 rfl hl (by decide) rfl (fun ls hl => ?_)
      refine lv_aload_n hx hb dX4_eyes_45 rfl (lv_at hl 1 rfl) ?_
      refine lm_get C0 hR (by decide) cell_0 rfl lw_in_X4 2 (by decide) uw_89 rfl rfl dX4_eyes_46 ?_
      refine lv_iload_n hx hb dX4_eyes_49 rfl (lv_at hl 2 rfl) ?_
      obtain ⟨σ13, eσ13, hf⟩ := lm_nm_e hf
      refine lm_putC C0 hR hS (isL_lt isL_4) (cell_L isL_4) rfl lw_in_X1 tyX1 tyX1_ok nmX1 4 (by decide) uw_52 rfl rfl rfl rfl rfl (Nat.le_of_ble_eq_true rfl) eσ13 (cell_Lu isL_4) dX4_eyes_50 (fun H locs hR hS => ?_)
      refine lv_iload_n hx hb dX4_eyes_53 rfl (lv_at hl 0 rfl) ?_
      exact lm_riC C0 hR hS hf dX4_eyes_54
    · have hf := lm_T b8 hf
      refine lv_ldc hx hb hown (hts _ uw_105) dX4_eyes_23 ?_
      exact lm_riC C0 hR hS hf dX4_eyes_25
  · have hf := lm_T b4 hf
    refine lv_ldc hx hb hown (hts _ uw_216) dX4_eyes_10 ?_
    exact lm_riC C0 hR hS hf dX4_eyes_12
end
/-! ===== X4_move ===== -/
abbrev rmX4_move : Room := { frames := 3, cells := 0, slots := 0, locals := 81 }
def f_X4_move (σ : Mem) (p1 : Int32) (p2 : Int32) : Option (Int32 × Mem) := lm_bd (f_X4_isBelow p1 (σ 4 8)) fun r2 => if r2 = 0 then (some ((-1000001 : Int32), σ)) else (lm_bd (f_X4_isBelow p2 (σ 4 3)) fun r6 => if r6 = 0 then (some ((-1000001 : Int32), σ)) else (lm_ck (lm_in p1 6) (lm_nm (σ (4 + 3) p1.toNatClampNeg) fun v10 => if v10 = p2 then (some ((-1000002 : Int32), σ)) else (lm_bd (f_X0_keep 4 σ) fun σ14 => lm_ck (lm_in p1 6) (lm_nm (up σ14 (4 + 3) p1.toNatClampNeg p2) fun σ16 => some (v10, σ16))))))
abbrev wsX4_move : List Cond := Cond.code yX4_move cX4_move 4 (some .int) :: lw_u
theorem mv_X4_move : Cond.instanceMethod yX4_move ∈ lw_u ∧ Cond.selects yX4_move.cls yX4_move yX4_move ∈ lw_u ∧ Cond.initialized yX4_move.cls ∈ lw_u ∧ Cond.code yX4_move cX4_move 4 (some .int) ∈ lw_u := ⟨uw_289, uw_290, uw_1, uw_291⟩
theorem hd_X4_move : yX4_move.cls ≠ "java/lang/invoke/MethodHandle" ∧ yX4_move.cls ≠ "java/lang/invoke/VarHandle" ∧ (parseMethodDescriptor yX4_move.desc).map (fun d => d.parameters.length) = some 2 := by decide +kernel
section
variable {l : Launch} {D : va_G} {cI cZ cL cR : ClassId} {B : Nat}
set_option maxRecDepth 100000 in
set_option maxHeartbeats 4000000 in
theorem c_X4_move {σ τ σ' : Mem} {p1 : Int32} {p2 : Int32} {r : Int32}  (hf : f_X4_move σ p1 p2 = some (r, σ')) : lm_CI l yX4_move wsX4_move rmX4_move D cI cZ cL cR B [.ref (B + 0), .int p1, .int p2] σ τ r σ' τ := by
  unfold f_X4_move at hf
  refine lm_of (cc := cX4_move) (maxL := 4) (ret := (some .int)) (own := RX4) (by decide) rfl (Nat.le_of_ble_eq_true rfl) (fun p e s m below meth c0 C0 hR ls hl => ?_)
  have hS : va_S (lm_A B) s.heap s.heap [] := va_S.rf
  have hl : lv_has ls 4 [(0, .ref (B + 0)), (1, .int p1), (2, .int p2)] := hl
  obtain ⟨hx, hb, hml, hr, hlk, hown, hts, hK, hX⟩ := id C0
  refine lv_iload_n hx hb dX4_move_0 rfl (lv_at hl 1 rfl) ?_
  refine lv_aload_n hx hb dX4_move_1 rfl (lv_at hl 0 rfl) ?_
  refine lm_get C0 hR (by decide) cell_0 rfl lw_in_X4 2 (by decide) uw_89 rfl rfl dX4_move_2 ?_
  refine lm_get C0 hR (isL_lt isL_4) (cell_L isL_4) rfl lw_in_X1 8 (by decide) uw_62 rfl rfl dX4_move_5 ?_
  obtain ⟨r2, u1, hf⟩ := lm_bd_e hf
  refine lm_endi (lm_runS C0 hR hS (c_X4_isBelow u1) (lw_cS 2 hts uw_102 mv_X4_isBelow rfl rfl hd_X4_isBelow ⟨Nat.le_of_ble_eq_true rfl, Nat.le_of_ble_eq_true rfl⟩) rfl hl rfl (Nat.le_of_ble_eq_true rfl) dX4_move_8) hS (fun H locs hR hS => ?_)
  refine lv_if_eq (tgt := 28) hx hb dX4_move_11 (by decide) (fun b4 => ?_) (fun b4 => ?_)
  · have hf := lm_T b4 hf
    refine lv_ldc hx hb hown (hts _ uw_105) dX4_move_28 ?_
    exact lm_riC C0 hR hS hf dX4_move_30
  · have hf := lm_F b4 hf
    refine lv_iload_n hx hb dX4_move_14 rfl (lv_at hl 2 rfl) ?_
    refine lv_aload_n hx hb dX4_move_15 rfl (lv_at hl 0 rfl) ?_
    refine lm_get C0 hR (by decide) cell_0 rfl lw_in_X4 2 (by decide) uw_89 rfl rfl dX4_move_16 ?_
    refine lm_get C0 hR (isL_lt isL_4) (cell_L isL_4) rfl lw_in_X1 3 (by decide) uw_49 rfl rfl dX4_move_19 ?_
    obtain ⟨r6, u5, hf⟩ := lm_bd_e hf
    refine lm_endi (lm_runS C0 hR hS (c_X4_isBelow u5) (lw_cS 2 hts uw_102 mv_X4_isBelow rfl rfl hd_X4_isBelow ⟨Nat.le_of_ble_eq_true rfl, Nat.le_of_ble_eq_true rfl⟩) rfl hl rfl (Nat.le_of_ble_eq_true rfl) dX4_move_22) hS (fun H locs hR hS => ?_)
    refine lv_if_ne (tgt := 31) hx hb dX4_move_25 (by decide) (fun b8 => ?_) (fun b8 => ?_)
    · have hf := lm_F b8 hf
      refine lv_aload_n hx hb dX4_move_31 rfl (lv_at hl 0 rfl) ?_
      refine lm_get C0 hR (by decide) cell_0 rfl lw_in_X4 2 (by decide) uw_89 rfl rfl dX4_move_32 ?_
      refine lm_get C0 hR (isL_lt isL_4) (cell_L isL_4) rfl lw_in_X1 2 (by decide) uw_46 rfl rfl dX4_move_35 ?_
      refine lv_iload_n hx hb dX4_move_38 rfl (lv_at hl 1 rfl) ?_
      obtain ⟨z9, hf⟩ := lm_ck_e hf
      refine lm_ild C0 hR (isL_lt3 isL_4) (cell_L3 isL_4) z9 dX4_move_39 ?_
      obtain ⟨v10, ev10, hf⟩ := lm_nm_e hf
      refine lm_topi ev10 ?_
      refine lv_istore_n (lv' := [(3, .int v10), (0, .ref (B + 0)), (1, .int p1), (2, .int p2)]) hx hb dX4_move_40 rfl hl (by decide) rfl (fun ls hl => ?_)
      refine lv_iload_n hx hb dX4_move_41 rfl (lv_at hl 0 rfl) ?_
      refine lv_iload_n hx hb dX4_move_42 rfl (lv_at hl 3 rfl) ?_
      refine lv_icmp_ne (tgt := 49) hx hb dX4_move_43 (by decide) (fun b11 => ?_) (fun b11 => ?_)
      · have hf := lm_F b11 hf
        refine lv_aload_n hx hb dX4_move_49 rfl (lv_at hl 1 rfl) ?_
        refine lm_get C0 hR (by decide) cell_0 rfl lw_in_X4 5 (by decide) uw_92 rfl rfl dX4_move_50 ?_
        refine lv_aload_n hx hb dX4_move_53 rfl (lv_at hl 1 rfl) ?_
        refine lm_get C0 hR (by decide) cell_0 rfl lw_in_X4 2 (by decide) uw_89 rfl rfl dX4_move_54 ?_
        obtain ⟨σ14, u12, hf⟩ := lm_bd_e hf
        refine lm_endv (lm_runV C0 hR hS (c_X0_keep isL_4 u12) (lw_cV 1 hts uw_231 mv_X0_keep rfl rfl hd_X0_keep ⟨Nat.le_of_ble_eq_true rfl, Nat.le_of_ble_eq_true rfl⟩) (by decide) cell_16 rfl rfl hl rfl (Nat.le_of_ble_eq_true rfl) dX4_move_57) hS (fun H locs hR hS => ?_)
        refine lv_aload_n hx hb dX4_move_60 rfl (lv_at hl 1 rfl) ?_
        refine lm_get C0 hR (by decide) cell_0 rfl lw_in_X4 2 (by decide) uw_89 rfl rfl dX4_move_61 ?_
        refine lm_get C0 hR (isL_lt isL_4) (cell_L isL_4) rfl lw_in_X1 2 (by decide) uw_46 rfl rfl dX4_move_64 ?_
        refine lv_iload_n hx hb dX4_move_67 rfl (lv_at hl 2 rfl) ?_
        refine lv_iload_n hx hb dX4_move_68 rfl (lv_at hl 3 rfl) ?_
        obtain ⟨z15, hf⟩ := lm_ck_e hf
        obtain ⟨σ16, eσ16, hf⟩ := lm_nm_e hf
        refine lm_istC C0 hR hS (isL_lt3 isL_4) (cell_L3 isL_4) z15  eσ16 (cell_L3u isL_4) dX4_move_69 (fun H locs hR hS => ?_)
        refine lv_iload_n hx hb dX4_move_70 rfl (lv_at hl 0 rfl) ?_
        exact lm_riC C0 hR hS hf dX4_move_71
      · have hf := lm_T b11 hf
        refine lv_ldc hx hb hown (hts _ uw_216) dX4_move_46 ?_
        exact lm_riC C0 hR hS hf dX4_move_48
    · have hf := lm_T b8 hf
      refine lv_ldc hx hb hown (hts _ uw_105) dX4_move_28 ?_
      exact lm_riC C0 hR hS hf dX4_move_30
end
/-! ===== X4_ship ===== -/
abbrev rmX4_ship : Room := { frames := 3, cells := 0, slots := 0, locals := 104 }
def f_X4_ship (σ : Mem) (p1 : Int32) (p2 : Int32) : Option (Int32) := lm_bd (f_X4_isBelow p1 (σ 4 8)) fun r2 => if r2 = 0 then (some (-1000001 : Int32)) else (if p2 = (0 : Int32) then (lm_ck (lm_in p1 6) (some (σ (4 + 3) p1.toNatClampNeg))) else (if p2 = (1 : Int32) then (lm_bd (f_X1_loggedOf 4 σ p1) fun r9 => some r9) else (if p2 = (2 : Int32) then (lm_bd (f_X1_nextPlaceOf 4 σ p1) fun r13 => some r13) else (some (-1000001 : Int32)))))
abbrev wsX4_ship : List Cond := Cond.code yX4_ship cX4_ship 3 (some .int) :: lw_u
theorem mv_X4_ship : Cond.instanceMethod yX4_ship ∈ lw_u ∧ Cond.selects yX4_ship.cls yX4_ship yX4_ship ∈ lw_u ∧ Cond.initialized yX4_ship.cls ∈ lw_u ∧ Cond.code yX4_ship cX4_ship 3 (some .int) ∈ lw_u := ⟨uw_293, uw_294, uw_1, uw_295⟩
theorem hd_X4_ship : yX4_ship.cls ≠ "java/lang/invoke/MethodHandle" ∧ yX4_ship.cls ≠ "java/lang/invoke/VarHandle" ∧ (parseMethodDescriptor yX4_ship.desc).map (fun d => d.parameters.length) = some 2 := by decide +kernel
section
variable {l : Launch} {D : va_G} {cI cZ cL cR : ClassId} {B : Nat}
set_option maxRecDepth 100000 in
set_option maxHeartbeats 4000000 in
theorem c_X4_ship {σ τ : Mem} {p1 : Int32} {p2 : Int32} {r : Int32}  (hf : f_X4_ship σ p1 p2 = some r) : lm_CI l yX4_ship wsX4_ship rmX4_ship D cI cZ cL cR B [.ref (B + 0), .int p1, .int p2] σ τ r σ τ := by
  unfold f_X4_ship at hf
  refine lm_of (cc := cX4_ship) (maxL := 3) (ret := (some .int)) (own := RX4) (by decide) rfl (Nat.le_of_ble_eq_true rfl) (fun p e s m below meth c0 C0 hR ls hl => ?_)
  have hS : va_S (lm_A B) s.heap s.heap [] := va_S.rf
  have hl : lv_has ls 3 [(0, .ref (B + 0)), (1, .int p1), (2, .int p2)] := hl
  obtain ⟨hx, hb, hml, hr, hlk, hown, hts, hK, hX⟩ := id C0
  refine lv_iload_n hx hb dX4_ship_0 rfl (lv_at hl 1 rfl) ?_
  refine lv_aload_n hx hb dX4_ship_1 rfl (lv_at hl 0 rfl) ?_
  refine lm_get C0 hR (by decide) cell_0 rfl lw_in_X4 2 (by decide) uw_89 rfl rfl dX4_ship_2 ?_
  refine lm_get C0 hR (isL_lt isL_4) (cell_L isL_4) rfl lw_in_X1 8 (by decide) uw_62 rfl rfl dX4_ship_5 ?_
  obtain ⟨r2, u1, hf⟩ := lm_bd_e hf
  refine lm_endi (lm_runS C0 hR hS (c_X4_isBelow u1) (lw_cS 2 hts uw_102 mv_X4_isBelow rfl rfl hd_X4_isBelow ⟨Nat.le_of_ble_eq_true rfl, Nat.le_of_ble_eq_true rfl⟩) rfl hl rfl (Nat.le_of_ble_eq_true rfl) dX4_ship_8) hS (fun H locs hR hS => ?_)
  refine lv_if_ne (tgt := 17) hx hb dX4_ship_11 (by decide) (fun b4 => ?_) (fun b4 => ?_)
  · have hf := lm_F b4 hf
    refine lv_iload_n hx hb dX4_ship_17 rfl (lv_at hl 2 rfl) ?_
    by_cases b5 : p2 = (0 : Int32)
    · have hf := lm_T b5 hf
      refine lv_tableIn (off := 26) (tgt := 44) hx hb dX4_ship_18 (by rw [b5]; decide) (by rw [b5]; decide) (by rw [b5]; decide) (by decide) ?_
      refine lv_aload_n hx hb dX4_ship_44 rfl (lv_at hl 0 rfl) ?_
      refine lm_get C0 hR (by decide) cell_0 rfl lw_in_X4 2 (by decide) uw_89 rfl rfl dX4_ship_45 ?_
      refine lm_get C0 hR (isL_lt isL_4) (cell_L isL_4) rfl lw_in_X1 2 (by decide) uw_46 rfl rfl dX4_ship_48 ?_
      refine lv_iload_n hx hb dX4_ship_51 rfl (lv_at hl 1 rfl) ?_
      obtain ⟨z6, hf⟩ := lm_ck_e hf
      refine lm_ild C0 hR (isL_lt3 isL_4) (cell_L3 isL_4) z6 dX4_ship_52 ?_
      exact lm_riP C0 hR hS hf dX4_ship_53
    have hf := lm_F b5 hf
    by_cases b7 : p2 = (1 : Int32)
    · have hf := lm_T b7 hf
      refine lv_tableIn (off := 36) (tgt := 54) hx hb dX4_ship_18 (by rw [b7]; decide) (by rw [b7]; decide) (by rw [b7]; decide) (by decide) ?_
      refine lv_aload_n hx hb dX4_ship_54 rfl (lv_at hl 0 rfl) ?_
      refine lm_get C0 hR (by decide) cell_0 rfl lw_in_X4 2 (by decide) uw_89 rfl rfl dX4_ship_55 ?_
      refine lv_iload_n hx hb dX4_ship_58 rfl (lv_at hl 1 rfl) ?_
      obtain ⟨r9, u8, hf⟩ := lm_bd_e hf
      refine lm_endi (lm_runV C0 hR hS (c_X1_loggedOf isL_4 u8) (lw_cV 1 hts uw_296 mv_X1_loggedOf rfl rfl hd_X1_loggedOf ⟨Nat.le_of_ble_eq_true rfl, Nat.le_of_ble_eq_true rfl⟩) (isL_lt isL_4) (cell_L isL_4) rfl rfl hl rfl (Nat.le_of_ble_eq_true rfl) dX4_ship_59) hS (fun H locs hR hS => ?_)
      exact lm_riP C0 hR hS hf dX4_ship_62
    have hf := lm_F b7 hf
    by_cases b11 : p2 = (2 : Int32)
    · have hf := lm_T b11 hf
      refine lv_tableIn (off := 45) (tgt := 63) hx hb dX4_ship_18 (by rw [b11]; decide) (by rw [b11]; decide) (by rw [b11]; decide) (by decide) ?_
      refine lv_aload_n hx hb dX4_ship_63 rfl (lv_at hl 0 rfl) ?_
      refine lm_get C0 hR (by decide) cell_0 rfl lw_in_X4 2 (by decide) uw_89 rfl rfl dX4_ship_64 ?_
      refine lv_iload_n hx hb dX4_ship_67 rfl (lv_at hl 1 rfl) ?_
      obtain ⟨r13, u12, hf⟩ := lm_bd_e hf
      refine lm_endi (lm_runV C0 hR hS (c_X1_nextPlaceOf isL_4 u12) (lw_cV 1 hts uw_297 mv_X1_nextPlaceOf rfl rfl hd_X1_nextPlaceOf ⟨Nat.le_of_ble_eq_true rfl, Nat.le_of_ble_eq_true rfl⟩) (isL_lt isL_4) (cell_L isL_4) rfl rfl hl rfl (Nat.le_of_ble_eq_true rfl) dX4_ship_68) hS (fun H locs hR hS => ?_)
      exact lm_riP C0 hR hS hf dX4_ship_71
    have hf := lm_F b11 hf
    refine lv_tableOut (tgt := 72) hx hb dX4_ship_18 (by have qb5 := lv_neT b5 (a := 0) (by decide); have qb7 := lv_neT b7 (a := 1) (by decide); have qb11 := lv_neT b11 (a := 2) (by decide); omega) (by decide) ?_
    refine lv_ldc hx hb hown (hts _ uw_105) dX4_ship_72 ?_
    exact lm_riP C0 hR hS hf dX4_ship_74
  · have hf := lm_T b4 hf
    refine lv_ldc hx hb hown (hts _ uw_105) dX4_ship_14 ?_
    exact lm_riP C0 hR hS hf dX4_ship_16
end
/-! ===== X4_stand ===== -/
abbrev rmX4_stand : Room := { frames := 3, cells := 0, slots := 0, locals := 69 }
def f_X4_stand (σ : Mem) (p1 : Int32) : Option (Int32) := lm_bd (f_X1_isLit 4 σ) fun r2 => if r2 = 0 then (some (-1000002 : Int32)) else (if p1 = (0 : Int32) then (lm_bd (f_X1_shipsSeen 4 σ (0 : Int32)) fun r7 => some r7) else (if p1 = (1 : Int32) then (lm_bd (f_X1_shipsSeen 4 σ (1 : Int32)) fun r11 => some r11) else (if p1 = (2 : Int32) then (lm_bd (f_X1_shipsSeen 4 σ (2 : Int32)) fun r15 => some r15) else (if p1 = (3 : Int32) then (some (σ 4 4)) else (if p1 = (4 : Int32) then (some (σ 4 5)) else (if p1 = (5 : Int32) then (some (σ 4 3)) else (if p1 = (6 : Int32) then (lm_bd (f_X1_thickOf 4 σ (σ 4 6)) fun r22 => some r22) else (some (-1000001 : Int32)))))))))
abbrev wsX4_stand : List Cond := Cond.code yX4_stand cX4_stand 2 (some .int) :: lw_u
theorem mv_X4_stand : Cond.instanceMethod yX4_stand ∈ lw_u ∧ Cond.selects yX4_stand.cls yX4_stand yX4_stand ∈ lw_u ∧ Cond.initialized yX4_stand.cls ∈ lw_u ∧ Cond.code yX4_stand cX4_stand 2 (some .int) ∈ lw_u := ⟨uw_299, uw_300, uw_1, uw_301⟩
theorem hd_X4_stand : yX4_stand.cls ≠ "java/lang/invoke/MethodHandle" ∧ yX4_stand.cls ≠ "java/lang/invoke/VarHandle" ∧ (parseMethodDescriptor yX4_stand.desc).map (fun d => d.parameters.length) = some 1 := by decide +kernel
section
variable {l : Launch} {D : va_G} {cI cZ cL cR : ClassId} {B : Nat}
set_option maxRecDepth 100000 in
set_option maxHeartbeats 4000000 in
theorem c_X4_stand {σ τ : Mem} {p1 : Int32} {r : Int32}  (hf : f_X4_stand σ p1 = some r) : lm_CI l yX4_stand wsX4_stand rmX4_stand D cI cZ cL cR B [.ref (B + 0), .int p1] σ τ r σ τ := by
  unfold f_X4_stand at hf
  refine lm_of (cc := cX4_stand) (maxL := 2) (ret := (some .int)) (own := RX4) (by decide) rfl (Nat.le_of_ble_eq_true rfl) (fun p e s m below meth c0 C0 hR ls hl => ?_)
  have hS : va_S (lm_A B) s.heap s.heap [] := va_S.rf
  have hl : lv_has ls 2 [(0, .ref (B + 0)), (1, .int p1)] := hl
  obtain ⟨hx, hb, hml, hr, hlk, hown, hts, hK, hX⟩ := id C0
  refine lv_aload_n hx hb dX4_stand_0 rfl (lv_at hl 0 rfl) ?_
  refine lm_get C0 hR (by decide) cell_0 rfl lw_in_X4 2 (by decide) uw_89 rfl rfl dX4_stand_1 ?_
  obtain ⟨r2, u1, hf⟩ := lm_bd_e hf
  refine lm_endi (lm_runV C0 hR hS (c_X1_isLit isL_4 u1) (lw_cV 0 hts uw_226 mv_X1_isLit rfl rfl hd_X1_isLit ⟨Nat.le_of_ble_eq_true rfl, Nat.le_of_ble_eq_true rfl⟩) (isL_lt isL_4) (cell_L isL_4) rfl rfl hl rfl (Nat.le_of_ble_eq_true rfl) dX4_stand_4) hS (fun H locs hR hS => ?_)
  refine lv_if_ne (tgt := 13) hx hb dX4_stand_7 (by decide) (fun b4 => ?_) (fun b4 => ?_)
  · have hf := lm_F b4 hf
    refine lv_iload_n hx hb dX4_stand_13 rfl (lv_at hl 1 rfl) ?_
    by_cases b5 : p1 = (0 : Int32)
    · have hf := lm_T b5 hf
      refine lv_tableIn (off := 42) (tgt := 56) hx hb dX4_stand_14 (by rw [b5]; decide) (by rw [b5]; decide) (by rw [b5]; decide) (by decide) ?_
      refine lv_aload_n hx hb dX4_stand_56 rfl (lv_at hl 0 rfl) ?_
      refine lm_get C0 hR (by decide) cell_0 rfl lw_in_X4 2 (by decide) uw_89 rfl rfl dX4_stand_57 ?_
      refine lv_iconst (v := (0 : Int32)) hx hb dX4_stand_60 (by decide) ?_
      obtain ⟨r7, u6, hf⟩ := lm_bd_e hf
      refine lm_endi (lm_runV C0 hR hS (c_X1_shipsSeen isL_4 u6) (lw_cV 1 hts uw_260 mv_X1_shipsSeen rfl rfl hd_X1_shipsSeen ⟨Nat.le_of_ble_eq_true rfl, Nat.le_of_ble_eq_true rfl⟩) (isL_lt isL_4) (cell_L isL_4) rfl rfl hl rfl (Nat.le_of_ble_eq_true rfl) dX4_stand_61) hS (fun H locs hR hS => ?_)
      exact lm_riP C0 hR hS hf dX4_stand_64
    have hf := lm_F b5 hf
    by_cases b9 : p1 = (1 : Int32)
    · have hf := lm_T b9 hf
      refine lv_tableIn (off := 51) (tgt := 65) hx hb dX4_stand_14 (by rw [b9]; decide) (by rw [b9]; decide) (by rw [b9]; decide) (by decide) ?_
      refine lv_aload_n hx hb dX4_stand_65 rfl (lv_at hl 0 rfl) ?_
      refine lm_get C0 hR (by decide) cell_0 rfl lw_in_X4 2 (by decide) uw_89 rfl rfl dX4_stand_66 ?_
      refine lv_iconst (v := (1 : Int32)) hx hb dX4_stand_69 (by decide) ?_
      obtain ⟨r11, u10, hf⟩ := lm_bd_e hf
      refine lm_endi (lm_runV C0 hR hS (c_X1_shipsSeen isL_4 u10) (lw_cV 1 hts uw_260 mv_X1_shipsSeen rfl rfl hd_X1_shipsSeen ⟨Nat.le_of_ble_eq_true rfl, Nat.le_of_ble_eq_true rfl⟩) (isL_lt isL_4) (cell_L isL_4) rfl rfl hl rfl (Nat.le_of_ble_eq_true rfl) dX4_stand_70) hS (fun H locs hR hS => ?_)
      exact lm_riP C0 hR hS hf dX4_stand_73
    have hf := lm_F b9 hf
    by_cases b13 : p1 = (2 : Int32)
    · have hf := lm_T b13 hf
      refine lv_tableIn (off := 60) (tgt := 74) hx hb dX4_stand_14 (by rw [b13]; decide) (by rw [b13]; decide) (by rw [b13]; decide) (by decide) ?_
      refine lv_aload_n hx hb dX4_stand_74 rfl (lv_at hl 0 rfl) ?_
      refine lm_get C0 hR (by decide) cell_0 rfl lw_in_X4 2 (by decide) uw_89 rfl rfl dX4_stand_75 ?_
      refine lv_iconst (v := (2 : Int32)) hx hb dX4_stand_78 (by decide) ?_
      obtain ⟨r15, u14, hf⟩ := lm_bd_e hf
      refine lm_endi (lm_runV C0 hR hS (c_X1_shipsSeen isL_4 u14) (lw_cV 1 hts uw_260 mv_X1_shipsSeen rfl rfl hd_X1_shipsSeen ⟨Nat.le_of_ble_eq_true rfl, Nat.le_of_ble_eq_true rfl⟩) (isL_lt isL_4) (cell_L isL_4) rfl rfl hl rfl (Nat.le_of_ble_eq_true rfl) dX4_stand_79) hS (fun H locs hR hS => ?_)
      exact lm_riP C0 hR hS hf dX4_stand_82
    have hf := lm_F b13 hf
    by_cases b17 : p1 = (3 : Int32)
    · have hf := lm_T b17 hf
      refine lv_tableIn (off := 69) (tgt := 83) hx hb dX4_stand_14 (by rw [b17]; decide) (by rw [b17]; decide) (by rw [b17]; decide) (by decide) ?_
      refine lv_aload_n hx hb dX4_stand_83 rfl (lv_at hl 0 rfl) ?_
      refine lm_get C0 hR (by decide) cell_0 rfl lw_in_X4 2 (by decide) uw_89 rfl rfl dX4_stand_84 ?_
      refine lm_get C0 hR (isL_lt isL_4) (cell_L isL_4) rfl lw_in_X1 4 (by decide) uw_52 rfl rfl dX4_stand_87 ?_
      exact lm_riP C0 hR hS hf dX4_stand_90
    have hf := lm_F b17 hf
    by_cases b18 : p1 = (4 : Int32)
    · have hf := lm_T b18 hf
      refine lv_tableIn (off := 77) (tgt := 91) hx hb dX4_stand_14 (by rw [b18]; decide) (by rw [b18]; decide) (by rw [b18]; decide) (by decide) ?_
      refine lv_aload_n hx hb dX4_stand_91 rfl (lv_at hl 0 rfl) ?_
      refine lm_get C0 hR (by decide) cell_0 rfl lw_in_X4 2 (by decide) uw_89 rfl rfl dX4_stand_92 ?_
      refine lm_get C0 hR (isL_lt isL_4) (cell_L isL_4) rfl lw_in_X1 5 (by decide) uw_55 rfl rfl dX4_stand_95 ?_
      exact lm_riP C0 hR hS hf dX4_stand_98
    have hf := lm_F b18 hf
    by_cases b19 : p1 = (5 : Int32)
    · have hf := lm_T b19 hf
      refine lv_tableIn (off := 85) (tgt := 99) hx hb dX4_stand_14 (by rw [b19]; decide) (by rw [b19]; decide) (by rw [b19]; decide) (by decide) ?_
      refine lv_aload_n hx hb dX4_stand_99 rfl (lv_at hl 0 rfl) ?_
      refine lm_get C0 hR (by decide) cell_0 rfl lw_in_X4 2 (by decide) uw_89 rfl rfl dX4_stand_100 ?_
      refine lm_get C0 hR (isL_lt isL_4) (cell_L isL_4) rfl lw_in_X1 3 (by decide) uw_49 rfl rfl dX4_stand_103 ?_
      exact lm_riP C0 hR hS hf dX4_stand_106
    have hf := lm_F b19 hf
    by_cases b20 : p1 = (6 : Int32)
    · have hf := lm_T b20 hf
      refine lv_tableIn (off := 93) (tgt := 107) hx hb dX4_stand_14 (by rw [b20]; decide) (by rw [b20]; decide) (by rw [b20]; decide) (by decide) ?_
      refine lv_aload_n hx hb dX4_stand_107 rfl (lv_at hl 0 rfl) ?_
      refine lm_get C0 hR (by decide) cell_0 rfl lw_in_X4 2 (by decide) uw_89 rfl rfl dX4_stand_108 ?_
      refine lv_aload_n hx hb dX4_stand_111 rfl (lv_at hl 0 rfl) ?_
      refine lm_get C0 hR (by decide) cell_0 rfl lw_in_X4 2 (by decide) uw_89 rfl rfl dX4_stand_112 ?_
      refine lm_get C0 hR (isL_lt isL_4) (cell_L isL_4) rfl lw_in_X1 6 (by decide) uw_57 rfl rfl dX4_stand_115 ?_
      obtain ⟨r22, u21, hf⟩ := lm_bd_e hf
      refine lm_endi (lm_runV C0 hR hS (c_X1_thickOf isL_4 u21) (lw_cV 1 hts uw_302 mv_X1_thickOf rfl rfl hd_X1_thickOf ⟨Nat.le_of_ble_eq_true rfl, Nat.le_of_ble_eq_true rfl⟩) (isL_lt isL_4) (cell_L isL_4) rfl rfl hl rfl (Nat.le_of_ble_eq_true rfl) dX4_stand_118) hS (fun H locs hR hS => ?_)
      exact lm_riP C0 hR hS hf dX4_stand_121
    have hf := lm_F b20 hf
    refine lv_tableOut (tgt := 122) hx hb dX4_stand_14 (by have qb5 := lv_neT b5 (a := 0) (by decide); have qb9 := lv_neT b9 (a := 1) (by decide); have qb13 := lv_neT b13 (a := 2) (by decide); have qb17 := lv_neT b17 (a := 3) (by decide); have qb18 := lv_neT b18 (a := 4) (by decide); have qb19 := lv_neT b19 (a := 5) (by decide); have qb20 := lv_neT b20 (a := 6) (by decide); omega) (by decide) ?_
    refine lv_ldc hx hb hown (hts _ uw_105) dX4_stand_122 ?_
    exact lm_riP C0 hR hS hf dX4_stand_124
  · have hf := lm_T b4 hf
    refine lv_ldc hx hb hown (hts _ uw_216) dX4_stand_10 ?_
    exact lm_riP C0 hR hS hf dX4_stand_12
end
/-! ===== X4_thick ===== -/
abbrev rmX4_thick : Room := { frames := 1, cells := 0, slots := 0, locals := 22 }
def f_X4_thick (σ : Mem) (p1 : Int32) : Option (Int32) := lm_bd (f_X1_isLit 4 σ) fun r2 => if r2 = 0 then (some (-1000002 : Int32)) else (lm_bd (f_X4_isWithin p1 (0 : Int32) (60 : Int32)) fun r6 => if r6 = 0 then (some (-1000001 : Int32)) else (lm_bd (f_X1_thickOf 4 σ ((σ 4 6) + p1)) fun r10 => some r10))
abbrev wsX4_thick : List Cond := Cond.code yX4_thick cX4_thick 2 (some .int) :: lw_u
theorem mv_X4_thick : Cond.instanceMethod yX4_thick ∈ lw_u ∧ Cond.selects yX4_thick.cls yX4_thick yX4_thick ∈ lw_u ∧ Cond.initialized yX4_thick.cls ∈ lw_u ∧ Cond.code yX4_thick cX4_thick 2 (some .int) ∈ lw_u := ⟨uw_304, uw_305, uw_1, uw_306⟩
theorem hd_X4_thick : yX4_thick.cls ≠ "java/lang/invoke/MethodHandle" ∧ yX4_thick.cls ≠ "java/lang/invoke/VarHandle" ∧ (parseMethodDescriptor yX4_thick.desc).map (fun d => d.parameters.length) = some 1 := by decide +kernel
section
variable {l : Launch} {D : va_G} {cI cZ cL cR : ClassId} {B : Nat}
set_option maxRecDepth 100000 in
set_option maxHeartbeats 4000000 in
theorem c_X4_thick {σ τ : Mem} {p1 : Int32} {r : Int32}  (hf : f_X4_thick σ p1 = some r) : lm_CI l yX4_thick wsX4_thick rmX4_thick D cI cZ cL cR B [.ref (B + 0), .int p1] σ τ r σ τ := by
  unfold f_X4_thick at hf
  refine lm_of (cc := cX4_thick) (maxL := 2) (ret := (some .int)) (own := RX4) (by decide) rfl (Nat.le_of_ble_eq_true rfl) (fun p e s m below meth c0 C0 hR ls hl => ?_)
  have hS : va_S (lm_A B) s.heap s.heap [] := va_S.rf
  have hl : lv_has ls 2 [(0, .ref (B + 0)), (1, .int p1)] := hl
  obtain ⟨hx, hb, hml, hr, hlk, hown, hts, hK, hX⟩ := id C0
  refine lv_aload_n hx hb dX4_thick_0 rfl (lv_at hl 0 rfl) ?_
  refine lm_get C0 hR (by decide) cell_0 rfl lw_in_X4 2 (by decide) uw_89 rfl rfl dX4_thick_1 ?_
  obtain ⟨r2, u1, hf⟩ := lm_bd_e hf
  refine lm_endi (lm_runV C0 hR hS (c_X1_isLit isL_4 u1) (lw_cV 0 hts uw_226 mv_X1_isLit rfl rfl hd_X1_isLit ⟨Nat.le_of_ble_eq_true rfl, Nat.le_of_ble_eq_true rfl⟩) (isL_lt isL_4) (cell_L isL_4) rfl rfl hl rfl (Nat.le_of_ble_eq_true rfl) dX4_thick_4) hS (fun H locs hR hS => ?_)
  refine lv_if_ne (tgt := 13) hx hb dX4_thick_7 (by decide) (fun b4 => ?_) (fun b4 => ?_)
  · have hf := lm_F b4 hf
    refine lv_iload_n hx hb dX4_thick_13 rfl (lv_at hl 1 rfl) ?_
    refine lv_iconst (v := (0 : Int32)) hx hb dX4_thick_14 (by decide) ?_
    refine lv_bipush (v := (60 : Int32)) hx hb dX4_thick_15 (by decide) ?_
    obtain ⟨r6, u5, hf⟩ := lm_bd_e hf
    refine lm_endi (lm_runS C0 hR hS (c_X4_isWithin u5) (lw_cS 3 hts uw_230 mv_X4_isWithin rfl rfl hd_X4_isWithin ⟨Nat.le_of_ble_eq_true rfl, Nat.le_of_ble_eq_true rfl⟩) rfl hl rfl (Nat.le_of_ble_eq_true rfl) dX4_thick_17) hS (fun H locs hR hS => ?_)
    refine lv_if_ne (tgt := 26) hx hb dX4_thick_20 (by decide) (fun b8 => ?_) (fun b8 => ?_)
    · have hf := lm_F b8 hf
      refine lv_aload_n hx hb dX4_thick_26 rfl (lv_at hl 0 rfl) ?_
      refine lm_get C0 hR (by decide) cell_0 rfl lw_in_X4 2 (by decide) uw_89 rfl rfl dX4_thick_27 ?_
      refine lv_aload_n hx hb dX4_thick_30 rfl (lv_at hl 0 rfl) ?_
      refine lm_get C0 hR (by decide) cell_0 rfl lw_in_X4 2 (by decide) uw_89 rfl rfl dX4_thick_31 ?_
      refine lm_get C0 hR (isL_lt isL_4) (cell_L isL_4) rfl lw_in_X1 6 (by decide) uw_57 rfl rfl dX4_thick_34 ?_
      refine lv_iload_n hx hb dX4_thick_37 rfl (lv_at hl 1 rfl) ?_
      refine lv_iadd hx hb dX4_thick_38 ?_
      obtain ⟨r10, u9, hf⟩ := lm_bd_e hf
      refine lm_endi (lm_runV C0 hR hS (c_X1_thickOf isL_4 u9) (lw_cV 1 hts uw_302 mv_X1_thickOf rfl rfl hd_X1_thickOf ⟨Nat.le_of_ble_eq_true rfl, Nat.le_of_ble_eq_true rfl⟩) (isL_lt isL_4) (cell_L isL_4) rfl rfl hl rfl (Nat.le_of_ble_eq_true rfl) dX4_thick_39) hS (fun H locs hR hS => ?_)
      exact lm_riP C0 hR hS hf dX4_thick_42
    · have hf := lm_T b8 hf
      refine lv_ldc hx hb hown (hts _ uw_105) dX4_thick_23 ?_
      exact lm_riP C0 hR hS hf dX4_thick_25
  · have hf := lm_T b4 hf
    refine lv_ldc hx hb hown (hts _ uw_216) dX4_thick_10 ?_
    exact lm_riP C0 hR hS hf dX4_thick_12
end
/-! ===== X4_ahead ===== -/
abbrev rmX4_ahead : Room := { frames := 5, cells := 0, slots := 0, locals := 147 }
def f_X4_ahead (σ : Mem) (p1 : Int32) (p2 : Int32) (p3 : Int32) : Option (Int32 × Mem) := lm_bd (f_X4_isBelow p1 (σ 4 8)) fun r2 => if r2 = 0 then (some ((-1000001 : Int32), σ)) else (lm_bd (f_X4_isWithin p2 (0 : Int32) (60 : Int32)) fun r6 => if r6 = 0 then (some ((-1000001 : Int32), σ)) else (lm_bd (f_X4_isBelow p3 (2 : Int32)) fun r10 => if r10 = 0 then (some ((-1000001 : Int32), σ)) else (lm_bd (f_X1_takeOneShip 8 4 σ p1) fun σ15 => lm_bd (f_X1_passWatches 8 σ15 p2) fun σ18 => if p3 = 0 then (lm_ck (lm_in (0 : Int32) 6) (some ((σ18 (8 + 3) (0 : Int32).toNatClampNeg), σ18))) else (lm_bd (f_X1_loggedOf 8 σ18 (0 : Int32)) fun r21 => some (r21, σ18)))))
abbrev wsX4_ahead : List Cond := Cond.code yX4_ahead cX4_ahead 4 (some .int) :: lw_u
theorem mv_X4_ahead : Cond.instanceMethod yX4_ahead ∈ lw_u ∧ Cond.selects yX4_ahead.cls yX4_ahead yX4_ahead ∈ lw_u ∧ Cond.initialized yX4_ahead.cls ∈ lw_u ∧ Cond.code yX4_ahead cX4_ahead 4 (some .int) ∈ lw_u := ⟨uw_308, uw_309, uw_1, uw_310⟩
theorem hd_X4_ahead : yX4_ahead.cls ≠ "java/lang/invoke/MethodHandle" ∧ yX4_ahead.cls ≠ "java/lang/invoke/VarHandle" ∧ (parseMethodDescriptor yX4_ahead.desc).map (fun d => d.parameters.length) = some 3 := by decide +kernel
section
variable {l : Launch} {D : va_G} {cI cZ cL cR : ClassId} {B : Nat}
set_option maxRecDepth 100000 in
set_option maxHeartbeats 4000000 in
theorem c_X4_ahead {σ τ σ' : Mem} {p1 : Int32} {p2 : Int32} {p3 : Int32} {r : Int32}  (hf : f_X4_ahead σ p1 p2 p3 = some (r, σ')) : lm_CI l yX4_ahead wsX4_ahead rmX4_ahead D cI cZ cL cR B [.ref (B + 0), .int p1, .int p2, .int p3] σ τ r σ' τ := by
  unfold f_X4_ahead at hf
  refine lm_of (cc := cX4_ahead) (maxL := 4) (ret := (some .int)) (own := RX4) (by decide) rfl (Nat.le_of_ble_eq_true rfl) (fun p e s m below meth c0 C0 hR ls hl => ?_)
  have hS : va_S (lm_A B) s.heap s.heap [] := va_S.rf
  have hl : lv_has ls 4 [(0, .ref (B + 0)), (1, .int p1), (2, .int p2), (3, .int p3)] := hl
  obtain ⟨hx, hb, hml, hr, hlk, hown, hts, hK, hX⟩ := id C0
  refine lv_iload_n hx hb dX4_ahead_0 rfl (lv_at hl 1 rfl) ?_
  refine lv_aload_n hx hb dX4_ahead_1 rfl (lv_at hl 0 rfl) ?_
  refine lm_get C0 hR (by decide) cell_0 rfl lw_in_X4 2 (by decide) uw_89 rfl rfl dX4_ahead_2 ?_
  refine lm_get C0 hR (isL_lt isL_4) (cell_L isL_4) rfl lw_in_X1 8 (by decide) uw_62 rfl rfl dX4_ahead_5 ?_
  obtain ⟨r2, u1, hf⟩ := lm_bd_e hf
  refine lm_endi (lm_runS C0 hR hS (c_X4_isBelow u1) (lw_cS 2 hts uw_102 mv_X4_isBelow rfl rfl hd_X4_isBelow ⟨Nat.le_of_ble_eq_true rfl, Nat.le_of_ble_eq_true rfl⟩) rfl hl rfl (Nat.le_of_ble_eq_true rfl) dX4_ahead_8) hS (fun H locs hR hS => ?_)
  refine lv_if_eq (tgt := 32) hx hb dX4_ahead_11 (by decide) (fun b4 => ?_) (fun b4 => ?_)
  · have hf := lm_T b4 hf
    refine lv_ldc hx hb hown (hts _ uw_105) dX4_ahead_32 ?_
    exact lm_riC C0 hR hS hf dX4_ahead_34
  · have hf := lm_F b4 hf
    refine lv_iload_n hx hb dX4_ahead_14 rfl (lv_at hl 2 rfl) ?_
    refine lv_iconst (v := (0 : Int32)) hx hb dX4_ahead_15 (by decide) ?_
    refine lv_bipush (v := (60 : Int32)) hx hb dX4_ahead_16 (by decide) ?_
    obtain ⟨r6, u5, hf⟩ := lm_bd_e hf
    refine lm_endi (lm_runS C0 hR hS (c_X4_isWithin u5) (lw_cS 3 hts uw_230 mv_X4_isWithin rfl rfl hd_X4_isWithin ⟨Nat.le_of_ble_eq_true rfl, Nat.le_of_ble_eq_true rfl⟩) rfl hl rfl (Nat.le_of_ble_eq_true rfl) dX4_ahead_18) hS (fun H locs hR hS => ?_)
    refine lv_if_eq (tgt := 32) hx hb dX4_ahead_21 (by decide) (fun b8 => ?_) (fun b8 => ?_)
    · have hf := lm_T b8 hf
      refine lv_ldc hx hb hown (hts _ uw_105) dX4_ahead_32 ?_
      exact lm_riC C0 hR hS hf dX4_ahead_34
    · have hf := lm_F b8 hf
      refine lv_iload_n hx hb dX4_ahead_24 rfl (lv_at hl 3 rfl) ?_
      refine lv_iconst (v := (2 : Int32)) hx hb dX4_ahead_25 (by decide) ?_
      obtain ⟨r10, u9, hf⟩ := lm_bd_e hf
      refine lm_endi (lm_runS C0 hR hS (c_X4_isBelow u9) (lw_cS 2 hts uw_102 mv_X4_isBelow rfl rfl hd_X4_isBelow ⟨Nat.le_of_ble_eq_true rfl, Nat.le_of_ble_eq_true rfl⟩) rfl hl rfl (Nat.le_of_ble_eq_true rfl) dX4_ahead_26) hS (fun H locs hR hS => ?_)
      refine lv_if_ne (tgt := 35) hx hb dX4_ahead_29 (by decide) (fun b12 => ?_) (fun b12 => ?_)
      · have hf := lm_F b12 hf
        refine lv_aload_n hx hb dX4_ahead_35 rfl (lv_at hl 0 rfl) ?_
        refine lm_get C0 hR (by decide) cell_0 rfl lw_in_X4 3 (by decide) uw_90 rfl rfl dX4_ahead_36 ?_
        refine lv_aload_n hx hb dX4_ahead_39 rfl (lv_at hl 0 rfl) ?_
        refine lm_get C0 hR (by decide) cell_0 rfl lw_in_X4 2 (by decide) uw_89 rfl rfl dX4_ahead_40 ?_
        refine lv_iload_n hx hb dX4_ahead_43 rfl (lv_at hl 1 rfl) ?_
        obtain ⟨σ15, u13, hf⟩ := lm_bd_e hf
        refine lm_endv (lm_runV C0 hR hS (c_X1_takeOneShip isL_8 isL_4 u13) (lw_cV 2 hts uw_311 mv_X1_takeOneShip rfl rfl hd_X1_takeOneShip ⟨Nat.le_of_ble_eq_true rfl, Nat.le_of_ble_eq_true rfl⟩) (isL_lt isL_8) (cell_L isL_8) rfl rfl hl rfl (Nat.le_of_ble_eq_true rfl) dX4_ahead_44) hS (fun H locs hR hS => ?_)
        refine lv_aload_n hx hb dX4_ahead_47 rfl (lv_at hl 0 rfl) ?_
        refine lm_get C0 hR (by decide) cell_0 rfl lw_in_X4 3 (by decide) uw_90 rfl rfl dX4_ahead_48 ?_
        refine lv_iload_n hx hb dX4_ahead_51 rfl (lv_at hl 2 rfl) ?_
        obtain ⟨σ18, u16, hf⟩ := lm_bd_e hf
        refine lm_endv (lm_runV C0 hR hS (c_X1_passWatches isL_8 u16) (lw_cV 1 hts uw_315 mv_X1_passWatches rfl rfl hd_X1_passWatches ⟨Nat.le_of_ble_eq_true rfl, Nat.le_of_ble_eq_true rfl⟩) (isL_lt isL_8) (cell_L isL_8) rfl rfl hl rfl (Nat.le_of_ble_eq_true rfl) dX4_ahead_52) hS (fun H locs hR hS => ?_)
        refine lv_iload_n hx hb dX4_ahead_55 rfl (lv_at hl 3 rfl) ?_
        refine lv_if_ne (tgt := 71) hx hb dX4_ahead_56 (by decide) (fun b19 => ?_) (fun b19 => ?_)
        · have hf := lm_F b19 hf
          refine lv_aload_n hx hb dX4_ahead_71 rfl (lv_at hl 0 rfl) ?_
          refine lm_get C0 hR (by decide) cell_0 rfl lw_in_X4 3 (by decide) uw_90 rfl rfl dX4_ahead_72 ?_
          refine lv_iconst (v := (0 : Int32)) hx hb dX4_ahead_75 (by decide) ?_
          obtain ⟨r21, u20, hf⟩ := lm_bd_e hf
          refine lm_endi (lm_runV C0 hR hS (c_X1_loggedOf isL_8 u20) (lw_cV 1 hts uw_296 mv_X1_loggedOf rfl rfl hd_X1_loggedOf ⟨Nat.le_of_ble_eq_true rfl, Nat.le_of_ble_eq_true rfl⟩) (isL_lt isL_8) (cell_L isL_8) rfl rfl hl rfl (Nat.le_of_ble_eq_true rfl) dX4_ahead_76) hS (fun H locs hR hS => ?_)
          exact lm_riC C0 hR hS hf dX4_ahead_79
        · have hf := lm_T b19 hf
          refine lv_aload_n hx hb dX4_ahead_59 rfl (lv_at hl 0 rfl) ?_
          refine lm_get C0 hR (by decide) cell_0 rfl lw_in_X4 3 (by decide) uw_90 rfl rfl dX4_ahead_60 ?_
          refine lm_get C0 hR (isL_lt isL_8) (cell_L isL_8) rfl lw_in_X1 2 (by decide) uw_46 rfl rfl dX4_ahead_63 ?_
          refine lv_iconst (v := (0 : Int32)) hx hb dX4_ahead_66 (by decide) ?_
          obtain ⟨z23, hf⟩ := lm_ck_e hf
          refine lm_ild C0 hR (isL_lt3 isL_8) (cell_L3 isL_8) z23 dX4_ahead_67 ?_
          refine lv_goto (tgt := 79) hx hb dX4_ahead_68 (by decide) ?_
          exact lm_riC C0 hR hS hf dX4_ahead_79
      · have hf := lm_T b12 hf
        refine lv_ldc hx hb hown (hts _ uw_105) dX4_ahead_32 ?_
        exact lm_riC C0 hR hS hf dX4_ahead_34
end
/-! ===== X4_written ===== -/
abbrev rmX4_written : Room := { frames := 5, cells := 0, slots := 0, locals := 147 }
def f_X4_written (σ : Mem) (p1 : Int32) (p2 : Int32) : Option (Int32 × Mem) := lm_bd (f_X1_isLit 4 σ) fun r2 => if r2 = 0 then (some ((-1000002 : Int32), σ)) else (lm_bd (f_X4_isWithin p1 (0 : Int32) (60 : Int32)) fun r6 => if r6 = 0 then (some ((-1000001 : Int32), σ)) else (lm_bd (f_X4_isBelow p2 (4 : Int32)) fun r10 => if r10 = 0 then (some ((-1000001 : Int32), σ)) else (lm_bd (f_X1_takeFrom 8 4 σ) fun σ15 => lm_bd (f_X1_passWatches 8 σ15 p1) fun σ18 => if p2 = (3 : Int32) then (some ((σ18 8 5), σ18)) else (lm_bd (f_X1_shipsSeen 8 σ18 p2) fun r21 => some (r21, σ18)))))
abbrev wsX4_written : List Cond := Cond.code yX4_written cX4_written 3 (some .int) :: lw_u
theorem mv_X4_written : Cond.instanceMethod yX4_written ∈ lw_u ∧ Cond.selects yX4_written.cls yX4_written yX4_written ∈ lw_u ∧ Cond.initialized yX4_written.cls ∈ lw_u ∧ Cond.code yX4_written cX4_written 3 (some .int) ∈ lw_u := ⟨uw_321, uw_322, uw_1, uw_323⟩
theorem hd_X4_written : yX4_written.cls ≠ "java/lang/invoke/MethodHandle" ∧ yX4_written.cls ≠ "java/lang/invoke/VarHandle" ∧ (parseMethodDescriptor yX4_written.desc).map (fun d => d.parameters.length) = some 2 := by decide +kernel
section
variable {l : Launch} {D : va_G} {cI cZ cL cR : ClassId} {B : Nat}
set_option maxRecDepth 100000 in
set_option maxHeartbeats 4000000 in
theorem c_X4_written {σ τ σ' : Mem} {p1 : Int32} {p2 : Int32} {r : Int32}  (hf : f_X4_written σ p1 p2 = some (r, σ')) : lm_CI l yX4_written wsX4_written rmX4_written D cI cZ cL cR B [.ref (B + 0), .int p1, .int p2] σ τ r σ' τ := by
  unfold f_X4_written at hf
  refine lm_of (cc := cX4_written) (maxL := 3) (ret := (some .int)) (own := RX4) (by decide) rfl (Nat.le_of_ble_eq_true rfl) (fun p e s m below meth c0 C0 hR ls hl => ?_)
  have hS : va_S (lm_A B) s.heap s.heap [] := va_S.rf
  have hl : lv_has ls 3 [(0, .ref (B + 0)), (1, .int p1), (2, .int p2)] := hl
  obtain ⟨hx, hb, hml, hr, hlk, hown, hts, hK, hX⟩ := id C0
  refine lv_aload_n hx hb dX4_written_0 rfl (lv_at hl 0 rfl) ?_
  refine lm_get C0 hR (by decide) cell_0 rfl lw_in_X4 2 (by decide) uw_89 rfl rfl dX4_written_1 ?_
  obtain ⟨r2, u1, hf⟩ := lm_bd_e hf
  refine lm_endi (lm_runV C0 hR hS (c_X1_isLit isL_4 u1) (lw_cV 0 hts uw_226 mv_X1_isLit rfl rfl hd_X1_isLit ⟨Nat.le_of_ble_eq_true rfl, Nat.le_of_ble_eq_true rfl⟩) (isL_lt isL_4) (cell_L isL_4) rfl rfl hl rfl (Nat.le_of_ble_eq_true rfl) dX4_written_4) hS (fun H locs hR hS => ?_)
  refine lv_if_ne (tgt := 13) hx hb dX4_written_7 (by decide) (fun b4 => ?_) (fun b4 => ?_)
  · have hf := lm_F b4 hf
    refine lv_iload_n hx hb dX4_written_13 rfl (lv_at hl 1 rfl) ?_
    refine lv_iconst (v := (0 : Int32)) hx hb dX4_written_14 (by decide) ?_
    refine lv_bipush (v := (60 : Int32)) hx hb dX4_written_15 (by decide) ?_
    obtain ⟨r6, u5, hf⟩ := lm_bd_e hf
    refine lm_endi (lm_runS C0 hR hS (c_X4_isWithin u5) (lw_cS 3 hts uw_230 mv_X4_isWithin rfl rfl hd_X4_isWithin ⟨Nat.le_of_ble_eq_true rfl, Nat.le_of_ble_eq_true rfl⟩) rfl hl rfl (Nat.le_of_ble_eq_true rfl) dX4_written_17) hS (fun H locs hR hS => ?_)
    refine lv_if_eq (tgt := 31) hx hb dX4_written_20 (by decide) (fun b8 => ?_) (fun b8 => ?_)
    · have hf := lm_T b8 hf
      refine lv_ldc hx hb hown (hts _ uw_105) dX4_written_31 ?_
      exact lm_riC C0 hR hS hf dX4_written_33
    · have hf := lm_F b8 hf
      refine lv_iload_n hx hb dX4_written_23 rfl (lv_at hl 2 rfl) ?_
      refine lv_iconst (v := (4 : Int32)) hx hb dX4_written_24 (by decide) ?_
      obtain ⟨r10, u9, hf⟩ := lm_bd_e hf
      refine lm_endi (lm_runS C0 hR hS (c_X4_isBelow u9) (lw_cS 2 hts uw_102 mv_X4_isBelow rfl rfl hd_X4_isBelow ⟨Nat.le_of_ble_eq_true rfl, Nat.le_of_ble_eq_true rfl⟩) rfl hl rfl (Nat.le_of_ble_eq_true rfl) dX4_written_25) hS (fun H locs hR hS => ?_)
      refine lv_if_ne (tgt := 34) hx hb dX4_written_28 (by decide) (fun b12 => ?_) (fun b12 => ?_)
      · have hf := lm_F b12 hf
        refine lv_aload_n hx hb dX4_written_34 rfl (lv_at hl 0 rfl) ?_
        refine lm_get C0 hR (by decide) cell_0 rfl lw_in_X4 3 (by decide) uw_90 rfl rfl dX4_written_35 ?_
        refine lv_aload_n hx hb dX4_written_38 rfl (lv_at hl 0 rfl) ?_
        refine lm_get C0 hR (by decide) cell_0 rfl lw_in_X4 2 (by decide) uw_89 rfl rfl dX4_written_39 ?_
        obtain ⟨σ15, u13, hf⟩ := lm_bd_e hf
        refine lm_endv (lm_runV C0 hR hS (c_X1_takeFrom isL_8 isL_4 u13) (lw_cV 1 hts uw_193 mv_X1_takeFrom rfl rfl hd_X1_takeFrom ⟨Nat.le_of_ble_eq_true rfl, Nat.le_of_ble_eq_true rfl⟩) (isL_lt isL_8) (cell_L isL_8) rfl rfl hl rfl (Nat.le_of_ble_eq_true rfl) dX4_written_42) hS (fun H locs hR hS => ?_)
        refine lv_aload_n hx hb dX4_written_45 rfl (lv_at hl 0 rfl) ?_
        refine lm_get C0 hR (by decide) cell_0 rfl lw_in_X4 3 (by decide) uw_90 rfl rfl dX4_written_46 ?_
        refine lv_iload_n hx hb dX4_written_49 rfl (lv_at hl 1 rfl) ?_
        obtain ⟨σ18, u16, hf⟩ := lm_bd_e hf
        refine lm_endv (lm_runV C0 hR hS (c_X1_passWatches isL_8 u16) (lw_cV 1 hts uw_315 mv_X1_passWatches rfl rfl hd_X1_passWatches ⟨Nat.le_of_ble_eq_true rfl, Nat.le_of_ble_eq_true rfl⟩) (isL_lt isL_8) (cell_L isL_8) rfl rfl hl rfl (Nat.le_of_ble_eq_true rfl) dX4_written_50) hS (fun H locs hR hS => ?_)
        refine lv_iload_n hx hb dX4_written_53 rfl (lv_at hl 2 rfl) ?_
        refine lv_iconst (v := (3 : Int32)) hx hb dX4_written_54 (by decide) ?_
        refine lv_icmp_ne (tgt := 68) hx hb dX4_written_55 (by decide) (fun b19 => ?_) (fun b19 => ?_)
        · have hf := lm_F b19 hf
          refine lv_aload_n hx hb dX4_written_68 rfl (lv_at hl 0 rfl) ?_
          refine lm_get C0 hR (by decide) cell_0 rfl lw_in_X4 3 (by decide) uw_90 rfl rfl dX4_written_69 ?_
          refine lv_iload_n hx hb dX4_written_72 rfl (lv_at hl 2 rfl) ?_
          obtain ⟨r21, u20, hf⟩ := lm_bd_e hf
          refine lm_endi (lm_runV C0 hR hS (c_X1_shipsSeen isL_8 u20) (lw_cV 1 hts uw_260 mv_X1_shipsSeen rfl rfl hd_X1_shipsSeen ⟨Nat.le_of_ble_eq_true rfl, Nat.le_of_ble_eq_true rfl⟩) (isL_lt isL_8) (cell_L isL_8) rfl rfl hl rfl (Nat.le_of_ble_eq_true rfl) dX4_written_73) hS (fun H locs hR hS => ?_)
          exact lm_riC C0 hR hS hf dX4_written_76
        · have hf := lm_T b19 hf
          refine lv_aload_n hx hb dX4_written_58 rfl (lv_at hl 0 rfl) ?_
          refine lm_get C0 hR (by decide) cell_0 rfl lw_in_X4 3 (by decide) uw_90 rfl rfl dX4_written_59 ?_
          refine lm_get C0 hR (isL_lt isL_8) (cell_L isL_8) rfl lw_in_X1 5 (by decide) uw_55 rfl rfl dX4_written_62 ?_
          refine lv_goto (tgt := 76) hx hb dX4_written_65 (by decide) ?_
          exact lm_riC C0 hR hS hf dX4_written_76
      · have hf := lm_T b12 hf
        refine lv_ldc hx hb hown (hts _ uw_105) dX4_written_31 ?_
        exact lm_riC C0 hR hS hf dX4_written_33
  · have hf := lm_T b4 hf
    refine lv_ldc hx hb hown (hts _ uw_216) dX4_written_10 ?_
    exact lm_riC C0 hR hS hf dX4_written_12
end
