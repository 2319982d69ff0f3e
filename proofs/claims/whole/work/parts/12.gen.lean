/-! ===== X5_light ===== -/
abbrev rmX5_light : Room := { frames := 5, cells := 0, slots := 0, locals := 111 }
def f_X5_light_165 : Nat → Int32 → Mem → Option (Int32 × Mem)
  | 0, _, _ => none
  | n + 1, x1, τ => if (24 : Int32) ≤ x1 then (lm_ck (lm_in (0 : Int32) 24) (some ((τ 144 (0 : Int32).toNatClampNeg), τ))) else (lm_ck (lm_in x1 24) (lm_ck (lm_in x1 24) (lm_nm (up τ 144 x1.toNatClampNeg (τ 145 x1.toNatClampNeg)) fun τ72 => lm_nm (x1 + (1 : Int32)) fun v73 => f_X5_light_165 n v73 τ72)))
def f_X5_light_129 : Nat → Mem → Option (Int32 × Mem)
  | 0, _ => none
  | n + 1, τ => lm_bd (f_X5_isSort τ) fun r57 => if r57 = 0 then (lm_bd2 (f_X5_failed τ) fun r61 τ62 => if r61 = 0 then (lm_nm (up τ62 140 9 (0 : Int32)) fun τ64 => f_X5_light_165 lm_fu (0 : Int32) τ64) else (some (((-1000100 : Int32) - (τ62 140 17)), τ62))) else (lm_bd (f_X5_readShip τ) fun τ67 => f_X5_light_129 n τ67)
def f_X5_light_101 : Nat → Mem → Option (Int32 × Mem)
  | 0, _ => none
  | n + 1, τ => lm_bd (f_X5_isLetter τ (102 : Int32)) fun r43 => if r43 = 0 then (lm_bd (f_X5_isSort τ) fun r47 => if r47 = 0 then (lm_bd (f_X5_bad τ (1 : Int32)) fun τ52 => f_X5_light_129 lm_fu τ52) else (f_X5_light_129 lm_fu τ)) else (lm_bd (f_X5_readFog τ) fun τ55 => f_X5_light_101 n τ55)
def f_X5_light_11 : Nat → Int32 → Mem → Option (Int32 × Mem)
  | 0, _, _ => none
  | n + 1, x1, τ => if (24 : Int32) ≤ x1 then (lm_bd (f_X5_isLetter τ (108 : Int32)) fun r7 => lm_bd (f_X5_must τ r7) fun τ11 => lm_bd2 (f_X5_number τ11 (4 : Int32) (12 : Int32)) fun r13 τ14 => lm_ck (lm_in (2 : Int32) 24) (lm_nm (up τ14 145 (2 : Int32).toNatClampNeg r13) fun τ16 => lm_bd (f_X5_mustSign τ16 (44 : Int32)) fun τ19 => lm_bd2 (f_X5_number τ19 (0 : Int32) (12 : Int32)) fun r21 τ22 => lm_ck (lm_in (3 : Int32) 24) (lm_nm (up τ22 145 (3 : Int32).toNatClampNeg r21) fun τ24 => lm_bd (f_X5_mustSign τ24 (44 : Int32)) fun τ27 => lm_bd2 (f_X5_number τ27 (0 : Int32) (60 : Int32)) fun r29 τ30 => lm_ck (lm_in (4 : Int32) 24) (lm_nm (up τ30 145 (4 : Int32).toNatClampNeg r29) fun τ32 => lm_bd (f_X5_mustSign τ32 (59 : Int32)) fun τ35 => lm_bd (f_X5_readFog τ35) fun τ38 => f_X5_light_101 lm_fu τ38)))) else (lm_ck (lm_in x1 24) (lm_nm (up τ 145 x1.toNatClampNeg (0 : Int32)) fun τ40 => lm_nm (x1 + (1 : Int32)) fun v41 => f_X5_light_11 n v41 τ40))
def f_X5_light (τ : Mem) : Option (Int32 × Mem) := lm_nm (up τ 140 0 (0 : Int32)) fun τ1 => lm_bd (f_X5_begin τ1) fun τ4 => f_X5_light_11 lm_fu (0 : Int32) τ4
abbrev wsX5_light : List Cond := Cond.code yX5_light cX5_light 2 (some .int) :: lw_u
theorem mv_X5_light : Cond.instanceMethod yX5_light ∈ lw_u ∧ Cond.selects yX5_light.cls yX5_light yX5_light ∈ lw_u ∧ Cond.initialized yX5_light.cls ∈ lw_u ∧ Cond.code yX5_light cX5_light 2 (some .int) ∈ lw_u := ⟨uw_576, uw_577, uw_6, uw_578⟩
theorem hd_X5_light : yX5_light.cls ≠ "java/lang/invoke/MethodHandle" ∧ yX5_light.cls ≠ "java/lang/invoke/VarHandle" ∧ (parseMethodDescriptor yX5_light.desc).map (fun d => d.parameters.length) = some 0 := by decide +kernel
section
variable {l : Launch} {D : va_G} {cI cZ cL cR : ClassId} {B : Nat}
set_option maxRecDepth 100000 in
set_option maxHeartbeats 4000000 in
theorem w_X5_light_165 {p : Program} {e : Env} {s : State} {m : MethodId} {args : Array Value} {below : List Frame} {meth : Method} {c0 : Code} {σ τ' : Mem} {r : Int32} (C0 : lm_Cx D cI cZ cL cR B p s m args meth c0 cX5_light 2 (some .int) RX5) : ∀ (n : Nat), ∀ (x1 : Int32) (τ : Mem) (H : Heap) (locs : List Loc) (ls : Array Slot), va_P D vwCl (wl cI cZ cL cR B σ τ) H → va_S (lm_A B) s.heap H locs → lv_has ls 2 [(0, .ref (B + 140)), (1, .int x1)] → f_X5_light_165 n x1 τ = some (r, τ') → W p l e rmX5_light s m args below meth c0 H locs 0 0 (MQ below (lm_QI D cI cZ cL cR B r σ τ') args s 0 0 (lm_A B)) (F0 m 165 ls []) := by
  obtain ⟨hx, hb, hml, hr, hlk, hown, hts, hK, hX⟩ := id C0
  intro n
  induction n with
  | zero =>
    intro x1 τ H locs ls hR hS hl hf
    cases hf
  | succ n ih =>
    intro x1 τ H locs ls hR hS hl hf
    rw [f_X5_light_165] at hf
    refine lv_iload_n hx hb dX5_light_165 rfl (lv_at hl 1 rfl) ?_
    refine lv_bipush (v := (24 : Int32)) hx hb dX5_light_166 (by decide) ?_
    refine lv_icmp_ge (tgt := 189) hx hb dX5_light_168 (by decide) (fun b68 => ?_) (fun b68 => ?_)
    · have hf := lm_T b68 hf
      refine lv_aload_n hx hb dX5_light_189 rfl (lv_at hl 0 rfl) ?_
      refine lm_get C0 hR (by decide) cell_140 rfl lw_in_X5 5 (by decide) uw_513 rfl rfl dX5_light_190 ?_
      refine lv_iconst (v := (0 : Int32)) hx hb dX5_light_193 (by decide) ?_
      obtain ⟨z69, hf⟩ := lm_ck_e hf
      refine lm_ild C0 hR (by decide) cell_144 z69 dX5_light_194 ?_
      exact lm_riM C0 hR hS hf dX5_light_195
    · have hf := lm_F b68 hf
      refine lv_aload_n hx hb dX5_light_171 rfl (lv_at hl 0 rfl) ?_
      refine lm_get C0 hR (by decide) cell_140 rfl lw_in_X5 5 (by decide) uw_513 rfl rfl dX5_light_172 ?_
      refine lv_iload_n hx hb dX5_light_175 rfl (lv_at hl 1 rfl) ?_
      refine lv_aload_n hx hb dX5_light_176 rfl (lv_at hl 0 rfl) ?_
      refine lm_get C0 hR (by decide) cell_140 rfl lw_in_X5 6 (by decide) uw_514 rfl rfl dX5_light_177 ?_
      refine lv_iload_n hx hb dX5_light_180 rfl (lv_at hl 1 rfl) ?_
      obtain ⟨z70, hf⟩ := lm_ck_e hf
      refine lm_ild C0 hR (by decide) cell_145 z70 dX5_light_181 ?_
      obtain ⟨z71, hf⟩ := lm_ck_e hf
      obtain ⟨τ72, eτ72, hf⟩ := lm_nm_e hf
      refine lm_istM C0 hR hS (by decide) cell_144 z71  eτ72 cell_144u dX5_light_182 (fun H locs hR hS => ?_)
      obtain ⟨v73, ev73, hf⟩ := lm_nm_e hf
      refine lv_iinc (v := v73) (lv' := [(1, .int v73), (0, .ref (B + 140))]) hx hb dX5_light_183 hl (k := 1) rfl (by rw [ev73]; rfl) (by decide) rfl (fun ls hl => ?_)
      refine lv_goto (tgt := 165) hx hb dX5_light_186 (by decide) ?_
      exact ih _ _ _ _ _ hR hS (lv_sub hl [1, 0] rfl) hf
set_option maxRecDepth 100000 in
set_option maxHeartbeats 4000000 in
theorem w_X5_light_129 {p : Program} {e : Env} {s : State} {m : MethodId} {args : Array Value} {below : List Frame} {meth : Method} {c0 : Code} {σ τ' : Mem} {r : Int32} (C0 : lm_Cx D cI cZ cL cR B p s m args meth c0 cX5_light 2 (some .int) RX5) : ∀ (n : Nat), ∀ (τ : Mem) (H : Heap) (locs : List Loc) (ls : Array Slot), va_P D vwCl (wl cI cZ cL cR B σ τ) H → va_S (lm_A B) s.heap H locs → lv_has ls 2 [(0, .ref (B + 140))] → f_X5_light_129 n τ = some (r, τ') → W p l e rmX5_light s m args below meth c0 H locs 0 0 (MQ below (lm_QI D cI cZ cL cR B r σ τ') args s 0 0 (lm_A B)) (F0 m 129 ls []) := by
  obtain ⟨hx, hb, hml, hr, hlk, hown, hts, hK, hX⟩ := id C0
  intro n
  induction n with
  | zero =>
    intro τ H locs ls hR hS hl hf
    cases hf
  | succ n ih =>
    intro τ H locs ls hR hS hl hf
    rw [f_X5_light_129] at hf
    refine lv_aload_n hx hb dX5_light_129 rfl (lv_at hl 0 rfl) ?_
    obtain ⟨r57, u56, hf⟩ := lm_bd_e hf
    refine lm_endi (lm_runV C0 hR hS (c_X5_isSort u56) (lw_cV 0 hts uw_608 mv_X5_isSort rfl rfl hd_X5_isSort ⟨Nat.le_of_ble_eq_true rfl, Nat.le_of_ble_eq_true rfl⟩) (by decide) cell_140 rfl rfl hl rfl (Nat.le_of_ble_eq_true rfl) dX5_light_130) hS (fun H locs hR hS => ?_)
    refine lv_if_eq (tgt := 143) hx hb dX5_light_133 (by decide) (fun b59 => ?_) (fun b59 => ?_)
    · have hf := lm_T b59 hf
      refine lv_aload_n hx hb dX5_light_143 rfl (lv_at hl 0 rfl) ?_
      obtain ⟨r61, τ62, u60, hf⟩ := lm_bd2_e hf
      refine lm_endi (lm_runV C0 hR hS (c_X5_failed u60) (lw_cV 0 hts uw_617 mv_X5_failed rfl rfl hd_X5_failed ⟨Nat.le_of_ble_eq_true rfl, Nat.le_of_ble_eq_true rfl⟩) (by decide) cell_140 rfl rfl hl rfl (Nat.le_of_ble_eq_true rfl) dX5_light_144) hS (fun H locs hR hS => ?_)
      refine lv_if_eq (tgt := 158) hx hb dX5_light_147 (by decide) (fun b63 => ?_) (fun b63 => ?_)
      · have hf := lm_T b63 hf
        refine lv_aload_n hx hb dX5_light_158 rfl (lv_at hl 0 rfl) ?_
        refine lv_iconst (v := (0 : Int32)) hx hb dX5_light_159 (by decide) ?_
        obtain ⟨τ64, eτ64, hf⟩ := lm_nm_e hf
        refine lm_putM C0 hR hS (by decide) cell_140 rfl lw_in_X5 tyX5 tyX5_ok nmX5 9 (by decide) uw_517 rfl rfl rfl rfl rfl (Nat.le_of_ble_eq_true rfl) eτ64 cell_140u dX5_light_160 (fun H locs hR hS => ?_)
        refine lv_iconst (v := (0 : Int32)) hx hb dX5_light_163 (by decide) ?_
        refine lv_istore_n (lv' := [(1, .int (0 : Int32)), (0, .ref (B + 140))]) hx hb dX5_light_164 rfl hl (by decide) rfl (fun ls hl => ?_)
        exact w_X5_light_165 C0 _ _ _ _ _ _ hR hS (lv_sub hl [1, 0] rfl) hf
      · have hf := lm_F b63 hf
        refine lv_ldc hx hb hown (hts _ uw_620) dX5_light_150 ?_
        refine lv_aload_n hx hb dX5_light_152 rfl (lv_at hl 0 rfl) ?_
        refine lm_get C0 hR (by decide) cell_140 rfl lw_in_X5 17 (by decide) uw_525 rfl rfl dX5_light_153 ?_
        refine lv_isub hx hb dX5_light_156 ?_
        exact lm_riM C0 hR hS hf dX5_light_157
    · have hf := lm_F b59 hf
      refine lv_aload_n hx hb dX5_light_136 rfl (lv_at hl 0 rfl) ?_
      obtain ⟨τ67, u65, hf⟩ := lm_bd_e hf
      refine lm_endv (lm_runV C0 hR hS (c_X5_readShip u65) (lw_cV 0 hts uw_614 mv_X5_readShip rfl rfl hd_X5_readShip ⟨Nat.le_of_ble_eq_true rfl, Nat.le_of_ble_eq_true rfl⟩) (by decide) cell_140 rfl rfl hl rfl (Nat.le_of_ble_eq_true rfl) dX5_light_137) hS (fun H locs hR hS => ?_)
      refine lv_goto (tgt := 129) hx hb dX5_light_140 (by decide) ?_
      exact ih _ _ _ _ hR hS (lv_sub hl [0] rfl) hf
set_option maxRecDepth 100000 in
set_option maxHeartbeats 4000000 in
theorem w_X5_light_101 {p : Program} {e : Env} {s : State} {m : MethodId} {args : Array Value} {below : List Frame} {meth : Method} {c0 : Code} {σ τ' : Mem} {r : Int32} (C0 : lm_Cx D cI cZ cL cR B p s m args meth c0 cX5_light 2 (some .int) RX5) : ∀ (n : Nat), ∀ (τ : Mem) (H : Heap) (locs : List Loc) (ls : Array Slot), va_P D vwCl (wl cI cZ cL cR B σ τ) H → va_S (lm_A B) s.heap H locs → lv_has ls 2 [(0, .ref (B + 140))] → f_X5_light_101 n τ = some (r, τ') → W p l e rmX5_light s m args below meth c0 H locs 0 0 (MQ below (lm_QI D cI cZ cL cR B r σ τ') args s 0 0 (lm_A B)) (F0 m 101 ls []) := by
  obtain ⟨hx, hb, hml, hr, hlk, hown, hts, hK, hX⟩ := id C0
  intro n
  induction n with
  | zero =>
    intro τ H locs ls hR hS hl hf
    cases hf
  | succ n ih =>
    intro τ H locs ls hR hS hl hf
    rw [f_X5_light_101] at hf
    refine lv_aload_n hx hb dX5_light_101 rfl (lv_at hl 0 rfl) ?_
    refine lv_bipush (v := (102 : Int32)) hx hb dX5_light_102 (by decide) ?_
    obtain ⟨r43, u42, hf⟩ := lm_bd_e hf
    refine lm_endi (lm_runV C0 hR hS (c_X5_isLetter u42) (lw_cV 1 hts uw_590 mv_X5_isLetter rfl rfl hd_X5_isLetter ⟨Nat.le_of_ble_eq_true rfl, Nat.le_of_ble_eq_true rfl⟩) (by decide) cell_140 rfl rfl hl rfl (Nat.le_of_ble_eq_true rfl) dX5_light_104) hS (fun H locs hR hS => ?_)
    refine lv_if_eq (tgt := 117) hx hb dX5_light_107 (by decide) (fun b45 => ?_) (fun b45 => ?_)
    · have hf := lm_T b45 hf
      refine lv_aload_n hx hb dX5_light_117 rfl (lv_at hl 0 rfl) ?_
      obtain ⟨r47, u46, hf⟩ := lm_bd_e hf
      refine lm_endi (lm_runV C0 hR hS (c_X5_isSort u46) (lw_cV 0 hts uw_608 mv_X5_isSort rfl rfl hd_X5_isSort ⟨Nat.le_of_ble_eq_true rfl, Nat.le_of_ble_eq_true rfl⟩) (by decide) cell_140 rfl rfl hl rfl (Nat.le_of_ble_eq_true rfl) dX5_light_118) hS (fun H locs hR hS => ?_)
      refine lv_if_ne (tgt := 129) hx hb dX5_light_121 (by decide) (fun b49 => ?_) (fun b49 => ?_)
      · have hf := lm_F b49 hf
        exact w_X5_light_129 C0 _ _ _ _ _ hR hS (lv_sub hl [0] rfl) hf
      · have hf := lm_T b49 hf
        refine lv_aload_n hx hb dX5_light_124 rfl (lv_at hl 0 rfl) ?_
        refine lv_iconst (v := (1 : Int32)) hx hb dX5_light_125 (by decide) ?_
        obtain ⟨τ52, u50, hf⟩ := lm_bd_e hf
        refine lm_endv (lm_runV C0 hR hS (c_X5_bad u50) (lw_cV 1 hts uw_596 mv_X5_bad rfl rfl hd_X5_bad ⟨Nat.le_of_ble_eq_true rfl, Nat.le_of_ble_eq_true rfl⟩) (by decide) cell_140 rfl rfl hl rfl (Nat.le_of_ble_eq_true rfl) dX5_light_126) hS (fun H locs hR hS => ?_)
        exact w_X5_light_129 C0 _ _ _ _ _ hR hS (lv_sub hl [0] rfl) hf
    · have hf := lm_F b45 hf
      refine lv_aload_n hx hb dX5_light_110 rfl (lv_at hl 0 rfl) ?_
      obtain ⟨τ55, u53, hf⟩ := lm_bd_e hf
      refine lm_endv (lm_runV C0 hR hS (c_X5_readFog u53) (lw_cV 0 hts uw_605 mv_X5_readFog rfl rfl hd_X5_readFog ⟨Nat.le_of_ble_eq_true rfl, Nat.le_of_ble_eq_true rfl⟩) (by decide) cell_140 rfl rfl hl rfl (Nat.le_of_ble_eq_true rfl) dX5_light_111) hS (fun H locs hR hS => ?_)
      refine lv_goto (tgt := 101) hx hb dX5_light_114 (by decide) ?_
      exact ih _ _ _ _ hR hS (lv_sub hl [0] rfl) hf
set_option maxRecDepth 100000 in
set_option maxHeartbeats 4000000 in
theorem w_X5_light_11 {p : Program} {e : Env} {s : State} {m : MethodId} {args : Array Value} {below : List Frame} {meth : Method} {c0 : Code} {σ τ' : Mem} {r : Int32} (C0 : lm_Cx D cI cZ cL cR B p s m args meth c0 cX5_light 2 (some .int) RX5) : ∀ (n : Nat), ∀ (x1 : Int32) (τ : Mem) (H : Heap) (locs : List Loc) (ls : Array Slot), va_P D vwCl (wl cI cZ cL cR B σ τ) H → va_S (lm_A B) s.heap H locs → lv_has ls 2 [(0, .ref (B + 140)), (1, .int x1)] → f_X5_light_11 n x1 τ = some (r, τ') → W p l e rmX5_light s m args below meth c0 H locs 0 0 (MQ below (lm_QI D cI cZ cL cR B r σ τ') args s 0 0 (lm_A B)) (F0 m 11 ls []) := by
  obtain ⟨hx, hb, hml, hr, hlk, hown, hts, hK, hX⟩ := id C0
  intro n
  induction n with
  | zero =>
    intro x1 τ H locs ls hR hS hl hf
    cases hf
  | succ n ih =>
    intro x1 τ H locs ls hR hS hl hf
    rw [f_X5_light_11] at hf
    refine lv_iload_n hx hb dX5_light_11 rfl (lv_at hl 1 rfl) ?_
    refine lv_bipush (v := (24 : Int32)) hx hb dX5_light_12 (by decide) ?_
    refine lv_icmp_ge (tgt := 30) hx hb dX5_light_14 (by decide) (fun b5 => ?_) (fun b5 => ?_)
    · have hf := lm_T b5 hf
      refine lv_aload_n hx hb dX5_light_30 rfl (lv_at hl 0 rfl) ?_
      refine lv_aload_n hx hb dX5_light_31 rfl (lv_at hl 0 rfl) ?_
      refine lv_bipush (v := (108 : Int32)) hx hb dX5_light_32 (by decide) ?_
      obtain ⟨r7, u6, hf⟩ := lm_bd_e hf
      refine lm_endi (lm_runV C0 hR hS (c_X5_isLetter u6) (lw_cV 1 hts uw_590 mv_X5_isLetter rfl rfl hd_X5_isLetter ⟨Nat.le_of_ble_eq_true rfl, Nat.le_of_ble_eq_true rfl⟩) (by decide) cell_140 rfl rfl hl rfl (Nat.le_of_ble_eq_true rfl) dX5_light_34) hS (fun H locs hR hS => ?_)
      obtain ⟨τ11, u9, hf⟩ := lm_bd_e hf
      refine lm_endv (lm_runV C0 hR hS (c_X5_must u9) (lw_cV 1 hts uw_593 mv_X5_must rfl rfl hd_X5_must ⟨Nat.le_of_ble_eq_true rfl, Nat.le_of_ble_eq_true rfl⟩) (by decide) cell_140 rfl rfl hl rfl (Nat.le_of_ble_eq_true rfl) dX5_light_37) hS (fun H locs hR hS => ?_)
      refine lv_aload_n hx hb dX5_light_40 rfl (lv_at hl 0 rfl) ?_
      refine lm_get C0 hR (by decide) cell_140 rfl lw_in_X5 6 (by decide) uw_514 rfl rfl dX5_light_41 ?_
      refine lv_iconst (v := (2 : Int32)) hx hb dX5_light_44 (by decide) ?_
      refine lv_aload_n hx hb dX5_light_45 rfl (lv_at hl 0 rfl) ?_
      refine lv_iconst (v := (4 : Int32)) hx hb dX5_light_46 (by decide) ?_
      refine lv_bipush (v := (12 : Int32)) hx hb dX5_light_47 (by decide) ?_
      obtain ⟨r13, τ14, u12, hf⟩ := lm_bd2_e hf
      refine lm_endi (lm_runV C0 hR hS (c_X5_number u12) (lw_cV 2 hts uw_599 mv_X5_number rfl rfl hd_X5_number ⟨Nat.le_of_ble_eq_true rfl, Nat.le_of_ble_eq_true rfl⟩) (by decide) cell_140 rfl rfl hl rfl (Nat.le_of_ble_eq_true rfl) dX5_light_49) hS (fun H locs hR hS => ?_)
      obtain ⟨z15, hf⟩ := lm_ck_e hf
      obtain ⟨τ16, eτ16, hf⟩ := lm_nm_e hf
      refine lm_istM C0 hR hS (by decide) cell_145 z15  eτ16 cell_145u dX5_light_52 (fun H locs hR hS => ?_)
      refine lv_aload_n hx hb dX5_light_53 rfl (lv_at hl 0 rfl) ?_
      refine lv_bipush (v := (44 : Int32)) hx hb dX5_light_54 (by decide) ?_
      obtain ⟨τ19, u17, hf⟩ := lm_bd_e hf
      refine lm_endv (lm_runV C0 hR hS (c_X5_mustSign u17) (lw_cV 1 hts uw_602 mv_X5_mustSign rfl rfl hd_X5_mustSign ⟨Nat.le_of_ble_eq_true rfl, Nat.le_of_ble_eq_true rfl⟩) (by decide) cell_140 rfl rfl hl rfl (Nat.le_of_ble_eq_true rfl) dX5_light_56) hS (fun H locs hR hS => ?_)
      refine lv_aload_n hx hb dX5_light_59 rfl (lv_at hl 0 rfl) ?_
      refine lm_get C0 hR (by decide) cell_140 rfl lw_in_X5 6 (by decide) uw_514 rfl rfl dX5_light_60 ?_
      refine lv_iconst (v := (3 : Int32)) hx hb dX5_light_63 (by decide) ?_
      refine lv_aload_n hx hb dX5_light_64 rfl (lv_at hl 0 rfl) ?_
      refine lv_iconst (v := (0 : Int32)) hx hb dX5_light_65 (by decide) ?_
      refine lv_bipush (v := (12 : Int32)) hx hb dX5_light_66 (by decide) ?_
      obtain ⟨r21, τ22, u20, hf⟩ := lm_bd2_e hf
      refine lm_endi (lm_runV C0 hR hS (c_X5_number u20) (lw_cV 2 hts uw_599 mv_X5_number rfl rfl hd_X5_number ⟨Nat.le_of_ble_eq_true rfl, Nat.le_of_ble_eq_true rfl⟩) (by decide) cell_140 rfl rfl hl rfl (Nat.le_of_ble_eq_true rfl) dX5_light_68) hS (fun H locs hR hS => ?_)
      obtain ⟨z23, hf⟩ := lm_ck_e hf
      obtain ⟨τ24, eτ24, hf⟩ := lm_nm_e hf
      refine lm_istM C0 hR hS (by decide) cell_145 z23  eτ24 cell_145u dX5_light_71 (fun H locs hR hS => ?_)
      refine lv_aload_n hx hb dX5_light_72 rfl (lv_at hl 0 rfl) ?_
      refine lv_bipush (v := (44 : Int32)) hx hb dX5_light_73 (by decide) ?_
      obtain ⟨τ27, u25, hf⟩ := lm_bd_e hf
      refine lm_endv (lm_runV C0 hR hS (c_X5_mustSign u25) (lw_cV 1 hts uw_602 mv_X5_mustSign rfl rfl hd_X5_mustSign ⟨Nat.le_of_ble_eq_true rfl, Nat.le_of_ble_eq_true rfl⟩) (by decide) cell_140 rfl rfl hl rfl (Nat.le_of_ble_eq_true rfl) dX5_light_75) hS (fun H locs hR hS => ?_)
      refine lv_aload_n hx hb dX5_light_78 rfl (lv_at hl 0 rfl) ?_
      refine lm_get C0 hR (by decide) cell_140 rfl lw_in_X5 6 (by decide) uw_514 rfl rfl dX5_light_79 ?_
      refine lv_iconst (v := (4 : Int32)) hx hb dX5_light_82 (by decide) ?_
      refine lv_aload_n hx hb dX5_light_83 rfl (lv_at hl 0 rfl) ?_
      refine lv_iconst (v := (0 : Int32)) hx hb dX5_light_84 (by decide) ?_
      refine lv_bipush (v := (60 : Int32)) hx hb dX5_light_85 (by decide) ?_
      obtain ⟨r29, τ30, u28, hf⟩ := lm_bd2_e hf
      refine lm_endi (lm_runV C0 hR hS (c_X5_number u28) (lw_cV 2 hts uw_599 mv_X5_number rfl rfl hd_X5_number ⟨Nat.le_of_ble_eq_true rfl, Nat.le_of_ble_eq_true rfl⟩) (by decide) cell_140 rfl rfl hl rfl (Nat.le_of_ble_eq_true rfl) dX5_light_87) hS (fun H locs hR hS => ?_)
      obtain ⟨z31, hf⟩ := lm_ck_e hf
      obtain ⟨τ32, eτ32, hf⟩ := lm_nm_e hf
      refine lm_istM C0 hR hS (by decide) cell_145 z31  eτ32 cell_145u dX5_light_90 (fun H locs hR hS => ?_)
      refine lv_aload_n hx hb dX5_light_91 rfl (lv_at hl 0 rfl) ?_
      refine lv_bipush (v := (59 : Int32)) hx hb dX5_light_92 (by decide) ?_
      obtain ⟨τ35, u33, hf⟩ := lm_bd_e hf
      refine lm_endv (lm_runV C0 hR hS (c_X5_mustSign u33) (lw_cV 1 hts uw_602 mv_X5_mustSign rfl rfl hd_X5_mustSign ⟨Nat.le_of_ble_eq_true rfl, Nat.le_of_ble_eq_true rfl⟩) (by decide) cell_140 rfl rfl hl rfl (Nat.le_of_ble_eq_true rfl) dX5_light_94) hS (fun H locs hR hS => ?_)
      refine lv_aload_n hx hb dX5_light_97 rfl (lv_at hl 0 rfl) ?_
      obtain ⟨τ38, u36, hf⟩ := lm_bd_e hf
      refine lm_endv (lm_runV C0 hR hS (c_X5_readFog u36) (lw_cV 0 hts uw_605 mv_X5_readFog rfl rfl hd_X5_readFog ⟨Nat.le_of_ble_eq_true rfl, Nat.le_of_ble_eq_true rfl⟩) (by decide) cell_140 rfl rfl hl rfl (Nat.le_of_ble_eq_true rfl) dX5_light_98) hS (fun H locs hR hS => ?_)
      exact w_X5_light_101 C0 _ _ _ _ _ hR hS (lv_sub hl [0] rfl) hf
    · have hf := lm_F b5 hf
      refine lv_aload_n hx hb dX5_light_17 rfl (lv_at hl 0 rfl) ?_
      refine lm_get C0 hR (by decide) cell_140 rfl lw_in_X5 6 (by decide) uw_514 rfl rfl dX5_light_18 ?_
      refine lv_iload_n hx hb dX5_light_21 rfl (lv_at hl 1 rfl) ?_
      refine lv_iconst (v := (0 : Int32)) hx hb dX5_light_22 (by decide) ?_
      obtain ⟨z39, hf⟩ := lm_ck_e hf
      obtain ⟨τ40, eτ40, hf⟩ := lm_nm_e hf
      refine lm_istM C0 hR hS (by decide) cell_145 z39  eτ40 cell_145u dX5_light_23 (fun H locs hR hS => ?_)
      obtain ⟨v41, ev41, hf⟩ := lm_nm_e hf
      refine lv_iinc (v := v41) (lv' := [(1, .int v41), (0, .ref (B + 140))]) hx hb dX5_light_24 hl (k := 1) rfl (by rw [ev41]; rfl) (by decide) rfl (fun ls hl => ?_)
      refine lv_goto (tgt := 11) hx hb dX5_light_27 (by decide) ?_
      exact ih _ _ _ _ _ hR hS (lv_sub hl [1, 0] rfl) hf
set_option maxRecDepth 100000 in
set_option maxHeartbeats 4000000 in
theorem c_X5_light {τ σ τ' : Mem} {r : Int32}  (hf : f_X5_light τ = some (r, τ')) : lm_CI l yX5_light wsX5_light rmX5_light D cI cZ cL cR B [.ref (B + 140)] σ τ r σ τ' := by
  unfold f_X5_light at hf
  refine lm_of (cc := cX5_light) (maxL := 2) (ret := (some .int)) (own := RX5) (by decide) rfl (Nat.le_of_ble_eq_true rfl) (fun p e s m below meth c0 C0 hR ls hl => ?_)
  have hS : va_S (lm_A B) s.heap s.heap [] := va_S.rf
  have hl : lv_has ls 2 [(0, .ref (B + 140))] := hl
  obtain ⟨hx, hb, hml, hr, hlk, hown, hts, hK, hX⟩ := id C0
  refine lv_aload_n hx hb dX5_light_0 rfl (lv_at hl 0 rfl) ?_
  refine lv_iconst (v := (0 : Int32)) hx hb dX5_light_1 (by decide) ?_
  obtain ⟨τ1, eτ1, hf⟩ := lm_nm_e hf
  refine lm_putM C0 hR hS (by decide) cell_140 rfl lw_in_X5 tyX5 tyX5_ok nmX5 0 (by decide) uw_508 rfl rfl rfl rfl rfl (Nat.le_of_ble_eq_true rfl) eτ1 cell_140u dX5_light_2 (fun H locs hR hS => ?_)
  refine lv_aload_n hx hb dX5_light_5 rfl (lv_at hl 0 rfl) ?_
  obtain ⟨τ4, u2, hf⟩ := lm_bd_e hf
  refine lm_endv (lm_runV C0 hR hS (c_X5_begin u2) (lw_cV 0 hts uw_579 mv_X5_begin rfl rfl hd_X5_begin ⟨Nat.le_of_ble_eq_true rfl, Nat.le_of_ble_eq_true rfl⟩) (by decide) cell_140 rfl rfl hl rfl (Nat.le_of_ble_eq_true rfl) dX5_light_6) hS (fun H locs hR hS => ?_)
  refine lv_iconst (v := (0 : Int32)) hx hb dX5_light_9 (by decide) ?_
  refine lv_istore_n (lv' := [(1, .int (0 : Int32)), (0, .ref (B + 140))]) hx hb dX5_light_10 rfl hl (by decide) rfl (fun ls hl => ?_)
  exact w_X5_light_11 C0 _ _ _ _ _ _ hR hS (lv_sub hl [1, 0] rfl) hf
end
/-! ===== X5_isThere ===== -/
abbrev rmX5_isThere : Room := { frames := 0, cells := 0, slots := 0, locals := 0 }
def f_X5_isThere (τ : Mem) : Option (Int32) := lm_ck (lm_in (0 : Int32) 24) (if (τ 144 (0 : Int32).toNatClampNeg) ≤ 0 then (some (0 : Int32)) else (some (1 : Int32)))
abbrev wsX5_isThere : List Cond := Cond.code yX5_isThere cX5_isThere 1 (some .boolean) :: lw_u
theorem mv_X5_isThere : Cond.instanceMethod yX5_isThere ∈ lw_u ∧ Cond.selects yX5_isThere.cls yX5_isThere yX5_isThere ∈ lw_u ∧ Cond.initialized yX5_isThere.cls ∈ lw_u ∧ Cond.code yX5_isThere cX5_isThere 1 (some .boolean) ∈ lw_u := ⟨uw_626, uw_883, uw_6, uw_627⟩
theorem hd_X5_isThere : yX5_isThere.cls ≠ "java/lang/invoke/MethodHandle" ∧ yX5_isThere.cls ≠ "java/lang/invoke/VarHandle" ∧ (parseMethodDescriptor yX5_isThere.desc).map (fun d => d.parameters.length) = some 0 := by decide +kernel
section
variable {l : Launch} {D : va_G} {cI cZ cL cR : ClassId} {B : Nat}
set_option maxRecDepth 100000 in
set_option maxHeartbeats 4000000 in
theorem c_X5_isThere {τ σ : Mem} {r : Int32}  (hf : f_X5_isThere τ = some r) : lm_CI l yX5_isThere wsX5_isThere rmX5_isThere D cI cZ cL cR B [.ref (B + 140)] σ τ r σ τ := by
  unfold f_X5_isThere at hf
  refine lm_of (cc := cX5_isThere) (maxL := 1) (ret := (some .boolean)) (own := RX5) (by decide) rfl (Nat.le_of_ble_eq_true rfl) (fun p e s m below meth c0 C0 hR ls hl => ?_)
  have hS : va_S (lm_A B) s.heap s.heap [] := va_S.rf
  have hl : lv_has ls 1 [(0, .ref (B + 140))] := hl
  obtain ⟨hx, hb, hml, hr, hlk, hown, hts, hK, hX⟩ := id C0
  refine lv_aload_n hx hb dX5_isThere_0 rfl (lv_at hl 0 rfl) ?_
  refine lm_get C0 hR (by decide) cell_140 rfl lw_in_X5 5 (by decide) uw_513 rfl rfl dX5_isThere_1 ?_
  refine lv_iconst (v := (0 : Int32)) hx hb dX5_isThere_4 (by decide) ?_
  obtain ⟨z1, hf⟩ := lm_ck_e hf
  refine lm_ild C0 hR (by decide) cell_144 z1 dX5_isThere_5 ?_
  refine lv_if_le (tgt := 13) hx hb dX5_isThere_6 (by decide) (fun b2 => ?_) (fun b2 => ?_)
  · have hf := lm_T b2 hf
    refine lv_iconst (v := (0 : Int32)) hx hb dX5_isThere_13 (by decide) ?_
    exact lm_rzP C0 hR hS hf rfl dX5_isThere_14
  · have hf := lm_F b2 hf
    refine lv_iconst (v := (1 : Int32)) hx hb dX5_isThere_9 (by decide) ?_
    refine lv_goto (tgt := 14) hx hb dX5_isThere_10 (by decide) ?_
    exact lm_rzP C0 hR hS hf rfl dX5_isThere_14
end
/-! ===== X5_isShip ===== -/
abbrev rmX5_isShip : Room := { frames := 1, cells := 0, slots := 0, locals := 25 }
def f_X5_isShip (τ : Mem) (p1 : Int32) : Option (Int32) := lm_ck (lm_in (0 : Int32) 24) (lm_bd (f_X5_in p1.toInt64 (0 : Int64) (((τ 144 (0 : Int32).toNatClampNeg) - (1 : Int32)).toInt64)) fun r3 => lm_ck (lm_bo r3) (some r3))
abbrev wsX5_isShip : List Cond := Cond.code yX5_isShip cX5_isShip 2 (some .boolean) :: lw_u
theorem mv_X5_isShip : Cond.instanceMethod yX5_isShip ∈ lw_u ∧ Cond.selects yX5_isShip.cls yX5_isShip yX5_isShip ∈ lw_u ∧ Cond.initialized yX5_isShip.cls ∈ lw_u ∧ Cond.code yX5_isShip cX5_isShip 2 (some .boolean) ∈ lw_u := ⟨uw_683, uw_886, uw_6, uw_684⟩
theorem hd_X5_isShip : yX5_isShip.cls ≠ "java/lang/invoke/MethodHandle" ∧ yX5_isShip.cls ≠ "java/lang/invoke/VarHandle" ∧ (parseMethodDescriptor yX5_isShip.desc).map (fun d => d.parameters.length) = some 1 := by decide +kernel
section
variable {l : Launch} {D : va_G} {cI cZ cL cR : ClassId} {B : Nat}
set_option maxRecDepth 100000 in
set_option maxHeartbeats 4000000 in
theorem c_X5_isShip {τ σ : Mem} {p1 : Int32} {r : Int32}  (hf : f_X5_isShip τ p1 = some r) : lm_CI l yX5_isShip wsX5_isShip rmX5_isShip D cI cZ cL cR B [.ref (B + 140), .int p1] σ τ r σ τ := by
  unfold f_X5_isShip at hf
  refine lm_of (cc := cX5_isShip) (maxL := 2) (ret := (some .boolean)) (own := RX5) (by decide) rfl (Nat.le_of_ble_eq_true rfl) (fun p e s m below meth c0 C0 hR ls hl => ?_)
  have hS : va_S (lm_A B) s.heap s.heap [] := va_S.rf
  have hl : lv_has ls 2 [(0, .ref (B + 140)), (1, .int p1)] := hl
  obtain ⟨hx, hb, hml, hr, hlk, hown, hts, hK, hX⟩ := id C0
  refine lv_iload_n hx hb dX5_isShip_0 rfl (lv_at hl 1 rfl) ?_
  refine lv_i2l hx hb dX5_isShip_1 rfl ?_
  refine lv_lconst (v := (0 : Int64)) hx hb dX5_isShip_2 (by decide) ?_
  refine lv_aload_n hx hb dX5_isShip_3 rfl (lv_at hl 0 rfl) ?_
  refine lm_get C0 hR (by decide) cell_140 rfl lw_in_X5 5 (by decide) uw_513 rfl rfl dX5_isShip_4 ?_
  refine lv_iconst (v := (0 : Int32)) hx hb dX5_isShip_7 (by decide) ?_
  obtain ⟨z1, hf⟩ := lm_ck_e hf
  refine lm_ild C0 hR (by decide) cell_144 z1 dX5_isShip_8 ?_
  refine lv_iconst (v := (1 : Int32)) hx hb dX5_isShip_9 (by decide) ?_
  refine lv_isub hx hb dX5_isShip_10 ?_
  refine lv_i2l hx hb dX5_isShip_11 rfl ?_
  obtain ⟨r3, u2, hf⟩ := lm_bd_e hf
  refine lm_endi (lm_runS C0 hR hS (c_X5_in u2) (lw_cS 3 hts uw_544 mv_X5_in rfl rfl hd_X5_in ⟨Nat.le_of_ble_eq_true rfl, Nat.le_of_ble_eq_true rfl⟩) rfl hl rfl (Nat.le_of_ble_eq_true rfl) dX5_isShip_12) hS (fun H locs hR hS => ?_)
  obtain ⟨z5, hf⟩ := lm_ck_e hf
  exact lm_rzP C0 hR hS hf (lm_boT z5) dX5_isShip_15
end
/-! ===== X5_isFog ===== -/
abbrev rmX5_isFog : Room := { frames := 1, cells := 0, slots := 0, locals := 25 }
def f_X5_isFog (τ : Mem) (p1 : Int32) : Option (Int32) := lm_ck (lm_in (1 : Int32) 24) (lm_bd (f_X5_in p1.toInt64 (0 : Int64) (((τ 144 (1 : Int32).toNatClampNeg) - (1 : Int32)).toInt64)) fun r3 => lm_ck (lm_bo r3) (some r3))
abbrev wsX5_isFog : List Cond := Cond.code yX5_isFog cX5_isFog 2 (some .boolean) :: lw_u
theorem mv_X5_isFog : Cond.instanceMethod yX5_isFog ∈ lw_u ∧ Cond.selects yX5_isFog.cls yX5_isFog yX5_isFog ∈ lw_u ∧ Cond.initialized yX5_isFog.cls ∈ lw_u ∧ Cond.code yX5_isFog cX5_isFog 2 (some .boolean) ∈ lw_u := ⟨uw_670, uw_885, uw_6, uw_671⟩
theorem hd_X5_isFog : yX5_isFog.cls ≠ "java/lang/invoke/MethodHandle" ∧ yX5_isFog.cls ≠ "java/lang/invoke/VarHandle" ∧ (parseMethodDescriptor yX5_isFog.desc).map (fun d => d.parameters.length) = some 1 := by decide +kernel
section
variable {l : Launch} {D : va_G} {cI cZ cL cR : ClassId} {B : Nat}
set_option maxRecDepth 100000 in
set_option maxHeartbeats 4000000 in
theorem c_X5_isFog {τ σ : Mem} {p1 : Int32} {r : Int32}  (hf : f_X5_isFog τ p1 = some r) : lm_CI l yX5_isFog wsX5_isFog rmX5_isFog D cI cZ cL cR B [.ref (B + 140), .int p1] σ τ r σ τ := by
  unfold f_X5_isFog at hf
  refine lm_of (cc := cX5_isFog) (maxL := 2) (ret := (some .boolean)) (own := RX5) (by decide) rfl (Nat.le_of_ble_eq_true rfl) (fun p e s m below meth c0 C0 hR ls hl => ?_)
  have hS : va_S (lm_A B) s.heap s.heap [] := va_S.rf
  have hl : lv_has ls 2 [(0, .ref (B + 140)), (1, .int p1)] := hl
  obtain ⟨hx, hb, hml, hr, hlk, hown, hts, hK, hX⟩ := id C0
  refine lv_iload_n hx hb dX5_isFog_0 rfl (lv_at hl 1 rfl) ?_
  refine lv_i2l hx hb dX5_isFog_1 rfl ?_
  refine lv_lconst (v := (0 : Int64)) hx hb dX5_isFog_2 (by decide) ?_
  refine lv_aload_n hx hb dX5_isFog_3 rfl (lv_at hl 0 rfl) ?_
  refine lm_get C0 hR (by decide) cell_140 rfl lw_in_X5 5 (by decide) uw_513 rfl rfl dX5_isFog_4 ?_
  refine lv_iconst (v := (1 : Int32)) hx hb dX5_isFog_7 (by decide) ?_
  obtain ⟨z1, hf⟩ := lm_ck_e hf
  refine lm_ild C0 hR (by decide) cell_144 z1 dX5_isFog_8 ?_
  refine lv_iconst (v := (1 : Int32)) hx hb dX5_isFog_9 (by decide) ?_
  refine lv_isub hx hb dX5_isFog_10 ?_
  refine lv_i2l hx hb dX5_isFog_11 rfl ?_
  obtain ⟨r3, u2, hf⟩ := lm_bd_e hf
  refine lm_endi (lm_runS C0 hR hS (c_X5_in u2) (lw_cS 3 hts uw_544 mv_X5_in rfl rfl hd_X5_in ⟨Nat.le_of_ble_eq_true rfl, Nat.le_of_ble_eq_true rfl⟩) rfl hl rfl (Nat.le_of_ble_eq_true rfl) dX5_isFog_12) hS (fun H locs hR hS => ?_)
  obtain ⟨z5, hf⟩ := lm_ck_e hf
  exact lm_rzP C0 hR hS hf (lm_boT z5) dX5_isFog_15
end
/-! ===== X5_isCell ===== -/
abbrev rmX5_isCell : Room := { frames := 1, cells := 0, slots := 0, locals := 25 }
def f_X5_isCell (τ : Mem) (p1 : Int32) : Option (Int32) := lm_ck (lm_in (2 : Int32) 24) (lm_bd (f_X5_in p1.toInt64 (0 : Int64) (((τ 144 (2 : Int32).toNatClampNeg) - (1 : Int32)).toInt64)) fun r3 => lm_ck (lm_bo r3) (some r3))
abbrev wsX5_isCell : List Cond := Cond.code yX5_isCell cX5_isCell 2 (some .boolean) :: lw_u
theorem mv_X5_isCell : Cond.instanceMethod yX5_isCell ∈ lw_u ∧ Cond.selects yX5_isCell.cls yX5_isCell yX5_isCell ∈ lw_u ∧ Cond.initialized yX5_isCell.cls ∈ lw_u ∧ Cond.code yX5_isCell cX5_isCell 2 (some .boolean) ∈ lw_u := ⟨uw_686, uw_887, uw_6, uw_687⟩
theorem hd_X5_isCell : yX5_isCell.cls ≠ "java/lang/invoke/MethodHandle" ∧ yX5_isCell.cls ≠ "java/lang/invoke/VarHandle" ∧ (parseMethodDescriptor yX5_isCell.desc).map (fun d => d.parameters.length) = some 1 := by decide +kernel
section
variable {l : Launch} {D : va_G} {cI cZ cL cR : ClassId} {B : Nat}
set_option maxRecDepth 100000 in
set_option maxHeartbeats 4000000 in
theorem c_X5_isCell {τ σ : Mem} {p1 : Int32} {r : Int32}  (hf : f_X5_isCell τ p1 = some r) : lm_CI l yX5_isCell wsX5_isCell rmX5_isCell D cI cZ cL cR B [.ref (B + 140), .int p1] σ τ r σ τ := by
  unfold f_X5_isCell at hf
  refine lm_of (cc := cX5_isCell) (maxL := 2) (ret := (some .boolean)) (own := RX5) (by decide) rfl (Nat.le_of_ble_eq_true rfl) (fun p e s m below meth c0 C0 hR ls hl => ?_)
  have hS : va_S (lm_A B) s.heap s.heap [] := va_S.rf
  have hl : lv_has ls 2 [(0, .ref (B + 140)), (1, .int p1)] := hl
  obtain ⟨hx, hb, hml, hr, hlk, hown, hts, hK, hX⟩ := id C0
  refine lv_iload_n hx hb dX5_isCell_0 rfl (lv_at hl 1 rfl) ?_
  refine lv_i2l hx hb dX5_isCell_1 rfl ?_
  refine lv_lconst (v := (0 : Int64)) hx hb dX5_isCell_2 (by decide) ?_
  refine lv_aload_n hx hb dX5_isCell_3 rfl (lv_at hl 0 rfl) ?_
  refine lm_get C0 hR (by decide) cell_140 rfl lw_in_X5 5 (by decide) uw_513 rfl rfl dX5_isCell_4 ?_
  refine lv_iconst (v := (2 : Int32)) hx hb dX5_isCell_7 (by decide) ?_
  obtain ⟨z1, hf⟩ := lm_ck_e hf
  refine lm_ild C0 hR (by decide) cell_144 z1 dX5_isCell_8 ?_
  refine lv_iconst (v := (1 : Int32)) hx hb dX5_isCell_9 (by decide) ?_
  refine lv_isub hx hb dX5_isCell_10 ?_
  refine lv_i2l hx hb dX5_isCell_11 rfl ?_
  obtain ⟨r3, u2, hf⟩ := lm_bd_e hf
  refine lm_endi (lm_runS C0 hR hS (c_X5_in u2) (lw_cS 3 hts uw_544 mv_X5_in rfl rfl hd_X5_in ⟨Nat.le_of_ble_eq_true rfl, Nat.le_of_ble_eq_true rfl⟩) rfl hl rfl (Nat.le_of_ble_eq_true rfl) dX5_isCell_12) hS (fun H locs hR hS => ?_)
  obtain ⟨z5, hf⟩ := lm_ck_e hf
  exact lm_rzP C0 hR hS hf (lm_boT z5) dX5_isCell_15
end
/-! ===== X5_bits ===== -/
abbrev rmX5_bits : Room := { frames := 0, cells := 0, slots := 0, locals := 0 }
def f_X5_bits_4 : Nat → Int32 → Int32 → Int32 → Option (Int32)
  | 0, _, _, _ => none
  | n + 1, x0, x1, x2 => if (6 : Int32) ≤ x2 then (some x1) else (lm_nm (x1 + ((x0 >>> (x2 &&& 31)) &&& (1 : Int32))) fun v2 => lm_nm (x2 + (1 : Int32)) fun v3 => f_X5_bits_4 n x0 v2 v3)
def f_X5_bits (p0 : Int32) : Option (Int32) := f_X5_bits_4 lm_fu p0 (0 : Int32) (0 : Int32)
abbrev wsX5_bits : List Cond := Cond.code yX5_bits cX5_bits 3 (some .int) :: lw_u
theorem mv_X5_bits : Cond.static yX5_bits ∈ lw_u ∧ Cond.initialized yX5_bits.cls ∈ lw_u ∧ Cond.code yX5_bits cX5_bits 3 (some .int) ∈ lw_u := ⟨uw_737, uw_6, uw_738⟩
theorem hd_X5_bits : yX5_bits.cls ≠ "java/lang/invoke/MethodHandle" ∧ yX5_bits.cls ≠ "java/lang/invoke/VarHandle" ∧ (parseMethodDescriptor yX5_bits.desc).map (fun d => d.parameters.length) = some 1 := by decide +kernel
section
variable {l : Launch} {D : va_G} {cI cZ cL cR : ClassId} {B : Nat}
set_option maxRecDepth 100000 in
set_option maxHeartbeats 4000000 in
theorem w_X5_bits_4 {p : Program} {e : Env} {s : State} {m : MethodId} {args : Array Value} {below : List Frame} {meth : Method} {c0 : Code} {σ τ : Mem} {r : Int32} (C0 : lm_Cx D cI cZ cL cR B p s m args meth c0 cX5_bits 3 (some .int) RX5) : ∀ (n : Nat), ∀ (x0 : Int32) (x1 : Int32) (x2 : Int32) (H : Heap) (locs : List Loc) (ls : Array Slot), va_P D vwCl (wl cI cZ cL cR B σ τ) H → va_S (lm_A B) s.heap H locs → lv_has ls 3 [(0, .int x0), (1, .int x1), (2, .int x2)] → f_X5_bits_4 n x0 x1 x2 = some r → W p l e rmX5_bits s m args below meth c0 H locs 0 0 (MQ below (lm_QI D cI cZ cL cR B r σ τ) args s 0 0 (lm_A B)) (F0 m 4 ls []) := by
  obtain ⟨hx, hb, hml, hr, hlk, hown, hts, hK, hX⟩ := id C0
  intro n
  induction n with
  | zero =>
    intro x0 x1 x2 H locs ls hR hS hl hf
    cases hf
  | succ n ih =>
    intro x0 x1 x2 H locs ls hR hS hl hf
    rw [f_X5_bits_4] at hf
    refine lv_iload_n hx hb dX5_bits_4 rfl (lv_at hl 2 rfl) ?_
    refine lv_bipush (v := (6 : Int32)) hx hb dX5_bits_5 (by decide) ?_
    refine lv_icmp_ge (tgt := 24) hx hb dX5_bits_7 (by decide) (fun b1 => ?_) (fun b1 => ?_)
    · have hf := lm_T b1 hf
      refine lv_iload_n hx hb dX5_bits_24 rfl (lv_at hl 1 rfl) ?_
      exact lm_riP C0 hR hS hf dX5_bits_25
    · have hf := lm_F b1 hf
      refine lv_iload_n hx hb dX5_bits_10 rfl (lv_at hl 1 rfl) ?_
      refine lv_iload_n hx hb dX5_bits_11 rfl (lv_at hl 0 rfl) ?_
      refine lv_iload_n hx hb dX5_bits_12 rfl (lv_at hl 2 rfl) ?_
      refine lv_ishr hx hb dX5_bits_13 ?_
      refine lv_iconst (v := (1 : Int32)) hx hb dX5_bits_14 (by decide) ?_
      refine lv_iand hx hb dX5_bits_15 ?_
      refine lv_iadd hx hb dX5_bits_16 ?_
      obtain ⟨v2, ev2, hf⟩ := lm_nm_e hf
      refine lm_topi ev2 ?_
      refine lv_istore_n (lv' := [(1, .int v2), (0, .int x0), (2, .int x2)]) hx hb dX5_bits_17 rfl hl (by decide) rfl (fun ls hl => ?_)
      obtain ⟨v3, ev3, hf⟩ := lm_nm_e hf
      refine lv_iinc (v := v3) (lv' := [(2, .int v3), (1, .int v2), (0, .int x0)]) hx hb dX5_bits_18 hl (k := 2) rfl (by rw [ev3]; rfl) (by decide) rfl (fun ls hl => ?_)
      refine lv_goto (tgt := 4) hx hb dX5_bits_21 (by decide) ?_
      exact ih _ _ _ _ _ _ hR hS (lv_sub hl [2, 1, 0] rfl) hf
set_option maxRecDepth 100000 in
set_option maxHeartbeats 4000000 in
theorem c_X5_bits {τ σ : Mem} {p0 : Int32} {r : Int32}  (hf : f_X5_bits p0 = some r) : lm_CI l yX5_bits wsX5_bits rmX5_bits D cI cZ cL cR B [.int p0] σ τ r σ τ := by
  unfold f_X5_bits at hf
  refine lm_of (cc := cX5_bits) (maxL := 3) (ret := (some .int)) (own := RX5) (by decide) rfl (Nat.le_of_ble_eq_true rfl) (fun p e s m below meth c0 C0 hR ls hl => ?_)
  have hS : va_S (lm_A B) s.heap s.heap [] := va_S.rf
  have hl : lv_has ls 3 [(0, .int p0)] := hl
  obtain ⟨hx, hb, hml, hr, hlk, hown, hts, hK, hX⟩ := id C0
  refine lv_iconst (v := (0 : Int32)) hx hb dX5_bits_0 (by decide) ?_
  refine lv_istore_n (lv' := [(1, .int (0 : Int32)), (0, .int p0)]) hx hb dX5_bits_1 rfl hl (by decide) rfl (fun ls hl => ?_)
  refine lv_iconst (v := (0 : Int32)) hx hb dX5_bits_2 (by decide) ?_
  refine lv_istore_n (lv' := [(2, .int (0 : Int32)), (1, .int (0 : Int32)), (0, .int p0)]) hx hb dX5_bits_3 rfl hl (by decide) rfl (fun ls hl => ?_)
  exact w_X5_bits_4 C0 _ _ _ _ _ _ _ hR hS (lv_sub hl [2, 1, 0] rfl) hf
end
/-! ===== X5_has ===== -/
abbrev rmX5_has : Room := { frames := 0, cells := 0, slots := 0, locals := 0 }
def f_X5_has (p0 : Int32) (p1 : Int32) : Option (Int32) := if ((p0 >>> (p1 &&& 31)) &&& (1 : Int32)) = (1 : Int32) then (some (1 : Int32)) else (some (0 : Int32))
abbrev wsX5_has : List Cond := Cond.code yX5_has cX5_has 2 (some .boolean) :: lw_u
theorem mv_X5_has : Cond.static yX5_has ∈ lw_u ∧ Cond.initialized yX5_has.cls ∈ lw_u ∧ Cond.code yX5_has cX5_has 2 (some .boolean) ∈ lw_u := ⟨uw_655, uw_6, uw_656⟩
theorem hd_X5_has : yX5_has.cls ≠ "java/lang/invoke/MethodHandle" ∧ yX5_has.cls ≠ "java/lang/invoke/VarHandle" ∧ (parseMethodDescriptor yX5_has.desc).map (fun d => d.parameters.length) = some 2 := by decide +kernel
section
variable {l : Launch} {D : va_G} {cI cZ cL cR : ClassId} {B : Nat}
set_option maxRecDepth 100000 in
set_option maxHeartbeats 4000000 in
theorem c_X5_has {τ σ : Mem} {p0 : Int32} {p1 : Int32} {r : Int32}  (hf : f_X5_has p0 p1 = some r) : lm_CI l yX5_has wsX5_has rmX5_has D cI cZ cL cR B [.int p0, .int p1] σ τ r σ τ := by
  unfold f_X5_has at hf
  refine lm_of (cc := cX5_has) (maxL := 2) (ret := (some .boolean)) (own := RX5) (by decide) rfl (Nat.le_of_ble_eq_true rfl) (fun p e s m below meth c0 C0 hR ls hl => ?_)
  have hS : va_S (lm_A B) s.heap s.heap [] := va_S.rf
  have hl : lv_has ls 2 [(0, .int p0), (1, .int p1)] := hl
  obtain ⟨hx, hb, hml, hr, hlk, hown, hts, hK, hX⟩ := id C0
  refine lv_iload_n hx hb dX5_has_0 rfl (lv_at hl 0 rfl) ?_
  refine lv_iload_n hx hb dX5_has_1 rfl (lv_at hl 1 rfl) ?_
  refine lv_ishr hx hb dX5_has_2 ?_
  refine lv_iconst (v := (1 : Int32)) hx hb dX5_has_3 (by decide) ?_
  refine lv_iand hx hb dX5_has_4 ?_
  refine lv_iconst (v := (1 : Int32)) hx hb dX5_has_5 (by decide) ?_
  refine lv_icmp_ne (tgt := 13) hx hb dX5_has_6 (by decide) (fun b1 => ?_) (fun b1 => ?_)
  · have hf := lm_F b1 hf
    refine lv_iconst (v := (0 : Int32)) hx hb dX5_has_13 (by decide) ?_
    exact lm_rzP C0 hR hS hf rfl dX5_has_14
  · have hf := lm_T b1 hf
    refine lv_iconst (v := (1 : Int32)) hx hb dX5_has_9 (by decide) ?_
    refine lv_goto (tgt := 14) hx hb dX5_has_10 (by decide) ?_
    exact lm_rzP C0 hR hS hf rfl dX5_has_14
end
/-! ===== X5_of ===== -/
abbrev rmX5_of : Room := { frames := 0, cells := 0, slots := 0, locals := 0 }
def f_X5_of (o0 : Nat) (τ : Mem) (p1 : Int32) (p2 : Int32) : Option (Int32) := lm_ck (lm_in (((12 : Int32) + ((2 : Int32) * p1)) + p2) 24) (some (τ o0 (((12 : Int32) + ((2 : Int32) * p1)) + p2).toNatClampNeg))
abbrev wsX5_of : List Cond := Cond.code yX5_of cX5_of 3 (some .int) :: lw_u
theorem mv_X5_of : Cond.static yX5_of ∈ lw_u ∧ Cond.initialized yX5_of.cls ∈ lw_u ∧ Cond.code yX5_of cX5_of 3 (some .int) ∈ lw_u := ⟨uw_640, uw_6, uw_641⟩
theorem hd_X5_of : yX5_of.cls ≠ "java/lang/invoke/MethodHandle" ∧ yX5_of.cls ≠ "java/lang/invoke/VarHandle" ∧ (parseMethodDescriptor yX5_of.desc).map (fun d => d.parameters.length) = some 3 := by decide +kernel
section
variable {l : Launch} {D : va_G} {cI cZ cL cR : ClassId} {B : Nat}
set_option maxRecDepth 100000 in
set_option maxHeartbeats 4000000 in
theorem c_X5_of {o0 : Nat} (h0 : isM o0) {τ σ : Mem} {p1 : Int32} {p2 : Int32} {r : Int32}  (hf : f_X5_of o0 τ p1 p2 = some r) : lm_CI l yX5_of wsX5_of rmX5_of D cI cZ cL cR B [.ref (B + o0), .int p1, .int p2] σ τ r σ τ := by
  unfold f_X5_of at hf
  refine lm_of (cc := cX5_of) (maxL := 3) (ret := (some .int)) (own := RX5) (by decide) rfl (Nat.le_of_ble_eq_true rfl) (fun p e s m below meth c0 C0 hR ls hl => ?_)
  have hS : va_S (lm_A B) s.heap s.heap [] := va_S.rf
  have hl : lv_has ls 3 [(0, .ref (B + o0)), (1, .int p1), (2, .int p2)] := hl
  obtain ⟨hx, hb, hml, hr, hlk, hown, hts, hK, hX⟩ := id C0
  refine lv_aload_n hx hb dX5_of_0 rfl (lv_at hl 0 rfl) ?_
  refine lv_bipush (v := (12 : Int32)) hx hb dX5_of_1 (by decide) ?_
  refine lv_iconst (v := (2 : Int32)) hx hb dX5_of_3 (by decide) ?_
  refine lv_iload_n hx hb dX5_of_4 rfl (lv_at hl 1 rfl) ?_
  refine lv_imul hx hb dX5_of_5 ?_
  refine lv_iadd hx hb dX5_of_6 ?_
  refine lv_iload_n hx hb dX5_of_7 rfl (lv_at hl 2 rfl) ?_
  refine lv_iadd hx hb dX5_of_8 ?_
  obtain ⟨z1, hf⟩ := lm_ck_e hf
  refine lm_ild C0 hR (isM_lt h0) (cell_M h0) z1 dX5_of_9 ?_
  exact lm_riP C0 hR hS hf dX5_of_10
end
/-! ===== X5_thickOf ===== -/
abbrev rmX5_thickOf : Room := { frames := 0, cells := 0, slots := 0, locals := 0 }
def f_X5_thickOf (o0 : Nat) (τ : Mem) (p1 : Int32) : Option (Int32) := lm_ck (lm_in (1 : Int32) 24) (lm_ck (lm_nz (τ o0 (1 : Int32).toNatClampNeg)) (lm_ck (lm_in ((6 : Int32) + (p1 - p1 / (τ o0 (1 : Int32).toNatClampNeg) * (τ o0 (1 : Int32).toNatClampNeg))) 24) (some (τ o0 ((6 : Int32) + (p1 - p1 / (τ o0 (1 : Int32).toNatClampNeg) * (τ o0 (1 : Int32).toNatClampNeg))).toNatClampNeg))))
abbrev wsX5_thickOf : List Cond := Cond.code yX5_thickOf cX5_thickOf 2 (some .int) :: lw_u
theorem mv_X5_thickOf : Cond.static yX5_thickOf ∈ lw_u ∧ Cond.initialized yX5_thickOf.cls ∈ lw_u ∧ Cond.code yX5_thickOf cX5_thickOf 2 (some .int) ∈ lw_u := ⟨uw_643, uw_6, uw_644⟩
theorem hd_X5_thickOf : yX5_thickOf.cls ≠ "java/lang/invoke/MethodHandle" ∧ yX5_thickOf.cls ≠ "java/lang/invoke/VarHandle" ∧ (parseMethodDescriptor yX5_thickOf.desc).map (fun d => d.parameters.length) = some 2 := by decide +kernel
section
variable {l : Launch} {D : va_G} {cI cZ cL cR : ClassId} {B : Nat}
set_option maxRecDepth 100000 in
set_option maxHeartbeats 4000000 in
theorem c_X5_thickOf {o0 : Nat} (h0 : isM o0) {τ σ : Mem} {p1 : Int32} {r : Int32}  (hf : f_X5_thickOf o0 τ p1 = some r) : lm_CI l yX5_thickOf wsX5_thickOf rmX5_thickOf D cI cZ cL cR B [.ref (B + o0), .int p1] σ τ r σ τ := by
  unfold f_X5_thickOf at hf
  refine lm_of (cc := cX5_thickOf) (maxL := 2) (ret := (some .int)) (own := RX5) (by decide) rfl (Nat.le_of_ble_eq_true rfl) (fun p e s m below meth c0 C0 hR ls hl => ?_)
  have hS : va_S (lm_A B) s.heap s.heap [] := va_S.rf
  have hl : lv_has ls 2 [(0, .ref (B + o0)), (1, .int p1)] := hl
  obtain ⟨hx, hb, hml, hr, hlk, hown, hts, hK, hX⟩ := id C0
  refine lv_aload_n hx hb dX5_thickOf_0 rfl (lv_at hl 0 rfl) ?_
  refine lv_bipush (v := (6 : Int32)) hx hb dX5_thickOf_1 (by decide) ?_
  refine lv_iload_n hx hb dX5_thickOf_3 rfl (lv_at hl 1 rfl) ?_
  refine lv_aload_n hx hb dX5_thickOf_4 rfl (lv_at hl 0 rfl) ?_
  refine lv_iconst (v := (1 : Int32)) hx hb dX5_thickOf_5 (by decide) ?_
  obtain ⟨z1, hf⟩ := lm_ck_e hf
  refine lm_ild C0 hR (isM_lt h0) (cell_M h0) z1 dX5_thickOf_6 ?_
  obtain ⟨z2, hf⟩ := lm_ck_e hf
  refine lv_irem hx hb dX5_thickOf_7 (lm_nzT z2) ?_
  refine lv_iadd hx hb dX5_thickOf_8 ?_
  obtain ⟨z3, hf⟩ := lm_ck_e hf
  refine lm_ild C0 hR (isM_lt h0) (cell_M h0) z3 dX5_thickOf_9 ?_
  exact lm_riP C0 hR hS hf dX5_thickOf_10
end
/-! ===== X5_loggedOf ===== -/
abbrev rmX5_loggedOf : Room := { frames := 1, cells := 0, slots := 0, locals := 22 }
def f_X5_loggedOf_61 (o0 : Nat) (τ : Mem) (x2 : Int32) (x4 : Int32) (y0 : Int32) : Option (Int32) := lm_ck (lm_in (4 : Int32) 24) (if (τ o0 (4 : Int32).toNatClampNeg) ≤ 0 then (some (y0 + (0 : Int32))) else (lm_ck (lm_in (4 : Int32) 24) (if (((4 : Int32) + ((τ o0 (4 : Int32).toNatClampNeg) / (10 : Int32))) - (x4 / (2 : Int32))) < x2 then (some (y0 + (0 : Int32))) else (some (y0 + (2 : Int32))))))
def f_X5_loggedOf_46 (o0 : Nat) (τ : Mem) (x2 : Int32) (x4 : Int32) : Option (Int32) := lm_ck (lm_in (3 : Int32) 24) (if ((τ o0 (3 : Int32).toNatClampNeg) - x4) < x2 then (f_X5_loggedOf_61 o0 τ x2 x4 (0 : Int32)) else (f_X5_loggedOf_61 o0 τ x2 x4 (1 : Int32)))
def f_X5_loggedOf (o0 : Nat) (τ : Mem) (p1 : Int32) : Option (Int32) := lm_bd (f_X5_of o0 τ p1 (1 : Int32)) fun r2 => lm_bd (f_X5_of o0 τ p1 (0 : Int32)) fun r5 => lm_ck (lm_in (5 : Int32) 24) (lm_bd (f_X5_thickOf o0 τ (τ o0 (5 : Int32).toNatClampNeg)) fun r9 => if r5 = (5 : Int32) then (if r2 ≤ (2 : Int32) then (if r2 = 0 then (if (4 : Int32) ≤ r5 then (f_X5_loggedOf_46 o0 τ r2 r9) else (some (3 : Int32))) else (f_X5_loggedOf_46 o0 τ r2 r9)) else (some (0 : Int32))) else (if r2 = 0 then (if (4 : Int32) ≤ r5 then (f_X5_loggedOf_46 o0 τ r2 r9) else (some (3 : Int32))) else (f_X5_loggedOf_46 o0 τ r2 r9)))
abbrev wsX5_loggedOf : List Cond := Cond.code yX5_loggedOf cX5_loggedOf 6 (some .int) :: lw_u
theorem mv_X5_loggedOf : Cond.static yX5_loggedOf ∈ lw_u ∧ Cond.initialized yX5_loggedOf.cls ∈ lw_u ∧ Cond.code yX5_loggedOf cX5_loggedOf 6 (some .int) ∈ lw_u := ⟨uw_652, uw_6, uw_653⟩
theorem hd_X5_loggedOf : yX5_loggedOf.cls ≠ "java/lang/invoke/MethodHandle" ∧ yX5_loggedOf.cls ≠ "java/lang/invoke/VarHandle" ∧ (parseMethodDescriptor yX5_loggedOf.desc).map (fun d => d.parameters.length) = some 2 := by decide +kernel
section
variable {l : Launch} {D : va_G} {cI cZ cL cR : ClassId} {B : Nat}
set_option maxRecDepth 100000 in
set_option maxHeartbeats 4000000 in
theorem w_X5_loggedOf_61 {o0 : Nat} (h0 : isM o0) {p : Program} {e : Env} {s : State} {m : MethodId} {args : Array Value} {below : List Frame} {meth : Method} {c0 : Code} {σ τ : Mem} {r : Int32} (C0 : lm_Cx D cI cZ cL cR B p s m args meth c0 cX5_loggedOf 6 (some .int) RX5) : ∀ (x2 : Int32) (x4 : Int32) (y0 : Int32) (H : Heap) (locs : List Loc) (ls : Array Slot), va_P D vwCl (wl cI cZ cL cR B σ τ) H → va_S (lm_A B) s.heap H locs → lv_has ls 6 [(0, .ref (B + o0)), (2, .int x2), (4, .int x4)] → f_X5_loggedOf_61 o0 τ x2 x4 y0 = some r → W p l e rmX5_loggedOf s m args below meth c0 H locs 0 0 (MQ below (lm_QI D cI cZ cL cR B r σ τ) args s 0 0 (lm_A B)) (F0 m 61 ls [.int y0]) := by
  obtain ⟨hx, hb, hml, hr, hlk, hown, hts, hK, hX⟩ := id C0
  intro x2 x4 y0 H locs ls hR hS hl hf
  unfold f_X5_loggedOf_61 at hf
  refine lv_istore (lv' := [(5, .int y0), (0, .ref (B + o0)), (2, .int x2), (4, .int x4)]) hx hb dX5_loggedOf_61 hl (by decide) rfl (fun ls hl => ?_)
  refine lv_iload hx hb dX5_loggedOf_63 (lv_at hl 0 rfl) ?_
  refine lv_aload_n hx hb dX5_loggedOf_65 rfl (lv_at hl 1 rfl) ?_
  refine lv_iconst (v := (4 : Int32)) hx hb dX5_loggedOf_66 (by decide) ?_
  obtain ⟨z19, hf⟩ := lm_ck_e hf
  refine lm_ild C0 hR (isM_lt h0) (cell_M h0) z19 dX5_loggedOf_67 ?_
  refine lv_if_le (tgt := 92) hx hb dX5_loggedOf_68 (by decide) (fun b20 => ?_) (fun b20 => ?_)
  · have hf := lm_T b20 hf
    refine lv_iconst (v := (0 : Int32)) hx hb dX5_loggedOf_92 (by decide) ?_
    refine lv_iadd hx hb dX5_loggedOf_93 ?_
    exact lm_riP C0 hR hS hf dX5_loggedOf_94
  · have hf := lm_F b20 hf
    refine lv_iload_n hx hb dX5_loggedOf_71 rfl (lv_at hl 2 rfl) ?_
    refine lv_iconst (v := (4 : Int32)) hx hb dX5_loggedOf_72 (by decide) ?_
    refine lv_aload_n hx hb dX5_loggedOf_73 rfl (lv_at hl 1 rfl) ?_
    refine lv_iconst (v := (4 : Int32)) hx hb dX5_loggedOf_74 (by decide) ?_
    obtain ⟨z21, hf⟩ := lm_ck_e hf
    refine lm_ild C0 hR (isM_lt h0) (cell_M h0) z21 dX5_loggedOf_75 ?_
    refine lv_bipush (v := (10 : Int32)) hx hb dX5_loggedOf_76 (by decide) ?_
    refine lv_idiv hx hb dX5_loggedOf_78 (by decide) ?_
    refine lv_iadd hx hb dX5_loggedOf_79 ?_
    refine lv_iload hx hb dX5_loggedOf_80 (lv_at hl 3 rfl) ?_
    refine lv_iconst (v := (2 : Int32)) hx hb dX5_loggedOf_82 (by decide) ?_
    refine lv_idiv hx hb dX5_loggedOf_83 (by decide) ?_
    refine lv_isub hx hb dX5_loggedOf_84 ?_
    refine lv_icmp_gt (tgt := 92) hx hb dX5_loggedOf_85 (by decide) (fun b22 => ?_) (fun b22 => ?_)
    · have hf := lm_T b22 hf
      refine lv_iconst (v := (0 : Int32)) hx hb dX5_loggedOf_92 (by decide) ?_
      refine lv_iadd hx hb dX5_loggedOf_93 ?_
      exact lm_riP C0 hR hS hf dX5_loggedOf_94
    · have hf := lm_F b22 hf
      refine lv_iconst (v := (2 : Int32)) hx hb dX5_loggedOf_88 (by decide) ?_
      refine lv_goto (tgt := 93) hx hb dX5_loggedOf_89 (by decide) ?_
      refine lv_iadd hx hb dX5_loggedOf_93 ?_
      exact lm_riP C0 hR hS hf dX5_loggedOf_94
set_option maxRecDepth 100000 in
set_option maxHeartbeats 4000000 in
theorem w_X5_loggedOf_46 {o0 : Nat} (h0 : isM o0) {p : Program} {e : Env} {s : State} {m : MethodId} {args : Array Value} {below : List Frame} {meth : Method} {c0 : Code} {σ τ : Mem} {r : Int32} (C0 : lm_Cx D cI cZ cL cR B p s m args meth c0 cX5_loggedOf 6 (some .int) RX5) : ∀ (x2 : Int32) (x4 : Int32) (H : Heap) (locs : List Loc) (ls : Array Slot), va_P D vwCl (wl cI cZ cL cR B σ τ) H → va_S (lm_A B) s.heap H locs → lv_has ls 6 [(0, .ref (B + o0)), (2, .int x2), (4, .int x4)] → f_X5_loggedOf_46 o0 τ x2 x4 = some r → W p l e rmX5_loggedOf s m args below meth c0 H locs 0 0 (MQ below (lm_QI D cI cZ cL cR B r σ τ) args s 0 0 (lm_A B)) (F0 m 46 ls []) := by
  obtain ⟨hx, hb, hml, hr, hlk, hown, hts, hK, hX⟩ := id C0
  intro x2 x4 H locs ls hR hS hl hf
  unfold f_X5_loggedOf_46 at hf
  refine lv_iload_n hx hb dX5_loggedOf_46 rfl (lv_at hl 1 rfl) ?_
  refine lv_aload_n hx hb dX5_loggedOf_47 rfl (lv_at hl 0 rfl) ?_
  refine lv_iconst (v := (3 : Int32)) hx hb dX5_loggedOf_48 (by decide) ?_
  obtain ⟨z17, hf⟩ := lm_ck_e hf
  refine lm_ild C0 hR (isM_lt h0) (cell_M h0) z17 dX5_loggedOf_49 ?_
  refine lv_iload hx hb dX5_loggedOf_50 (lv_at hl 2 rfl) ?_
  refine lv_isub hx hb dX5_loggedOf_52 ?_
  refine lv_icmp_gt (tgt := 60) hx hb dX5_loggedOf_53 (by decide) (fun b18 => ?_) (fun b18 => ?_)
  · have hf := lm_T b18 hf
    refine lv_iconst (v := (0 : Int32)) hx hb dX5_loggedOf_60 (by decide) ?_
    exact w_X5_loggedOf_61 h0 C0 _ _ _ _ _ _ hR hS (lv_sub hl [0, 1, 2] rfl) hf
  · have hf := lm_F b18 hf
    refine lv_iconst (v := (1 : Int32)) hx hb dX5_loggedOf_56 (by decide) ?_
    refine lv_goto (tgt := 61) hx hb dX5_loggedOf_57 (by decide) ?_
    exact w_X5_loggedOf_61 h0 C0 _ _ _ _ _ _ hR hS (lv_sub hl [0, 1, 2] rfl) hf
set_option maxRecDepth 100000 in
set_option maxHeartbeats 4000000 in
theorem c_X5_loggedOf {o0 : Nat} (h0 : isM o0) {τ σ : Mem} {p1 : Int32} {r : Int32}  (hf : f_X5_loggedOf o0 τ p1 = some r) : lm_CI l yX5_loggedOf wsX5_loggedOf rmX5_loggedOf D cI cZ cL cR B [.ref (B + o0), .int p1] σ τ r σ τ := by
  unfold f_X5_loggedOf at hf
  refine lm_of (cc := cX5_loggedOf) (maxL := 6) (ret := (some .int)) (own := RX5) (by decide) rfl (Nat.le_of_ble_eq_true rfl) (fun p e s m below meth c0 C0 hR ls hl => ?_)
  have hS : va_S (lm_A B) s.heap s.heap [] := va_S.rf
  have hl : lv_has ls 6 [(0, .ref (B + o0)), (1, .int p1)] := hl
  obtain ⟨hx, hb, hml, hr, hlk, hown, hts, hK, hX⟩ := id C0
  refine lv_aload_n hx hb dX5_loggedOf_0 rfl (lv_at hl 0 rfl) ?_
  refine lv_iload_n hx hb dX5_loggedOf_1 rfl (lv_at hl 1 rfl) ?_
  refine lv_iconst (v := (1 : Int32)) hx hb dX5_loggedOf_2 (by decide) ?_
  obtain ⟨r2, u1, hf⟩ := lm_bd_e hf
  refine lm_endi (lm_runS C0 hR hS (c_X5_of h0 u1) (lw_cS 3 hts uw_639 mv_X5_of rfl rfl hd_X5_of ⟨Nat.le_of_ble_eq_true rfl, Nat.le_of_ble_eq_true rfl⟩) rfl hl rfl (Nat.le_of_ble_eq_true rfl) dX5_loggedOf_3) hS (fun H locs hR hS => ?_)
  refine lv_istore_n (lv' := [(2, .int r2), (0, .ref (B + o0)), (1, .int p1)]) hx hb dX5_loggedOf_6 rfl hl (by decide) rfl (fun ls hl => ?_)
  refine lv_aload_n hx hb dX5_loggedOf_7 rfl (lv_at hl 1 rfl) ?_
  refine lv_iload_n hx hb dX5_loggedOf_8 rfl (lv_at hl 2 rfl) ?_
  refine lv_iconst (v := (0 : Int32)) hx hb dX5_loggedOf_9 (by decide) ?_
  obtain ⟨r5, u4, hf⟩ := lm_bd_e hf
  refine lm_endi (lm_runS C0 hR hS (c_X5_of h0 u4) (lw_cS 3 hts uw_639 mv_X5_of rfl rfl hd_X5_of ⟨Nat.le_of_ble_eq_true rfl, Nat.le_of_ble_eq_true rfl⟩) rfl hl rfl (Nat.le_of_ble_eq_true rfl) dX5_loggedOf_10) hS (fun H locs hR hS => ?_)
  refine lv_istore_n (lv' := [(3, .int r5), (2, .int r2), (0, .ref (B + o0)), (1, .int p1)]) hx hb dX5_loggedOf_13 rfl hl (by decide) rfl (fun ls hl => ?_)
  refine lv_aload_n hx hb dX5_loggedOf_14 rfl (lv_at hl 2 rfl) ?_
  refine lv_aload_n hx hb dX5_loggedOf_15 rfl (lv_at hl 2 rfl) ?_
  refine lv_iconst (v := (5 : Int32)) hx hb dX5_loggedOf_16 (by decide) ?_
  obtain ⟨z7, hf⟩ := lm_ck_e hf
  refine lm_ild C0 hR (isM_lt h0) (cell_M h0) z7 dX5_loggedOf_17 ?_
  obtain ⟨r9, u8, hf⟩ := lm_bd_e hf
  refine lm_endi (lm_runS C0 hR hS (c_X5_thickOf h0 u8) (lw_cS 2 hts uw_642 mv_X5_thickOf rfl rfl hd_X5_thickOf ⟨Nat.le_of_ble_eq_true rfl, Nat.le_of_ble_eq_true rfl⟩) rfl hl rfl (Nat.le_of_ble_eq_true rfl) dX5_loggedOf_18) hS (fun H locs hR hS => ?_)
  refine lv_istore (lv' := [(4, .int r9), (3, .int r5), (2, .int r2), (0, .ref (B + o0)), (1, .int p1)]) hx hb dX5_loggedOf_21 hl (by decide) rfl (fun ls hl => ?_)
  refine lv_iload_n hx hb dX5_loggedOf_23 rfl (lv_at hl 1 rfl) ?_
  refine lv_iconst (v := (5 : Int32)) hx hb dX5_loggedOf_24 (by decide) ?_
  refine lv_icmp_ne (tgt := 35) hx hb dX5_loggedOf_25 (by decide) (fun b11 => ?_) (fun b11 => ?_)
  · have hf := lm_F b11 hf
    refine lv_iload_n hx hb dX5_loggedOf_35 rfl (lv_at hl 2 rfl) ?_
    refine lv_if_ne (tgt := 46) hx hb dX5_loggedOf_36 (by decide) (fun b12 => ?_) (fun b12 => ?_)
    · have hf := lm_F b12 hf
      exact w_X5_loggedOf_46 h0 C0 _ _ _ _ _ hR hS (lv_sub hl [3, 2, 0] rfl) hf
    · have hf := lm_T b12 hf
      refine lv_iload_n hx hb dX5_loggedOf_39 rfl (lv_at hl 1 rfl) ?_
      refine lv_iconst (v := (4 : Int32)) hx hb dX5_loggedOf_40 (by decide) ?_
      refine lv_icmp_ge (tgt := 46) hx hb dX5_loggedOf_41 (by decide) (fun b13 => ?_) (fun b13 => ?_)
      · have hf := lm_T b13 hf
        exact w_X5_loggedOf_46 h0 C0 _ _ _ _ _ hR hS (lv_sub hl [3, 2, 0] rfl) hf
      · have hf := lm_F b13 hf
        refine lv_iconst (v := (3 : Int32)) hx hb dX5_loggedOf_44 (by decide) ?_
        exact lm_riP C0 hR hS hf dX5_loggedOf_45
  · have hf := lm_T b11 hf
    refine lv_iload_n hx hb dX5_loggedOf_28 rfl (lv_at hl 2 rfl) ?_
    refine lv_iconst (v := (2 : Int32)) hx hb dX5_loggedOf_29 (by decide) ?_
    refine lv_icmp_le (tgt := 35) hx hb dX5_loggedOf_30 (by decide) (fun b14 => ?_) (fun b14 => ?_)
    · have hf := lm_T b14 hf
      refine lv_iload_n hx hb dX5_loggedOf_35 rfl (lv_at hl 2 rfl) ?_
      refine lv_if_ne (tgt := 46) hx hb dX5_loggedOf_36 (by decide) (fun b15 => ?_) (fun b15 => ?_)
      · have hf := lm_F b15 hf
        exact w_X5_loggedOf_46 h0 C0 _ _ _ _ _ hR hS (lv_sub hl [3, 2, 0] rfl) hf
      · have hf := lm_T b15 hf
        refine lv_iload_n hx hb dX5_loggedOf_39 rfl (lv_at hl 1 rfl) ?_
        refine lv_iconst (v := (4 : Int32)) hx hb dX5_loggedOf_40 (by decide) ?_
        refine lv_icmp_ge (tgt := 46) hx hb dX5_loggedOf_41 (by decide) (fun b16 => ?_) (fun b16 => ?_)
        · have hf := lm_T b16 hf
          exact w_X5_loggedOf_46 h0 C0 _ _ _ _ _ hR hS (lv_sub hl [3, 2, 0] rfl) hf
        · have hf := lm_F b16 hf
          refine lv_iconst (v := (3 : Int32)) hx hb dX5_loggedOf_44 (by decide) ?_
          exact lm_riP C0 hR hS hf dX5_loggedOf_45
    · have hf := lm_F b14 hf
      refine lv_iconst (v := (0 : Int32)) hx hb dX5_loggedOf_33 (by decide) ?_
      exact lm_riP C0 hR hS hf dX5_loggedOf_34
end
/-! ===== X5_seenBy ===== -/
abbrev rmX5_seenBy : Room := { frames := 2, cells := 0, slots := 0, locals := 47 }
def f_X5_seenBy_4 (o0 : Nat) (τ : Mem) : Nat → Int32 → Int32 → Int32 → Option (Int32)
  | 0, _, _, _ => none
  | n + 1, x1, x2, x3 => lm_ck (lm_in (0 : Int32) 24) (if (τ o0 (0 : Int32).toNatClampNeg) ≤ x3 then (some x2) else (lm_bd (f_X5_loggedOf o0 τ x3) fun r4 => lm_bd (f_X5_has r4 x1) fun r7 => if r7 = 0 then (lm_nm (x2 ||| (0 : Int32)) fun v10 => lm_nm (x3 + (1 : Int32)) fun v11 => f_X5_seenBy_4 o0 τ n x1 v10 v11) else (lm_nm (x2 ||| ((1 : Int32) <<< (x3 &&& 31))) fun v12 => lm_nm (x3 + (1 : Int32)) fun v13 => f_X5_seenBy_4 o0 τ n x1 v12 v13)))
def f_X5_seenBy (o0 : Nat) (τ : Mem) (p1 : Int32) : Option (Int32) := f_X5_seenBy_4 o0 τ lm_fu p1 (0 : Int32) (0 : Int32)
abbrev wsX5_seenBy : List Cond := Cond.code yX5_seenBy cX5_seenBy 4 (some .int) :: lw_u
theorem mv_X5_seenBy : Cond.static yX5_seenBy ∈ lw_u ∧ Cond.initialized yX5_seenBy.cls ∈ lw_u ∧ Cond.code yX5_seenBy cX5_seenBy 4 (some .int) ∈ lw_u := ⟨uw_649, uw_6, uw_650⟩
theorem hd_X5_seenBy : yX5_seenBy.cls ≠ "java/lang/invoke/MethodHandle" ∧ yX5_seenBy.cls ≠ "java/lang/invoke/VarHandle" ∧ (parseMethodDescriptor yX5_seenBy.desc).map (fun d => d.parameters.length) = some 2 := by decide +kernel
section
variable {l : Launch} {D : va_G} {cI cZ cL cR : ClassId} {B : Nat}
set_option maxRecDepth 100000 in
set_option maxHeartbeats 4000000 in
theorem w_X5_seenBy_4 {o0 : Nat} (h0 : isM o0) {p : Program} {e : Env} {s : State} {m : MethodId} {args : Array Value} {below : List Frame} {meth : Method} {c0 : Code} {σ τ : Mem} {r : Int32} (C0 : lm_Cx D cI cZ cL cR B p s m args meth c0 cX5_seenBy 4 (some .int) RX5) : ∀ (n : Nat), ∀ (x1 : Int32) (x2 : Int32) (x3 : Int32) (H : Heap) (locs : List Loc) (ls : Array Slot), va_P D vwCl (wl cI cZ cL cR B σ τ) H → va_S (lm_A B) s.heap H locs → lv_has ls 4 [(0, .ref (B + o0)), (1, .int x1), (2, .int x2), (3, .int x3)] → f_X5_seenBy_4 o0 τ n x1 x2 x3 = some r → W p l e rmX5_seenBy s m args below meth c0 H locs 0 0 (MQ below (lm_QI D cI cZ cL cR B r σ τ) args s 0 0 (lm_A B)) (F0 m 4 ls []) := by
  obtain ⟨hx, hb, hml, hr, hlk, hown, hts, hK, hX⟩ := id C0
  intro n
  induction n with
  | zero =>
    intro x1 x2 x3 H locs ls hR hS hl hf
    cases hf
  | succ n ih =>
    intro x1 x2 x3 H locs ls hR hS hl hf
    rw [f_X5_seenBy_4] at hf
    refine lv_iload_n hx hb dX5_seenBy_4 rfl (lv_at hl 3 rfl) ?_
    refine lv_aload_n hx hb dX5_seenBy_5 rfl (lv_at hl 0 rfl) ?_
    refine lv_iconst (v := (0 : Int32)) hx hb dX5_seenBy_6 (by decide) ?_
    obtain ⟨z1, hf⟩ := lm_ck_e hf
    refine lm_ild C0 hR (isM_lt h0) (cell_M h0) z1 dX5_seenBy_7 ?_
    refine lv_icmp_ge (tgt := 39) hx hb dX5_seenBy_8 (by decide) (fun b2 => ?_) (fun b2 => ?_)
    · have hf := lm_T b2 hf
      refine lv_iload_n hx hb dX5_seenBy_39 rfl (lv_at hl 2 rfl) ?_
      exact lm_riP C0 hR hS hf dX5_seenBy_40
    · have hf := lm_F b2 hf
      refine lv_iload_n hx hb dX5_seenBy_11 rfl (lv_at hl 2 rfl) ?_
      refine lv_aload_n hx hb dX5_seenBy_12 rfl (lv_at hl 0 rfl) ?_
      refine lv_iload_n hx hb dX5_seenBy_13 rfl (lv_at hl 3 rfl) ?_
      obtain ⟨r4, u3, hf⟩ := lm_bd_e hf
      refine lm_endi (lm_runS C0 hR hS (c_X5_loggedOf h0 u3) (lw_cS 2 hts uw_651 mv_X5_loggedOf rfl rfl hd_X5_loggedOf ⟨Nat.le_of_ble_eq_true rfl, Nat.le_of_ble_eq_true rfl⟩) rfl hl rfl (Nat.le_of_ble_eq_true rfl) dX5_seenBy_14) hS (fun H locs hR hS => ?_)
      refine lv_iload_n hx hb dX5_seenBy_17 rfl (lv_at hl 1 rfl) ?_
      obtain ⟨r7, u6, hf⟩ := lm_bd_e hf
      refine lm_endi (lm_runS C0 hR hS (c_X5_has u6) (lw_cS 2 hts uw_654 mv_X5_has rfl rfl hd_X5_has ⟨Nat.le_of_ble_eq_true rfl, Nat.le_of_ble_eq_true rfl⟩) rfl hl rfl (Nat.le_of_ble_eq_true rfl) dX5_seenBy_18) hS (fun H locs hR hS => ?_)
      refine lv_if_eq (tgt := 30) hx hb dX5_seenBy_21 (by decide) (fun b9 => ?_) (fun b9 => ?_)
      · have hf := lm_T b9 hf
        refine lv_iconst (v := (0 : Int32)) hx hb dX5_seenBy_30 (by decide) ?_
        refine lv_ior hx hb dX5_seenBy_31 ?_
        obtain ⟨v10, ev10, hf⟩ := lm_nm_e hf
        refine lm_topi ev10 ?_
        refine lv_istore_n (lv' := [(2, .int v10), (0, .ref (B + o0)), (1, .int x1), (3, .int x3)]) hx hb dX5_seenBy_32 rfl hl (by decide) rfl (fun ls hl => ?_)
        obtain ⟨v11, ev11, hf⟩ := lm_nm_e hf
        refine lv_iinc (v := v11) (lv' := [(3, .int v11), (2, .int v10), (0, .ref (B + o0)), (1, .int x1)]) hx hb dX5_seenBy_33 hl (k := 3) rfl (by rw [ev11]; rfl) (by decide) rfl (fun ls hl => ?_)
        refine lv_goto (tgt := 4) hx hb dX5_seenBy_36 (by decide) ?_
        exact ih _ _ _ _ _ _ hR hS (lv_sub hl [2, 3, 1, 0] rfl) hf
      · have hf := lm_F b9 hf
        refine lv_iconst (v := (1 : Int32)) hx hb dX5_seenBy_24 (by decide) ?_
        refine lv_iload_n hx hb dX5_seenBy_25 rfl (lv_at hl 3 rfl) ?_
        refine lv_ishl hx hb dX5_seenBy_26 ?_
        refine lv_goto (tgt := 31) hx hb dX5_seenBy_27 (by decide) ?_
        refine lv_ior hx hb dX5_seenBy_31 ?_
        obtain ⟨v12, ev12, hf⟩ := lm_nm_e hf
        refine lm_topi ev12 ?_
        refine lv_istore_n (lv' := [(2, .int v12), (0, .ref (B + o0)), (1, .int x1), (3, .int x3)]) hx hb dX5_seenBy_32 rfl hl (by decide) rfl (fun ls hl => ?_)
        obtain ⟨v13, ev13, hf⟩ := lm_nm_e hf
        refine lv_iinc (v := v13) (lv' := [(3, .int v13), (2, .int v12), (0, .ref (B + o0)), (1, .int x1)]) hx hb dX5_seenBy_33 hl (k := 3) rfl (by rw [ev13]; rfl) (by decide) rfl (fun ls hl => ?_)
        refine lv_goto (tgt := 4) hx hb dX5_seenBy_36 (by decide) ?_
        exact ih _ _ _ _ _ _ hR hS (lv_sub hl [2, 3, 1, 0] rfl) hf
set_option maxRecDepth 100000 in
set_option maxHeartbeats 4000000 in
theorem c_X5_seenBy {o0 : Nat} (h0 : isM o0) {τ σ : Mem} {p1 : Int32} {r : Int32}  (hf : f_X5_seenBy o0 τ p1 = some r) : lm_CI l yX5_seenBy wsX5_seenBy rmX5_seenBy D cI cZ cL cR B [.ref (B + o0), .int p1] σ τ r σ τ := by
  unfold f_X5_seenBy at hf
  refine lm_of (cc := cX5_seenBy) (maxL := 4) (ret := (some .int)) (own := RX5) (by decide) rfl (Nat.le_of_ble_eq_true rfl) (fun p e s m below meth c0 C0 hR ls hl => ?_)
  have hS : va_S (lm_A B) s.heap s.heap [] := va_S.rf
  have hl : lv_has ls 4 [(0, .ref (B + o0)), (1, .int p1)] := hl
  obtain ⟨hx, hb, hml, hr, hlk, hown, hts, hK, hX⟩ := id C0
  refine lv_iconst (v := (0 : Int32)) hx hb dX5_seenBy_0 (by decide) ?_
  refine lv_istore_n (lv' := [(2, .int (0 : Int32)), (0, .ref (B + o0)), (1, .int p1)]) hx hb dX5_seenBy_1 rfl hl (by decide) rfl (fun ls hl => ?_)
  refine lv_iconst (v := (0 : Int32)) hx hb dX5_seenBy_2 (by decide) ?_
  refine lv_istore_n (lv' := [(3, .int (0 : Int32)), (2, .int (0 : Int32)), (0, .ref (B + o0)), (1, .int p1)]) hx hb dX5_seenBy_3 rfl hl (by decide) rfl (fun ls hl => ?_)
  exact w_X5_seenBy_4 h0 C0 _ _ _ _ _ _ _ hR hS (lv_sub hl [2, 3, 1, 0] rfl) hf
end
/-! ===== X5_differ ===== -/
abbrev rmX5_differ : Room := { frames := 3, cells := 0, slots := 0, locals := 70 }
def f_X5_differ (o0 : Nat) (τ : Mem) : Option (Int32) := lm_bd (f_X5_seenBy o0 τ (0 : Int32)) fun r2 => lm_bd (f_X5_seenBy o0 τ (1 : Int32)) fun r5 => some (r2 ^^^ r5)
abbrev wsX5_differ : List Cond := Cond.code yX5_differ cX5_differ 1 (some .int) :: lw_u
theorem mv_X5_differ : Cond.static yX5_differ ∈ lw_u ∧ Cond.initialized yX5_differ.cls ∈ lw_u ∧ Cond.code yX5_differ cX5_differ 1 (some .int) ∈ lw_u := ⟨uw_646, uw_6, uw_647⟩
theorem hd_X5_differ : yX5_differ.cls ≠ "java/lang/invoke/MethodHandle" ∧ yX5_differ.cls ≠ "java/lang/invoke/VarHandle" ∧ (parseMethodDescriptor yX5_differ.desc).map (fun d => d.parameters.length) = some 1 := by decide +kernel
section
variable {l : Launch} {D : va_G} {cI cZ cL cR : ClassId} {B : Nat}
set_option maxRecDepth 100000 in
set_option maxHeartbeats 4000000 in
theorem c_X5_differ {o0 : Nat} (h0 : isM o0) {τ σ : Mem} {r : Int32}  (hf : f_X5_differ o0 τ = some r) : lm_CI l yX5_differ wsX5_differ rmX5_differ D cI cZ cL cR B [.ref (B + o0)] σ τ r σ τ := by
  unfold f_X5_differ at hf
  refine lm_of (cc := cX5_differ) (maxL := 1) (ret := (some .int)) (own := RX5) (by decide) rfl (Nat.le_of_ble_eq_true rfl) (fun p e s m below meth c0 C0 hR ls hl => ?_)
  have hS : va_S (lm_A B) s.heap s.heap [] := va_S.rf
  have hl : lv_has ls 1 [(0, .ref (B + o0))] := hl
  obtain ⟨hx, hb, hml, hr, hlk, hown, hts, hK, hX⟩ := id C0
  refine lv_aload_n hx hb dX5_differ_0 rfl (lv_at hl 0 rfl) ?_
  refine lv_iconst (v := (0 : Int32)) hx hb dX5_differ_1 (by decide) ?_
  obtain ⟨r2, u1, hf⟩ := lm_bd_e hf
  refine lm_endi (lm_runS C0 hR hS (c_X5_seenBy h0 u1) (lw_cS 2 hts uw_648 mv_X5_seenBy rfl rfl hd_X5_seenBy ⟨Nat.le_of_ble_eq_true rfl, Nat.le_of_ble_eq_true rfl⟩) rfl hl rfl (Nat.le_of_ble_eq_true rfl) dX5_differ_2) hS (fun H locs hR hS => ?_)
  refine lv_aload_n hx hb dX5_differ_5 rfl (lv_at hl 0 rfl) ?_
  refine lv_iconst (v := (1 : Int32)) hx hb dX5_differ_6 (by decide) ?_
  obtain ⟨r5, u4, hf⟩ := lm_bd_e hf
  refine lm_endi (lm_runS C0 hR hS (c_X5_seenBy h0 u4) (lw_cS 2 hts uw_648 mv_X5_seenBy rfl rfl hd_X5_seenBy ⟨Nat.le_of_ble_eq_true rfl, Nat.le_of_ble_eq_true rfl⟩) rfl hl rfl (Nat.le_of_ble_eq_true rfl) dX5_differ_7) hS (fun H locs hR hS => ?_)
  refine lv_ixor hx hb dX5_differ_10 ?_
  exact lm_riP C0 hR hS hf dX5_differ_11
end
/-! ===== X5_nextCell ===== -/
abbrev rmX5_nextCell : Room := { frames := 1, cells := 0, slots := 0, locals := 22 }
def f_X5_nextCell_125 (o0 : Nat) (τ : Mem) (x4 : Int32) : Option (Int32) := if 0 ≤ x4 then (lm_ck (lm_in (2 : Int32) 24) (if x4 < (τ o0 (2 : Int32).toNatClampNeg) then (some x4) else (lm_ck (lm_in (2 : Int32) 24) (some ((τ o0 (2 : Int32).toNatClampNeg) - (1 : Int32)))))) else (some (0 : Int32))
def f_X5_nextCell_20 (o0 : Nat) (τ : Mem) (x1 : Int32) (x2 : Int32) (y0 : Int32) : Option (Int32) := lm_bd (f_X5_of o0 τ x1 (0 : Int32)) fun r7 => if r7 = (1 : Int32) then (lm_nm (x2 - (1 : Int32)) fun v10 => f_X5_nextCell_125 o0 τ v10) else (if r7 = (2 : Int32) then (if y0 = 0 then (f_X5_nextCell_125 o0 τ x2) else (lm_nm (x2 - (1 : Int32)) fun v13 => f_X5_nextCell_125 o0 τ v13)) else (if r7 = (3 : Int32) then (lm_nm (x2 - (2 : Int32)) fun v15 => f_X5_nextCell_125 o0 τ v15) else (if r7 = (4 : Int32) then (if y0 = 0 then (lm_nm (x2 - (1 : Int32)) fun v18 => f_X5_nextCell_125 o0 τ v18) else (lm_nm (x2 + (1 : Int32)) fun v19 => f_X5_nextCell_125 o0 τ v19)) else (if y0 = 0 then (lm_nm (x2 - (2 : Int32)) fun v21 => f_X5_nextCell_125 o0 τ v21) else (lm_nm (x2 + (2 : Int32)) fun v22 => f_X5_nextCell_125 o0 τ v22)))))
def f_X5_nextCell (o0 : Nat) (τ : Mem) (p1 : Int32) : Option (Int32) := lm_bd (f_X5_of o0 τ p1 (1 : Int32)) fun r2 => lm_ck (lm_in (5 : Int32) 24) (if ((τ o0 (5 : Int32).toNatClampNeg) - (τ o0 (5 : Int32).toNatClampNeg) / (2 : Int32) * (2 : Int32)) = 0 then (f_X5_nextCell_20 o0 τ p1 r2 (1 : Int32)) else (f_X5_nextCell_20 o0 τ p1 r2 (0 : Int32)))
abbrev wsX5_nextCell : List Cond := Cond.code yX5_nextCell cX5_nextCell 5 (some .int) :: lw_u
theorem mv_X5_nextCell : Cond.static yX5_nextCell ∈ lw_u ∧ Cond.initialized yX5_nextCell.cls ∈ lw_u ∧ Cond.code yX5_nextCell cX5_nextCell 5 (some .int) ∈ lw_u := ⟨uw_637, uw_6, uw_638⟩
theorem hd_X5_nextCell : yX5_nextCell.cls ≠ "java/lang/invoke/MethodHandle" ∧ yX5_nextCell.cls ≠ "java/lang/invoke/VarHandle" ∧ (parseMethodDescriptor yX5_nextCell.desc).map (fun d => d.parameters.length) = some 2 := by decide +kernel
section
variable {l : Launch} {D : va_G} {cI cZ cL cR : ClassId} {B : Nat}
set_option maxRecDepth 100000 in
set_option maxHeartbeats 4000000 in
theorem w_X5_nextCell_125 {o0 : Nat} (h0 : isM o0) {p : Program} {e : Env} {s : State} {m : MethodId} {args : Array Value} {below : List Frame} {meth : Method} {c0 : Code} {σ τ : Mem} {r : Int32} (C0 : lm_Cx D cI cZ cL cR B p s m args meth c0 cX5_nextCell 5 (some .int) RX5) : ∀ (x4 : Int32) (H : Heap) (locs : List Loc) (ls : Array Slot), va_P D vwCl (wl cI cZ cL cR B σ τ) H → va_S (lm_A B) s.heap H locs → lv_has ls 5 [(0, .ref (B + o0)), (4, .int x4)] → f_X5_nextCell_125 o0 τ x4 = some r → W p l e rmX5_nextCell s m args below meth c0 H locs 0 0 (MQ below (lm_QI D cI cZ cL cR B r σ τ) args s 0 0 (lm_A B)) (F0 m 125 ls []) := by
  obtain ⟨hx, hb, hml, hr, hlk, hown, hts, hK, hX⟩ := id C0
  intro x4 H locs ls hR hS hl hf
  unfold f_X5_nextCell_125 at hf
  refine lv_iload hx hb dX5_nextCell_125 (lv_at hl 1 rfl) ?_
  refine lv_if_ge (tgt := 134) hx hb dX5_nextCell_127 (by decide) (fun b23 => ?_) (fun b23 => ?_)
  · have hf := lm_T b23 hf
    refine lv_iload hx hb dX5_nextCell_134 (lv_at hl 1 rfl) ?_
    refine lv_aload_n hx hb dX5_nextCell_136 rfl (lv_at hl 0 rfl) ?_
    refine lv_iconst (v := (2 : Int32)) hx hb dX5_nextCell_137 (by decide) ?_
    obtain ⟨z24, hf⟩ := lm_ck_e hf
    refine lm_ild C0 hR (isM_lt h0) (cell_M h0) z24 dX5_nextCell_138 ?_
    refine lv_icmp_lt (tgt := 150) hx hb dX5_nextCell_139 (by decide) (fun b25 => ?_) (fun b25 => ?_)
    · have hf := lm_T b25 hf
      refine lv_iload hx hb dX5_nextCell_150 (lv_at hl 1 rfl) ?_
      exact lm_riP C0 hR hS hf dX5_nextCell_152
    · have hf := lm_F b25 hf
      refine lv_aload_n hx hb dX5_nextCell_142 rfl (lv_at hl 0 rfl) ?_
      refine lv_iconst (v := (2 : Int32)) hx hb dX5_nextCell_143 (by decide) ?_
      obtain ⟨z26, hf⟩ := lm_ck_e hf
      refine lm_ild C0 hR (isM_lt h0) (cell_M h0) z26 dX5_nextCell_144 ?_
      refine lv_iconst (v := (1 : Int32)) hx hb dX5_nextCell_145 (by decide) ?_
      refine lv_isub hx hb dX5_nextCell_146 ?_
      refine lv_goto (tgt := 152) hx hb dX5_nextCell_147 (by decide) ?_
      exact lm_riP C0 hR hS hf dX5_nextCell_152
  · have hf := lm_F b23 hf
    refine lv_iconst (v := (0 : Int32)) hx hb dX5_nextCell_130 (by decide) ?_
    refine lv_goto (tgt := 152) hx hb dX5_nextCell_131 (by decide) ?_
    exact lm_riP C0 hR hS hf dX5_nextCell_152
set_option maxRecDepth 100000 in
set_option maxHeartbeats 4000000 in
theorem w_X5_nextCell_20 {o0 : Nat} (h0 : isM o0) {p : Program} {e : Env} {s : State} {m : MethodId} {args : Array Value} {below : List Frame} {meth : Method} {c0 : Code} {σ τ : Mem} {r : Int32} (C0 : lm_Cx D cI cZ cL cR B p s m args meth c0 cX5_nextCell 5 (some .int) RX5) : ∀ (x1 : Int32) (x2 : Int32) (y0 : Int32) (H : Heap) (locs : List Loc) (ls : Array Slot), va_P D vwCl (wl cI cZ cL cR B σ τ) H → va_S (lm_A B) s.heap H locs → lv_has ls 5 [(0, .ref (B + o0)), (1, .int x1), (2, .int x2)] → f_X5_nextCell_20 o0 τ x1 x2 y0 = some r → W p l e rmX5_nextCell s m args below meth c0 H locs 0 0 (MQ below (lm_QI D cI cZ cL cR B r σ τ) args s 0 0 (lm_A B)) (F0 m 20 ls [.int y0]) := by
  obtain ⟨hx, hb, hml, hr, hlk, hown, hts, hK, hX⟩ := id C0
  intro x1 x2 y0 H locs ls hR hS hl hf
  unfold f_X5_nextCell_20 at hf
  refine lv_istore_n (lv' := [(3, .int y0), (0, .ref (B + o0)), (1, .int x1), (2, .int x2)]) hx hb dX5_nextCell_20 rfl hl (by decide) rfl (fun ls hl => ?_)
  refine lv_iload_n hx hb dX5_nextCell_21 rfl (lv_at hl 3 rfl) ?_
  refine lv_istore (lv' := [(4, .int x2), (3, .int y0), (0, .ref (B + o0)), (1, .int x1), (2, .int x2)]) hx hb dX5_nextCell_22 hl (by decide) rfl (fun ls hl => ?_)
  refine lv_aload_n hx hb dX5_nextCell_24 rfl (lv_at hl 2 rfl) ?_
  refine lv_iload_n hx hb dX5_nextCell_25 rfl (lv_at hl 3 rfl) ?_
  refine lv_iconst (v := (0 : Int32)) hx hb dX5_nextCell_26 (by decide) ?_
  obtain ⟨r7, u6, hf⟩ := lm_bd_e hf
  refine lm_endi (lm_runS C0 hR hS (c_X5_of h0 u6) (lw_cS 3 hts uw_639 mv_X5_of rfl rfl hd_X5_of ⟨Nat.le_of_ble_eq_true rfl, Nat.le_of_ble_eq_true rfl⟩) rfl hl rfl (Nat.le_of_ble_eq_true rfl) dX5_nextCell_27) hS (fun H locs hR hS => ?_)
  by_cases b9 : r7 = (1 : Int32)
  · have hf := lm_T b9 hf
    refine lv_tableIn (off := 30) (tgt := 60) hx hb dX5_nextCell_30 (by rw [b9]; decide) (by rw [b9]; decide) (by rw [b9]; decide) (by decide) ?_
    refine lv_iload_n hx hb dX5_nextCell_60 rfl (lv_at hl 4 rfl) ?_
    refine lv_iconst (v := (1 : Int32)) hx hb dX5_nextCell_61 (by decide) ?_
    refine lv_isub hx hb dX5_nextCell_62 ?_
    obtain ⟨v10, ev10, hf⟩ := lm_nm_e hf
    refine lm_topi ev10 ?_
    refine lv_istore (lv' := [(4, .int v10), (3, .int y0), (0, .ref (B + o0)), (1, .int x1), (2, .int x2)]) hx hb dX5_nextCell_63 hl (by decide) rfl (fun ls hl => ?_)
    refine lv_goto (tgt := 125) hx hb dX5_nextCell_65 (by decide) ?_
    exact w_X5_nextCell_125 h0 C0 _ _ _ _ hR hS (lv_sub hl [2, 0] rfl) hf
  have hf := lm_F b9 hf
  by_cases b11 : r7 = (2 : Int32)
  · have hf := lm_T b11 hf
    refine lv_tableIn (off := 38) (tgt := 68) hx hb dX5_nextCell_30 (by rw [b11]; decide) (by rw [b11]; decide) (by rw [b11]; decide) (by decide) ?_
    refine lv_iload_n hx hb dX5_nextCell_68 rfl (lv_at hl 1 rfl) ?_
    refine lv_if_eq (tgt := 78) hx hb dX5_nextCell_69 (by decide) (fun b12 => ?_) (fun b12 => ?_)
    · have hf := lm_T b12 hf
      refine lv_iload_n hx hb dX5_nextCell_78 rfl (lv_at hl 4 rfl) ?_
      refine lv_istore (lv' := [(4, .int x2), (3, .int y0), (0, .ref (B + o0)), (1, .int x1), (2, .int x2)]) hx hb dX5_nextCell_79 hl (by decide) rfl (fun ls hl => ?_)
      refine lv_goto (tgt := 125) hx hb dX5_nextCell_81 (by decide) ?_
      exact w_X5_nextCell_125 h0 C0 _ _ _ _ hR hS (lv_sub hl [2, 0] rfl) hf
    · have hf := lm_F b12 hf
      refine lv_iload_n hx hb dX5_nextCell_72 rfl (lv_at hl 4 rfl) ?_
      refine lv_iconst (v := (1 : Int32)) hx hb dX5_nextCell_73 (by decide) ?_
      refine lv_isub hx hb dX5_nextCell_74 ?_
      refine lv_goto (tgt := 79) hx hb dX5_nextCell_75 (by decide) ?_
      obtain ⟨v13, ev13, hf⟩ := lm_nm_e hf
      refine lm_topi ev13 ?_
      refine lv_istore (lv' := [(4, .int v13), (3, .int y0), (0, .ref (B + o0)), (1, .int x1), (2, .int x2)]) hx hb dX5_nextCell_79 hl (by decide) rfl (fun ls hl => ?_)
      refine lv_goto (tgt := 125) hx hb dX5_nextCell_81 (by decide) ?_
      exact w_X5_nextCell_125 h0 C0 _ _ _ _ hR hS (lv_sub hl [2, 0] rfl) hf
  have hf := lm_F b11 hf
  by_cases b14 : r7 = (3 : Int32)
  · have hf := lm_T b14 hf
    refine lv_tableIn (off := 54) (tgt := 84) hx hb dX5_nextCell_30 (by rw [b14]; decide) (by rw [b14]; decide) (by rw [b14]; decide) (by decide) ?_
    refine lv_iload_n hx hb dX5_nextCell_84 rfl (lv_at hl 4 rfl) ?_
    refine lv_iconst (v := (2 : Int32)) hx hb dX5_nextCell_85 (by decide) ?_
    refine lv_isub hx hb dX5_nextCell_86 ?_
    obtain ⟨v15, ev15, hf⟩ := lm_nm_e hf
    refine lm_topi ev15 ?_
    refine lv_istore (lv' := [(4, .int v15), (3, .int y0), (0, .ref (B + o0)), (1, .int x1), (2, .int x2)]) hx hb dX5_nextCell_87 hl (by decide) rfl (fun ls hl => ?_)
    refine lv_goto (tgt := 125) hx hb dX5_nextCell_89 (by decide) ?_
    exact w_X5_nextCell_125 h0 C0 _ _ _ _ hR hS (lv_sub hl [2, 0] rfl) hf
  have hf := lm_F b14 hf
  by_cases b16 : r7 = (4 : Int32)
  · have hf := lm_T b16 hf
    refine lv_tableIn (off := 62) (tgt := 92) hx hb dX5_nextCell_30 (by rw [b16]; decide) (by rw [b16]; decide) (by rw [b16]; decide) (by decide) ?_
    refine lv_iload_n hx hb dX5_nextCell_92 rfl (lv_at hl 1 rfl) ?_
    refine lv_if_eq (tgt := 102) hx hb dX5_nextCell_93 (by decide) (fun b17 => ?_) (fun b17 => ?_)
    · have hf := lm_T b17 hf
      refine lv_iload_n hx hb dX5_nextCell_102 rfl (lv_at hl 4 rfl) ?_
      refine lv_iconst (v := (1 : Int32)) hx hb dX5_nextCell_103 (by decide) ?_
      refine lv_isub hx hb dX5_nextCell_104 ?_
      obtain ⟨v18, ev18, hf⟩ := lm_nm_e hf
      refine lm_topi ev18 ?_
      refine lv_istore (lv' := [(4, .int v18), (3, .int y0), (0, .ref (B + o0)), (1, .int x1), (2, .int x2)]) hx hb dX5_nextCell_105 hl (by decide) rfl (fun ls hl => ?_)
      refine lv_goto (tgt := 125) hx hb dX5_nextCell_107 (by decide) ?_
      exact w_X5_nextCell_125 h0 C0 _ _ _ _ hR hS (lv_sub hl [2, 0] rfl) hf
    · have hf := lm_F b17 hf
      refine lv_iload_n hx hb dX5_nextCell_96 rfl (lv_at hl 4 rfl) ?_
      refine lv_iconst (v := (1 : Int32)) hx hb dX5_nextCell_97 (by decide) ?_
      refine lv_iadd hx hb dX5_nextCell_98 ?_
      refine lv_goto (tgt := 105) hx hb dX5_nextCell_99 (by decide) ?_
      obtain ⟨v19, ev19, hf⟩ := lm_nm_e hf
      refine lm_topi ev19 ?_
      refine lv_istore (lv' := [(4, .int v19), (3, .int y0), (0, .ref (B + o0)), (1, .int x1), (2, .int x2)]) hx hb dX5_nextCell_105 hl (by decide) rfl (fun ls hl => ?_)
      refine lv_goto (tgt := 125) hx hb dX5_nextCell_107 (by decide) ?_
      exact w_X5_nextCell_125 h0 C0 _ _ _ _ hR hS (lv_sub hl [2, 0] rfl) hf
  have hf := lm_F b16 hf
  refine lv_tableOut (tgt := 110) hx hb dX5_nextCell_30 (by have qb9 := lv_neT b9 (a := 1) (by decide); have qb11 := lv_neT b11 (a := 2) (by decide); have qb14 := lv_neT b14 (a := 3) (by decide); have qb16 := lv_neT b16 (a := 4) (by decide); omega) (by decide) ?_
  refine lv_iload_n hx hb dX5_nextCell_110 rfl (lv_at hl 1 rfl) ?_
  refine lv_if_eq (tgt := 120) hx hb dX5_nextCell_111 (by decide) (fun b20 => ?_) (fun b20 => ?_)
  · have hf := lm_T b20 hf
    refine lv_iload_n hx hb dX5_nextCell_120 rfl (lv_at hl 4 rfl) ?_
    refine lv_iconst (v := (2 : Int32)) hx hb dX5_nextCell_121 (by decide) ?_
    refine lv_isub hx hb dX5_nextCell_122 ?_
    obtain ⟨v21, ev21, hf⟩ := lm_nm_e hf
    refine lm_topi ev21 ?_
    refine lv_istore (lv' := [(4, .int v21), (3, .int y0), (0, .ref (B + o0)), (1, .int x1), (2, .int x2)]) hx hb dX5_nextCell_123 hl (by decide) rfl (fun ls hl => ?_)
    exact w_X5_nextCell_125 h0 C0 _ _ _ _ hR hS (lv_sub hl [2, 0] rfl) hf
  · have hf := lm_F b20 hf
    refine lv_iload_n hx hb dX5_nextCell_114 rfl (lv_at hl 4 rfl) ?_
    refine lv_iconst (v := (2 : Int32)) hx hb dX5_nextCell_115 (by decide) ?_
    refine lv_iadd hx hb dX5_nextCell_116 ?_
    refine lv_goto (tgt := 123) hx hb dX5_nextCell_117 (by decide) ?_
    obtain ⟨v22, ev22, hf⟩ := lm_nm_e hf
    refine lm_topi ev22 ?_
    refine lv_istore (lv' := [(4, .int v22), (3, .int y0), (0, .ref (B + o0)), (1, .int x1), (2, .int x2)]) hx hb dX5_nextCell_123 hl (by decide) rfl (fun ls hl => ?_)
    exact w_X5_nextCell_125 h0 C0 _ _ _ _ hR hS (lv_sub hl [2, 0] rfl) hf
set_option maxRecDepth 100000 in
set_option maxHeartbeats 4000000 in
theorem c_X5_nextCell {o0 : Nat} (h0 : isM o0) {τ σ : Mem} {p1 : Int32} {r : Int32}  (hf : f_X5_nextCell o0 τ p1 = some r) : lm_CI l yX5_nextCell wsX5_nextCell rmX5_nextCell D cI cZ cL cR B [.ref (B + o0), .int p1] σ τ r σ τ := by
  unfold f_X5_nextCell at hf
  refine lm_of (cc := cX5_nextCell) (maxL := 5) (ret := (some .int)) (own := RX5) (by decide) rfl (Nat.le_of_ble_eq_true rfl) (fun p e s m below meth c0 C0 hR ls hl => ?_)
  have hS : va_S (lm_A B) s.heap s.heap [] := va_S.rf
  have hl : lv_has ls 5 [(0, .ref (B + o0)), (1, .int p1)] := hl
  obtain ⟨hx, hb, hml, hr, hlk, hown, hts, hK, hX⟩ := id C0
  refine lv_aload_n hx hb dX5_nextCell_0 rfl (lv_at hl 0 rfl) ?_
  refine lv_iload_n hx hb dX5_nextCell_1 rfl (lv_at hl 1 rfl) ?_
  refine lv_iconst (v := (1 : Int32)) hx hb dX5_nextCell_2 (by decide) ?_
  obtain ⟨r2, u1, hf⟩ := lm_bd_e hf
  refine lm_endi (lm_runS C0 hR hS (c_X5_of h0 u1) (lw_cS 3 hts uw_639 mv_X5_of rfl rfl hd_X5_of ⟨Nat.le_of_ble_eq_true rfl, Nat.le_of_ble_eq_true rfl⟩) rfl hl rfl (Nat.le_of_ble_eq_true rfl) dX5_nextCell_3) hS (fun H locs hR hS => ?_)
  refine lv_istore_n (lv' := [(2, .int r2), (0, .ref (B + o0)), (1, .int p1)]) hx hb dX5_nextCell_6 rfl hl (by decide) rfl (fun ls hl => ?_)
  refine lv_aload_n hx hb dX5_nextCell_7 rfl (lv_at hl 1 rfl) ?_
  refine lv_iconst (v := (5 : Int32)) hx hb dX5_nextCell_8 (by decide) ?_
  obtain ⟨z4, hf⟩ := lm_ck_e hf
  refine lm_ild C0 hR (isM_lt h0) (cell_M h0) z4 dX5_nextCell_9 ?_
  refine lv_iconst (v := (2 : Int32)) hx hb dX5_nextCell_10 (by decide) ?_
  refine lv_irem hx hb dX5_nextCell_11 (by decide) ?_
  refine lv_if_ne (tgt := 19) hx hb dX5_nextCell_12 (by decide) (fun b5 => ?_) (fun b5 => ?_)
  · have hf := lm_F b5 hf
    refine lv_iconst (v := (0 : Int32)) hx hb dX5_nextCell_19 (by decide) ?_
    exact w_X5_nextCell_20 h0 C0 _ _ _ _ _ _ hR hS (lv_sub hl [1, 2, 0] rfl) hf
  · have hf := lm_T b5 hf
    refine lv_iconst (v := (1 : Int32)) hx hb dX5_nextCell_15 (by decide) ?_
    refine lv_goto (tgt := 20) hx hb dX5_nextCell_16 (by decide) ?_
    exact w_X5_nextCell_20 h0 C0 _ _ _ _ _ _ hR hS (lv_sub hl [1, 2, 0] rfl) hf
end
/-! ===== X5_watchOf ===== -/
abbrev rmX5_watchOf : Room := { frames := 2, cells := 0, slots := 0, locals := 46 }
def f_X5_watchOf_46 (o0 : Nat) (y0 : Int32) (τ : Mem) : Option (Mem) := lm_ck (lm_in (4 : Int32) 24) (if (τ o0 (4 : Int32).toNatClampNeg) ≤ y0 then (lm_ck (lm_in (4 : Int32) 24) (lm_nm (up τ o0 (4 : Int32).toNatClampNeg (0 : Int32)) fun τ17 => lm_ck (lm_in (5 : Int32) 24) (lm_ck (lm_in (5 : Int32) 24) (lm_nm (up τ17 o0 (5 : Int32).toNatClampNeg ((τ17 o0 (5 : Int32).toNatClampNeg) + (1 : Int32))) fun τ20 => some τ20)))) else (lm_ck (lm_in (4 : Int32) 24) (lm_ck (lm_in (4 : Int32) 24) (lm_nm (up τ o0 (4 : Int32).toNatClampNeg ((τ o0 (4 : Int32).toNatClampNeg) - y0)) fun τ23 => lm_ck (lm_in (5 : Int32) 24) (lm_ck (lm_in (5 : Int32) 24) (lm_nm (up τ23 o0 (5 : Int32).toNatClampNeg ((τ23 o0 (5 : Int32).toNatClampNeg) + (1 : Int32))) fun τ26 => some τ26))))))
def f_X5_watchOf_2 (o0 : Nat) : Nat → Int32 → Mem → Option (Mem)
  | 0, _, _ => none
  | n + 1, x1, τ => lm_ck (lm_in (0 : Int32) 24) (if (τ o0 (0 : Int32).toNatClampNeg) ≤ x1 then (lm_ck (lm_in (5 : Int32) 24) (lm_bd (f_X5_thickOf o0 τ (τ o0 (5 : Int32).toNatClampNeg)) fun r5 => if r5 < (5 : Int32) then (f_X5_watchOf_46 o0 (1 : Int32) τ) else (f_X5_watchOf_46 o0 (2 : Int32) τ))) else (lm_bd (f_X5_nextCell o0 τ x1) fun r9 => lm_ck (lm_in (((12 : Int32) + ((2 : Int32) * x1)) + (1 : Int32)) 24) (lm_nm (up τ o0 (((12 : Int32) + ((2 : Int32) * x1)) + (1 : Int32)).toNatClampNeg r9) fun τ12 => lm_nm (x1 + (1 : Int32)) fun v13 => f_X5_watchOf_2 o0 n v13 τ12)))
def f_X5_watchOf (o0 : Nat) (τ : Mem) : Option (Mem) := f_X5_watchOf_2 o0 lm_fu (0 : Int32) τ
abbrev wsX5_watchOf : List Cond := Cond.code yX5_watchOf cX5_watchOf 2 none :: lw_u
theorem mv_X5_watchOf : Cond.static yX5_watchOf ∈ lw_u ∧ Cond.initialized yX5_watchOf.cls ∈ lw_u ∧ Cond.code yX5_watchOf cX5_watchOf 2 none ∈ lw_u := ⟨uw_634, uw_6, uw_635⟩
theorem hd_X5_watchOf : yX5_watchOf.cls ≠ "java/lang/invoke/MethodHandle" ∧ yX5_watchOf.cls ≠ "java/lang/invoke/VarHandle" ∧ (parseMethodDescriptor yX5_watchOf.desc).map (fun d => d.parameters.length) = some 1 := by decide +kernel
section
variable {l : Launch} {D : va_G} {cI cZ cL cR : ClassId} {B : Nat}
set_option maxRecDepth 100000 in
set_option maxHeartbeats 4000000 in
theorem w_X5_watchOf_46 {o0 : Nat} (h0 : isM o0) {p : Program} {e : Env} {s : State} {m : MethodId} {args : Array Value} {below : List Frame} {meth : Method} {c0 : Code} {σ τ' : Mem} (C0 : lm_Cx D cI cZ cL cR B p s m args meth c0 cX5_watchOf 2 none RX5) : ∀ (y0 : Int32) (τ : Mem) (H : Heap) (locs : List Loc) (ls : Array Slot), va_P D vwCl (wl cI cZ cL cR B σ τ) H → va_S (lm_A B) s.heap H locs → lv_has ls 2 [(0, .ref (B + o0))] → f_X5_watchOf_46 o0 y0 τ = some τ' → W p l e rmX5_watchOf s m args below meth c0 H locs 0 0 (MQ below (lm_QV D cI cZ cL cR B σ τ') args s 0 0 (lm_A B)) (F0 m 46 ls [.int y0]) := by
  obtain ⟨hx, hb, hml, hr, hlk, hown, hts, hK, hX⟩ := id C0
  intro y0 τ H locs ls hR hS hl hf
  unfold f_X5_watchOf_46 at hf
  refine lv_istore_n (lv' := [(1, .int y0), (0, .ref (B + o0))]) hx hb dX5_watchOf_46 rfl hl (by decide) rfl (fun ls hl => ?_)
  refine lv_aload_n hx hb dX5_watchOf_47 rfl (lv_at hl 1 rfl) ?_
  refine lv_iconst (v := (4 : Int32)) hx hb dX5_watchOf_48 (by decide) ?_
  refine lv_aload_n hx hb dX5_watchOf_49 rfl (lv_at hl 1 rfl) ?_
  refine lv_iconst (v := (4 : Int32)) hx hb dX5_watchOf_50 (by decide) ?_
  obtain ⟨z14, hf⟩ := lm_ck_e hf
  refine lm_ild C0 hR (isM_lt h0) (cell_M h0) z14 dX5_watchOf_51 ?_
  refine lv_iload_n hx hb dX5_watchOf_52 rfl (lv_at hl 0 rfl) ?_
  refine lv_icmp_le (tgt := 64) hx hb dX5_watchOf_53 (by decide) (fun b15 => ?_) (fun b15 => ?_)
  · have hf := lm_T b15 hf
    refine lv_iconst (v := (0 : Int32)) hx hb dX5_watchOf_64 (by decide) ?_
    obtain ⟨z16, hf⟩ := lm_ck_e hf
    obtain ⟨τ17, eτ17, hf⟩ := lm_nm_e hf
    refine lm_istM C0 hR hS (isM_lt h0) (cell_M h0) z16  eτ17 (cell_Mu h0) dX5_watchOf_65 (fun H locs hR hS => ?_)
    refine lv_aload_n hx hb dX5_watchOf_66 rfl (lv_at hl 1 rfl) ?_
    refine lv_iconst (v := (5 : Int32)) hx hb dX5_watchOf_67 (by decide) ?_
    refine lv_dup2_11 hx hb dX5_watchOf_68 rfl rfl ?_
    obtain ⟨z18, hf⟩ := lm_ck_e hf
    refine lm_ild C0 hR (isM_lt h0) (cell_M h0) z18 dX5_watchOf_69 ?_
    refine lv_iconst (v := (1 : Int32)) hx hb dX5_watchOf_70 (by decide) ?_
    refine lv_iadd hx hb dX5_watchOf_71 ?_
    obtain ⟨z19, hf⟩ := lm_ck_e hf
    obtain ⟨τ20, eτ20, hf⟩ := lm_nm_e hf
    refine lm_istM C0 hR hS (isM_lt h0) (cell_M h0) z19  eτ20 (cell_Mu h0) dX5_watchOf_72 (fun H locs hR hS => ?_)
    exact lm_rvM C0 hR hS hf dX5_watchOf_73
  · have hf := lm_F b15 hf
    refine lv_aload_n hx hb dX5_watchOf_56 rfl (lv_at hl 1 rfl) ?_
    refine lv_iconst (v := (4 : Int32)) hx hb dX5_watchOf_57 (by decide) ?_
    obtain ⟨z21, hf⟩ := lm_ck_e hf
    refine lm_ild C0 hR (isM_lt h0) (cell_M h0) z21 dX5_watchOf_58 ?_
    refine lv_iload_n hx hb dX5_watchOf_59 rfl (lv_at hl 0 rfl) ?_
    refine lv_isub hx hb dX5_watchOf_60 ?_
    refine lv_goto (tgt := 65) hx hb dX5_watchOf_61 (by decide) ?_
    obtain ⟨z22, hf⟩ := lm_ck_e hf
    obtain ⟨τ23, eτ23, hf⟩ := lm_nm_e hf
    refine lm_istM C0 hR hS (isM_lt h0) (cell_M h0) z22  eτ23 (cell_Mu h0) dX5_watchOf_65 (fun H locs hR hS => ?_)
    refine lv_aload_n hx hb dX5_watchOf_66 rfl (lv_at hl 1 rfl) ?_
    refine lv_iconst (v := (5 : Int32)) hx hb dX5_watchOf_67 (by decide) ?_
    refine lv_dup2_11 hx hb dX5_watchOf_68 rfl rfl ?_
    obtain ⟨z24, hf⟩ := lm_ck_e hf
    refine lm_ild C0 hR (isM_lt h0) (cell_M h0) z24 dX5_watchOf_69 ?_
    refine lv_iconst (v := (1 : Int32)) hx hb dX5_watchOf_70 (by decide) ?_
    refine lv_iadd hx hb dX5_watchOf_71 ?_
    obtain ⟨z25, hf⟩ := lm_ck_e hf
    obtain ⟨τ26, eτ26, hf⟩ := lm_nm_e hf
    refine lm_istM C0 hR hS (isM_lt h0) (cell_M h0) z25  eτ26 (cell_Mu h0) dX5_watchOf_72 (fun H locs hR hS => ?_)
    exact lm_rvM C0 hR hS hf dX5_watchOf_73
set_option maxRecDepth 100000 in
set_option maxHeartbeats 4000000 in
theorem w_X5_watchOf_2 {o0 : Nat} (h0 : isM o0) {p : Program} {e : Env} {s : State} {m : MethodId} {args : Array Value} {below : List Frame} {meth : Method} {c0 : Code} {σ τ' : Mem} (C0 : lm_Cx D cI cZ cL cR B p s m args meth c0 cX5_watchOf 2 none RX5) : ∀ (n : Nat), ∀ (x1 : Int32) (τ : Mem) (H : Heap) (locs : List Loc) (ls : Array Slot), va_P D vwCl (wl cI cZ cL cR B σ τ) H → va_S (lm_A B) s.heap H locs → lv_has ls 2 [(0, .ref (B + o0)), (1, .int x1)] → f_X5_watchOf_2 o0 n x1 τ = some τ' → W p l e rmX5_watchOf s m args below meth c0 H locs 0 0 (MQ below (lm_QV D cI cZ cL cR B σ τ') args s 0 0 (lm_A B)) (F0 m 2 ls []) := by
  obtain ⟨hx, hb, hml, hr, hlk, hown, hts, hK, hX⟩ := id C0
  intro n
  induction n with
  | zero =>
    intro x1 τ H locs ls hR hS hl hf
    cases hf
  | succ n ih =>
    intro x1 τ H locs ls hR hS hl hf
    rw [f_X5_watchOf_2] at hf
    refine lv_iload_n hx hb dX5_watchOf_2 rfl (lv_at hl 1 rfl) ?_
    refine lv_aload_n hx hb dX5_watchOf_3 rfl (lv_at hl 0 rfl) ?_
    refine lv_iconst (v := (0 : Int32)) hx hb dX5_watchOf_4 (by decide) ?_
    obtain ⟨z1, hf⟩ := lm_ck_e hf
    refine lm_ild C0 hR (isM_lt h0) (cell_M h0) z1 dX5_watchOf_5 ?_
    refine lv_icmp_ge (tgt := 30) hx hb dX5_watchOf_6 (by decide) (fun b2 => ?_) (fun b2 => ?_)
    · have hf := lm_T b2 hf
      refine lv_aload_n hx hb dX5_watchOf_30 rfl (lv_at hl 0 rfl) ?_
      refine lv_aload_n hx hb dX5_watchOf_31 rfl (lv_at hl 0 rfl) ?_
      refine lv_iconst (v := (5 : Int32)) hx hb dX5_watchOf_32 (by decide) ?_
      obtain ⟨z3, hf⟩ := lm_ck_e hf
      refine lm_ild C0 hR (isM_lt h0) (cell_M h0) z3 dX5_watchOf_33 ?_
      obtain ⟨r5, u4, hf⟩ := lm_bd_e hf
      refine lm_endi (lm_runS C0 hR hS (c_X5_thickOf h0 u4) (lw_cS 2 hts uw_642 mv_X5_thickOf rfl rfl hd_X5_thickOf ⟨Nat.le_of_ble_eq_true rfl, Nat.le_of_ble_eq_true rfl⟩) rfl hl rfl (Nat.le_of_ble_eq_true rfl) dX5_watchOf_34) hS (fun H locs hR hS => ?_)
      refine lv_iconst (v := (5 : Int32)) hx hb dX5_watchOf_37 (by decide) ?_
      refine lv_icmp_lt (tgt := 45) hx hb dX5_watchOf_38 (by decide) (fun b7 => ?_) (fun b7 => ?_)
      · have hf := lm_T b7 hf
        refine lv_iconst (v := (1 : Int32)) hx hb dX5_watchOf_45 (by decide) ?_
        exact w_X5_watchOf_46 h0 C0 _ _ _ _ _ hR hS (lv_sub hl [0] rfl) hf
      · have hf := lm_F b7 hf
        refine lv_iconst (v := (2 : Int32)) hx hb dX5_watchOf_41 (by decide) ?_
        refine lv_goto (tgt := 46) hx hb dX5_watchOf_42 (by decide) ?_
        exact w_X5_watchOf_46 h0 C0 _ _ _ _ _ hR hS (lv_sub hl [0] rfl) hf
    · have hf := lm_F b2 hf
      refine lv_aload_n hx hb dX5_watchOf_9 rfl (lv_at hl 0 rfl) ?_
      refine lv_bipush (v := (12 : Int32)) hx hb dX5_watchOf_10 (by decide) ?_
      refine lv_iconst (v := (2 : Int32)) hx hb dX5_watchOf_12 (by decide) ?_
      refine lv_iload_n hx hb dX5_watchOf_13 rfl (lv_at hl 1 rfl) ?_
      refine lv_imul hx hb dX5_watchOf_14 ?_
      refine lv_iadd hx hb dX5_watchOf_15 ?_
      refine lv_iconst (v := (1 : Int32)) hx hb dX5_watchOf_16 (by decide) ?_
      refine lv_iadd hx hb dX5_watchOf_17 ?_
      refine lv_aload_n hx hb dX5_watchOf_18 rfl (lv_at hl 0 rfl) ?_
      refine lv_iload_n hx hb dX5_watchOf_19 rfl (lv_at hl 1 rfl) ?_
      obtain ⟨r9, u8, hf⟩ := lm_bd_e hf
      refine lm_endi (lm_runS C0 hR hS (c_X5_nextCell h0 u8) (lw_cS 2 hts uw_636 mv_X5_nextCell rfl rfl hd_X5_nextCell ⟨Nat.le_of_ble_eq_true rfl, Nat.le_of_ble_eq_true rfl⟩) rfl hl rfl (Nat.le_of_ble_eq_true rfl) dX5_watchOf_20) hS (fun H locs hR hS => ?_)
      obtain ⟨z11, hf⟩ := lm_ck_e hf
      obtain ⟨τ12, eτ12, hf⟩ := lm_nm_e hf
      refine lm_istM C0 hR hS (isM_lt h0) (cell_M h0) z11  eτ12 (cell_Mu h0) dX5_watchOf_23 (fun H locs hR hS => ?_)
      obtain ⟨v13, ev13, hf⟩ := lm_nm_e hf
      refine lv_iinc (v := v13) (lv' := [(1, .int v13), (0, .ref (B + o0))]) hx hb dX5_watchOf_24 hl (k := 1) rfl (by rw [ev13]; rfl) (by decide) rfl (fun ls hl => ?_)
      refine lv_goto (tgt := 2) hx hb dX5_watchOf_27 (by decide) ?_
      exact ih _ _ _ _ _ hR hS (lv_sub hl [1, 0] rfl) hf
set_option maxRecDepth 100000 in
set_option maxHeartbeats 4000000 in
theorem c_X5_watchOf {o0 : Nat} (h0 : isM o0) {τ σ τ' : Mem}  (hf : f_X5_watchOf o0 τ = some τ') : lm_CV l yX5_watchOf wsX5_watchOf rmX5_watchOf D cI cZ cL cR B [.ref (B + o0)] σ τ σ τ' := by
  unfold f_X5_watchOf at hf
  refine lm_of (cc := cX5_watchOf) (maxL := 2) (ret := none) (own := RX5) (by decide) rfl (Nat.le_of_ble_eq_true rfl) (fun p e s m below meth c0 C0 hR ls hl => ?_)
  have hS : va_S (lm_A B) s.heap s.heap [] := va_S.rf
  have hl : lv_has ls 2 [(0, .ref (B + o0))] := hl
  obtain ⟨hx, hb, hml, hr, hlk, hown, hts, hK, hX⟩ := id C0
  refine lv_iconst (v := (0 : Int32)) hx hb dX5_watchOf_0 (by decide) ?_
  refine lv_istore_n (lv' := [(1, .int (0 : Int32)), (0, .ref (B + o0))]) hx hb dX5_watchOf_1 rfl hl (by decide) rfl (fun ls hl => ?_)
  exact w_X5_watchOf_2 h0 C0 _ _ _ _ _ _ hR hS (lv_sub hl [1, 0] rfl) hf
end
/-! ===== X5_watchesOf ===== -/
abbrev rmX5_watchesOf : Room := { frames := 3, cells := 0, slots := 0, locals := 67 }
def f_X5_watchesOf_2 (o0 : Nat) : Nat → Int32 → Int32 → Mem → Option (Mem)
  | 0, _, _, _ => none
  | n + 1, x1, x2, τ => if x1 ≤ x2 then (some τ) else (lm_bd (f_X5_watchOf o0 τ) fun τ4 => lm_nm (x2 + (1 : Int32)) fun v5 => f_X5_watchesOf_2 o0 n x1 v5 τ4)
def f_X5_watchesOf (o0 : Nat) (τ : Mem) (p1 : Int32) : Option (Mem) := f_X5_watchesOf_2 o0 lm_fu p1 (0 : Int32) τ
abbrev wsX5_watchesOf : List Cond := Cond.code yX5_watchesOf cX5_watchesOf 3 none :: lw_u
theorem mv_X5_watchesOf : Cond.static yX5_watchesOf ∈ lw_u ∧ Cond.initialized yX5_watchesOf.cls ∈ lw_u ∧ Cond.code yX5_watchesOf cX5_watchesOf 3 none ∈ lw_u := ⟨uw_712, uw_6, uw_713⟩
theorem hd_X5_watchesOf : yX5_watchesOf.cls ≠ "java/lang/invoke/MethodHandle" ∧ yX5_watchesOf.cls ≠ "java/lang/invoke/VarHandle" ∧ (parseMethodDescriptor yX5_watchesOf.desc).map (fun d => d.parameters.length) = some 2 := by decide +kernel
section
variable {l : Launch} {D : va_G} {cI cZ cL cR : ClassId} {B : Nat}
set_option maxRecDepth 100000 in
set_option maxHeartbeats 4000000 in
theorem w_X5_watchesOf_2 {o0 : Nat} (h0 : isM o0) {p : Program} {e : Env} {s : State} {m : MethodId} {args : Array Value} {below : List Frame} {meth : Method} {c0 : Code} {σ τ' : Mem} (C0 : lm_Cx D cI cZ cL cR B p s m args meth c0 cX5_watchesOf 3 none RX5) : ∀ (n : Nat), ∀ (x1 : Int32) (x2 : Int32) (τ : Mem) (H : Heap) (locs : List Loc) (ls : Array Slot), va_P D vwCl (wl cI cZ cL cR B σ τ) H → va_S (lm_A B) s.heap H locs → lv_has ls 3 [(0, .ref (B + o0)), (1, .int x1), (2, .int x2)] → f_X5_watchesOf_2 o0 n x1 x2 τ = some τ' → W p l e rmX5_watchesOf s m args below meth c0 H locs 0 0 (MQ below (lm_QV D cI cZ cL cR B σ τ') args s 0 0 (lm_A B)) (F0 m 2 ls []) := by
  obtain ⟨hx, hb, hml, hr, hlk, hown, hts, hK, hX⟩ := id C0
  intro n
  induction n with
  | zero =>
    intro x1 x2 τ H locs ls hR hS hl hf
    cases hf
  | succ n ih =>
    intro x1 x2 τ H locs ls hR hS hl hf
    rw [f_X5_watchesOf_2] at hf
    refine lv_iload_n hx hb dX5_watchesOf_2 rfl (lv_at hl 2 rfl) ?_
    refine lv_iload_n hx hb dX5_watchesOf_3 rfl (lv_at hl 1 rfl) ?_
    refine lv_icmp_ge (tgt := 17) hx hb dX5_watchesOf_4 (by decide) (fun b1 => ?_) (fun b1 => ?_)
    · have hf := lm_T b1 hf
      exact lm_rvM C0 hR hS hf dX5_watchesOf_17
    · have hf := lm_F b1 hf
      refine lv_aload_n hx hb dX5_watchesOf_7 rfl (lv_at hl 0 rfl) ?_
      obtain ⟨τ4, u2, hf⟩ := lm_bd_e hf
      refine lm_endv (lm_runS C0 hR hS (c_X5_watchOf h0 u2) (lw_cS 1 hts uw_633 mv_X5_watchOf rfl rfl hd_X5_watchOf ⟨Nat.le_of_ble_eq_true rfl, Nat.le_of_ble_eq_true rfl⟩) rfl hl rfl (Nat.le_of_ble_eq_true rfl) dX5_watchesOf_8) hS (fun H locs hR hS => ?_)
      obtain ⟨v5, ev5, hf⟩ := lm_nm_e hf
      refine lv_iinc (v := v5) (lv' := [(2, .int v5), (0, .ref (B + o0)), (1, .int x1)]) hx hb dX5_watchesOf_11 hl (k := 2) rfl (by rw [ev5]; rfl) (by decide) rfl (fun ls hl => ?_)
      refine lv_goto (tgt := 2) hx hb dX5_watchesOf_14 (by decide) ?_
      exact ih _ _ _ _ _ _ hR hS (lv_sub hl [1, 2, 0] rfl) hf
set_option maxRecDepth 100000 in
set_option maxHeartbeats 4000000 in
theorem c_X5_watchesOf {o0 : Nat} (h0 : isM o0) {τ σ τ' : Mem} {p1 : Int32}  (hf : f_X5_watchesOf o0 τ p1 = some τ') : lm_CV l yX5_watchesOf wsX5_watchesOf rmX5_watchesOf D cI cZ cL cR B [.ref (B + o0), .int p1] σ τ σ τ' := by
  unfold f_X5_watchesOf at hf
  refine lm_of (cc := cX5_watchesOf) (maxL := 3) (ret := none) (own := RX5) (by decide) rfl (Nat.le_of_ble_eq_true rfl) (fun p e s m below meth c0 C0 hR ls hl => ?_)
  have hS : va_S (lm_A B) s.heap s.heap [] := va_S.rf
  have hl : lv_has ls 3 [(0, .ref (B + o0)), (1, .int p1)] := hl
  obtain ⟨hx, hb, hml, hr, hlk, hown, hts, hK, hX⟩ := id C0
  refine lv_iconst (v := (0 : Int32)) hx hb dX5_watchesOf_0 (by decide) ?_
  refine lv_istore_n (lv' := [(2, .int (0 : Int32)), (0, .ref (B + o0)), (1, .int p1)]) hx hb dX5_watchesOf_1 rfl hl (by decide) rfl (fun ls hl => ?_)
  exact w_X5_watchesOf_2 h0 C0 _ _ _ _ _ _ _ hR hS (lv_sub hl [1, 2, 0] rfl) hf
end
/-! ===== X5_pourInto ===== -/
abbrev rmX5_pourInto : Room := { frames := 0, cells := 0, slots := 0, locals := 0 }
def f_X5_pourInto (o0 : Nat) (τ : Mem) (p1 : Int32) : Option (Mem) := lm_ck (lm_in (4 : Int32) 24) (if ((τ o0 (4 : Int32).toNatClampNeg) + p1) ≤ (60 : Int32) then (lm_ck (lm_in (4 : Int32) 24) (lm_ck (lm_in (4 : Int32) 24) (lm_nm (up τ o0 (4 : Int32).toNatClampNeg ((τ o0 (4 : Int32).toNatClampNeg) + p1)) fun τ5 => some τ5))) else (lm_ck (lm_in (4 : Int32) 24) (lm_nm (up τ o0 (4 : Int32).toNatClampNeg (60 : Int32)) fun τ7 => some τ7)))
abbrev wsX5_pourInto : List Cond := Cond.code yX5_pourInto cX5_pourInto 2 none :: lw_u
theorem mv_X5_pourInto : Cond.static yX5_pourInto ∈ lw_u ∧ Cond.initialized yX5_pourInto.cls ∈ lw_u ∧ Cond.code yX5_pourInto cX5_pourInto 2 none ∈ lw_u := ⟨uw_663, uw_6, uw_664⟩
theorem hd_X5_pourInto : yX5_pourInto.cls ≠ "java/lang/invoke/MethodHandle" ∧ yX5_pourInto.cls ≠ "java/lang/invoke/VarHandle" ∧ (parseMethodDescriptor yX5_pourInto.desc).map (fun d => d.parameters.length) = some 2 := by decide +kernel
section
variable {l : Launch} {D : va_G} {cI cZ cL cR : ClassId} {B : Nat}
set_option maxRecDepth 100000 in
set_option maxHeartbeats 4000000 in
theorem c_X5_pourInto {o0 : Nat} (h0 : isM o0) {τ σ τ' : Mem} {p1 : Int32}  (hf : f_X5_pourInto o0 τ p1 = some τ') : lm_CV l yX5_pourInto wsX5_pourInto rmX5_pourInto D cI cZ cL cR B [.ref (B + o0), .int p1] σ τ σ τ' := by
  unfold f_X5_pourInto at hf
  refine lm_of (cc := cX5_pourInto) (maxL := 2) (ret := none) (own := RX5) (by decide) rfl (Nat.le_of_ble_eq_true rfl) (fun p e s m below meth c0 C0 hR ls hl => ?_)
  have hS : va_S (lm_A B) s.heap s.heap [] := va_S.rf
  have hl : lv_has ls 2 [(0, .ref (B + o0)), (1, .int p1)] := hl
  obtain ⟨hx, hb, hml, hr, hlk, hown, hts, hK, hX⟩ := id C0
  refine lv_aload_n hx hb dX5_pourInto_0 rfl (lv_at hl 0 rfl) ?_
  refine lv_iconst (v := (4 : Int32)) hx hb dX5_pourInto_1 (by decide) ?_
  refine lv_aload_n hx hb dX5_pourInto_2 rfl (lv_at hl 0 rfl) ?_
  refine lv_iconst (v := (4 : Int32)) hx hb dX5_pourInto_3 (by decide) ?_
  obtain ⟨z1, hf⟩ := lm_ck_e hf
  refine lm_ild C0 hR (isM_lt h0) (cell_M h0) z1 dX5_pourInto_4 ?_
  refine lv_iload_n hx hb dX5_pourInto_5 rfl (lv_at hl 1 rfl) ?_
  refine lv_iadd hx hb dX5_pourInto_6 ?_
  refine lv_bipush (v := (60 : Int32)) hx hb dX5_pourInto_7 (by decide) ?_
  refine lv_icmp_le (tgt := 17) hx hb dX5_pourInto_9 (by decide) (fun b2 => ?_) (fun b2 => ?_)
  · have hf := lm_T b2 hf
    refine lv_aload_n hx hb dX5_pourInto_17 rfl (lv_at hl 0 rfl) ?_
    refine lv_iconst (v := (4 : Int32)) hx hb dX5_pourInto_18 (by decide) ?_
    obtain ⟨z3, hf⟩ := lm_ck_e hf
    refine lm_ild C0 hR (isM_lt h0) (cell_M h0) z3 dX5_pourInto_19 ?_
    refine lv_iload_n hx hb dX5_pourInto_20 rfl (lv_at hl 1 rfl) ?_
    refine lv_iadd hx hb dX5_pourInto_21 ?_
    obtain ⟨z4, hf⟩ := lm_ck_e hf
    obtain ⟨τ5, eτ5, hf⟩ := lm_nm_e hf
    refine lm_istM C0 hR hS (isM_lt h0) (cell_M h0) z4  eτ5 (cell_Mu h0) dX5_pourInto_22 (fun H locs hR hS => ?_)
    exact lm_rvM C0 hR hS hf dX5_pourInto_23
  · have hf := lm_F b2 hf
    refine lv_bipush (v := (60 : Int32)) hx hb dX5_pourInto_12 (by decide) ?_
    refine lv_goto (tgt := 22) hx hb dX5_pourInto_14 (by decide) ?_
    obtain ⟨z6, hf⟩ := lm_ck_e hf
    obtain ⟨τ7, eτ7, hf⟩ := lm_nm_e hf
    refine lm_istM C0 hR hS (isM_lt h0) (cell_M h0) z6  eτ7 (cell_Mu h0) dX5_pourInto_22 (fun H locs hR hS => ?_)
    exact lm_rvM C0 hR hS hf dX5_pourInto_23
end
/-! ===== X5_layThen ===== -/
abbrev rmX5_layThen : Room := { frames := 0, cells := 0, slots := 0, locals := 0 }
def f_X5_layThen_2 : Nat → Int32 → Mem → Option (Mem)
  | 0, _, _ => none
  | n + 1, x1, τ => if (24 : Int32) ≤ x1 then (some τ) else (lm_ck (lm_in x1 24) (lm_ck (lm_in x1 24) (lm_nm (up τ 146 x1.toNatClampNeg (τ 144 x1.toNatClampNeg)) fun τ4 => lm_nm (x1 + (1 : Int32)) fun v5 => f_X5_layThen_2 n v5 τ4)))
def f_X5_layThen (τ : Mem) : Option (Mem) := f_X5_layThen_2 lm_fu (0 : Int32) τ
abbrev wsX5_layThen : List Cond := Cond.code yX5_layThen cX5_layThen 2 none :: lw_u
theorem mv_X5_layThen : Cond.instanceMethod yX5_layThen ∈ lw_u ∧ Cond.selects yX5_layThen.cls yX5_layThen yX5_layThen ∈ lw_u ∧ Cond.initialized yX5_layThen.cls ∈ lw_u ∧ Cond.code yX5_layThen cX5_layThen 2 none ∈ lw_u := ⟨uw_709, uw_888, uw_6, uw_710⟩
theorem hd_X5_layThen : yX5_layThen.cls ≠ "java/lang/invoke/MethodHandle" ∧ yX5_layThen.cls ≠ "java/lang/invoke/VarHandle" ∧ (parseMethodDescriptor yX5_layThen.desc).map (fun d => d.parameters.length) = some 0 := by decide +kernel
section
variable {l : Launch} {D : va_G} {cI cZ cL cR : ClassId} {B : Nat}
set_option maxRecDepth 100000 in
set_option maxHeartbeats 4000000 in
theorem w_X5_layThen_2 {p : Program} {e : Env} {s : State} {m : MethodId} {args : Array Value} {below : List Frame} {meth : Method} {c0 : Code} {σ τ' : Mem} (C0 : lm_Cx D cI cZ cL cR B p s m args meth c0 cX5_layThen 2 none RX5) : ∀ (n : Nat), ∀ (x1 : Int32) (τ : Mem) (H : Heap) (locs : List Loc) (ls : Array Slot), va_P D vwCl (wl cI cZ cL cR B σ τ) H → va_S (lm_A B) s.heap H locs → lv_has ls 2 [(0, .ref (B + 140)), (1, .int x1)] → f_X5_layThen_2 n x1 τ = some τ' → W p l e rmX5_layThen s m args below meth c0 H locs 0 0 (MQ below (lm_QV D cI cZ cL cR B σ τ') args s 0 0 (lm_A B)) (F0 m 2 ls []) := by
  obtain ⟨hx, hb, hml, hr, hlk, hown, hts, hK, hX⟩ := id C0
  intro n
  induction n with
  | zero =>
    intro x1 τ H locs ls hR hS hl hf
    cases hf
  | succ n ih =>
    intro x1 τ H locs ls hR hS hl hf
    rw [f_X5_layThen_2] at hf
    refine lv_iload_n hx hb dX5_layThen_2 rfl (lv_at hl 1 rfl) ?_
    refine lv_bipush (v := (24 : Int32)) hx hb dX5_layThen_3 (by decide) ?_
    refine lv_icmp_ge (tgt := 26) hx hb dX5_layThen_5 (by decide) (fun b1 => ?_) (fun b1 => ?_)
    · have hf := lm_T b1 hf
      exact lm_rvM C0 hR hS hf dX5_layThen_26
    · have hf := lm_F b1 hf
      refine lv_aload_n hx hb dX5_layThen_8 rfl (lv_at hl 0 rfl) ?_
      refine lm_get C0 hR (by decide) cell_140 rfl lw_in_X5 7 (by decide) uw_515 rfl rfl dX5_layThen_9 ?_
      refine lv_iload_n hx hb dX5_layThen_12 rfl (lv_at hl 1 rfl) ?_
      refine lv_aload_n hx hb dX5_layThen_13 rfl (lv_at hl 0 rfl) ?_
      refine lm_get C0 hR (by decide) cell_140 rfl lw_in_X5 5 (by decide) uw_513 rfl rfl dX5_layThen_14 ?_
      refine lv_iload_n hx hb dX5_layThen_17 rfl (lv_at hl 1 rfl) ?_
      obtain ⟨z2, hf⟩ := lm_ck_e hf
      refine lm_ild C0 hR (by decide) cell_144 z2 dX5_layThen_18 ?_
      obtain ⟨z3, hf⟩ := lm_ck_e hf
      obtain ⟨τ4, eτ4, hf⟩ := lm_nm_e hf
      refine lm_istM C0 hR hS (by decide) cell_146 z3  eτ4 cell_146u dX5_layThen_19 (fun H locs hR hS => ?_)
      obtain ⟨v5, ev5, hf⟩ := lm_nm_e hf
      refine lv_iinc (v := v5) (lv' := [(1, .int v5), (0, .ref (B + 140))]) hx hb dX5_layThen_20 hl (k := 1) rfl (by rw [ev5]; rfl) (by decide) rfl (fun ls hl => ?_)
      refine lv_goto (tgt := 2) hx hb dX5_layThen_23 (by decide) ?_
      exact ih _ _ _ _ _ hR hS (lv_sub hl [1, 0] rfl) hf
set_option maxRecDepth 100000 in
set_option maxHeartbeats 4000000 in
theorem c_X5_layThen {τ σ τ' : Mem}  (hf : f_X5_layThen τ = some τ') : lm_CV l yX5_layThen wsX5_layThen rmX5_layThen D cI cZ cL cR B [.ref (B + 140)] σ τ σ τ' := by
  unfold f_X5_layThen at hf
  refine lm_of (cc := cX5_layThen) (maxL := 2) (ret := none) (own := RX5) (by decide) rfl (Nat.le_of_ble_eq_true rfl) (fun p e s m below meth c0 C0 hR ls hl => ?_)
  have hS : va_S (lm_A B) s.heap s.heap [] := va_S.rf
  have hl : lv_has ls 2 [(0, .ref (B + 140))] := hl
  obtain ⟨hx, hb, hml, hr, hlk, hown, hts, hK, hX⟩ := id C0
  refine lv_iconst (v := (0 : Int32)) hx hb dX5_layThen_0 (by decide) ?_
  refine lv_istore_n (lv' := [(1, .int (0 : Int32)), (0, .ref (B + 140))]) hx hb dX5_layThen_1 rfl hl (by decide) rfl (fun ls hl => ?_)
  exact w_X5_layThen_2 C0 _ _ _ _ _ _ hR hS (lv_sub hl [1, 0] rfl) hf
end
/-! ===== X5_keep ===== -/
abbrev rmX5_keep : Room := { frames := 0, cells := 0, slots := 0, locals := 0 }
def f_X5_keep_51 : Nat → Int32 → Mem → Option (Mem)
  | 0, _, _ => none
  | n + 1, x1, τ => if (24 : Int32) ≤ x1 then (lm_nm (up τ 140 9 ((τ 140 9) + (1 : Int32))) fun τ3 => some τ3) else (lm_ck (lm_in x1 24) (lm_ck (lm_in (((24 : Int32) * (τ 140 9)) + x1) 576) (lm_nm (up τ 147 (((24 : Int32) * (τ 140 9)) + x1).toNatClampNeg (τ 144 x1.toNatClampNeg)) fun τ6 => lm_nm (x1 + (1 : Int32)) fun v7 => f_X5_keep_51 n v7 τ6)))
def f_X5_keep_11 : Nat → Int32 → Mem → Option (Mem)
  | 0, _, _ => none
  | n + 1, x1, τ => if (552 : Int32) ≤ x1 then (lm_nm (up τ 140 9 ((τ 140 9) - (1 : Int32))) fun τ9 => f_X5_keep_51 lm_fu (0 : Int32) τ9) else (lm_ck (lm_in (x1 + (24 : Int32)) 576) (lm_ck (lm_in x1 576) (lm_nm (up τ 147 x1.toNatClampNeg (τ 147 (x1 + (24 : Int32)).toNatClampNeg)) fun τ12 => lm_nm (x1 + (1 : Int32)) fun v13 => f_X5_keep_11 n v13 τ12)))
def f_X5_keep (τ : Mem) : Option (Mem) := if (τ 140 9) = (24 : Int32) then (f_X5_keep_11 lm_fu (0 : Int32) τ) else (f_X5_keep_51 lm_fu (0 : Int32) τ)
abbrev wsX5_keep : List Cond := Cond.code yX5_keep cX5_keep 2 none :: lw_u
theorem mv_X5_keep : Cond.instanceMethod yX5_keep ∈ lw_u ∧ Cond.selects yX5_keep.cls yX5_keep yX5_keep ∈ lw_u ∧ Cond.initialized yX5_keep.cls ∈ lw_u ∧ Cond.code yX5_keep cX5_keep 2 none ∈ lw_u := ⟨uw_631, uw_884, uw_6, uw_632⟩
theorem hd_X5_keep : yX5_keep.cls ≠ "java/lang/invoke/MethodHandle" ∧ yX5_keep.cls ≠ "java/lang/invoke/VarHandle" ∧ (parseMethodDescriptor yX5_keep.desc).map (fun d => d.parameters.length) = some 0 := by decide +kernel
section
variable {l : Launch} {D : va_G} {cI cZ cL cR : ClassId} {B : Nat}
set_option maxRecDepth 100000 in
set_option maxHeartbeats 4000000 in
theorem w_X5_keep_51 {p : Program} {e : Env} {s : State} {m : MethodId} {args : Array Value} {below : List Frame} {meth : Method} {c0 : Code} {σ τ' : Mem} (C0 : lm_Cx D cI cZ cL cR B p s m args meth c0 cX5_keep 2 none RX5) : ∀ (n : Nat), ∀ (x1 : Int32) (τ : Mem) (H : Heap) (locs : List Loc) (ls : Array Slot), va_P D vwCl (wl cI cZ cL cR B σ τ) H → va_S (lm_A B) s.heap H locs → lv_has ls 2 [(0, .ref (B + 140)), (1, .int x1)] → f_X5_keep_51 n x1 τ = some τ' → W p l e rmX5_keep s m args below meth c0 H locs 0 0 (MQ below (lm_QV D cI cZ cL cR B σ τ') args s 0 0 (lm_A B)) (F0 m 51 ls []) := by
  obtain ⟨hx, hb, hml, hr, hlk, hown, hts, hK, hX⟩ := id C0
  intro n
  induction n with
  | zero =>
    intro x1 τ H locs ls hR hS hl hf
    cases hf
  | succ n ih =>
    intro x1 τ H locs ls hR hS hl hf
    rw [f_X5_keep_51] at hf
    refine lv_iload_n hx hb dX5_keep_51 rfl (lv_at hl 1 rfl) ?_
    refine lv_bipush (v := (24 : Int32)) hx hb dX5_keep_52 (by decide) ?_
    refine lv_icmp_ge (tgt := 83) hx hb dX5_keep_54 (by decide) (fun b2 => ?_) (fun b2 => ?_)
    · have hf := lm_T b2 hf
      refine lv_aload_n hx hb dX5_keep_83 rfl (lv_at hl 0 rfl) ?_
      refine lv_dup hx hb dX5_keep_84 rfl ?_
      refine lm_get C0 hR (by decide) cell_140 rfl lw_in_X5 9 (by decide) uw_517 rfl rfl dX5_keep_85 ?_
      refine lv_iconst (v := (1 : Int32)) hx hb dX5_keep_88 (by decide) ?_
      refine lv_iadd hx hb dX5_keep_89 ?_
      obtain ⟨τ3, eτ3, hf⟩ := lm_nm_e hf
      refine lm_putM C0 hR hS (by decide) cell_140 rfl lw_in_X5 tyX5 tyX5_ok nmX5 9 (by decide) uw_517 rfl rfl rfl rfl rfl (Nat.le_of_ble_eq_true rfl) eτ3 cell_140u dX5_keep_90 (fun H locs hR hS => ?_)
      exact lm_rvM C0 hR hS hf dX5_keep_93
    · have hf := lm_F b2 hf
      refine lv_aload_n hx hb dX5_keep_57 rfl (lv_at hl 0 rfl) ?_
      refine lm_get C0 hR (by decide) cell_140 rfl lw_in_X5 8 (by decide) uw_516 rfl rfl dX5_keep_58 ?_
      refine lv_bipush (v := (24 : Int32)) hx hb dX5_keep_61 (by decide) ?_
      refine lv_aload_n hx hb dX5_keep_63 rfl (lv_at hl 0 rfl) ?_
      refine lm_get C0 hR (by decide) cell_140 rfl lw_in_X5 9 (by decide) uw_517 rfl rfl dX5_keep_64 ?_
      refine lv_imul hx hb dX5_keep_67 ?_
      refine lv_iload_n hx hb dX5_keep_68 rfl (lv_at hl 1 rfl) ?_
      refine lv_iadd hx hb dX5_keep_69 ?_
      refine lv_aload_n hx hb dX5_keep_70 rfl (lv_at hl 0 rfl) ?_
      refine lm_get C0 hR (by decide) cell_140 rfl lw_in_X5 5 (by decide) uw_513 rfl rfl dX5_keep_71 ?_
      refine lv_iload_n hx hb dX5_keep_74 rfl (lv_at hl 1 rfl) ?_
      obtain ⟨z4, hf⟩ := lm_ck_e hf
      refine lm_ild C0 hR (by decide) cell_144 z4 dX5_keep_75 ?_
      obtain ⟨z5, hf⟩ := lm_ck_e hf
      obtain ⟨τ6, eτ6, hf⟩ := lm_nm_e hf
      refine lm_istM C0 hR hS (by decide) cell_147 z5  eτ6 cell_147u dX5_keep_76 (fun H locs hR hS => ?_)
      obtain ⟨v7, ev7, hf⟩ := lm_nm_e hf
      refine lv_iinc (v := v7) (lv' := [(1, .int v7), (0, .ref (B + 140))]) hx hb dX5_keep_77 hl (k := 1) rfl (by rw [ev7]; rfl) (by decide) rfl (fun ls hl => ?_)
      refine lv_goto (tgt := 51) hx hb dX5_keep_80 (by decide) ?_
      exact ih _ _ _ _ _ hR hS (lv_sub hl [1, 0] rfl) hf
set_option maxRecDepth 100000 in
set_option maxHeartbeats 4000000 in
theorem w_X5_keep_11 {p : Program} {e : Env} {s : State} {m : MethodId} {args : Array Value} {below : List Frame} {meth : Method} {c0 : Code} {σ τ' : Mem} (C0 : lm_Cx D cI cZ cL cR B p s m args meth c0 cX5_keep 2 none RX5) : ∀ (n : Nat), ∀ (x1 : Int32) (τ : Mem) (H : Heap) (locs : List Loc) (ls : Array Slot), va_P D vwCl (wl cI cZ cL cR B σ τ) H → va_S (lm_A B) s.heap H locs → lv_has ls 2 [(0, .ref (B + 140)), (1, .int x1)] → f_X5_keep_11 n x1 τ = some τ' → W p l e rmX5_keep s m args below meth c0 H locs 0 0 (MQ below (lm_QV D cI cZ cL cR B σ τ') args s 0 0 (lm_A B)) (F0 m 11 ls []) := by
  obtain ⟨hx, hb, hml, hr, hlk, hown, hts, hK, hX⟩ := id C0
  intro n
  induction n with
  | zero =>
    intro x1 τ H locs ls hR hS hl hf
    cases hf
  | succ n ih =>
    intro x1 τ H locs ls hR hS hl hf
    rw [f_X5_keep_11] at hf
    refine lv_iload_n hx hb dX5_keep_11 rfl (lv_at hl 1 rfl) ?_
    refine lv_sipush (v := (552 : Int32)) hx hb dX5_keep_12 (by decide) ?_
    refine lv_icmp_ge (tgt := 39) hx hb dX5_keep_15 (by decide) (fun b8 => ?_) (fun b8 => ?_)
    · have hf := lm_T b8 hf
      refine lv_aload_n hx hb dX5_keep_39 rfl (lv_at hl 0 rfl) ?_
      refine lv_dup hx hb dX5_keep_40 rfl ?_
      refine lm_get C0 hR (by decide) cell_140 rfl lw_in_X5 9 (by decide) uw_517 rfl rfl dX5_keep_41 ?_
      refine lv_iconst (v := (1 : Int32)) hx hb dX5_keep_44 (by decide) ?_
      refine lv_isub hx hb dX5_keep_45 ?_
      obtain ⟨τ9, eτ9, hf⟩ := lm_nm_e hf
      refine lm_putM C0 hR hS (by decide) cell_140 rfl lw_in_X5 tyX5 tyX5_ok nmX5 9 (by decide) uw_517 rfl rfl rfl rfl rfl (Nat.le_of_ble_eq_true rfl) eτ9 cell_140u dX5_keep_46 (fun H locs hR hS => ?_)
      refine lv_iconst (v := (0 : Int32)) hx hb dX5_keep_49 (by decide) ?_
      refine lv_istore_n (lv' := [(1, .int (0 : Int32)), (0, .ref (B + 140))]) hx hb dX5_keep_50 rfl hl (by decide) rfl (fun ls hl => ?_)
      exact w_X5_keep_51 C0 _ _ _ _ _ _ hR hS (lv_sub hl [1, 0] rfl) hf
    · have hf := lm_F b8 hf
      refine lv_aload_n hx hb dX5_keep_18 rfl (lv_at hl 0 rfl) ?_
      refine lm_get C0 hR (by decide) cell_140 rfl lw_in_X5 8 (by decide) uw_516 rfl rfl dX5_keep_19 ?_
      refine lv_iload_n hx hb dX5_keep_22 rfl (lv_at hl 1 rfl) ?_
      refine lv_aload_n hx hb dX5_keep_23 rfl (lv_at hl 0 rfl) ?_
      refine lm_get C0 hR (by decide) cell_140 rfl lw_in_X5 8 (by decide) uw_516 rfl rfl dX5_keep_24 ?_
      refine lv_iload_n hx hb dX5_keep_27 rfl (lv_at hl 1 rfl) ?_
      refine lv_bipush (v := (24 : Int32)) hx hb dX5_keep_28 (by decide) ?_
      refine lv_iadd hx hb dX5_keep_30 ?_
      obtain ⟨z10, hf⟩ := lm_ck_e hf
      refine lm_ild C0 hR (by decide) cell_147 z10 dX5_keep_31 ?_
      obtain ⟨z11, hf⟩ := lm_ck_e hf
      obtain ⟨τ12, eτ12, hf⟩ := lm_nm_e hf
      refine lm_istM C0 hR hS (by decide) cell_147 z11  eτ12 cell_147u dX5_keep_32 (fun H locs hR hS => ?_)
      obtain ⟨v13, ev13, hf⟩ := lm_nm_e hf
      refine lv_iinc (v := v13) (lv' := [(1, .int v13), (0, .ref (B + 140))]) hx hb dX5_keep_33 hl (k := 1) rfl (by rw [ev13]; rfl) (by decide) rfl (fun ls hl => ?_)
      refine lv_goto (tgt := 11) hx hb dX5_keep_36 (by decide) ?_
      exact ih _ _ _ _ _ hR hS (lv_sub hl [1, 0] rfl) hf
set_option maxRecDepth 100000 in
set_option maxHeartbeats 4000000 in
theorem c_X5_keep {τ σ τ' : Mem}  (hf : f_X5_keep τ = some τ') : lm_CV l yX5_keep wsX5_keep rmX5_keep D cI cZ cL cR B [.ref (B + 140)] σ τ σ τ' := by
  unfold f_X5_keep at hf
  refine lm_of (cc := cX5_keep) (maxL := 2) (ret := none) (own := RX5) (by decide) rfl (Nat.le_of_ble_eq_true rfl) (fun p e s m below meth c0 C0 hR ls hl => ?_)
  have hS : va_S (lm_A B) s.heap s.heap [] := va_S.rf
  have hl : lv_has ls 2 [(0, .ref (B + 140))] := hl
  obtain ⟨hx, hb, hml, hr, hlk, hown, hts, hK, hX⟩ := id C0
  refine lv_aload_n hx hb dX5_keep_0 rfl (lv_at hl 0 rfl) ?_
  refine lm_get C0 hR (by decide) cell_140 rfl lw_in_X5 9 (by decide) uw_517 rfl rfl dX5_keep_1 ?_
  refine lv_bipush (v := (24 : Int32)) hx hb dX5_keep_4 (by decide) ?_
  refine lv_icmp_ne (tgt := 49) hx hb dX5_keep_6 (by decide) (fun b1 => ?_) (fun b1 => ?_)
  · have hf := lm_F b1 hf
    refine lv_iconst (v := (0 : Int32)) hx hb dX5_keep_49 (by decide) ?_
    refine lv_istore_n (lv' := [(1, .int (0 : Int32)), (0, .ref (B + 140))]) hx hb dX5_keep_50 rfl hl (by decide) rfl (fun ls hl => ?_)
    exact w_X5_keep_51 C0 _ _ _ _ _ _ hR hS (lv_sub hl [1, 0] rfl) hf
  · have hf := lm_T b1 hf
    refine lv_iconst (v := (0 : Int32)) hx hb dX5_keep_9 (by decide) ?_
    refine lv_istore_n (lv' := [(1, .int (0 : Int32)), (0, .ref (B + 140))]) hx hb dX5_keep_10 rfl hl (by decide) rfl (fun ls hl => ?_)
    exact w_X5_keep_11 C0 _ _ _ _ _ _ hR hS (lv_sub hl [1, 0] rfl) hf
end
/-! ===== X5_watches ===== -/
abbrev rmX5_watches : Room := { frames := 4, cells := 0, slots := 0, locals := 90 }
def f_X5_watches_49 : Nat → Int32 → Int32 → Mem → Option (Int32 × Mem)
  | 0, _, _, _ => none
  | n + 1, x1, x2, τ => if x1 ≤ x2 then (lm_bd (f_X5_differ 144 τ) fun r14 => some (r14, τ)) else (lm_bd (f_X5_keep τ) fun τ18 => lm_bd (f_X5_watchOf 144 τ18) fun τ21 => lm_nm (x2 + (1 : Int32)) fun v22 => f_X5_watches_49 n x1 v22 τ21)
def f_X5_watches (τ : Mem) (p1 : Int32) : Option (Int32 × Mem) := lm_nm (up τ 140 0 (0 : Int32)) fun τ1 => lm_bd (f_X5_isThere τ1) fun r3 => if r3 = 0 then (some ((-1000002 : Int32), τ1)) else (lm_bd (f_X5_in p1.toInt64 (1 : Int64) (24 : Int64)) fun r7 => if r7 = 0 then (some ((-1000001 : Int32), τ1)) else (lm_ck (lm_in (5 : Int32) 24) (if ((τ1 144 (5 : Int32).toNatClampNeg) + p1) ≤ (999 : Int32) then (f_X5_watches_49 lm_fu p1 (0 : Int32) τ1) else (some ((-1000003 : Int32), τ1)))))
abbrev wsX5_watches : List Cond := Cond.code yX5_watches cX5_watches 3 (some .int) :: lw_u
theorem mv_X5_watches : Cond.instanceMethod yX5_watches ∈ lw_u ∧ Cond.selects yX5_watches.cls yX5_watches yX5_watches ∈ lw_u ∧ Cond.initialized yX5_watches.cls ∈ lw_u ∧ Cond.code yX5_watches cX5_watches 3 (some .int) ∈ lw_u := ⟨uw_622, uw_623, uw_6, uw_624⟩
theorem hd_X5_watches : yX5_watches.cls ≠ "java/lang/invoke/MethodHandle" ∧ yX5_watches.cls ≠ "java/lang/invoke/VarHandle" ∧ (parseMethodDescriptor yX5_watches.desc).map (fun d => d.parameters.length) = some 1 := by decide +kernel
section
variable {l : Launch} {D : va_G} {cI cZ cL cR : ClassId} {B : Nat}
set_option maxRecDepth 100000 in
set_option maxHeartbeats 4000000 in
theorem w_X5_watches_49 {p : Program} {e : Env} {s : State} {m : MethodId} {args : Array Value} {below : List Frame} {meth : Method} {c0 : Code} {σ τ' : Mem} {r : Int32} (C0 : lm_Cx D cI cZ cL cR B p s m args meth c0 cX5_watches 3 (some .int) RX5) : ∀ (n : Nat), ∀ (x1 : Int32) (x2 : Int32) (τ : Mem) (H : Heap) (locs : List Loc) (ls : Array Slot), va_P D vwCl (wl cI cZ cL cR B σ τ) H → va_S (lm_A B) s.heap H locs → lv_has ls 3 [(0, .ref (B + 140)), (1, .int x1), (2, .int x2)] → f_X5_watches_49 n x1 x2 τ = some (r, τ') → W p l e rmX5_watches s m args below meth c0 H locs 0 0 (MQ below (lm_QI D cI cZ cL cR B r σ τ') args s 0 0 (lm_A B)) (F0 m 49 ls []) := by
  obtain ⟨hx, hb, hml, hr, hlk, hown, hts, hK, hX⟩ := id C0
  intro n
  induction n with
  | zero =>
    intro x1 x2 τ H locs ls hR hS hl hf
    cases hf
  | succ n ih =>
    intro x1 x2 τ H locs ls hR hS hl hf
    rw [f_X5_watches_49] at hf
    refine lv_iload_n hx hb dX5_watches_49 rfl (lv_at hl 2 rfl) ?_
    refine lv_iload_n hx hb dX5_watches_50 rfl (lv_at hl 1 rfl) ?_
    refine lv_icmp_ge (tgt := 71) hx hb dX5_watches_51 (by decide) (fun b12 => ?_) (fun b12 => ?_)
    · have hf := lm_T b12 hf
      refine lv_aload_n hx hb dX5_watches_71 rfl (lv_at hl 0 rfl) ?_
      refine lm_get C0 hR (by decide) cell_140 rfl lw_in_X5 5 (by decide) uw_513 rfl rfl dX5_watches_72 ?_
      obtain ⟨r14, u13, hf⟩ := lm_bd_e hf
      refine lm_endi (lm_runS C0 hR hS (c_X5_differ isM_144 u13) (lw_cS 1 hts uw_645 mv_X5_differ rfl rfl hd_X5_differ ⟨Nat.le_of_ble_eq_true rfl, Nat.le_of_ble_eq_true rfl⟩) rfl hl rfl (Nat.le_of_ble_eq_true rfl) dX5_watches_75) hS (fun H locs hR hS => ?_)
      exact lm_riM C0 hR hS hf dX5_watches_78
    · have hf := lm_F b12 hf
      refine lv_aload_n hx hb dX5_watches_54 rfl (lv_at hl 0 rfl) ?_
      obtain ⟨τ18, u16, hf⟩ := lm_bd_e hf
      refine lm_endv (lm_runV C0 hR hS (c_X5_keep u16) (lw_cV 0 hts uw_630 mv_X5_keep rfl rfl hd_X5_keep ⟨Nat.le_of_ble_eq_true rfl, Nat.le_of_ble_eq_true rfl⟩) (by decide) cell_140 rfl rfl hl rfl (Nat.le_of_ble_eq_true rfl) dX5_watches_55) hS (fun H locs hR hS => ?_)
      refine lv_aload_n hx hb dX5_watches_58 rfl (lv_at hl 0 rfl) ?_
      refine lm_get C0 hR (by decide) cell_140 rfl lw_in_X5 5 (by decide) uw_513 rfl rfl dX5_watches_59 ?_
      obtain ⟨τ21, u19, hf⟩ := lm_bd_e hf
      refine lm_endv (lm_runS C0 hR hS (c_X5_watchOf isM_144 u19) (lw_cS 1 hts uw_633 mv_X5_watchOf rfl rfl hd_X5_watchOf ⟨Nat.le_of_ble_eq_true rfl, Nat.le_of_ble_eq_true rfl⟩) rfl hl rfl (Nat.le_of_ble_eq_true rfl) dX5_watches_62) hS (fun H locs hR hS => ?_)
      obtain ⟨v22, ev22, hf⟩ := lm_nm_e hf
      refine lv_iinc (v := v22) (lv' := [(2, .int v22), (0, .ref (B + 140)), (1, .int x1)]) hx hb dX5_watches_65 hl (k := 2) rfl (by rw [ev22]; rfl) (by decide) rfl (fun ls hl => ?_)
      refine lv_goto (tgt := 49) hx hb dX5_watches_68 (by decide) ?_
      exact ih _ _ _ _ _ _ hR hS (lv_sub hl [1, 2, 0] rfl) hf
set_option maxRecDepth 100000 in
set_option maxHeartbeats 4000000 in
theorem c_X5_watches {τ σ τ' : Mem} {p1 : Int32} {r : Int32}  (hf : f_X5_watches τ p1 = some (r, τ')) : lm_CI l yX5_watches wsX5_watches rmX5_watches D cI cZ cL cR B [.ref (B + 140), .int p1] σ τ r σ τ' := by
  unfold f_X5_watches at hf
  refine lm_of (cc := cX5_watches) (maxL := 3) (ret := (some .int)) (own := RX5) (by decide) rfl (Nat.le_of_ble_eq_true rfl) (fun p e s m below meth c0 C0 hR ls hl => ?_)
  have hS : va_S (lm_A B) s.heap s.heap [] := va_S.rf
  have hl : lv_has ls 3 [(0, .ref (B + 140)), (1, .int p1)] := hl
  obtain ⟨hx, hb, hml, hr, hlk, hown, hts, hK, hX⟩ := id C0
  refine lv_aload_n hx hb dX5_watches_0 rfl (lv_at hl 0 rfl) ?_
  refine lv_iconst (v := (0 : Int32)) hx hb dX5_watches_1 (by decide) ?_
  obtain ⟨τ1, eτ1, hf⟩ := lm_nm_e hf
  refine lm_putM C0 hR hS (by decide) cell_140 rfl lw_in_X5 tyX5 tyX5_ok nmX5 0 (by decide) uw_508 rfl rfl rfl rfl rfl (Nat.le_of_ble_eq_true rfl) eτ1 cell_140u dX5_watches_2 (fun H locs hR hS => ?_)
  refine lv_aload_n hx hb dX5_watches_5 rfl (lv_at hl 0 rfl) ?_
  obtain ⟨r3, u2, hf⟩ := lm_bd_e hf
  refine lm_endi (lm_runV C0 hR hS (c_X5_isThere u2) (lw_cV 0 hts uw_625 mv_X5_isThere rfl rfl hd_X5_isThere ⟨Nat.le_of_ble_eq_true rfl, Nat.le_of_ble_eq_true rfl⟩) (by decide) cell_140 rfl rfl hl rfl (Nat.le_of_ble_eq_true rfl) dX5_watches_6) hS (fun H locs hR hS => ?_)
  refine lv_if_ne (tgt := 15) hx hb dX5_watches_9 (by decide) (fun b5 => ?_) (fun b5 => ?_)
  · have hf := lm_F b5 hf
    refine lv_iload_n hx hb dX5_watches_15 rfl (lv_at hl 1 rfl) ?_
    refine lv_i2l hx hb dX5_watches_16 rfl ?_
    refine lv_lconst (v := (1 : Int64)) hx hb dX5_watches_17 (by decide) ?_
    refine lv_ldc2 hx hb hown (hts _ uw_629) dX5_watches_18 ?_
    obtain ⟨r7, u6, hf⟩ := lm_bd_e hf
    refine lm_endi (lm_runS C0 hR hS (c_X5_in u6) (lw_cS 3 hts uw_544 mv_X5_in rfl rfl hd_X5_in ⟨Nat.le_of_ble_eq_true rfl, Nat.le_of_ble_eq_true rfl⟩) rfl hl rfl (Nat.le_of_ble_eq_true rfl) dX5_watches_21) hS (fun H locs hR hS => ?_)
    refine lv_if_ne (tgt := 30) hx hb dX5_watches_24 (by decide) (fun b9 => ?_) (fun b9 => ?_)
    · have hf := lm_F b9 hf
      refine lv_aload_n hx hb dX5_watches_30 rfl (lv_at hl 0 rfl) ?_
      refine lm_get C0 hR (by decide) cell_140 rfl lw_in_X5 5 (by decide) uw_513 rfl rfl dX5_watches_31 ?_
      refine lv_iconst (v := (5 : Int32)) hx hb dX5_watches_34 (by decide) ?_
      obtain ⟨z10, hf⟩ := lm_ck_e hf
      refine lm_ild C0 hR (by decide) cell_144 z10 dX5_watches_35 ?_
      refine lv_iload_n hx hb dX5_watches_36 rfl (lv_at hl 1 rfl) ?_
      refine lv_iadd hx hb dX5_watches_37 ?_
      refine lv_sipush (v := (999 : Int32)) hx hb dX5_watches_38 (by decide) ?_
      refine lv_icmp_le (tgt := 47) hx hb dX5_watches_41 (by decide) (fun b11 => ?_) (fun b11 => ?_)
      · have hf := lm_T b11 hf
        refine lv_iconst (v := (0 : Int32)) hx hb dX5_watches_47 (by decide) ?_
        refine lv_istore_n (lv' := [(2, .int (0 : Int32)), (0, .ref (B + 140)), (1, .int p1)]) hx hb dX5_watches_48 rfl hl (by decide) rfl (fun ls hl => ?_)
        exact w_X5_watches_49 C0 _ _ _ _ _ _ _ hR hS (lv_sub hl [1, 2, 0] rfl) hf
      · have hf := lm_F b11 hf
        refine lv_ldc hx hb hown (hts _ uw_570) dX5_watches_44 ?_
        exact lm_riM C0 hR hS hf dX5_watches_46
    · have hf := lm_T b9 hf
      refine lv_ldc hx hb hown (hts _ uw_548) dX5_watches_27 ?_
      exact lm_riM C0 hR hS hf dX5_watches_29
  · have hf := lm_T b5 hf
    refine lv_ldc hx hb hown (hts _ uw_628) dX5_watches_12 ?_
    exact lm_riM C0 hR hS hf dX5_watches_14
end
/-! ===== X5_pour ===== -/
abbrev rmX5_pour : Room := { frames := 1, cells := 0, slots := 0, locals := 25 }
def f_X5_pour (τ : Mem) (p1 : Int32) : Option (Int32 × Mem) := lm_nm (up τ 140 0 (0 : Int32)) fun τ1 => lm_bd (f_X5_isThere τ1) fun r3 => if r3 = 0 then (some ((-1000002 : Int32), τ1)) else (lm_bd (f_X5_in p1.toInt64 (1 : Int64) (60 : Int64)) fun r7 => if r7 = 0 then (some ((-1000001 : Int32), τ1)) else (lm_bd (f_X5_keep τ1) fun τ12 => lm_bd (f_X5_pourInto 144 τ12 p1) fun τ15 => lm_ck (lm_in (4 : Int32) 24) (some ((τ15 144 (4 : Int32).toNatClampNeg), τ15))))
abbrev wsX5_pour : List Cond := Cond.code yX5_pour cX5_pour 2 (some .int) :: lw_u
theorem mv_X5_pour : Cond.instanceMethod yX5_pour ∈ lw_u ∧ Cond.selects yX5_pour.cls yX5_pour yX5_pour ∈ lw_u ∧ Cond.initialized yX5_pour.cls ∈ lw_u ∧ Cond.code yX5_pour cX5_pour 2 (some .int) ∈ lw_u := ⟨uw_658, uw_659, uw_6, uw_660⟩
theorem hd_X5_pour : yX5_pour.cls ≠ "java/lang/invoke/MethodHandle" ∧ yX5_pour.cls ≠ "java/lang/invoke/VarHandle" ∧ (parseMethodDescriptor yX5_pour.desc).map (fun d => d.parameters.length) = some 1 := by decide +kernel
section
variable {l : Launch} {D : va_G} {cI cZ cL cR : ClassId} {B : Nat}
set_option maxRecDepth 100000 in
set_option maxHeartbeats 4000000 in
theorem c_X5_pour {τ σ τ' : Mem} {p1 : Int32} {r : Int32}  (hf : f_X5_pour τ p1 = some (r, τ')) : lm_CI l yX5_pour wsX5_pour rmX5_pour D cI cZ cL cR B [.ref (B + 140), .int p1] σ τ r σ τ' := by
  unfold f_X5_pour at hf
  refine lm_of (cc := cX5_pour) (maxL := 2) (ret := (some .int)) (own := RX5) (by decide) rfl (Nat.le_of_ble_eq_true rfl) (fun p e s m below meth c0 C0 hR ls hl => ?_)
  have hS : va_S (lm_A B) s.heap s.heap [] := va_S.rf
  have hl : lv_has ls 2 [(0, .ref (B + 140)), (1, .int p1)] := hl
  obtain ⟨hx, hb, hml, hr, hlk, hown, hts, hK, hX⟩ := id C0
  refine lv_aload_n hx hb dX5_pour_0 rfl (lv_at hl 0 rfl) ?_
  refine lv_iconst (v := (0 : Int32)) hx hb dX5_pour_1 (by decide) ?_
  obtain ⟨τ1, eτ1, hf⟩ := lm_nm_e hf
  refine lm_putM C0 hR hS (by decide) cell_140 rfl lw_in_X5 tyX5 tyX5_ok nmX5 0 (by decide) uw_508 rfl rfl rfl rfl rfl (Nat.le_of_ble_eq_true rfl) eτ1 cell_140u dX5_pour_2 (fun H locs hR hS => ?_)
  refine lv_aload_n hx hb dX5_pour_5 rfl (lv_at hl 0 rfl) ?_
  obtain ⟨r3, u2, hf⟩ := lm_bd_e hf
  refine lm_endi (lm_runV C0 hR hS (c_X5_isThere u2) (lw_cV 0 hts uw_625 mv_X5_isThere rfl rfl hd_X5_isThere ⟨Nat.le_of_ble_eq_true rfl, Nat.le_of_ble_eq_true rfl⟩) (by decide) cell_140 rfl rfl hl rfl (Nat.le_of_ble_eq_true rfl) dX5_pour_6) hS (fun H locs hR hS => ?_)
  refine lv_if_ne (tgt := 15) hx hb dX5_pour_9 (by decide) (fun b5 => ?_) (fun b5 => ?_)
  · have hf := lm_F b5 hf
    refine lv_iload_n hx hb dX5_pour_15 rfl (lv_at hl 1 rfl) ?_
    refine lv_i2l hx hb dX5_pour_16 rfl ?_
    refine lv_lconst (v := (1 : Int64)) hx hb dX5_pour_17 (by decide) ?_
    refine lv_ldc2 hx hb hown (hts _ uw_661) dX5_pour_18 ?_
    obtain ⟨r7, u6, hf⟩ := lm_bd_e hf
    refine lm_endi (lm_runS C0 hR hS (c_X5_in u6) (lw_cS 3 hts uw_544 mv_X5_in rfl rfl hd_X5_in ⟨Nat.le_of_ble_eq_true rfl, Nat.le_of_ble_eq_true rfl⟩) rfl hl rfl (Nat.le_of_ble_eq_true rfl) dX5_pour_21) hS (fun H locs hR hS => ?_)
    refine lv_if_ne (tgt := 30) hx hb dX5_pour_24 (by decide) (fun b9 => ?_) (fun b9 => ?_)
    · have hf := lm_F b9 hf
      refine lv_aload_n hx hb dX5_pour_30 rfl (lv_at hl 0 rfl) ?_
      obtain ⟨τ12, u10, hf⟩ := lm_bd_e hf
      refine lm_endv (lm_runV C0 hR hS (c_X5_keep u10) (lw_cV 0 hts uw_630 mv_X5_keep rfl rfl hd_X5_keep ⟨Nat.le_of_ble_eq_true rfl, Nat.le_of_ble_eq_true rfl⟩) (by decide) cell_140 rfl rfl hl rfl (Nat.le_of_ble_eq_true rfl) dX5_pour_31) hS (fun H locs hR hS => ?_)
      refine lv_aload_n hx hb dX5_pour_34 rfl (lv_at hl 0 rfl) ?_
      refine lm_get C0 hR (by decide) cell_140 rfl lw_in_X5 5 (by decide) uw_513 rfl rfl dX5_pour_35 ?_
      refine lv_iload_n hx hb dX5_pour_38 rfl (lv_at hl 1 rfl) ?_
      obtain ⟨τ15, u13, hf⟩ := lm_bd_e hf
      refine lm_endv (lm_runS C0 hR hS (c_X5_pourInto isM_144 u13) (lw_cS 2 hts uw_662 mv_X5_pourInto rfl rfl hd_X5_pourInto ⟨Nat.le_of_ble_eq_true rfl, Nat.le_of_ble_eq_true rfl⟩) rfl hl rfl (Nat.le_of_ble_eq_true rfl) dX5_pour_39) hS (fun H locs hR hS => ?_)
      refine lv_aload_n hx hb dX5_pour_42 rfl (lv_at hl 0 rfl) ?_
      refine lm_get C0 hR (by decide) cell_140 rfl lw_in_X5 5 (by decide) uw_513 rfl rfl dX5_pour_43 ?_
      refine lv_iconst (v := (4 : Int32)) hx hb dX5_pour_46 (by decide) ?_
      obtain ⟨z16, hf⟩ := lm_ck_e hf
      refine lm_ild C0 hR (by decide) cell_144 z16 dX5_pour_47 ?_
      exact lm_riM C0 hR hS hf dX5_pour_48
    · have hf := lm_T b9 hf
      refine lv_ldc hx hb hown (hts _ uw_548) dX5_pour_27 ?_
      exact lm_riM C0 hR hS hf dX5_pour_29
  · have hf := lm_T b5 hf
    refine lv_ldc hx hb hown (hts _ uw_628) dX5_pour_12 ?_
    exact lm_riM C0 hR hS hf dX5_pour_14
end
/-! ===== X5_fog ===== -/
abbrev rmX5_fog : Room := { frames := 2, cells := 0, slots := 0, locals := 46 }
def f_X5_fog (τ : Mem) (p1 : Int32) (p2 : Int32) : Option (Int32 × Mem) := lm_nm (up τ 140 0 (0 : Int32)) fun τ1 => lm_bd (f_X5_isFog τ1 p1) fun r3 => if r3 = 0 then (some ((-1000001 : Int32), τ1)) else (lm_bd (f_X5_in p2.toInt64 (0 : Int64) (9 : Int64)) fun r7 => if r7 = 0 then (some ((-1000001 : Int32), τ1)) else (lm_bd (f_X5_keep τ1) fun τ12 => lm_ck (lm_in ((6 : Int32) + p1) 24) (lm_nm (τ12 144 ((6 : Int32) + p1).toNatClampNeg) fun v14 => lm_ck (lm_in ((6 : Int32) + p1) 24) (lm_nm (up τ12 144 ((6 : Int32) + p1).toNatClampNeg p2) fun τ16 => some (v14, τ16)))))
abbrev wsX5_fog : List Cond := Cond.code yX5_fog cX5_fog 4 (some .int) :: lw_u
theorem mv_X5_fog : Cond.instanceMethod yX5_fog ∈ lw_u ∧ Cond.selects yX5_fog.cls yX5_fog yX5_fog ∈ lw_u ∧ Cond.initialized yX5_fog.cls ∈ lw_u ∧ Cond.code yX5_fog cX5_fog 4 (some .int) ∈ lw_u := ⟨uw_666, uw_667, uw_6, uw_668⟩
theorem hd_X5_fog : yX5_fog.cls ≠ "java/lang/invoke/MethodHandle" ∧ yX5_fog.cls ≠ "java/lang/invoke/VarHandle" ∧ (parseMethodDescriptor yX5_fog.desc).map (fun d => d.parameters.length) = some 2 := by decide +kernel
section
variable {l : Launch} {D : va_G} {cI cZ cL cR : ClassId} {B : Nat}
set_option maxRecDepth 100000 in
set_option maxHeartbeats 4000000 in
theorem c_X5_fog {τ σ τ' : Mem} {p1 : Int32} {p2 : Int32} {r : Int32}  (hf : f_X5_fog τ p1 p2 = some (r, τ')) : lm_CI l yX5_fog wsX5_fog rmX5_fog D cI cZ cL cR B [.ref (B + 140), .int p1, .int p2] σ τ r σ τ' := by
  unfold f_X5_fog at hf
  refine lm_of (cc := cX5_fog) (maxL := 4) (ret := (some .int)) (own := RX5) (by decide) rfl (Nat.le_of_ble_eq_true rfl) (fun p e s m below meth c0 C0 hR ls hl => ?_)
  have hS : va_S (lm_A B) s.heap s.heap [] := va_S.rf
  have hl : lv_has ls 4 [(0, .ref (B + 140)), (1, .int p1), (2, .int p2)] := hl
  obtain ⟨hx, hb, hml, hr, hlk, hown, hts, hK, hX⟩ := id C0
  refine lv_aload_n hx hb dX5_fog_0 rfl (lv_at hl 0 rfl) ?_
  refine lv_iconst (v := (0 : Int32)) hx hb dX5_fog_1 (by decide) ?_
  obtain ⟨τ1, eτ1, hf⟩ := lm_nm_e hf
  refine lm_putM C0 hR hS (by decide) cell_140 rfl lw_in_X5 tyX5 tyX5_ok nmX5 0 (by decide) uw_508 rfl rfl rfl rfl rfl (Nat.le_of_ble_eq_true rfl) eτ1 cell_140u dX5_fog_2 (fun H locs hR hS => ?_)
  refine lv_aload_n hx hb dX5_fog_5 rfl (lv_at hl 0 rfl) ?_
  refine lv_iload_n hx hb dX5_fog_6 rfl (lv_at hl 1 rfl) ?_
  obtain ⟨r3, u2, hf⟩ := lm_bd_e hf
  refine lm_endi (lm_runV C0 hR hS (c_X5_isFog u2) (lw_cV 1 hts uw_669 mv_X5_isFog rfl rfl hd_X5_isFog ⟨Nat.le_of_ble_eq_true rfl, Nat.le_of_ble_eq_true rfl⟩) (by decide) cell_140 rfl rfl hl rfl (Nat.le_of_ble_eq_true rfl) dX5_fog_7) hS (fun H locs hR hS => ?_)
  refine lv_if_eq (tgt := 25) hx hb dX5_fog_10 (by decide) (fun b5 => ?_) (fun b5 => ?_)
  · have hf := lm_T b5 hf
    refine lv_ldc hx hb hown (hts _ uw_548) dX5_fog_25 ?_
    exact lm_riM C0 hR hS hf dX5_fog_27
  · have hf := lm_F b5 hf
    refine lv_iload_n hx hb dX5_fog_13 rfl (lv_at hl 2 rfl) ?_
    refine lv_i2l hx hb dX5_fog_14 rfl ?_
    refine lv_lconst (v := (0 : Int64)) hx hb dX5_fog_15 (by decide) ?_
    refine lv_ldc2 hx hb hown (hts _ uw_672) dX5_fog_16 ?_
    obtain ⟨r7, u6, hf⟩ := lm_bd_e hf
    refine lm_endi (lm_runS C0 hR hS (c_X5_in u6) (lw_cS 3 hts uw_544 mv_X5_in rfl rfl hd_X5_in ⟨Nat.le_of_ble_eq_true rfl, Nat.le_of_ble_eq_true rfl⟩) rfl hl rfl (Nat.le_of_ble_eq_true rfl) dX5_fog_19) hS (fun H locs hR hS => ?_)
    refine lv_if_ne (tgt := 28) hx hb dX5_fog_22 (by decide) (fun b9 => ?_) (fun b9 => ?_)
    · have hf := lm_F b9 hf
      refine lv_aload_n hx hb dX5_fog_28 rfl (lv_at hl 0 rfl) ?_
      obtain ⟨τ12, u10, hf⟩ := lm_bd_e hf
      refine lm_endv (lm_runV C0 hR hS (c_X5_keep u10) (lw_cV 0 hts uw_630 mv_X5_keep rfl rfl hd_X5_keep ⟨Nat.le_of_ble_eq_true rfl, Nat.le_of_ble_eq_true rfl⟩) (by decide) cell_140 rfl rfl hl rfl (Nat.le_of_ble_eq_true rfl) dX5_fog_29) hS (fun H locs hR hS => ?_)
      refine lv_aload_n hx hb dX5_fog_32 rfl (lv_at hl 0 rfl) ?_
      refine lm_get C0 hR (by decide) cell_140 rfl lw_in_X5 5 (by decide) uw_513 rfl rfl dX5_fog_33 ?_
      refine lv_bipush (v := (6 : Int32)) hx hb dX5_fog_36 (by decide) ?_
      refine lv_iload_n hx hb dX5_fog_38 rfl (lv_at hl 1 rfl) ?_
      refine lv_iadd hx hb dX5_fog_39 ?_
      obtain ⟨z13, hf⟩ := lm_ck_e hf
      refine lm_ild C0 hR (by decide) cell_144 z13 dX5_fog_40 ?_
      obtain ⟨v14, ev14, hf⟩ := lm_nm_e hf
      refine lm_topi ev14 ?_
      refine lv_istore_n (lv' := [(3, .int v14), (0, .ref (B + 140)), (1, .int p1), (2, .int p2)]) hx hb dX5_fog_41 rfl hl (by decide) rfl (fun ls hl => ?_)
      refine lv_aload_n hx hb dX5_fog_42 rfl (lv_at hl 1 rfl) ?_
      refine lm_get C0 hR (by decide) cell_140 rfl lw_in_X5 5 (by decide) uw_513 rfl rfl dX5_fog_43 ?_
      refine lv_bipush (v := (6 : Int32)) hx hb dX5_fog_46 (by decide) ?_
      refine lv_iload_n hx hb dX5_fog_48 rfl (lv_at hl 2 rfl) ?_
      refine lv_iadd hx hb dX5_fog_49 ?_
      refine lv_iload_n hx hb dX5_fog_50 rfl (lv_at hl 3 rfl) ?_
      obtain ⟨z15, hf⟩ := lm_ck_e hf
      obtain ⟨τ16, eτ16, hf⟩ := lm_nm_e hf
      refine lm_istM C0 hR hS (by decide) cell_144 z15  eτ16 cell_144u dX5_fog_51 (fun H locs hR hS => ?_)
      refine lv_iload_n hx hb dX5_fog_52 rfl (lv_at hl 0 rfl) ?_
      exact lm_riM C0 hR hS hf dX5_fog_53
    · have hf := lm_T b9 hf
      refine lv_ldc hx hb hown (hts _ uw_548) dX5_fog_25 ?_
      exact lm_riM C0 hR hS hf dX5_fog_27
end
/-! ===== X5_eyes ===== -/
abbrev rmX5_eyes : Room := { frames := 1, cells := 0, slots := 0, locals := 25 }
def f_X5_eyes (τ : Mem) (p1 : Int32) : Option (Int32 × Mem) := lm_nm (up τ 140 0 (0 : Int32)) fun τ1 => lm_bd (f_X5_isThere τ1) fun r3 => if r3 = 0 then (some ((-1000002 : Int32), τ1)) else (lm_bd (f_X5_in p1.toInt64 (0 : Int64) (12 : Int64)) fun r7 => if r7 = 0 then (some ((-1000001 : Int32), τ1)) else (lm_bd (f_X5_keep τ1) fun τ12 => lm_ck (lm_in (3 : Int32) 24) (lm_nm (τ12 144 (3 : Int32).toNatClampNeg) fun v14 => lm_ck (lm_in (3 : Int32) 24) (lm_nm (up τ12 144 (3 : Int32).toNatClampNeg p1) fun τ16 => some (v14, τ16)))))
abbrev wsX5_eyes : List Cond := Cond.code yX5_eyes cX5_eyes 3 (some .int) :: lw_u
theorem mv_X5_eyes : Cond.instanceMethod yX5_eyes ∈ lw_u ∧ Cond.selects yX5_eyes.cls yX5_eyes yX5_eyes ∈ lw_u ∧ Cond.initialized yX5_eyes.cls ∈ lw_u ∧ Cond.code yX5_eyes cX5_eyes 3 (some .int) ∈ lw_u := ⟨uw_674, uw_675, uw_6, uw_676⟩
theorem hd_X5_eyes : yX5_eyes.cls ≠ "java/lang/invoke/MethodHandle" ∧ yX5_eyes.cls ≠ "java/lang/invoke/VarHandle" ∧ (parseMethodDescriptor yX5_eyes.desc).map (fun d => d.parameters.length) = some 1 := by decide +kernel
section
variable {l : Launch} {D : va_G} {cI cZ cL cR : ClassId} {B : Nat}
set_option maxRecDepth 100000 in
set_option maxHeartbeats 4000000 in
theorem c_X5_eyes {τ σ τ' : Mem} {p1 : Int32} {r : Int32}  (hf : f_X5_eyes τ p1 = some (r, τ')) : lm_CI l yX5_eyes wsX5_eyes rmX5_eyes D cI cZ cL cR B [.ref (B + 140), .int p1] σ τ r σ τ' := by
  unfold f_X5_eyes at hf
  refine lm_of (cc := cX5_eyes) (maxL := 3) (ret := (some .int)) (own := RX5) (by decide) rfl (Nat.le_of_ble_eq_true rfl) (fun p e s m below meth c0 C0 hR ls hl => ?_)
  have hS : va_S (lm_A B) s.heap s.heap [] := va_S.rf
  have hl : lv_has ls 3 [(0, .ref (B + 140)), (1, .int p1)] := hl
  obtain ⟨hx, hb, hml, hr, hlk, hown, hts, hK, hX⟩ := id C0
  refine lv_aload_n hx hb dX5_eyes_0 rfl (lv_at hl 0 rfl) ?_
  refine lv_iconst (v := (0 : Int32)) hx hb dX5_eyes_1 (by decide) ?_
  obtain ⟨τ1, eτ1, hf⟩ := lm_nm_e hf
  refine lm_putM C0 hR hS (by decide) cell_140 rfl lw_in_X5 tyX5 tyX5_ok nmX5 0 (by decide) uw_508 rfl rfl rfl rfl rfl (Nat.le_of_ble_eq_true rfl) eτ1 cell_140u dX5_eyes_2 (fun H locs hR hS => ?_)
  refine lv_aload_n hx hb dX5_eyes_5 rfl (lv_at hl 0 rfl) ?_
  obtain ⟨r3, u2, hf⟩ := lm_bd_e hf
  refine lm_endi (lm_runV C0 hR hS (c_X5_isThere u2) (lw_cV 0 hts uw_625 mv_X5_isThere rfl rfl hd_X5_isThere ⟨Nat.le_of_ble_eq_true rfl, Nat.le_of_ble_eq_true rfl⟩) (by decide) cell_140 rfl rfl hl rfl (Nat.le_of_ble_eq_true rfl) dX5_eyes_6) hS (fun H locs hR hS => ?_)
  refine lv_if_ne (tgt := 15) hx hb dX5_eyes_9 (by decide) (fun b5 => ?_) (fun b5 => ?_)
  · have hf := lm_F b5 hf
    refine lv_iload_n hx hb dX5_eyes_15 rfl (lv_at hl 1 rfl) ?_
    refine lv_i2l hx hb dX5_eyes_16 rfl ?_
    refine lv_lconst (v := (0 : Int64)) hx hb dX5_eyes_17 (by decide) ?_
    refine lv_ldc2 hx hb hown (hts _ uw_677) dX5_eyes_18 ?_
    obtain ⟨r7, u6, hf⟩ := lm_bd_e hf
    refine lm_endi (lm_runS C0 hR hS (c_X5_in u6) (lw_cS 3 hts uw_544 mv_X5_in rfl rfl hd_X5_in ⟨Nat.le_of_ble_eq_true rfl, Nat.le_of_ble_eq_true rfl⟩) rfl hl rfl (Nat.le_of_ble_eq_true rfl) dX5_eyes_21) hS (fun H locs hR hS => ?_)
    refine lv_if_ne (tgt := 30) hx hb dX5_eyes_24 (by decide) (fun b9 => ?_) (fun b9 => ?_)
    · have hf := lm_F b9 hf
      refine lv_aload_n hx hb dX5_eyes_30 rfl (lv_at hl 0 rfl) ?_
      obtain ⟨τ12, u10, hf⟩ := lm_bd_e hf
      refine lm_endv (lm_runV C0 hR hS (c_X5_keep u10) (lw_cV 0 hts uw_630 mv_X5_keep rfl rfl hd_X5_keep ⟨Nat.le_of_ble_eq_true rfl, Nat.le_of_ble_eq_true rfl⟩) (by decide) cell_140 rfl rfl hl rfl (Nat.le_of_ble_eq_true rfl) dX5_eyes_31) hS (fun H locs hR hS => ?_)
      refine lv_aload_n hx hb dX5_eyes_34 rfl (lv_at hl 0 rfl) ?_
      refine lm_get C0 hR (by decide) cell_140 rfl lw_in_X5 5 (by decide) uw_513 rfl rfl dX5_eyes_35 ?_
      refine lv_iconst (v := (3 : Int32)) hx hb dX5_eyes_38 (by decide) ?_
      obtain ⟨z13, hf⟩ := lm_ck_e hf
      refine lm_ild C0 hR (by decide) cell_144 z13 dX5_eyes_39 ?_
      obtain ⟨v14, ev14, hf⟩ := lm_nm_e hf
      refine lm_topi ev14 ?_
      refine lv_istore_n (lv' := [(2, .int v14), (0, .ref (B + 140)), (1, .int p1)]) hx hb dX5_eyes_40 rfl hl (by decide) rfl (fun ls hl => ?_)
      refine lv_aload_n hx hb dX5_eyes_41 rfl (lv_at hl 1 rfl) ?_
      refine lm_get C0 hR (by decide) cell_140 rfl lw_in_X5 5 (by decide) uw_513 rfl rfl dX5_eyes_42 ?_
      refine lv_iconst (v := (3 : Int32)) hx hb dX5_eyes_45 (by decide) ?_
      refine lv_iload_n hx hb dX5_eyes_46 rfl (lv_at hl 2 rfl) ?_
      obtain ⟨z15, hf⟩ := lm_ck_e hf
      obtain ⟨τ16, eτ16, hf⟩ := lm_nm_e hf
      refine lm_istM C0 hR hS (by decide) cell_144 z15  eτ16 cell_144u dX5_eyes_47 (fun H locs hR hS => ?_)
      refine lv_iload_n hx hb dX5_eyes_48 rfl (lv_at hl 0 rfl) ?_
      exact lm_riM C0 hR hS hf dX5_eyes_49
    · have hf := lm_T b9 hf
      refine lv_ldc hx hb hown (hts _ uw_548) dX5_eyes_27 ?_
      exact lm_riM C0 hR hS hf dX5_eyes_29
  · have hf := lm_T b5 hf
    refine lv_ldc hx hb hown (hts _ uw_628) dX5_eyes_12 ?_
    exact lm_riM C0 hR hS hf dX5_eyes_14
end
/-! ===== X5_move ===== -/
abbrev rmX5_move : Room := { frames := 2, cells := 0, slots := 0, locals := 46 }
def f_X5_move (τ : Mem) (p1 : Int32) (p2 : Int32) : Option (Int32 × Mem) := lm_nm (up τ 140 0 (0 : Int32)) fun τ1 => lm_bd (f_X5_isShip τ1 p1) fun r3 => if r3 = 0 then (some ((-1000001 : Int32), τ1)) else (lm_bd (f_X5_isCell τ1 p2) fun r7 => if r7 = 0 then (some ((-1000001 : Int32), τ1)) else (lm_bd (f_X5_of 144 τ1 p1 (1 : Int32)) fun r11 => if r11 = p2 then (some ((-1000002 : Int32), τ1)) else (lm_bd (f_X5_keep τ1) fun τ16 => lm_ck (lm_in (((12 : Int32) + ((2 : Int32) * p1)) + (1 : Int32)) 24) (lm_nm (up τ16 144 (((12 : Int32) + ((2 : Int32) * p1)) + (1 : Int32)).toNatClampNeg p2) fun τ18 => some (r11, τ18)))))
abbrev wsX5_move : List Cond := Cond.code yX5_move cX5_move 4 (some .int) :: lw_u
theorem mv_X5_move : Cond.instanceMethod yX5_move ∈ lw_u ∧ Cond.selects yX5_move.cls yX5_move yX5_move ∈ lw_u ∧ Cond.initialized yX5_move.cls ∈ lw_u ∧ Cond.code yX5_move cX5_move 4 (some .int) ∈ lw_u := ⟨uw_679, uw_680, uw_6, uw_681⟩
theorem hd_X5_move : yX5_move.cls ≠ "java/lang/invoke/MethodHandle" ∧ yX5_move.cls ≠ "java/lang/invoke/VarHandle" ∧ (parseMethodDescriptor yX5_move.desc).map (fun d => d.parameters.length) = some 2 := by decide +kernel
section
variable {l : Launch} {D : va_G} {cI cZ cL cR : ClassId} {B : Nat}
set_option maxRecDepth 100000 in
set_option maxHeartbeats 4000000 in
theorem c_X5_move {τ σ τ' : Mem} {p1 : Int32} {p2 : Int32} {r : Int32}  (hf : f_X5_move τ p1 p2 = some (r, τ')) : lm_CI l yX5_move wsX5_move rmX5_move D cI cZ cL cR B [.ref (B + 140), .int p1, .int p2] σ τ r σ τ' := by
  unfold f_X5_move at hf
  refine lm_of (cc := cX5_move) (maxL := 4) (ret := (some .int)) (own := RX5) (by decide) rfl (Nat.le_of_ble_eq_true rfl) (fun p e s m below meth c0 C0 hR ls hl => ?_)
  have hS : va_S (lm_A B) s.heap s.heap [] := va_S.rf
  have hl : lv_has ls 4 [(0, .ref (B + 140)), (1, .int p1), (2, .int p2)] := hl
  obtain ⟨hx, hb, hml, hr, hlk, hown, hts, hK, hX⟩ := id C0
  refine lv_aload_n hx hb dX5_move_0 rfl (lv_at hl 0 rfl) ?_
  refine lv_iconst (v := (0 : Int32)) hx hb dX5_move_1 (by decide) ?_
  obtain ⟨τ1, eτ1, hf⟩ := lm_nm_e hf
  refine lm_putM C0 hR hS (by decide) cell_140 rfl lw_in_X5 tyX5 tyX5_ok nmX5 0 (by decide) uw_508 rfl rfl rfl rfl rfl (Nat.le_of_ble_eq_true rfl) eτ1 cell_140u dX5_move_2 (fun H locs hR hS => ?_)
  refine lv_aload_n hx hb dX5_move_5 rfl (lv_at hl 0 rfl) ?_
  refine lv_iload_n hx hb dX5_move_6 rfl (lv_at hl 1 rfl) ?_
  obtain ⟨r3, u2, hf⟩ := lm_bd_e hf
  refine lm_endi (lm_runV C0 hR hS (c_X5_isShip u2) (lw_cV 1 hts uw_682 mv_X5_isShip rfl rfl hd_X5_isShip ⟨Nat.le_of_ble_eq_true rfl, Nat.le_of_ble_eq_true rfl⟩) (by decide) cell_140 rfl rfl hl rfl (Nat.le_of_ble_eq_true rfl) dX5_move_7) hS (fun H locs hR hS => ?_)
  refine lv_if_eq (tgt := 21) hx hb dX5_move_10 (by decide) (fun b5 => ?_) (fun b5 => ?_)
  · have hf := lm_T b5 hf
    refine lv_ldc hx hb hown (hts _ uw_548) dX5_move_21 ?_
    exact lm_riM C0 hR hS hf dX5_move_23
  · have hf := lm_F b5 hf
    refine lv_aload_n hx hb dX5_move_13 rfl (lv_at hl 0 rfl) ?_
    refine lv_iload_n hx hb dX5_move_14 rfl (lv_at hl 2 rfl) ?_
    obtain ⟨r7, u6, hf⟩ := lm_bd_e hf
    refine lm_endi (lm_runV C0 hR hS (c_X5_isCell u6) (lw_cV 1 hts uw_685 mv_X5_isCell rfl rfl hd_X5_isCell ⟨Nat.le_of_ble_eq_true rfl, Nat.le_of_ble_eq_true rfl⟩) (by decide) cell_140 rfl rfl hl rfl (Nat.le_of_ble_eq_true rfl) dX5_move_15) hS (fun H locs hR hS => ?_)
    refine lv_if_ne (tgt := 24) hx hb dX5_move_18 (by decide) (fun b9 => ?_) (fun b9 => ?_)
    · have hf := lm_F b9 hf
      refine lv_aload_n hx hb dX5_move_24 rfl (lv_at hl 0 rfl) ?_
      refine lm_get C0 hR (by decide) cell_140 rfl lw_in_X5 5 (by decide) uw_513 rfl rfl dX5_move_25 ?_
      refine lv_iload_n hx hb dX5_move_28 rfl (lv_at hl 1 rfl) ?_
      refine lv_iconst (v := (1 : Int32)) hx hb dX5_move_29 (by decide) ?_
      obtain ⟨r11, u10, hf⟩ := lm_bd_e hf
      refine lm_endi (lm_runS C0 hR hS (c_X5_of isM_144 u10) (lw_cS 3 hts uw_639 mv_X5_of rfl rfl hd_X5_of ⟨Nat.le_of_ble_eq_true rfl, Nat.le_of_ble_eq_true rfl⟩) rfl hl rfl (Nat.le_of_ble_eq_true rfl) dX5_move_30) hS (fun H locs hR hS => ?_)
      refine lv_istore_n (lv' := [(3, .int r11), (0, .ref (B + 140)), (1, .int p1), (2, .int p2)]) hx hb dX5_move_33 rfl hl (by decide) rfl (fun ls hl => ?_)
      refine lv_iload_n hx hb dX5_move_34 rfl (lv_at hl 0 rfl) ?_
      refine lv_iload_n hx hb dX5_move_35 rfl (lv_at hl 3 rfl) ?_
      refine lv_icmp_ne (tgt := 42) hx hb dX5_move_36 (by decide) (fun b13 => ?_) (fun b13 => ?_)
      · have hf := lm_F b13 hf
        refine lv_aload_n hx hb dX5_move_42 rfl (lv_at hl 1 rfl) ?_
        obtain ⟨τ16, u14, hf⟩ := lm_bd_e hf
        refine lm_endv (lm_runV C0 hR hS (c_X5_keep u14) (lw_cV 0 hts uw_630 mv_X5_keep rfl rfl hd_X5_keep ⟨Nat.le_of_ble_eq_true rfl, Nat.le_of_ble_eq_true rfl⟩) (by decide) cell_140 rfl rfl hl rfl (Nat.le_of_ble_eq_true rfl) dX5_move_43) hS (fun H locs hR hS => ?_)
        refine lv_aload_n hx hb dX5_move_46 rfl (lv_at hl 1 rfl) ?_
        refine lm_get C0 hR (by decide) cell_140 rfl lw_in_X5 5 (by decide) uw_513 rfl rfl dX5_move_47 ?_
        refine lv_bipush (v := (12 : Int32)) hx hb dX5_move_50 (by decide) ?_
        refine lv_iconst (v := (2 : Int32)) hx hb dX5_move_52 (by decide) ?_
        refine lv_iload_n hx hb dX5_move_53 rfl (lv_at hl 2 rfl) ?_
        refine lv_imul hx hb dX5_move_54 ?_
        refine lv_iadd hx hb dX5_move_55 ?_
        refine lv_iconst (v := (1 : Int32)) hx hb dX5_move_56 (by decide) ?_
        refine lv_iadd hx hb dX5_move_57 ?_
        refine lv_iload_n hx hb dX5_move_58 rfl (lv_at hl 3 rfl) ?_
        obtain ⟨z17, hf⟩ := lm_ck_e hf
        obtain ⟨τ18, eτ18, hf⟩ := lm_nm_e hf
        refine lm_istM C0 hR hS (by decide) cell_144 z17  eτ18 cell_144u dX5_move_59 (fun H locs hR hS => ?_)
        refine lv_iload_n hx hb dX5_move_60 rfl (lv_at hl 0 rfl) ?_
        exact lm_riM C0 hR hS hf dX5_move_61
      · have hf := lm_T b13 hf
        refine lv_ldc hx hb hown (hts _ uw_628) dX5_move_39 ?_
        exact lm_riM C0 hR hS hf dX5_move_41
    · have hf := lm_T b9 hf
      refine lv_ldc hx hb hown (hts _ uw_548) dX5_move_21 ?_
      exact lm_riM C0 hR hS hf dX5_move_23
end
/-! ===== X5_undo ===== -/
abbrev rmX5_undo : Room := { frames := 0, cells := 0, slots := 0, locals := 0 }
def f_X5_undo_27 : Nat → Int32 → Mem → Option (Int32 × Mem)
  | 0, _, _ => none
  | n + 1, x1, τ => if (24 : Int32) ≤ x1 then (some ((τ 140 9), τ)) else (lm_ck (lm_in (((24 : Int32) * (τ 140 9)) + x1) 576) (lm_ck (lm_in x1 24) (lm_nm (up τ 144 x1.toNatClampNeg (τ 147 (((24 : Int32) * (τ 140 9)) + x1).toNatClampNeg)) fun τ7 => lm_nm (x1 + (1 : Int32)) fun v8 => f_X5_undo_27 n v8 τ7)))
def f_X5_undo (τ : Mem) : Option (Int32 × Mem) := lm_nm (up τ 140 0 (0 : Int32)) fun τ1 => if (τ1 140 9) = 0 then (some ((-1000002 : Int32), τ1)) else (lm_nm (up τ1 140 9 ((τ1 140 9) - (1 : Int32))) fun τ3 => f_X5_undo_27 lm_fu (0 : Int32) τ3)
abbrev wsX5_undo : List Cond := Cond.code yX5_undo cX5_undo 2 (some .int) :: lw_u
theorem mv_X5_undo : Cond.instanceMethod yX5_undo ∈ lw_u ∧ Cond.selects yX5_undo.cls yX5_undo yX5_undo ∈ lw_u ∧ Cond.initialized yX5_undo.cls ∈ lw_u ∧ Cond.code yX5_undo cX5_undo 2 (some .int) ∈ lw_u := ⟨uw_689, uw_690, uw_6, uw_691⟩
theorem hd_X5_undo : yX5_undo.cls ≠ "java/lang/invoke/MethodHandle" ∧ yX5_undo.cls ≠ "java/lang/invoke/VarHandle" ∧ (parseMethodDescriptor yX5_undo.desc).map (fun d => d.parameters.length) = some 0 := by decide +kernel
section
variable {l : Launch} {D : va_G} {cI cZ cL cR : ClassId} {B : Nat}
set_option maxRecDepth 100000 in
set_option maxHeartbeats 4000000 in
theorem w_X5_undo_27 {p : Program} {e : Env} {s : State} {m : MethodId} {args : Array Value} {below : List Frame} {meth : Method} {c0 : Code} {σ τ' : Mem} {r : Int32} (C0 : lm_Cx D cI cZ cL cR B p s m args meth c0 cX5_undo 2 (some .int) RX5) : ∀ (n : Nat), ∀ (x1 : Int32) (τ : Mem) (H : Heap) (locs : List Loc) (ls : Array Slot), va_P D vwCl (wl cI cZ cL cR B σ τ) H → va_S (lm_A B) s.heap H locs → lv_has ls 2 [(0, .ref (B + 140)), (1, .int x1)] → f_X5_undo_27 n x1 τ = some (r, τ') → W p l e rmX5_undo s m args below meth c0 H locs 0 0 (MQ below (lm_QI D cI cZ cL cR B r σ τ') args s 0 0 (lm_A B)) (F0 m 27 ls []) := by
  obtain ⟨hx, hb, hml, hr, hlk, hown, hts, hK, hX⟩ := id C0
  intro n
  induction n with
  | zero =>
    intro x1 τ H locs ls hR hS hl hf
    cases hf
  | succ n ih =>
    intro x1 τ H locs ls hR hS hl hf
    rw [f_X5_undo_27] at hf
    refine lv_iload_n hx hb dX5_undo_27 rfl (lv_at hl 1 rfl) ?_
    refine lv_bipush (v := (24 : Int32)) hx hb dX5_undo_28 (by decide) ?_
    refine lv_icmp_ge (tgt := 59) hx hb dX5_undo_30 (by decide) (fun b4 => ?_) (fun b4 => ?_)
    · have hf := lm_T b4 hf
      refine lv_aload_n hx hb dX5_undo_59 rfl (lv_at hl 0 rfl) ?_
      refine lm_get C0 hR (by decide) cell_140 rfl lw_in_X5 9 (by decide) uw_517 rfl rfl dX5_undo_60 ?_
      exact lm_riM C0 hR hS hf dX5_undo_63
    · have hf := lm_F b4 hf
      refine lv_aload_n hx hb dX5_undo_33 rfl (lv_at hl 0 rfl) ?_
      refine lm_get C0 hR (by decide) cell_140 rfl lw_in_X5 5 (by decide) uw_513 rfl rfl dX5_undo_34 ?_
      refine lv_iload_n hx hb dX5_undo_37 rfl (lv_at hl 1 rfl) ?_
      refine lv_aload_n hx hb dX5_undo_38 rfl (lv_at hl 0 rfl) ?_
      refine lm_get C0 hR (by decide) cell_140 rfl lw_in_X5 8 (by decide) uw_516 rfl rfl dX5_undo_39 ?_
      refine lv_bipush (v := (24 : Int32)) hx hb dX5_undo_42 (by decide) ?_
      refine lv_aload_n hx hb dX5_undo_44 rfl (lv_at hl 0 rfl) ?_
      refine lm_get C0 hR (by decide) cell_140 rfl lw_in_X5 9 (by decide) uw_517 rfl rfl dX5_undo_45 ?_
      refine lv_imul hx hb dX5_undo_48 ?_
      refine lv_iload_n hx hb dX5_undo_49 rfl (lv_at hl 1 rfl) ?_
      refine lv_iadd hx hb dX5_undo_50 ?_
      obtain ⟨z5, hf⟩ := lm_ck_e hf
      refine lm_ild C0 hR (by decide) cell_147 z5 dX5_undo_51 ?_
      obtain ⟨z6, hf⟩ := lm_ck_e hf
      obtain ⟨τ7, eτ7, hf⟩ := lm_nm_e hf
      refine lm_istM C0 hR hS (by decide) cell_144 z6  eτ7 cell_144u dX5_undo_52 (fun H locs hR hS => ?_)
      obtain ⟨v8, ev8, hf⟩ := lm_nm_e hf
      refine lv_iinc (v := v8) (lv' := [(1, .int v8), (0, .ref (B + 140))]) hx hb dX5_undo_53 hl (k := 1) rfl (by rw [ev8]; rfl) (by decide) rfl (fun ls hl => ?_)
      refine lv_goto (tgt := 27) hx hb dX5_undo_56 (by decide) ?_
      exact ih _ _ _ _ _ hR hS (lv_sub hl [1, 0] rfl) hf
set_option maxRecDepth 100000 in
set_option maxHeartbeats 4000000 in
theorem c_X5_undo {τ σ τ' : Mem} {r : Int32}  (hf : f_X5_undo τ = some (r, τ')) : lm_CI l yX5_undo wsX5_undo rmX5_undo D cI cZ cL cR B [.ref (B + 140)] σ τ r σ τ' := by
  unfold f_X5_undo at hf
  refine lm_of (cc := cX5_undo) (maxL := 2) (ret := (some .int)) (own := RX5) (by decide) rfl (Nat.le_of_ble_eq_true rfl) (fun p e s m below meth c0 C0 hR ls hl => ?_)
  have hS : va_S (lm_A B) s.heap s.heap [] := va_S.rf
  have hl : lv_has ls 2 [(0, .ref (B + 140))] := hl
  obtain ⟨hx, hb, hml, hr, hlk, hown, hts, hK, hX⟩ := id C0
  refine lv_aload_n hx hb dX5_undo_0 rfl (lv_at hl 0 rfl) ?_
  refine lv_iconst (v := (0 : Int32)) hx hb dX5_undo_1 (by decide) ?_
  obtain ⟨τ1, eτ1, hf⟩ := lm_nm_e hf
  refine lm_putM C0 hR hS (by decide) cell_140 rfl lw_in_X5 tyX5 tyX5_ok nmX5 0 (by decide) uw_508 rfl rfl rfl rfl rfl (Nat.le_of_ble_eq_true rfl) eτ1 cell_140u dX5_undo_2 (fun H locs hR hS => ?_)
  refine lv_aload_n hx hb dX5_undo_5 rfl (lv_at hl 0 rfl) ?_
  refine lm_get C0 hR (by decide) cell_140 rfl lw_in_X5 9 (by decide) uw_517 rfl rfl dX5_undo_6 ?_
  refine lv_if_ne (tgt := 15) hx hb dX5_undo_9 (by decide) (fun b2 => ?_) (fun b2 => ?_)
  · have hf := lm_F b2 hf
    refine lv_aload_n hx hb dX5_undo_15 rfl (lv_at hl 0 rfl) ?_
    refine lv_dup hx hb dX5_undo_16 rfl ?_
    refine lm_get C0 hR (by decide) cell_140 rfl lw_in_X5 9 (by decide) uw_517 rfl rfl dX5_undo_17 ?_
    refine lv_iconst (v := (1 : Int32)) hx hb dX5_undo_20 (by decide) ?_
    refine lv_isub hx hb dX5_undo_21 ?_
    obtain ⟨τ3, eτ3, hf⟩ := lm_nm_e hf
    refine lm_putM C0 hR hS (by decide) cell_140 rfl lw_in_X5 tyX5 tyX5_ok nmX5 9 (by decide) uw_517 rfl rfl rfl rfl rfl (Nat.le_of_ble_eq_true rfl) eτ3 cell_140u dX5_undo_22 (fun H locs hR hS => ?_)
    refine lv_iconst (v := (0 : Int32)) hx hb dX5_undo_25 (by decide) ?_
    refine lv_istore_n (lv' := [(1, .int (0 : Int32)), (0, .ref (B + 140))]) hx hb dX5_undo_26 rfl hl (by decide) rfl (fun ls hl => ?_)
    exact w_X5_undo_27 C0 _ _ _ _ _ _ hR hS (lv_sub hl [1, 0] rfl) hf
  · have hf := lm_T b2 hf
    refine lv_ldc hx hb hown (hts _ uw_628) dX5_undo_12 ?_
    exact lm_riM C0 hR hS hf dX5_undo_14
end
/-! ===== X5_ship ===== -/
abbrev rmX5_ship : Room := { frames := 2, cells := 0, slots := 0, locals := 47 }
def f_X5_ship (τ : Mem) (p1 : Int32) (p2 : Int32) : Option (Int32 × Mem) := lm_nm (up τ 140 0 (0 : Int32)) fun τ1 => lm_bd (f_X5_isShip τ1 p1) fun r3 => if r3 = 0 then (some ((-1000001 : Int32), τ1)) else (lm_bd (f_X5_in p2.toInt64 (0 : Int64) (2 : Int64)) fun r7 => if r7 = 0 then (some ((-1000001 : Int32), τ1)) else (if p2 = 0 then (lm_bd (f_X5_of 144 τ1 p1 (1 : Int32)) fun r19 => some (r19, τ1)) else (if p2 = (1 : Int32) then (lm_bd (f_X5_loggedOf 144 τ1 p1) fun r16 => some (r16, τ1)) else (lm_bd (f_X5_nextCell 144 τ1 p1) fun r13 => some (r13, τ1)))))
abbrev wsX5_ship : List Cond := Cond.code yX5_ship cX5_ship 3 (some .int) :: lw_u
theorem mv_X5_ship : Cond.instanceMethod yX5_ship ∈ lw_u ∧ Cond.selects yX5_ship.cls yX5_ship yX5_ship ∈ lw_u ∧ Cond.initialized yX5_ship.cls ∈ lw_u ∧ Cond.code yX5_ship cX5_ship 3 (some .int) ∈ lw_u := ⟨uw_693, uw_694, uw_6, uw_695⟩
theorem hd_X5_ship : yX5_ship.cls ≠ "java/lang/invoke/MethodHandle" ∧ yX5_ship.cls ≠ "java/lang/invoke/VarHandle" ∧ (parseMethodDescriptor yX5_ship.desc).map (fun d => d.parameters.length) = some 2 := by decide +kernel
section
variable {l : Launch} {D : va_G} {cI cZ cL cR : ClassId} {B : Nat}
set_option maxRecDepth 100000 in
set_option maxHeartbeats 4000000 in
theorem c_X5_ship {τ σ τ' : Mem} {p1 : Int32} {p2 : Int32} {r : Int32}  (hf : f_X5_ship τ p1 p2 = some (r, τ')) : lm_CI l yX5_ship wsX5_ship rmX5_ship D cI cZ cL cR B [.ref (B + 140), .int p1, .int p2] σ τ r σ τ' := by
  unfold f_X5_ship at hf
  refine lm_of (cc := cX5_ship) (maxL := 3) (ret := (some .int)) (own := RX5) (by decide) rfl (Nat.le_of_ble_eq_true rfl) (fun p e s m below meth c0 C0 hR ls hl => ?_)
  have hS : va_S (lm_A B) s.heap s.heap [] := va_S.rf
  have hl : lv_has ls 3 [(0, .ref (B + 140)), (1, .int p1), (2, .int p2)] := hl
  obtain ⟨hx, hb, hml, hr, hlk, hown, hts, hK, hX⟩ := id C0
  refine lv_aload_n hx hb dX5_ship_0 rfl (lv_at hl 0 rfl) ?_
  refine lv_iconst (v := (0 : Int32)) hx hb dX5_ship_1 (by decide) ?_
  obtain ⟨τ1, eτ1, hf⟩ := lm_nm_e hf
  refine lm_putM C0 hR hS (by decide) cell_140 rfl lw_in_X5 tyX5 tyX5_ok nmX5 0 (by decide) uw_508 rfl rfl rfl rfl rfl (Nat.le_of_ble_eq_true rfl) eτ1 cell_140u dX5_ship_2 (fun H locs hR hS => ?_)
  refine lv_aload_n hx hb dX5_ship_5 rfl (lv_at hl 0 rfl) ?_
  refine lv_iload_n hx hb dX5_ship_6 rfl (lv_at hl 1 rfl) ?_
  obtain ⟨r3, u2, hf⟩ := lm_bd_e hf
  refine lm_endi (lm_runV C0 hR hS (c_X5_isShip u2) (lw_cV 1 hts uw_682 mv_X5_isShip rfl rfl hd_X5_isShip ⟨Nat.le_of_ble_eq_true rfl, Nat.le_of_ble_eq_true rfl⟩) (by decide) cell_140 rfl rfl hl rfl (Nat.le_of_ble_eq_true rfl) dX5_ship_7) hS (fun H locs hR hS => ?_)
  refine lv_if_eq (tgt := 25) hx hb dX5_ship_10 (by decide) (fun b5 => ?_) (fun b5 => ?_)
  · have hf := lm_T b5 hf
    refine lv_ldc hx hb hown (hts _ uw_548) dX5_ship_25 ?_
    exact lm_riM C0 hR hS hf dX5_ship_27
  · have hf := lm_F b5 hf
    refine lv_iload_n hx hb dX5_ship_13 rfl (lv_at hl 2 rfl) ?_
    refine lv_i2l hx hb dX5_ship_14 rfl ?_
    refine lv_lconst (v := (0 : Int64)) hx hb dX5_ship_15 (by decide) ?_
    refine lv_ldc2 hx hb hown (hts _ uw_547) dX5_ship_16 ?_
    obtain ⟨r7, u6, hf⟩ := lm_bd_e hf
    refine lm_endi (lm_runS C0 hR hS (c_X5_in u6) (lw_cS 3 hts uw_544 mv_X5_in rfl rfl hd_X5_in ⟨Nat.le_of_ble_eq_true rfl, Nat.le_of_ble_eq_true rfl⟩) rfl hl rfl (Nat.le_of_ble_eq_true rfl) dX5_ship_19) hS (fun H locs hR hS => ?_)
    refine lv_if_ne (tgt := 28) hx hb dX5_ship_22 (by decide) (fun b9 => ?_) (fun b9 => ?_)
    · have hf := lm_F b9 hf
      refine lv_iload_n hx hb dX5_ship_28 rfl (lv_at hl 2 rfl) ?_
      refine lv_if_ne (tgt := 44) hx hb dX5_ship_29 (by decide) (fun b10 => ?_) (fun b10 => ?_)
      · have hf := lm_F b10 hf
        refine lv_iload_n hx hb dX5_ship_44 rfl (lv_at hl 2 rfl) ?_
        refine lv_iconst (v := (1 : Int32)) hx hb dX5_ship_45 (by decide) ?_
        refine lv_icmp_ne (tgt := 60) hx hb dX5_ship_46 (by decide) (fun b11 => ?_) (fun b11 => ?_)
        · have hf := lm_F b11 hf
          refine lv_aload_n hx hb dX5_ship_60 rfl (lv_at hl 0 rfl) ?_
          refine lm_get C0 hR (by decide) cell_140 rfl lw_in_X5 5 (by decide) uw_513 rfl rfl dX5_ship_61 ?_
          refine lv_iload_n hx hb dX5_ship_64 rfl (lv_at hl 1 rfl) ?_
          obtain ⟨r13, u12, hf⟩ := lm_bd_e hf
          refine lm_endi (lm_runS C0 hR hS (c_X5_nextCell isM_144 u12) (lw_cS 2 hts uw_636 mv_X5_nextCell rfl rfl hd_X5_nextCell ⟨Nat.le_of_ble_eq_true rfl, Nat.le_of_ble_eq_true rfl⟩) rfl hl rfl (Nat.le_of_ble_eq_true rfl) dX5_ship_65) hS (fun H locs hR hS => ?_)
          exact lm_riM C0 hR hS hf dX5_ship_68
        · have hf := lm_T b11 hf
          refine lv_aload_n hx hb dX5_ship_49 rfl (lv_at hl 0 rfl) ?_
          refine lm_get C0 hR (by decide) cell_140 rfl lw_in_X5 5 (by decide) uw_513 rfl rfl dX5_ship_50 ?_
          refine lv_iload_n hx hb dX5_ship_53 rfl (lv_at hl 1 rfl) ?_
          obtain ⟨r16, u15, hf⟩ := lm_bd_e hf
          refine lm_endi (lm_runS C0 hR hS (c_X5_loggedOf isM_144 u15) (lw_cS 2 hts uw_651 mv_X5_loggedOf rfl rfl hd_X5_loggedOf ⟨Nat.le_of_ble_eq_true rfl, Nat.le_of_ble_eq_true rfl⟩) rfl hl rfl (Nat.le_of_ble_eq_true rfl) dX5_ship_54) hS (fun H locs hR hS => ?_)
          refine lv_goto (tgt := 68) hx hb dX5_ship_57 (by decide) ?_
          exact lm_riM C0 hR hS hf dX5_ship_68
      · have hf := lm_T b10 hf
        refine lv_aload_n hx hb dX5_ship_32 rfl (lv_at hl 0 rfl) ?_
        refine lm_get C0 hR (by decide) cell_140 rfl lw_in_X5 5 (by decide) uw_513 rfl rfl dX5_ship_33 ?_
        refine lv_iload_n hx hb dX5_ship_36 rfl (lv_at hl 1 rfl) ?_
        refine lv_iconst (v := (1 : Int32)) hx hb dX5_ship_37 (by decide) ?_
        obtain ⟨r19, u18, hf⟩ := lm_bd_e hf
        refine lm_endi (lm_runS C0 hR hS (c_X5_of isM_144 u18) (lw_cS 3 hts uw_639 mv_X5_of rfl rfl hd_X5_of ⟨Nat.le_of_ble_eq_true rfl, Nat.le_of_ble_eq_true rfl⟩) rfl hl rfl (Nat.le_of_ble_eq_true rfl) dX5_ship_38) hS (fun H locs hR hS => ?_)
        refine lv_goto (tgt := 68) hx hb dX5_ship_41 (by decide) ?_
        exact lm_riM C0 hR hS hf dX5_ship_68
    · have hf := lm_T b9 hf
      refine lv_ldc hx hb hown (hts _ uw_548) dX5_ship_25 ?_
      exact lm_riM C0 hR hS hf dX5_ship_27
end
/-! ===== X5_stand ===== -/
abbrev rmX5_stand : Room := { frames := 4, cells := 0, slots := 0, locals := 90 }
def f_X5_stand (τ : Mem) (p1 : Int32) : Option (Int32 × Mem) := lm_nm (up τ 140 0 (0 : Int32)) fun τ1 => lm_bd (f_X5_isThere τ1) fun r3 => if r3 = 0 then (some ((-1000002 : Int32), τ1)) else (if p1 = (0 : Int32) then (lm_bd (f_X5_seenBy 144 τ1 p1) fun r8 => some (r8, τ1)) else (if p1 = (1 : Int32) then (lm_bd (f_X5_seenBy 144 τ1 p1) fun r12 => some (r12, τ1)) else (if p1 = (2 : Int32) then (lm_bd (f_X5_differ 144 τ1) fun r16 => some (r16, τ1)) else (if p1 = (3 : Int32) then (lm_ck (lm_in (3 : Int32) 24) (some ((τ1 144 (3 : Int32).toNatClampNeg), τ1))) else (if p1 = (4 : Int32) then (lm_ck (lm_in (4 : Int32) 24) (some ((τ1 144 (4 : Int32).toNatClampNeg), τ1))) else (if p1 = (5 : Int32) then (lm_ck (lm_in (2 : Int32) 24) (some ((τ1 144 (2 : Int32).toNatClampNeg), τ1))) else (if p1 = (6 : Int32) then (lm_ck (lm_in (5 : Int32) 24) (lm_bd (f_X5_thickOf 144 τ1 (τ1 144 (5 : Int32).toNatClampNeg)) fun r27 => some (r27, τ1))) else (some ((-1000001 : Int32), τ1)))))))))
abbrev wsX5_stand : List Cond := Cond.code yX5_stand cX5_stand 2 (some .int) :: lw_u
theorem mv_X5_stand : Cond.instanceMethod yX5_stand ∈ lw_u ∧ Cond.selects yX5_stand.cls yX5_stand yX5_stand ∈ lw_u ∧ Cond.initialized yX5_stand.cls ∈ lw_u ∧ Cond.code yX5_stand cX5_stand 2 (some .int) ∈ lw_u := ⟨uw_697, uw_698, uw_6, uw_699⟩
theorem hd_X5_stand : yX5_stand.cls ≠ "java/lang/invoke/MethodHandle" ∧ yX5_stand.cls ≠ "java/lang/invoke/VarHandle" ∧ (parseMethodDescriptor yX5_stand.desc).map (fun d => d.parameters.length) = some 1 := by decide +kernel
section
variable {l : Launch} {D : va_G} {cI cZ cL cR : ClassId} {B : Nat}
set_option maxRecDepth 100000 in
set_option maxHeartbeats 4000000 in
theorem c_X5_stand {τ σ τ' : Mem} {p1 : Int32} {r : Int32}  (hf : f_X5_stand τ p1 = some (r, τ')) : lm_CI l yX5_stand wsX5_stand rmX5_stand D cI cZ cL cR B [.ref (B + 140), .int p1] σ τ r σ τ' := by
  unfold f_X5_stand at hf
  refine lm_of (cc := cX5_stand) (maxL := 2) (ret := (some .int)) (own := RX5) (by decide) rfl (Nat.le_of_ble_eq_true rfl) (fun p e s m below meth c0 C0 hR ls hl => ?_)
  have hS : va_S (lm_A B) s.heap s.heap [] := va_S.rf
  have hl : lv_has ls 2 [(0, .ref (B + 140)), (1, .int p1)] := hl
  obtain ⟨hx, hb, hml, hr, hlk, hown, hts, hK, hX⟩ := id C0
  refine lv_aload_n hx hb dX5_stand_0 rfl (lv_at hl 0 rfl) ?_
  refine lv_iconst (v := (0 : Int32)) hx hb dX5_stand_1 (by decide) ?_
  obtain ⟨τ1, eτ1, hf⟩ := lm_nm_e hf
  refine lm_putM C0 hR hS (by decide) cell_140 rfl lw_in_X5 tyX5 tyX5_ok nmX5 0 (by decide) uw_508 rfl rfl rfl rfl rfl (Nat.le_of_ble_eq_true rfl) eτ1 cell_140u dX5_stand_2 (fun H locs hR hS => ?_)
  refine lv_aload_n hx hb dX5_stand_5 rfl (lv_at hl 0 rfl) ?_
  obtain ⟨r3, u2, hf⟩ := lm_bd_e hf
  refine lm_endi (lm_runV C0 hR hS (c_X5_isThere u2) (lw_cV 0 hts uw_625 mv_X5_isThere rfl rfl hd_X5_isThere ⟨Nat.le_of_ble_eq_true rfl, Nat.le_of_ble_eq_true rfl⟩) (by decide) cell_140 rfl rfl hl rfl (Nat.le_of_ble_eq_true rfl) dX5_stand_6) hS (fun H locs hR hS => ?_)
  refine lv_if_ne (tgt := 15) hx hb dX5_stand_9 (by decide) (fun b5 => ?_) (fun b5 => ?_)
  · have hf := lm_F b5 hf
    refine lv_iload_n hx hb dX5_stand_15 rfl (lv_at hl 1 rfl) ?_
    by_cases b6 : p1 = (0 : Int32)
    · have hf := lm_T b6 hf
      refine lv_tableIn (off := 44) (tgt := 60) hx hb dX5_stand_16 (by rw [b6]; decide) (by rw [b6]; decide) (by rw [b6]; decide) (by decide) ?_
      refine lv_aload_n hx hb dX5_stand_60 rfl (lv_at hl 0 rfl) ?_
      refine lm_get C0 hR (by decide) cell_140 rfl lw_in_X5 5 (by decide) uw_513 rfl rfl dX5_stand_61 ?_
      refine lv_iload_n hx hb dX5_stand_64 rfl (lv_at hl 1 rfl) ?_
      obtain ⟨r8, u7, hf⟩ := lm_bd_e hf
      refine lm_endi (lm_runS C0 hR hS (c_X5_seenBy isM_144 u7) (lw_cS 2 hts uw_648 mv_X5_seenBy rfl rfl hd_X5_seenBy ⟨Nat.le_of_ble_eq_true rfl, Nat.le_of_ble_eq_true rfl⟩) rfl hl rfl (Nat.le_of_ble_eq_true rfl) dX5_stand_65) hS (fun H locs hR hS => ?_)
      exact lm_riM C0 hR hS hf dX5_stand_68
    have hf := lm_F b6 hf
    by_cases b10 : p1 = (1 : Int32)
    · have hf := lm_T b10 hf
      refine lv_tableIn (off := 44) (tgt := 60) hx hb dX5_stand_16 (by rw [b10]; decide) (by rw [b10]; decide) (by rw [b10]; decide) (by decide) ?_
      refine lv_aload_n hx hb dX5_stand_60 rfl (lv_at hl 0 rfl) ?_
      refine lm_get C0 hR (by decide) cell_140 rfl lw_in_X5 5 (by decide) uw_513 rfl rfl dX5_stand_61 ?_
      refine lv_iload_n hx hb dX5_stand_64 rfl (lv_at hl 1 rfl) ?_
      obtain ⟨r12, u11, hf⟩ := lm_bd_e hf
      refine lm_endi (lm_runS C0 hR hS (c_X5_seenBy isM_144 u11) (lw_cS 2 hts uw_648 mv_X5_seenBy rfl rfl hd_X5_seenBy ⟨Nat.le_of_ble_eq_true rfl, Nat.le_of_ble_eq_true rfl⟩) rfl hl rfl (Nat.le_of_ble_eq_true rfl) dX5_stand_65) hS (fun H locs hR hS => ?_)
      exact lm_riM C0 hR hS hf dX5_stand_68
    have hf := lm_F b10 hf
    by_cases b14 : p1 = (2 : Int32)
    · have hf := lm_T b14 hf
      refine lv_tableIn (off := 53) (tgt := 69) hx hb dX5_stand_16 (by rw [b14]; decide) (by rw [b14]; decide) (by rw [b14]; decide) (by decide) ?_
      refine lv_aload_n hx hb dX5_stand_69 rfl (lv_at hl 0 rfl) ?_
      refine lm_get C0 hR (by decide) cell_140 rfl lw_in_X5 5 (by decide) uw_513 rfl rfl dX5_stand_70 ?_
      obtain ⟨r16, u15, hf⟩ := lm_bd_e hf
      refine lm_endi (lm_runS C0 hR hS (c_X5_differ isM_144 u15) (lw_cS 1 hts uw_645 mv_X5_differ rfl rfl hd_X5_differ ⟨Nat.le_of_ble_eq_true rfl, Nat.le_of_ble_eq_true rfl⟩) rfl hl rfl (Nat.le_of_ble_eq_true rfl) dX5_stand_73) hS (fun H locs hR hS => ?_)
      exact lm_riM C0 hR hS hf dX5_stand_76
    have hf := lm_F b14 hf
    by_cases b18 : p1 = (3 : Int32)
    · have hf := lm_T b18 hf
      refine lv_tableIn (off := 61) (tgt := 77) hx hb dX5_stand_16 (by rw [b18]; decide) (by rw [b18]; decide) (by rw [b18]; decide) (by decide) ?_
      refine lv_aload_n hx hb dX5_stand_77 rfl (lv_at hl 0 rfl) ?_
      refine lm_get C0 hR (by decide) cell_140 rfl lw_in_X5 5 (by decide) uw_513 rfl rfl dX5_stand_78 ?_
      refine lv_iconst (v := (3 : Int32)) hx hb dX5_stand_81 (by decide) ?_
      obtain ⟨z19, hf⟩ := lm_ck_e hf
      refine lm_ild C0 hR (by decide) cell_144 z19 dX5_stand_82 ?_
      exact lm_riM C0 hR hS hf dX5_stand_83
    have hf := lm_F b18 hf
    by_cases b20 : p1 = (4 : Int32)
    · have hf := lm_T b20 hf
      refine lv_tableIn (off := 68) (tgt := 84) hx hb dX5_stand_16 (by rw [b20]; decide) (by rw [b20]; decide) (by rw [b20]; decide) (by decide) ?_
      refine lv_aload_n hx hb dX5_stand_84 rfl (lv_at hl 0 rfl) ?_
      refine lm_get C0 hR (by decide) cell_140 rfl lw_in_X5 5 (by decide) uw_513 rfl rfl dX5_stand_85 ?_
      refine lv_iconst (v := (4 : Int32)) hx hb dX5_stand_88 (by decide) ?_
      obtain ⟨z21, hf⟩ := lm_ck_e hf
      refine lm_ild C0 hR (by decide) cell_144 z21 dX5_stand_89 ?_
      exact lm_riM C0 hR hS hf dX5_stand_90
    have hf := lm_F b20 hf
    by_cases b22 : p1 = (5 : Int32)
    · have hf := lm_T b22 hf
      refine lv_tableIn (off := 75) (tgt := 91) hx hb dX5_stand_16 (by rw [b22]; decide) (by rw [b22]; decide) (by rw [b22]; decide) (by decide) ?_
      refine lv_aload_n hx hb dX5_stand_91 rfl (lv_at hl 0 rfl) ?_
      refine lm_get C0 hR (by decide) cell_140 rfl lw_in_X5 5 (by decide) uw_513 rfl rfl dX5_stand_92 ?_
      refine lv_iconst (v := (2 : Int32)) hx hb dX5_stand_95 (by decide) ?_
      obtain ⟨z23, hf⟩ := lm_ck_e hf
      refine lm_ild C0 hR (by decide) cell_144 z23 dX5_stand_96 ?_
      exact lm_riM C0 hR hS hf dX5_stand_97
    have hf := lm_F b22 hf
    by_cases b24 : p1 = (6 : Int32)
    · have hf := lm_T b24 hf
      refine lv_tableIn (off := 82) (tgt := 98) hx hb dX5_stand_16 (by rw [b24]; decide) (by rw [b24]; decide) (by rw [b24]; decide) (by decide) ?_
      refine lv_aload_n hx hb dX5_stand_98 rfl (lv_at hl 0 rfl) ?_
      refine lm_get C0 hR (by decide) cell_140 rfl lw_in_X5 5 (by decide) uw_513 rfl rfl dX5_stand_99 ?_
      refine lv_aload_n hx hb dX5_stand_102 rfl (lv_at hl 0 rfl) ?_
      refine lm_get C0 hR (by decide) cell_140 rfl lw_in_X5 5 (by decide) uw_513 rfl rfl dX5_stand_103 ?_
      refine lv_iconst (v := (5 : Int32)) hx hb dX5_stand_106 (by decide) ?_
      obtain ⟨z25, hf⟩ := lm_ck_e hf
      refine lm_ild C0 hR (by decide) cell_144 z25 dX5_stand_107 ?_
      obtain ⟨r27, u26, hf⟩ := lm_bd_e hf
      refine lm_endi (lm_runS C0 hR hS (c_X5_thickOf isM_144 u26) (lw_cS 2 hts uw_642 mv_X5_thickOf rfl rfl hd_X5_thickOf ⟨Nat.le_of_ble_eq_true rfl, Nat.le_of_ble_eq_true rfl⟩) rfl hl rfl (Nat.le_of_ble_eq_true rfl) dX5_stand_108) hS (fun H locs hR hS => ?_)
      exact lm_riM C0 hR hS hf dX5_stand_111
    have hf := lm_F b24 hf
    refine lv_tableOut (tgt := 112) hx hb dX5_stand_16 (by have qb6 := lv_neT b6 (a := 0) (by decide); have qb10 := lv_neT b10 (a := 1) (by decide); have qb14 := lv_neT b14 (a := 2) (by decide); have qb18 := lv_neT b18 (a := 3) (by decide); have qb20 := lv_neT b20 (a := 4) (by decide); have qb22 := lv_neT b22 (a := 5) (by decide); have qb24 := lv_neT b24 (a := 6) (by decide); omega) (by decide) ?_
    refine lv_ldc hx hb hown (hts _ uw_548) dX5_stand_112 ?_
    exact lm_riM C0 hR hS hf dX5_stand_114
  · have hf := lm_T b5 hf
    refine lv_ldc hx hb hown (hts _ uw_628) dX5_stand_12 ?_
    exact lm_riM C0 hR hS hf dX5_stand_14
end
/-! ===== X5_thick ===== -/
abbrev rmX5_thick : Room := { frames := 1, cells := 0, slots := 0, locals := 25 }
def f_X5_thick (τ : Mem) (p1 : Int32) : Option (Int32 × Mem) := lm_nm (up τ 140 0 (0 : Int32)) fun τ1 => lm_bd (f_X5_isThere τ1) fun r3 => if r3 = 0 then (some ((-1000002 : Int32), τ1)) else (lm_bd (f_X5_in p1.toInt64 (0 : Int64) (60 : Int64)) fun r7 => if r7 = 0 then (some ((-1000001 : Int32), τ1)) else (lm_ck (lm_in (5 : Int32) 24) (lm_bd (f_X5_thickOf 144 τ1 ((τ1 144 (5 : Int32).toNatClampNeg) + p1)) fun r12 => some (r12, τ1))))
abbrev wsX5_thick : List Cond := Cond.code yX5_thick cX5_thick 2 (some .int) :: lw_u
theorem mv_X5_thick : Cond.instanceMethod yX5_thick ∈ lw_u ∧ Cond.selects yX5_thick.cls yX5_thick yX5_thick ∈ lw_u ∧ Cond.initialized yX5_thick.cls ∈ lw_u ∧ Cond.code yX5_thick cX5_thick 2 (some .int) ∈ lw_u := ⟨uw_701, uw_702, uw_6, uw_703⟩
theorem hd_X5_thick : yX5_thick.cls ≠ "java/lang/invoke/MethodHandle" ∧ yX5_thick.cls ≠ "java/lang/invoke/VarHandle" ∧ (parseMethodDescriptor yX5_thick.desc).map (fun d => d.parameters.length) = some 1 := by decide +kernel
section
variable {l : Launch} {D : va_G} {cI cZ cL cR : ClassId} {B : Nat}
set_option maxRecDepth 100000 in
set_option maxHeartbeats 4000000 in
theorem c_X5_thick {τ σ τ' : Mem} {p1 : Int32} {r : Int32}  (hf : f_X5_thick τ p1 = some (r, τ')) : lm_CI l yX5_thick wsX5_thick rmX5_thick D cI cZ cL cR B [.ref (B + 140), .int p1] σ τ r σ τ' := by
  unfold f_X5_thick at hf
  refine lm_of (cc := cX5_thick) (maxL := 2) (ret := (some .int)) (own := RX5) (by decide) rfl (Nat.le_of_ble_eq_true rfl) (fun p e s m below meth c0 C0 hR ls hl => ?_)
  have hS : va_S (lm_A B) s.heap s.heap [] := va_S.rf
  have hl : lv_has ls 2 [(0, .ref (B + 140)), (1, .int p1)] := hl
  obtain ⟨hx, hb, hml, hr, hlk, hown, hts, hK, hX⟩ := id C0
  refine lv_aload_n hx hb dX5_thick_0 rfl (lv_at hl 0 rfl) ?_
  refine lv_iconst (v := (0 : Int32)) hx hb dX5_thick_1 (by decide) ?_
  obtain ⟨τ1, eτ1, hf⟩ := lm_nm_e hf
  refine lm_putM C0 hR hS (by decide) cell_140 rfl lw_in_X5 tyX5 tyX5_ok nmX5 0 (by decide) uw_508 rfl rfl rfl rfl rfl (Nat.le_of_ble_eq_true rfl) eτ1 cell_140u dX5_thick_2 (fun H locs hR hS => ?_)
  refine lv_aload_n hx hb dX5_thick_5 rfl (lv_at hl 0 rfl) ?_
  obtain ⟨r3, u2, hf⟩ := lm_bd_e hf
  refine lm_endi (lm_runV C0 hR hS (c_X5_isThere u2) (lw_cV 0 hts uw_625 mv_X5_isThere rfl rfl hd_X5_isThere ⟨Nat.le_of_ble_eq_true rfl, Nat.le_of_ble_eq_true rfl⟩) (by decide) cell_140 rfl rfl hl rfl (Nat.le_of_ble_eq_true rfl) dX5_thick_6) hS (fun H locs hR hS => ?_)
  refine lv_if_ne (tgt := 15) hx hb dX5_thick_9 (by decide) (fun b5 => ?_) (fun b5 => ?_)
  · have hf := lm_F b5 hf
    refine lv_iload_n hx hb dX5_thick_15 rfl (lv_at hl 1 rfl) ?_
    refine lv_i2l hx hb dX5_thick_16 rfl ?_
    refine lv_lconst (v := (0 : Int64)) hx hb dX5_thick_17 (by decide) ?_
    refine lv_ldc2 hx hb hown (hts _ uw_661) dX5_thick_18 ?_
    obtain ⟨r7, u6, hf⟩ := lm_bd_e hf
    refine lm_endi (lm_runS C0 hR hS (c_X5_in u6) (lw_cS 3 hts uw_544 mv_X5_in rfl rfl hd_X5_in ⟨Nat.le_of_ble_eq_true rfl, Nat.le_of_ble_eq_true rfl⟩) rfl hl rfl (Nat.le_of_ble_eq_true rfl) dX5_thick_21) hS (fun H locs hR hS => ?_)
    refine lv_if_eq (tgt := 45) hx hb dX5_thick_24 (by decide) (fun b9 => ?_) (fun b9 => ?_)
    · have hf := lm_T b9 hf
      refine lv_ldc hx hb hown (hts _ uw_548) dX5_thick_45 ?_
      exact lm_riM C0 hR hS hf dX5_thick_47
    · have hf := lm_F b9 hf
      refine lv_aload_n hx hb dX5_thick_27 rfl (lv_at hl 0 rfl) ?_
      refine lm_get C0 hR (by decide) cell_140 rfl lw_in_X5 5 (by decide) uw_513 rfl rfl dX5_thick_28 ?_
      refine lv_aload_n hx hb dX5_thick_31 rfl (lv_at hl 0 rfl) ?_
      refine lm_get C0 hR (by decide) cell_140 rfl lw_in_X5 5 (by decide) uw_513 rfl rfl dX5_thick_32 ?_
      refine lv_iconst (v := (5 : Int32)) hx hb dX5_thick_35 (by decide) ?_
      obtain ⟨z10, hf⟩ := lm_ck_e hf
      refine lm_ild C0 hR (by decide) cell_144 z10 dX5_thick_36 ?_
      refine lv_iload_n hx hb dX5_thick_37 rfl (lv_at hl 1 rfl) ?_
      refine lv_iadd hx hb dX5_thick_38 ?_
      obtain ⟨r12, u11, hf⟩ := lm_bd_e hf
      refine lm_endi (lm_runS C0 hR hS (c_X5_thickOf isM_144 u11) (lw_cS 2 hts uw_642 mv_X5_thickOf rfl rfl hd_X5_thickOf ⟨Nat.le_of_ble_eq_true rfl, Nat.le_of_ble_eq_true rfl⟩) rfl hl rfl (Nat.le_of_ble_eq_true rfl) dX5_thick_39) hS (fun H locs hR hS => ?_)
      refine lv_goto (tgt := 47) hx hb dX5_thick_42 (by decide) ?_
      exact lm_riM C0 hR hS hf dX5_thick_47
  · have hf := lm_T b5 hf
    refine lv_ldc hx hb hown (hts _ uw_628) dX5_thick_12 ?_
    exact lm_riM C0 hR hS hf dX5_thick_14
end
/-! ===== X5_ahead ===== -/
abbrev rmX5_ahead : Room := { frames := 4, cells := 0, slots := 0, locals := 89 }
def f_X5_ahead (τ : Mem) (p1 : Int32) (p2 : Int32) (p3 : Int32) : Option (Int32 × Mem) := lm_nm (up τ 140 0 (0 : Int32)) fun τ1 => lm_bd (f_X5_isShip τ1 p1) fun r3 => if r3 = 0 then (some ((-1000001 : Int32), τ1)) else (lm_bd (f_X5_in p2.toInt64 (0 : Int64) (60 : Int64)) fun r7 => if r7 = 0 then (some ((-1000001 : Int32), τ1)) else (lm_bd (f_X5_in p3.toInt64 (0 : Int64) (1 : Int64)) fun r11 => if r11 = 0 then (some ((-1000001 : Int32), τ1)) else (lm_bd (f_X5_layThen τ1) fun τ16 => lm_bd (f_X5_watchesOf 146 τ16 p2) fun τ19 => if p3 = 0 then (lm_bd (f_X5_of 146 τ19 p1 (1 : Int32)) fun r25 => some (r25, τ19)) else (lm_bd (f_X5_loggedOf 146 τ19 p1) fun r22 => some (r22, τ19)))))
abbrev wsX5_ahead : List Cond := Cond.code yX5_ahead cX5_ahead 4 (some .int) :: lw_u
theorem mv_X5_ahead : Cond.instanceMethod yX5_ahead ∈ lw_u ∧ Cond.selects yX5_ahead.cls yX5_ahead yX5_ahead ∈ lw_u ∧ Cond.initialized yX5_ahead.cls ∈ lw_u ∧ Cond.code yX5_ahead cX5_ahead 4 (some .int) ∈ lw_u := ⟨uw_705, uw_706, uw_6, uw_707⟩
theorem hd_X5_ahead : yX5_ahead.cls ≠ "java/lang/invoke/MethodHandle" ∧ yX5_ahead.cls ≠ "java/lang/invoke/VarHandle" ∧ (parseMethodDescriptor yX5_ahead.desc).map (fun d => d.parameters.length) = some 3 := by decide +kernel
section
variable {l : Launch} {D : va_G} {cI cZ cL cR : ClassId} {B : Nat}
set_option maxRecDepth 100000 in
set_option maxHeartbeats 4000000 in
theorem c_X5_ahead {τ σ τ' : Mem} {p1 : Int32} {p2 : Int32} {p3 : Int32} {r : Int32}  (hf : f_X5_ahead τ p1 p2 p3 = some (r, τ')) : lm_CI l yX5_ahead wsX5_ahead rmX5_ahead D cI cZ cL cR B [.ref (B + 140), .int p1, .int p2, .int p3] σ τ r σ τ' := by
  unfold f_X5_ahead at hf
  refine lm_of (cc := cX5_ahead) (maxL := 4) (ret := (some .int)) (own := RX5) (by decide) rfl (Nat.le_of_ble_eq_true rfl) (fun p e s m below meth c0 C0 hR ls hl => ?_)
  have hS : va_S (lm_A B) s.heap s.heap [] := va_S.rf
  have hl : lv_has ls 4 [(0, .ref (B + 140)), (1, .int p1), (2, .int p2), (3, .int p3)] := hl
  obtain ⟨hx, hb, hml, hr, hlk, hown, hts, hK, hX⟩ := id C0
  refine lv_aload_n hx hb dX5_ahead_0 rfl (lv_at hl 0 rfl) ?_
  refine lv_iconst (v := (0 : Int32)) hx hb dX5_ahead_1 (by decide) ?_
  obtain ⟨τ1, eτ1, hf⟩ := lm_nm_e hf
  refine lm_putM C0 hR hS (by decide) cell_140 rfl lw_in_X5 tyX5 tyX5_ok nmX5 0 (by decide) uw_508 rfl rfl rfl rfl rfl (Nat.le_of_ble_eq_true rfl) eτ1 cell_140u dX5_ahead_2 (fun H locs hR hS => ?_)
  refine lv_aload_n hx hb dX5_ahead_5 rfl (lv_at hl 0 rfl) ?_
  refine lv_iload_n hx hb dX5_ahead_6 rfl (lv_at hl 1 rfl) ?_
  obtain ⟨r3, u2, hf⟩ := lm_bd_e hf
  refine lm_endi (lm_runV C0 hR hS (c_X5_isShip u2) (lw_cV 1 hts uw_682 mv_X5_isShip rfl rfl hd_X5_isShip ⟨Nat.le_of_ble_eq_true rfl, Nat.le_of_ble_eq_true rfl⟩) (by decide) cell_140 rfl rfl hl rfl (Nat.le_of_ble_eq_true rfl) dX5_ahead_7) hS (fun H locs hR hS => ?_)
  refine lv_if_eq (tgt := 35) hx hb dX5_ahead_10 (by decide) (fun b5 => ?_) (fun b5 => ?_)
  · have hf := lm_T b5 hf
    refine lv_ldc hx hb hown (hts _ uw_548) dX5_ahead_35 ?_
    exact lm_riM C0 hR hS hf dX5_ahead_37
  · have hf := lm_F b5 hf
    refine lv_iload_n hx hb dX5_ahead_13 rfl (lv_at hl 2 rfl) ?_
    refine lv_i2l hx hb dX5_ahead_14 rfl ?_
    refine lv_lconst (v := (0 : Int64)) hx hb dX5_ahead_15 (by decide) ?_
    refine lv_ldc2 hx hb hown (hts _ uw_661) dX5_ahead_16 ?_
    obtain ⟨r7, u6, hf⟩ := lm_bd_e hf
    refine lm_endi (lm_runS C0 hR hS (c_X5_in u6) (lw_cS 3 hts uw_544 mv_X5_in rfl rfl hd_X5_in ⟨Nat.le_of_ble_eq_true rfl, Nat.le_of_ble_eq_true rfl⟩) rfl hl rfl (Nat.le_of_ble_eq_true rfl) dX5_ahead_19) hS (fun H locs hR hS => ?_)
    refine lv_if_eq (tgt := 35) hx hb dX5_ahead_22 (by decide) (fun b9 => ?_) (fun b9 => ?_)
    · have hf := lm_T b9 hf
      refine lv_ldc hx hb hown (hts _ uw_548) dX5_ahead_35 ?_
      exact lm_riM C0 hR hS hf dX5_ahead_37
    · have hf := lm_F b9 hf
      refine lv_iload_n hx hb dX5_ahead_25 rfl (lv_at hl 3 rfl) ?_
      refine lv_i2l hx hb dX5_ahead_26 rfl ?_
      refine lv_lconst (v := (0 : Int64)) hx hb dX5_ahead_27 (by decide) ?_
      refine lv_lconst (v := (1 : Int64)) hx hb dX5_ahead_28 (by decide) ?_
      obtain ⟨r11, u10, hf⟩ := lm_bd_e hf
      refine lm_endi (lm_runS C0 hR hS (c_X5_in u10) (lw_cS 3 hts uw_544 mv_X5_in rfl rfl hd_X5_in ⟨Nat.le_of_ble_eq_true rfl, Nat.le_of_ble_eq_true rfl⟩) rfl hl rfl (Nat.le_of_ble_eq_true rfl) dX5_ahead_29) hS (fun H locs hR hS => ?_)
      refine lv_if_ne (tgt := 38) hx hb dX5_ahead_32 (by decide) (fun b13 => ?_) (fun b13 => ?_)
      · have hf := lm_F b13 hf
        refine lv_aload_n hx hb dX5_ahead_38 rfl (lv_at hl 0 rfl) ?_
        obtain ⟨τ16, u14, hf⟩ := lm_bd_e hf
        refine lm_endv (lm_runV C0 hR hS (c_X5_layThen u14) (lw_cV 0 hts uw_708 mv_X5_layThen rfl rfl hd_X5_layThen ⟨Nat.le_of_ble_eq_true rfl, Nat.le_of_ble_eq_true rfl⟩) (by decide) cell_140 rfl rfl hl rfl (Nat.le_of_ble_eq_true rfl) dX5_ahead_39) hS (fun H locs hR hS => ?_)
        refine lv_aload_n hx hb dX5_ahead_42 rfl (lv_at hl 0 rfl) ?_
        refine lm_get C0 hR (by decide) cell_140 rfl lw_in_X5 7 (by decide) uw_515 rfl rfl dX5_ahead_43 ?_
        refine lv_iload_n hx hb dX5_ahead_46 rfl (lv_at hl 2 rfl) ?_
        obtain ⟨τ19, u17, hf⟩ := lm_bd_e hf
        refine lm_endv (lm_runS C0 hR hS (c_X5_watchesOf isM_146 u17) (lw_cS 2 hts uw_711 mv_X5_watchesOf rfl rfl hd_X5_watchesOf ⟨Nat.le_of_ble_eq_true rfl, Nat.le_of_ble_eq_true rfl⟩) rfl hl rfl (Nat.le_of_ble_eq_true rfl) dX5_ahead_47) hS (fun H locs hR hS => ?_)
        refine lv_iload_n hx hb dX5_ahead_50 rfl (lv_at hl 3 rfl) ?_
        refine lv_if_ne (tgt := 66) hx hb dX5_ahead_51 (by decide) (fun b20 => ?_) (fun b20 => ?_)
        · have hf := lm_F b20 hf
          refine lv_aload_n hx hb dX5_ahead_66 rfl (lv_at hl 0 rfl) ?_
          refine lm_get C0 hR (by decide) cell_140 rfl lw_in_X5 7 (by decide) uw_515 rfl rfl dX5_ahead_67 ?_
          refine lv_iload_n hx hb dX5_ahead_70 rfl (lv_at hl 1 rfl) ?_
          obtain ⟨r22, u21, hf⟩ := lm_bd_e hf
          refine lm_endi (lm_runS C0 hR hS (c_X5_loggedOf isM_146 u21) (lw_cS 2 hts uw_651 mv_X5_loggedOf rfl rfl hd_X5_loggedOf ⟨Nat.le_of_ble_eq_true rfl, Nat.le_of_ble_eq_true rfl⟩) rfl hl rfl (Nat.le_of_ble_eq_true rfl) dX5_ahead_71) hS (fun H locs hR hS => ?_)
          exact lm_riM C0 hR hS hf dX5_ahead_74
        · have hf := lm_T b20 hf
          refine lv_aload_n hx hb dX5_ahead_54 rfl (lv_at hl 0 rfl) ?_
          refine lm_get C0 hR (by decide) cell_140 rfl lw_in_X5 7 (by decide) uw_515 rfl rfl dX5_ahead_55 ?_
          refine lv_iload_n hx hb dX5_ahead_58 rfl (lv_at hl 1 rfl) ?_
          refine lv_iconst (v := (1 : Int32)) hx hb dX5_ahead_59 (by decide) ?_
          obtain ⟨r25, u24, hf⟩ := lm_bd_e hf
          refine lm_endi (lm_runS C0 hR hS (c_X5_of isM_146 u24) (lw_cS 3 hts uw_639 mv_X5_of rfl rfl hd_X5_of ⟨Nat.le_of_ble_eq_true rfl, Nat.le_of_ble_eq_true rfl⟩) rfl hl rfl (Nat.le_of_ble_eq_true rfl) dX5_ahead_60) hS (fun H locs hR hS => ?_)
          refine lv_goto (tgt := 74) hx hb dX5_ahead_63 (by decide) ?_
          exact lm_riM C0 hR hS hf dX5_ahead_74
      · have hf := lm_T b13 hf
        refine lv_ldc hx hb hown (hts _ uw_548) dX5_ahead_35 ?_
        exact lm_riM C0 hR hS hf dX5_ahead_37
end
/-! ===== X5_written ===== -/
abbrev rmX5_written : Room := { frames := 4, cells := 0, slots := 0, locals := 90 }
def f_X5_written (τ : Mem) (p1 : Int32) (p2 : Int32) : Option (Int32 × Mem) := lm_nm (up τ 140 0 (0 : Int32)) fun τ1 => lm_bd (f_X5_isThere τ1) fun r3 => if r3 = 0 then (some ((-1000002 : Int32), τ1)) else (lm_bd (f_X5_in p1.toInt64 (0 : Int64) (60 : Int64)) fun r7 => if r7 = 0 then (some ((-1000001 : Int32), τ1)) else (lm_bd (f_X5_in p2.toInt64 (0 : Int64) (3 : Int64)) fun r11 => if r11 = 0 then (some ((-1000001 : Int32), τ1)) else (lm_bd (f_X5_layThen τ1) fun τ16 => lm_bd (f_X5_watchesOf 146 τ16 p1) fun τ19 => if (2 : Int32) ≤ p2 then (if p2 = (2 : Int32) then (lm_bd (f_X5_differ 146 τ19) fun r24 => some (r24, τ19)) else (lm_ck (lm_in (4 : Int32) 24) (some ((τ19 146 (4 : Int32).toNatClampNeg), τ19)))) else (lm_bd (f_X5_seenBy 146 τ19 p2) fun r27 => some (r27, τ19)))))
abbrev wsX5_written : List Cond := Cond.code yX5_written cX5_written 3 (some .int) :: lw_u
theorem mv_X5_written : Cond.instanceMethod yX5_written ∈ lw_u ∧ Cond.selects yX5_written.cls yX5_written yX5_written ∈ lw_u ∧ Cond.initialized yX5_written.cls ∈ lw_u ∧ Cond.code yX5_written cX5_written 3 (some .int) ∈ lw_u := ⟨uw_715, uw_716, uw_6, uw_717⟩
theorem hd_X5_written : yX5_written.cls ≠ "java/lang/invoke/MethodHandle" ∧ yX5_written.cls ≠ "java/lang/invoke/VarHandle" ∧ (parseMethodDescriptor yX5_written.desc).map (fun d => d.parameters.length) = some 2 := by decide +kernel
section
variable {l : Launch} {D : va_G} {cI cZ cL cR : ClassId} {B : Nat}
set_option maxRecDepth 100000 in
set_option maxHeartbeats 4000000 in
theorem c_X5_written {τ σ τ' : Mem} {p1 : Int32} {p2 : Int32} {r : Int32}  (hf : f_X5_written τ p1 p2 = some (r, τ')) : lm_CI l yX5_written wsX5_written rmX5_written D cI cZ cL cR B [.ref (B + 140), .int p1, .int p2] σ τ r σ τ' := by
  unfold f_X5_written at hf
  refine lm_of (cc := cX5_written) (maxL := 3) (ret := (some .int)) (own := RX5) (by decide) rfl (Nat.le_of_ble_eq_true rfl) (fun p e s m below meth c0 C0 hR ls hl => ?_)
  have hS : va_S (lm_A B) s.heap s.heap [] := va_S.rf
  have hl : lv_has ls 3 [(0, .ref (B + 140)), (1, .int p1), (2, .int p2)] := hl
  obtain ⟨hx, hb, hml, hr, hlk, hown, hts, hK, hX⟩ := id C0
  refine lv_aload_n hx hb dX5_written_0 rfl (lv_at hl 0 rfl) ?_
  refine lv_iconst (v := (0 : Int32)) hx hb dX5_written_1 (by decide) ?_
  obtain ⟨τ1, eτ1, hf⟩ := lm_nm_e hf
  refine lm_putM C0 hR hS (by decide) cell_140 rfl lw_in_X5 tyX5 tyX5_ok nmX5 0 (by decide) uw_508 rfl rfl rfl rfl rfl (Nat.le_of_ble_eq_true rfl) eτ1 cell_140u dX5_written_2 (fun H locs hR hS => ?_)
  refine lv_aload_n hx hb dX5_written_5 rfl (lv_at hl 0 rfl) ?_
  obtain ⟨r3, u2, hf⟩ := lm_bd_e hf
  refine lm_endi (lm_runV C0 hR hS (c_X5_isThere u2) (lw_cV 0 hts uw_625 mv_X5_isThere rfl rfl hd_X5_isThere ⟨Nat.le_of_ble_eq_true rfl, Nat.le_of_ble_eq_true rfl⟩) (by decide) cell_140 rfl rfl hl rfl (Nat.le_of_ble_eq_true rfl) dX5_written_6) hS (fun H locs hR hS => ?_)
  refine lv_if_ne (tgt := 15) hx hb dX5_written_9 (by decide) (fun b5 => ?_) (fun b5 => ?_)
  · have hf := lm_F b5 hf
    refine lv_iload_n hx hb dX5_written_15 rfl (lv_at hl 1 rfl) ?_
    refine lv_i2l hx hb dX5_written_16 rfl ?_
    refine lv_lconst (v := (0 : Int64)) hx hb dX5_written_17 (by decide) ?_
    refine lv_ldc2 hx hb hown (hts _ uw_661) dX5_written_18 ?_
    obtain ⟨r7, u6, hf⟩ := lm_bd_e hf
    refine lm_endi (lm_runS C0 hR hS (c_X5_in u6) (lw_cS 3 hts uw_544 mv_X5_in rfl rfl hd_X5_in ⟨Nat.le_of_ble_eq_true rfl, Nat.le_of_ble_eq_true rfl⟩) rfl hl rfl (Nat.le_of_ble_eq_true rfl) dX5_written_21) hS (fun H locs hR hS => ?_)
    refine lv_if_eq (tgt := 39) hx hb dX5_written_24 (by decide) (fun b9 => ?_) (fun b9 => ?_)
    · have hf := lm_T b9 hf
      refine lv_ldc hx hb hown (hts _ uw_548) dX5_written_39 ?_
      exact lm_riM C0 hR hS hf dX5_written_41
    · have hf := lm_F b9 hf
      refine lv_iload_n hx hb dX5_written_27 rfl (lv_at hl 2 rfl) ?_
      refine lv_i2l hx hb dX5_written_28 rfl ?_
      refine lv_lconst (v := (0 : Int64)) hx hb dX5_written_29 (by decide) ?_
      refine lv_ldc2 hx hb hown (hts _ uw_718) dX5_written_30 ?_
      obtain ⟨r11, u10, hf⟩ := lm_bd_e hf
      refine lm_endi (lm_runS C0 hR hS (c_X5_in u10) (lw_cS 3 hts uw_544 mv_X5_in rfl rfl hd_X5_in ⟨Nat.le_of_ble_eq_true rfl, Nat.le_of_ble_eq_true rfl⟩) rfl hl rfl (Nat.le_of_ble_eq_true rfl) dX5_written_33) hS (fun H locs hR hS => ?_)
      refine lv_if_ne (tgt := 42) hx hb dX5_written_36 (by decide) (fun b13 => ?_) (fun b13 => ?_)
      · have hf := lm_F b13 hf
        refine lv_aload_n hx hb dX5_written_42 rfl (lv_at hl 0 rfl) ?_
        obtain ⟨τ16, u14, hf⟩ := lm_bd_e hf
        refine lm_endv (lm_runV C0 hR hS (c_X5_layThen u14) (lw_cV 0 hts uw_708 mv_X5_layThen rfl rfl hd_X5_layThen ⟨Nat.le_of_ble_eq_true rfl, Nat.le_of_ble_eq_true rfl⟩) (by decide) cell_140 rfl rfl hl rfl (Nat.le_of_ble_eq_true rfl) dX5_written_43) hS (fun H locs hR hS => ?_)
        refine lv_aload_n hx hb dX5_written_46 rfl (lv_at hl 0 rfl) ?_
        refine lm_get C0 hR (by decide) cell_140 rfl lw_in_X5 7 (by decide) uw_515 rfl rfl dX5_written_47 ?_
        refine lv_iload_n hx hb dX5_written_50 rfl (lv_at hl 1 rfl) ?_
        obtain ⟨τ19, u17, hf⟩ := lm_bd_e hf
        refine lm_endv (lm_runS C0 hR hS (c_X5_watchesOf isM_146 u17) (lw_cS 2 hts uw_711 mv_X5_watchesOf rfl rfl hd_X5_watchesOf ⟨Nat.le_of_ble_eq_true rfl, Nat.le_of_ble_eq_true rfl⟩) rfl hl rfl (Nat.le_of_ble_eq_true rfl) dX5_written_51) hS (fun H locs hR hS => ?_)
        refine lv_iload_n hx hb dX5_written_54 rfl (lv_at hl 2 rfl) ?_
        refine lv_iconst (v := (2 : Int32)) hx hb dX5_written_55 (by decide) ?_
        refine lv_icmp_ge (tgt := 70) hx hb dX5_written_56 (by decide) (fun b20 => ?_) (fun b20 => ?_)
        · have hf := lm_T b20 hf
          refine lv_iload_n hx hb dX5_written_70 rfl (lv_at hl 2 rfl) ?_
          refine lv_iconst (v := (2 : Int32)) hx hb dX5_written_71 (by decide) ?_
          refine lv_icmp_ne (tgt := 85) hx hb dX5_written_72 (by decide) (fun b21 => ?_) (fun b21 => ?_)
          · have hf := lm_F b21 hf
            refine lv_aload_n hx hb dX5_written_85 rfl (lv_at hl 0 rfl) ?_
            refine lm_get C0 hR (by decide) cell_140 rfl lw_in_X5 7 (by decide) uw_515 rfl rfl dX5_written_86 ?_
            refine lv_iconst (v := (4 : Int32)) hx hb dX5_written_89 (by decide) ?_
            obtain ⟨z22, hf⟩ := lm_ck_e hf
            refine lm_ild C0 hR (by decide) cell_146 z22 dX5_written_90 ?_
            exact lm_riM C0 hR hS hf dX5_written_91
          · have hf := lm_T b21 hf
            refine lv_aload_n hx hb dX5_written_75 rfl (lv_at hl 0 rfl) ?_
            refine lm_get C0 hR (by decide) cell_140 rfl lw_in_X5 7 (by decide) uw_515 rfl rfl dX5_written_76 ?_
            obtain ⟨r24, u23, hf⟩ := lm_bd_e hf
            refine lm_endi (lm_runS C0 hR hS (c_X5_differ isM_146 u23) (lw_cS 1 hts uw_645 mv_X5_differ rfl rfl hd_X5_differ ⟨Nat.le_of_ble_eq_true rfl, Nat.le_of_ble_eq_true rfl⟩) rfl hl rfl (Nat.le_of_ble_eq_true rfl) dX5_written_79) hS (fun H locs hR hS => ?_)
            refine lv_goto (tgt := 91) hx hb dX5_written_82 (by decide) ?_
            exact lm_riM C0 hR hS hf dX5_written_91
        · have hf := lm_F b20 hf
          refine lv_aload_n hx hb dX5_written_59 rfl (lv_at hl 0 rfl) ?_
          refine lm_get C0 hR (by decide) cell_140 rfl lw_in_X5 7 (by decide) uw_515 rfl rfl dX5_written_60 ?_
          refine lv_iload_n hx hb dX5_written_63 rfl (lv_at hl 2 rfl) ?_
          obtain ⟨r27, u26, hf⟩ := lm_bd_e hf
          refine lm_endi (lm_runS C0 hR hS (c_X5_seenBy isM_146 u26) (lw_cS 2 hts uw_648 mv_X5_seenBy rfl rfl hd_X5_seenBy ⟨Nat.le_of_ble_eq_true rfl, Nat.le_of_ble_eq_true rfl⟩) rfl hl rfl (Nat.le_of_ble_eq_true rfl) dX5_written_64) hS (fun H locs hR hS => ?_)
          refine lv_goto (tgt := 91) hx hb dX5_written_67 (by decide) ?_
          exact lm_riM C0 hR hS hf dX5_written_91
      · have hf := lm_T b13 hf
        refine lv_ldc hx hb hown (hts _ uw_548) dX5_written_39 ?_
        exact lm_riM C0 hR hS hf dX5_written_41
  · have hf := lm_T b5 hf
    refine lv_ldc hx hb hown (hts _ uw_628) dX5_written_12 ?_
    exact lm_riM C0 hR hS hf dX5_written_14
end
/-! ===== X5_when ===== -/
abbrev rmX5_when : Room := { frames := 4, cells := 0, slots := 0, locals := 90 }
def f_X5_when_32 : Nat → Int32 → Int32 → Int32 → Mem → Option (Int32 × Mem)
  | 0, _, _, _, _ => none
  | n + 1, x1, x2, x3, τ => if (60 : Int32) < x3 then (some ((-1000000 : Int32), τ)) else (if x2 = 0 then (lm_bd (f_X5_of 146 τ x1 (1 : Int32)) fun r27 => if r27 = 0 then (some (x3, τ)) else (lm_bd (f_X5_watchOf 146 τ) fun τ32 => lm_nm (x3 + (1 : Int32)) fun v33 => f_X5_when_32 n x1 x2 v33 τ32)) else (lm_bd (f_X5_differ 146 τ) fun r16 => lm_bd (f_X5_has r16 x1) fun r19 => if r19 = 0 then (lm_bd (f_X5_watchOf 146 τ) fun τ24 => lm_nm (x3 + (1 : Int32)) fun v25 => f_X5_when_32 n x1 x2 v25 τ24) else (some (x3, τ))))
def f_X5_when (τ : Mem) (p1 : Int32) (p2 : Int32) : Option (Int32 × Mem) := lm_nm (up τ 140 0 (0 : Int32)) fun τ1 => lm_bd (f_X5_isShip τ1 p1) fun r3 => if r3 = 0 then (some ((-1000001 : Int32), τ1)) else (lm_bd (f_X5_in p2.toInt64 (0 : Int64) (1 : Int64)) fun r7 => if r7 = 0 then (some ((-1000001 : Int32), τ1)) else (lm_bd (f_X5_layThen τ1) fun τ12 => f_X5_when_32 lm_fu p1 p2 (0 : Int32) τ12))
abbrev wsX5_when : List Cond := Cond.code yX5_when cX5_when 4 (some .int) :: lw_u
theorem mv_X5_when : Cond.instanceMethod yX5_when ∈ lw_u ∧ Cond.selects yX5_when.cls yX5_when yX5_when ∈ lw_u ∧ Cond.initialized yX5_when.cls ∈ lw_u ∧ Cond.code yX5_when cX5_when 4 (some .int) ∈ lw_u := ⟨uw_720, uw_721, uw_6, uw_722⟩
theorem hd_X5_when : yX5_when.cls ≠ "java/lang/invoke/MethodHandle" ∧ yX5_when.cls ≠ "java/lang/invoke/VarHandle" ∧ (parseMethodDescriptor yX5_when.desc).map (fun d => d.parameters.length) = some 2 := by decide +kernel
section
variable {l : Launch} {D : va_G} {cI cZ cL cR : ClassId} {B : Nat}
set_option maxRecDepth 100000 in
set_option maxHeartbeats 4000000 in
theorem w_X5_when_32 {p : Program} {e : Env} {s : State} {m : MethodId} {args : Array Value} {below : List Frame} {meth : Method} {c0 : Code} {σ τ' : Mem} {r : Int32} (C0 : lm_Cx D cI cZ cL cR B p s m args meth c0 cX5_when 4 (some .int) RX5) : ∀ (n : Nat), ∀ (x1 : Int32) (x2 : Int32) (x3 : Int32) (τ : Mem) (H : Heap) (locs : List Loc) (ls : Array Slot), va_P D vwCl (wl cI cZ cL cR B σ τ) H → va_S (lm_A B) s.heap H locs → lv_has ls 4 [(0, .ref (B + 140)), (1, .int x1), (2, .int x2), (3, .int x3)] → f_X5_when_32 n x1 x2 x3 τ = some (r, τ') → W p l e rmX5_when s m args below meth c0 H locs 0 0 (MQ below (lm_QI D cI cZ cL cR B r σ τ') args s 0 0 (lm_A B)) (F0 m 32 ls []) := by
  obtain ⟨hx, hb, hml, hr, hlk, hown, hts, hK, hX⟩ := id C0
  intro n
  induction n with
  | zero =>
    intro x1 x2 x3 τ H locs ls hR hS hl hf
    cases hf
  | succ n ih =>
    intro x1 x2 x3 τ H locs ls hR hS hl hf
    rw [f_X5_when_32] at hf
    refine lv_iload_n hx hb dX5_when_32 rfl (lv_at hl 3 rfl) ?_
    refine lv_bipush (v := (60 : Int32)) hx hb dX5_when_33 (by decide) ?_
    refine lv_icmp_gt (tgt := 86) hx hb dX5_when_35 (by decide) (fun b13 => ?_) (fun b13 => ?_)
    · have hf := lm_T b13 hf
      refine lv_ldc hx hb hown (hts _ uw_585) dX5_when_86 ?_
      exact lm_riM C0 hR hS hf dX5_when_88
    · have hf := lm_F b13 hf
      refine lv_iload_n hx hb dX5_when_38 rfl (lv_at hl 2 rfl) ?_
      refine lv_if_ne (tgt := 57) hx hb dX5_when_39 (by decide) (fun b14 => ?_) (fun b14 => ?_)
      · have hf := lm_F b14 hf
        refine lv_aload_n hx hb dX5_when_57 rfl (lv_at hl 0 rfl) ?_
        refine lm_get C0 hR (by decide) cell_140 rfl lw_in_X5 7 (by decide) uw_515 rfl rfl dX5_when_58 ?_
        obtain ⟨r16, u15, hf⟩ := lm_bd_e hf
        refine lm_endi (lm_runS C0 hR hS (c_X5_differ isM_146 u15) (lw_cS 1 hts uw_645 mv_X5_differ rfl rfl hd_X5_differ ⟨Nat.le_of_ble_eq_true rfl, Nat.le_of_ble_eq_true rfl⟩) rfl hl rfl (Nat.le_of_ble_eq_true rfl) dX5_when_61) hS (fun H locs hR hS => ?_)
        refine lv_iload_n hx hb dX5_when_64 rfl (lv_at hl 1 rfl) ?_
        obtain ⟨r19, u18, hf⟩ := lm_bd_e hf
        refine lm_endi (lm_runS C0 hR hS (c_X5_has u18) (lw_cS 2 hts uw_654 mv_X5_has rfl rfl hd_X5_has ⟨Nat.le_of_ble_eq_true rfl, Nat.le_of_ble_eq_true rfl⟩) rfl hl rfl (Nat.le_of_ble_eq_true rfl) dX5_when_65) hS (fun H locs hR hS => ?_)
        refine lv_if_eq (tgt := 73) hx hb dX5_when_68 (by decide) (fun b21 => ?_) (fun b21 => ?_)
        · have hf := lm_T b21 hf
          refine lv_aload_n hx hb dX5_when_73 rfl (lv_at hl 0 rfl) ?_
          refine lm_get C0 hR (by decide) cell_140 rfl lw_in_X5 7 (by decide) uw_515 rfl rfl dX5_when_74 ?_
          obtain ⟨τ24, u22, hf⟩ := lm_bd_e hf
          refine lm_endv (lm_runS C0 hR hS (c_X5_watchOf isM_146 u22) (lw_cS 1 hts uw_633 mv_X5_watchOf rfl rfl hd_X5_watchOf ⟨Nat.le_of_ble_eq_true rfl, Nat.le_of_ble_eq_true rfl⟩) rfl hl rfl (Nat.le_of_ble_eq_true rfl) dX5_when_77) hS (fun H locs hR hS => ?_)
          obtain ⟨v25, ev25, hf⟩ := lm_nm_e hf
          refine lv_iinc (v := v25) (lv' := [(3, .int v25), (0, .ref (B + 140)), (1, .int x1), (2, .int x2)]) hx hb dX5_when_80 hl (k := 3) rfl (by rw [ev25]; rfl) (by decide) rfl (fun ls hl => ?_)
          refine lv_goto (tgt := 32) hx hb dX5_when_83 (by decide) ?_
          exact ih _ _ _ _ _ _ _ hR hS (lv_sub hl [1, 2, 3, 0] rfl) hf
        · have hf := lm_F b21 hf
          refine lv_iload_n hx hb dX5_when_71 rfl (lv_at hl 3 rfl) ?_
          exact lm_riM C0 hR hS hf dX5_when_72
      · have hf := lm_T b14 hf
        refine lv_aload_n hx hb dX5_when_42 rfl (lv_at hl 0 rfl) ?_
        refine lm_get C0 hR (by decide) cell_140 rfl lw_in_X5 7 (by decide) uw_515 rfl rfl dX5_when_43 ?_
        refine lv_iload_n hx hb dX5_when_46 rfl (lv_at hl 1 rfl) ?_
        refine lv_iconst (v := (1 : Int32)) hx hb dX5_when_47 (by decide) ?_
        obtain ⟨r27, u26, hf⟩ := lm_bd_e hf
        refine lm_endi (lm_runS C0 hR hS (c_X5_of isM_146 u26) (lw_cS 3 hts uw_639 mv_X5_of rfl rfl hd_X5_of ⟨Nat.le_of_ble_eq_true rfl, Nat.le_of_ble_eq_true rfl⟩) rfl hl rfl (Nat.le_of_ble_eq_true rfl) dX5_when_48) hS (fun H locs hR hS => ?_)
        refine lv_if_ne (tgt := 73) hx hb dX5_when_51 (by decide) (fun b29 => ?_) (fun b29 => ?_)
        · have hf := lm_F b29 hf
          refine lv_aload_n hx hb dX5_when_73 rfl (lv_at hl 0 rfl) ?_
          refine lm_get C0 hR (by decide) cell_140 rfl lw_in_X5 7 (by decide) uw_515 rfl rfl dX5_when_74 ?_
          obtain ⟨τ32, u30, hf⟩ := lm_bd_e hf
          refine lm_endv (lm_runS C0 hR hS (c_X5_watchOf isM_146 u30) (lw_cS 1 hts uw_633 mv_X5_watchOf rfl rfl hd_X5_watchOf ⟨Nat.le_of_ble_eq_true rfl, Nat.le_of_ble_eq_true rfl⟩) rfl hl rfl (Nat.le_of_ble_eq_true rfl) dX5_when_77) hS (fun H locs hR hS => ?_)
          obtain ⟨v33, ev33, hf⟩ := lm_nm_e hf
          refine lv_iinc (v := v33) (lv' := [(3, .int v33), (0, .ref (B + 140)), (1, .int x1), (2, .int x2)]) hx hb dX5_when_80 hl (k := 3) rfl (by rw [ev33]; rfl) (by decide) rfl (fun ls hl => ?_)
          refine lv_goto (tgt := 32) hx hb dX5_when_83 (by decide) ?_
          exact ih _ _ _ _ _ _ _ hR hS (lv_sub hl [1, 2, 3, 0] rfl) hf
        · have hf := lm_T b29 hf
          refine lv_goto (tgt := 71) hx hb dX5_when_54 (by decide) ?_
          refine lv_iload_n hx hb dX5_when_71 rfl (lv_at hl 3 rfl) ?_
          exact lm_riM C0 hR hS hf dX5_when_72
set_option maxRecDepth 100000 in
set_option maxHeartbeats 4000000 in
theorem c_X5_when {τ σ τ' : Mem} {p1 : Int32} {p2 : Int32} {r : Int32}  (hf : f_X5_when τ p1 p2 = some (r, τ')) : lm_CI l yX5_when wsX5_when rmX5_when D cI cZ cL cR B [.ref (B + 140), .int p1, .int p2] σ τ r σ τ' := by
  unfold f_X5_when at hf
  refine lm_of (cc := cX5_when) (maxL := 4) (ret := (some .int)) (own := RX5) (by decide) rfl (Nat.le_of_ble_eq_true rfl) (fun p e s m below meth c0 C0 hR ls hl => ?_)
  have hS : va_S (lm_A B) s.heap s.heap [] := va_S.rf
  have hl : lv_has ls 4 [(0, .ref (B + 140)), (1, .int p1), (2, .int p2)] := hl
  obtain ⟨hx, hb, hml, hr, hlk, hown, hts, hK, hX⟩ := id C0
  refine lv_aload_n hx hb dX5_when_0 rfl (lv_at hl 0 rfl) ?_
  refine lv_iconst (v := (0 : Int32)) hx hb dX5_when_1 (by decide) ?_
  obtain ⟨τ1, eτ1, hf⟩ := lm_nm_e hf
  refine lm_putM C0 hR hS (by decide) cell_140 rfl lw_in_X5 tyX5 tyX5_ok nmX5 0 (by decide) uw_508 rfl rfl rfl rfl rfl (Nat.le_of_ble_eq_true rfl) eτ1 cell_140u dX5_when_2 (fun H locs hR hS => ?_)
  refine lv_aload_n hx hb dX5_when_5 rfl (lv_at hl 0 rfl) ?_
  refine lv_iload_n hx hb dX5_when_6 rfl (lv_at hl 1 rfl) ?_
  obtain ⟨r3, u2, hf⟩ := lm_bd_e hf
  refine lm_endi (lm_runV C0 hR hS (c_X5_isShip u2) (lw_cV 1 hts uw_682 mv_X5_isShip rfl rfl hd_X5_isShip ⟨Nat.le_of_ble_eq_true rfl, Nat.le_of_ble_eq_true rfl⟩) (by decide) cell_140 rfl rfl hl rfl (Nat.le_of_ble_eq_true rfl) dX5_when_7) hS (fun H locs hR hS => ?_)
  refine lv_if_eq (tgt := 23) hx hb dX5_when_10 (by decide) (fun b5 => ?_) (fun b5 => ?_)
  · have hf := lm_T b5 hf
    refine lv_ldc hx hb hown (hts _ uw_548) dX5_when_23 ?_
    exact lm_riM C0 hR hS hf dX5_when_25
  · have hf := lm_F b5 hf
    refine lv_iload_n hx hb dX5_when_13 rfl (lv_at hl 2 rfl) ?_
    refine lv_i2l hx hb dX5_when_14 rfl ?_
    refine lv_lconst (v := (0 : Int64)) hx hb dX5_when_15 (by decide) ?_
    refine lv_lconst (v := (1 : Int64)) hx hb dX5_when_16 (by decide) ?_
    obtain ⟨r7, u6, hf⟩ := lm_bd_e hf
    refine lm_endi (lm_runS C0 hR hS (c_X5_in u6) (lw_cS 3 hts uw_544 mv_X5_in rfl rfl hd_X5_in ⟨Nat.le_of_ble_eq_true rfl, Nat.le_of_ble_eq_true rfl⟩) rfl hl rfl (Nat.le_of_ble_eq_true rfl) dX5_when_17) hS (fun H locs hR hS => ?_)
    refine lv_if_ne (tgt := 26) hx hb dX5_when_20 (by decide) (fun b9 => ?_) (fun b9 => ?_)
    · have hf := lm_F b9 hf
      refine lv_aload_n hx hb dX5_when_26 rfl (lv_at hl 0 rfl) ?_
      obtain ⟨τ12, u10, hf⟩ := lm_bd_e hf
      refine lm_endv (lm_runV C0 hR hS (c_X5_layThen u10) (lw_cV 0 hts uw_708 mv_X5_layThen rfl rfl hd_X5_layThen ⟨Nat.le_of_ble_eq_true rfl, Nat.le_of_ble_eq_true rfl⟩) (by decide) cell_140 rfl rfl hl rfl (Nat.le_of_ble_eq_true rfl) dX5_when_27) hS (fun H locs hR hS => ?_)
      refine lv_iconst (v := (0 : Int32)) hx hb dX5_when_30 (by decide) ?_
      refine lv_istore_n (lv' := [(3, .int (0 : Int32)), (0, .ref (B + 140)), (1, .int p1), (2, .int p2)]) hx hb dX5_when_31 rfl hl (by decide) rfl (fun ls hl => ?_)
      exact w_X5_when_32 C0 _ _ _ _ _ _ _ _ hR hS (lv_sub hl [1, 2, 3, 0] rfl) hf
    · have hf := lm_T b9 hf
      refine lv_ldc hx hb hown (hts _ uw_548) dX5_when_23 ?_
      exact lm_riM C0 hR hS hf dX5_when_25
end
/-! ===== X5_quarrel ===== -/
abbrev rmX5_quarrel : Room := { frames := 4, cells := 0, slots := 0, locals := 90 }
def f_X5_quarrel_55 : Nat → Int32 → Int32 → Int32 → Int32 → Mem → Option (Int32 × Mem)
  | 0, _, _, _, _, _ => none
  | n + 1, x1, x2, x3, x4, τ => lm_bd (f_X5_has x3 x4) fun r23 => if r23 = 0 then (lm_nm (x4 + (1 : Int32)) fun v27 => f_X5_quarrel_55 n x1 x2 x3 v27 τ) else (if x1 = 0 then (some (x2, τ)) else (some (x4, τ)))
def f_X5_quarrel_34 : Nat → Int32 → Int32 → Mem → Option (Int32 × Mem)
  | 0, _, _, _ => none
  | n + 1, x1, x2, τ => if (60 : Int32) < x2 then (some ((-1000000 : Int32), τ)) else (lm_bd (f_X5_differ 146 τ) fun r15 => if r15 = 0 then (lm_bd (f_X5_watchOf 146 τ) fun τ20 => lm_nm (x2 + (1 : Int32)) fun v21 => f_X5_quarrel_34 n x1 v21 τ20) else (f_X5_quarrel_55 lm_fu x1 x2 r15 (0 : Int32) τ))
def f_X5_quarrel (τ : Mem) (p1 : Int32) : Option (Int32 × Mem) := lm_nm (up τ 140 0 (0 : Int32)) fun τ1 => lm_bd (f_X5_isThere τ1) fun r3 => if r3 = 0 then (some ((-1000002 : Int32), τ1)) else (lm_bd (f_X5_in p1.toInt64 (0 : Int64) (1 : Int64)) fun r7 => if r7 = 0 then (some ((-1000001 : Int32), τ1)) else (lm_bd (f_X5_layThen τ1) fun τ12 => f_X5_quarrel_34 lm_fu p1 (0 : Int32) τ12))
abbrev wsX5_quarrel : List Cond := Cond.code yX5_quarrel cX5_quarrel 5 (some .int) :: lw_u
theorem mv_X5_quarrel : Cond.instanceMethod yX5_quarrel ∈ lw_u ∧ Cond.selects yX5_quarrel.cls yX5_quarrel yX5_quarrel ∈ lw_u ∧ Cond.initialized yX5_quarrel.cls ∈ lw_u ∧ Cond.code yX5_quarrel cX5_quarrel 5 (some .int) ∈ lw_u := ⟨uw_724, uw_725, uw_6, uw_726⟩
theorem hd_X5_quarrel : yX5_quarrel.cls ≠ "java/lang/invoke/MethodHandle" ∧ yX5_quarrel.cls ≠ "java/lang/invoke/VarHandle" ∧ (parseMethodDescriptor yX5_quarrel.desc).map (fun d => d.parameters.length) = some 1 := by decide +kernel
section
variable {l : Launch} {D : va_G} {cI cZ cL cR : ClassId} {B : Nat}
set_option maxRecDepth 100000 in
set_option maxHeartbeats 4000000 in
theorem w_X5_quarrel_55 {p : Program} {e : Env} {s : State} {m : MethodId} {args : Array Value} {below : List Frame} {meth : Method} {c0 : Code} {σ τ' : Mem} {r : Int32} (C0 : lm_Cx D cI cZ cL cR B p s m args meth c0 cX5_quarrel 5 (some .int) RX5) : ∀ (n : Nat), ∀ (x1 : Int32) (x2 : Int32) (x3 : Int32) (x4 : Int32) (τ : Mem) (H : Heap) (locs : List Loc) (ls : Array Slot), va_P D vwCl (wl cI cZ cL cR B σ τ) H → va_S (lm_A B) s.heap H locs → lv_has ls 5 [(1, .int x1), (2, .int x2), (3, .int x3), (4, .int x4)] → f_X5_quarrel_55 n x1 x2 x3 x4 τ = some (r, τ') → W p l e rmX5_quarrel s m args below meth c0 H locs 0 0 (MQ below (lm_QI D cI cZ cL cR B r σ τ') args s 0 0 (lm_A B)) (F0 m 55 ls []) := by
  obtain ⟨hx, hb, hml, hr, hlk, hown, hts, hK, hX⟩ := id C0
  intro n
  induction n with
  | zero =>
    intro x1 x2 x3 x4 τ H locs ls hR hS hl hf
    cases hf
  | succ n ih =>
    intro x1 x2 x3 x4 τ H locs ls hR hS hl hf
    rw [f_X5_quarrel_55] at hf
    refine lv_iload_n hx hb dX5_quarrel_55 rfl (lv_at hl 2 rfl) ?_
    refine lv_iload hx hb dX5_quarrel_56 (lv_at hl 3 rfl) ?_
    obtain ⟨r23, u22, hf⟩ := lm_bd_e hf
    refine lm_endi (lm_runS C0 hR hS (c_X5_has u22) (lw_cS 2 hts uw_654 mv_X5_has rfl rfl hd_X5_has ⟨Nat.le_of_ble_eq_true rfl, Nat.le_of_ble_eq_true rfl⟩) rfl hl rfl (Nat.le_of_ble_eq_true rfl) dX5_quarrel_58) hS (fun H locs hR hS => ?_)
    refine lv_if_ne (tgt := 70) hx hb dX5_quarrel_61 (by decide) (fun b25 => ?_) (fun b25 => ?_)
    · have hf := lm_F b25 hf
      refine lv_iload_n hx hb dX5_quarrel_70 rfl (lv_at hl 0 rfl) ?_
      refine lv_if_ne (tgt := 78) hx hb dX5_quarrel_71 (by decide) (fun b26 => ?_) (fun b26 => ?_)
      · have hf := lm_F b26 hf
        refine lv_iload hx hb dX5_quarrel_78 (lv_at hl 3 rfl) ?_
        exact lm_riM C0 hR hS hf dX5_quarrel_80
      · have hf := lm_T b26 hf
        refine lv_iload_n hx hb dX5_quarrel_74 rfl (lv_at hl 1 rfl) ?_
        refine lv_goto (tgt := 80) hx hb dX5_quarrel_75 (by decide) ?_
        exact lm_riM C0 hR hS hf dX5_quarrel_80
    · have hf := lm_T b25 hf
      obtain ⟨v27, ev27, hf⟩ := lm_nm_e hf
      refine lv_iinc (v := v27) (lv' := [(4, .int v27), (1, .int x1), (2, .int x2), (3, .int x3)]) hx hb dX5_quarrel_64 hl (k := 3) rfl (by rw [ev27]; rfl) (by decide) rfl (fun ls hl => ?_)
      refine lv_goto (tgt := 55) hx hb dX5_quarrel_67 (by decide) ?_
      exact ih _ _ _ _ _ _ _ _ hR hS (lv_sub hl [1, 2, 3, 0] rfl) hf
set_option maxRecDepth 100000 in
set_option maxHeartbeats 4000000 in
theorem w_X5_quarrel_34 {p : Program} {e : Env} {s : State} {m : MethodId} {args : Array Value} {below : List Frame} {meth : Method} {c0 : Code} {σ τ' : Mem} {r : Int32} (C0 : lm_Cx D cI cZ cL cR B p s m args meth c0 cX5_quarrel 5 (some .int) RX5) : ∀ (n : Nat), ∀ (x1 : Int32) (x2 : Int32) (τ : Mem) (H : Heap) (locs : List Loc) (ls : Array Slot), va_P D vwCl (wl cI cZ cL cR B σ τ) H → va_S (lm_A B) s.heap H locs → lv_has ls 5 [(0, .ref (B + 140)), (1, .int x1), (2, .int x2)] → f_X5_quarrel_34 n x1 x2 τ = some (r, τ') → W p l e rmX5_quarrel s m args below meth c0 H locs 0 0 (MQ below (lm_QI D cI cZ cL cR B r σ τ') args s 0 0 (lm_A B)) (F0 m 34 ls []) := by
  obtain ⟨hx, hb, hml, hr, hlk, hown, hts, hK, hX⟩ := id C0
  intro n
  induction n with
  | zero =>
    intro x1 x2 τ H locs ls hR hS hl hf
    cases hf
  | succ n ih =>
    intro x1 x2 τ H locs ls hR hS hl hf
    rw [f_X5_quarrel_34] at hf
    refine lv_iload_n hx hb dX5_quarrel_34 rfl (lv_at hl 2 rfl) ?_
    refine lv_bipush (v := (60 : Int32)) hx hb dX5_quarrel_35 (by decide) ?_
    refine lv_icmp_gt (tgt := 94) hx hb dX5_quarrel_37 (by decide) (fun b13 => ?_) (fun b13 => ?_)
    · have hf := lm_T b13 hf
      refine lv_ldc hx hb hown (hts _ uw_585) dX5_quarrel_94 ?_
      exact lm_riM C0 hR hS hf dX5_quarrel_96
    · have hf := lm_F b13 hf
      refine lv_aload_n hx hb dX5_quarrel_40 rfl (lv_at hl 0 rfl) ?_
      refine lm_get C0 hR (by decide) cell_140 rfl lw_in_X5 7 (by decide) uw_515 rfl rfl dX5_quarrel_41 ?_
      obtain ⟨r15, u14, hf⟩ := lm_bd_e hf
      refine lm_endi (lm_runS C0 hR hS (c_X5_differ isM_146 u14) (lw_cS 1 hts uw_645 mv_X5_differ rfl rfl hd_X5_differ ⟨Nat.le_of_ble_eq_true rfl, Nat.le_of_ble_eq_true rfl⟩) rfl hl rfl (Nat.le_of_ble_eq_true rfl) dX5_quarrel_44) hS (fun H locs hR hS => ?_)
      refine lv_istore_n (lv' := [(3, .int r15), (0, .ref (B + 140)), (1, .int x1), (2, .int x2)]) hx hb dX5_quarrel_47 rfl hl (by decide) rfl (fun ls hl => ?_)
      refine lv_iload_n hx hb dX5_quarrel_48 rfl (lv_at hl 0 rfl) ?_
      refine lv_if_eq (tgt := 81) hx hb dX5_quarrel_49 (by decide) (fun b17 => ?_) (fun b17 => ?_)
      · have hf := lm_T b17 hf
        refine lv_aload_n hx hb dX5_quarrel_81 rfl (lv_at hl 1 rfl) ?_
        refine lm_get C0 hR (by decide) cell_140 rfl lw_in_X5 7 (by decide) uw_515 rfl rfl dX5_quarrel_82 ?_
        obtain ⟨τ20, u18, hf⟩ := lm_bd_e hf
        refine lm_endv (lm_runS C0 hR hS (c_X5_watchOf isM_146 u18) (lw_cS 1 hts uw_633 mv_X5_watchOf rfl rfl hd_X5_watchOf ⟨Nat.le_of_ble_eq_true rfl, Nat.le_of_ble_eq_true rfl⟩) rfl hl rfl (Nat.le_of_ble_eq_true rfl) dX5_quarrel_85) hS (fun H locs hR hS => ?_)
        obtain ⟨v21, ev21, hf⟩ := lm_nm_e hf
        refine lv_iinc (v := v21) (lv' := [(2, .int v21), (3, .int r15), (0, .ref (B + 140)), (1, .int x1)]) hx hb dX5_quarrel_88 hl (k := 3) rfl (by rw [ev21]; rfl) (by decide) rfl (fun ls hl => ?_)
        refine lv_goto (tgt := 34) hx hb dX5_quarrel_91 (by decide) ?_
        exact ih _ _ _ _ _ _ hR hS (lv_sub hl [2, 3, 0] rfl) hf
      · have hf := lm_F b17 hf
        refine lv_iconst (v := (0 : Int32)) hx hb dX5_quarrel_52 (by decide) ?_
        refine lv_istore (lv' := [(4, .int (0 : Int32)), (3, .int r15), (0, .ref (B + 140)), (1, .int x1), (2, .int x2)]) hx hb dX5_quarrel_53 hl (by decide) rfl (fun ls hl => ?_)
        exact w_X5_quarrel_55 C0 _ _ _ _ _ _ _ _ _ hR hS (lv_sub hl [3, 4, 1, 0] rfl) hf
set_option maxRecDepth 100000 in
set_option maxHeartbeats 4000000 in
theorem c_X5_quarrel {τ σ τ' : Mem} {p1 : Int32} {r : Int32}  (hf : f_X5_quarrel τ p1 = some (r, τ')) : lm_CI l yX5_quarrel wsX5_quarrel rmX5_quarrel D cI cZ cL cR B [.ref (B + 140), .int p1] σ τ r σ τ' := by
  unfold f_X5_quarrel at hf
  refine lm_of (cc := cX5_quarrel) (maxL := 5) (ret := (some .int)) (own := RX5) (by decide) rfl (Nat.le_of_ble_eq_true rfl) (fun p e s m below meth c0 C0 hR ls hl => ?_)
  have hS : va_S (lm_A B) s.heap s.heap [] := va_S.rf
  have hl : lv_has ls 5 [(0, .ref (B + 140)), (1, .int p1)] := hl
  obtain ⟨hx, hb, hml, hr, hlk, hown, hts, hK, hX⟩ := id C0
  refine lv_aload_n hx hb dX5_quarrel_0 rfl (lv_at hl 0 rfl) ?_
  refine lv_iconst (v := (0 : Int32)) hx hb dX5_quarrel_1 (by decide) ?_
  obtain ⟨τ1, eτ1, hf⟩ := lm_nm_e hf
  refine lm_putM C0 hR hS (by decide) cell_140 rfl lw_in_X5 tyX5 tyX5_ok nmX5 0 (by decide) uw_508 rfl rfl rfl rfl rfl (Nat.le_of_ble_eq_true rfl) eτ1 cell_140u dX5_quarrel_2 (fun H locs hR hS => ?_)
  refine lv_aload_n hx hb dX5_quarrel_5 rfl (lv_at hl 0 rfl) ?_
  obtain ⟨r3, u2, hf⟩ := lm_bd_e hf
  refine lm_endi (lm_runV C0 hR hS (c_X5_isThere u2) (lw_cV 0 hts uw_625 mv_X5_isThere rfl rfl hd_X5_isThere ⟨Nat.le_of_ble_eq_true rfl, Nat.le_of_ble_eq_true rfl⟩) (by decide) cell_140 rfl rfl hl rfl (Nat.le_of_ble_eq_true rfl) dX5_quarrel_6) hS (fun H locs hR hS => ?_)
  refine lv_if_ne (tgt := 15) hx hb dX5_quarrel_9 (by decide) (fun b5 => ?_) (fun b5 => ?_)
  · have hf := lm_F b5 hf
    refine lv_iload_n hx hb dX5_quarrel_15 rfl (lv_at hl 1 rfl) ?_
    refine lv_i2l hx hb dX5_quarrel_16 rfl ?_
    refine lv_lconst (v := (0 : Int64)) hx hb dX5_quarrel_17 (by decide) ?_
    refine lv_lconst (v := (1 : Int64)) hx hb dX5_quarrel_18 (by decide) ?_
    obtain ⟨r7, u6, hf⟩ := lm_bd_e hf
    refine lm_endi (lm_runS C0 hR hS (c_X5_in u6) (lw_cS 3 hts uw_544 mv_X5_in rfl rfl hd_X5_in ⟨Nat.le_of_ble_eq_true rfl, Nat.le_of_ble_eq_true rfl⟩) rfl hl rfl (Nat.le_of_ble_eq_true rfl) dX5_quarrel_19) hS (fun H locs hR hS => ?_)
    refine lv_if_ne (tgt := 28) hx hb dX5_quarrel_22 (by decide) (fun b9 => ?_) (fun b9 => ?_)
    · have hf := lm_F b9 hf
      refine lv_aload_n hx hb dX5_quarrel_28 rfl (lv_at hl 0 rfl) ?_
      obtain ⟨τ12, u10, hf⟩ := lm_bd_e hf
      refine lm_endv (lm_runV C0 hR hS (c_X5_layThen u10) (lw_cV 0 hts uw_708 mv_X5_layThen rfl rfl hd_X5_layThen ⟨Nat.le_of_ble_eq_true rfl, Nat.le_of_ble_eq_true rfl⟩) (by decide) cell_140 rfl rfl hl rfl (Nat.le_of_ble_eq_true rfl) dX5_quarrel_29) hS (fun H locs hR hS => ?_)
      refine lv_iconst (v := (0 : Int32)) hx hb dX5_quarrel_32 (by decide) ?_
      refine lv_istore_n (lv' := [(2, .int (0 : Int32)), (0, .ref (B + 140)), (1, .int p1)]) hx hb dX5_quarrel_33 rfl hl (by decide) rfl (fun ls hl => ?_)
      exact w_X5_quarrel_34 C0 _ _ _ _ _ _ _ hR hS (lv_sub hl [1, 2, 0] rfl) hf
    · have hf := lm_T b9 hf
      refine lv_ldc hx hb hown (hts _ uw_548) dX5_quarrel_25 ?_
      exact lm_riM C0 hR hS hf dX5_quarrel_27
  · have hf := lm_T b5 hf
    refine lv_ldc hx hb hown (hts _ uw_628) dX5_quarrel_12 ?_
    exact lm_riM C0 hR hS hf dX5_quarrel_14
end
/-! ===== X5_pours ===== -/
abbrev rmX5_pours : Room := { frames := 4, cells := 0, slots := 0, locals := 89 }
def f_X5_pours_30 : Nat → Int32 → Int32 → Int32 → Mem → Option (Int32 × Mem)
  | 0, _, _, _, _ => none
  | n + 1, x1, x2, x3, τ => if (60 : Int32) < x3 then (some ((-1000000 : Int32), τ)) else (lm_bd (f_X5_layThen τ) fun τ13 => lm_bd (f_X5_pourInto 146 τ13 x3) fun τ16 => lm_bd (f_X5_watchesOf 146 τ16 x2) fun τ19 => lm_bd (f_X5_seenBy 146 τ19 (1 : Int32)) fun r21 => lm_bd (f_X5_has r21 x1) fun r24 => if r24 = 0 then (lm_nm (x3 + (1 : Int32)) fun v27 => f_X5_pours_30 n x1 x2 v27 τ19) else (some (x3, τ19)))
def f_X5_pours (τ : Mem) (p1 : Int32) (p2 : Int32) : Option (Int32 × Mem) := lm_nm (up τ 140 0 (0 : Int32)) fun τ1 => lm_bd (f_X5_isShip τ1 p1) fun r3 => if r3 = 0 then (some ((-1000001 : Int32), τ1)) else (lm_bd (f_X5_in p2.toInt64 (0 : Int64) (30 : Int64)) fun r7 => if r7 = 0 then (some ((-1000001 : Int32), τ1)) else (f_X5_pours_30 lm_fu p1 p2 (0 : Int32) τ1))
abbrev wsX5_pours : List Cond := Cond.code yX5_pours cX5_pours 4 (some .int) :: lw_u
theorem mv_X5_pours : Cond.instanceMethod yX5_pours ∈ lw_u ∧ Cond.selects yX5_pours.cls yX5_pours yX5_pours ∈ lw_u ∧ Cond.initialized yX5_pours.cls ∈ lw_u ∧ Cond.code yX5_pours cX5_pours 4 (some .int) ∈ lw_u := ⟨uw_728, uw_729, uw_6, uw_730⟩
theorem hd_X5_pours : yX5_pours.cls ≠ "java/lang/invoke/MethodHandle" ∧ yX5_pours.cls ≠ "java/lang/invoke/VarHandle" ∧ (parseMethodDescriptor yX5_pours.desc).map (fun d => d.parameters.length) = some 2 := by decide +kernel
section
variable {l : Launch} {D : va_G} {cI cZ cL cR : ClassId} {B : Nat}
set_option maxRecDepth 100000 in
set_option maxHeartbeats 4000000 in
theorem w_X5_pours_30 {p : Program} {e : Env} {s : State} {m : MethodId} {args : Array Value} {below : List Frame} {meth : Method} {c0 : Code} {σ τ' : Mem} {r : Int32} (C0 : lm_Cx D cI cZ cL cR B p s m args meth c0 cX5_pours 4 (some .int) RX5) : ∀ (n : Nat), ∀ (x1 : Int32) (x2 : Int32) (x3 : Int32) (τ : Mem) (H : Heap) (locs : List Loc) (ls : Array Slot), va_P D vwCl (wl cI cZ cL cR B σ τ) H → va_S (lm_A B) s.heap H locs → lv_has ls 4 [(0, .ref (B + 140)), (1, .int x1), (2, .int x2), (3, .int x3)] → f_X5_pours_30 n x1 x2 x3 τ = some (r, τ') → W p l e rmX5_pours s m args below meth c0 H locs 0 0 (MQ below (lm_QI D cI cZ cL cR B r σ τ') args s 0 0 (lm_A B)) (F0 m 30 ls []) := by
  obtain ⟨hx, hb, hml, hr, hlk, hown, hts, hK, hX⟩ := id C0
  intro n
  induction n with
  | zero =>
    intro x1 x2 x3 τ H locs ls hR hS hl hf
    cases hf
  | succ n ih =>
    intro x1 x2 x3 τ H locs ls hR hS hl hf
    rw [f_X5_pours_30] at hf
    refine lv_iload_n hx hb dX5_pours_30 rfl (lv_at hl 3 rfl) ?_
    refine lv_bipush (v := (60 : Int32)) hx hb dX5_pours_31 (by decide) ?_
    refine lv_icmp_gt (tgt := 79) hx hb dX5_pours_33 (by decide) (fun b10 => ?_) (fun b10 => ?_)
    · have hf := lm_T b10 hf
      refine lv_ldc hx hb hown (hts _ uw_585) dX5_pours_79 ?_
      exact lm_riM C0 hR hS hf dX5_pours_81
    · have hf := lm_F b10 hf
      refine lv_aload_n hx hb dX5_pours_36 rfl (lv_at hl 0 rfl) ?_
      obtain ⟨τ13, u11, hf⟩ := lm_bd_e hf
      refine lm_endv (lm_runV C0 hR hS (c_X5_layThen u11) (lw_cV 0 hts uw_708 mv_X5_layThen rfl rfl hd_X5_layThen ⟨Nat.le_of_ble_eq_true rfl, Nat.le_of_ble_eq_true rfl⟩) (by decide) cell_140 rfl rfl hl rfl (Nat.le_of_ble_eq_true rfl) dX5_pours_37) hS (fun H locs hR hS => ?_)
      refine lv_aload_n hx hb dX5_pours_40 rfl (lv_at hl 0 rfl) ?_
      refine lm_get C0 hR (by decide) cell_140 rfl lw_in_X5 7 (by decide) uw_515 rfl rfl dX5_pours_41 ?_
      refine lv_iload_n hx hb dX5_pours_44 rfl (lv_at hl 3 rfl) ?_
      obtain ⟨τ16, u14, hf⟩ := lm_bd_e hf
      refine lm_endv (lm_runS C0 hR hS (c_X5_pourInto isM_146 u14) (lw_cS 2 hts uw_662 mv_X5_pourInto rfl rfl hd_X5_pourInto ⟨Nat.le_of_ble_eq_true rfl, Nat.le_of_ble_eq_true rfl⟩) rfl hl rfl (Nat.le_of_ble_eq_true rfl) dX5_pours_45) hS (fun H locs hR hS => ?_)
      refine lv_aload_n hx hb dX5_pours_48 rfl (lv_at hl 0 rfl) ?_
      refine lm_get C0 hR (by decide) cell_140 rfl lw_in_X5 7 (by decide) uw_515 rfl rfl dX5_pours_49 ?_
      refine lv_iload_n hx hb dX5_pours_52 rfl (lv_at hl 2 rfl) ?_
      obtain ⟨τ19, u17, hf⟩ := lm_bd_e hf
      refine lm_endv (lm_runS C0 hR hS (c_X5_watchesOf isM_146 u17) (lw_cS 2 hts uw_711 mv_X5_watchesOf rfl rfl hd_X5_watchesOf ⟨Nat.le_of_ble_eq_true rfl, Nat.le_of_ble_eq_true rfl⟩) rfl hl rfl (Nat.le_of_ble_eq_true rfl) dX5_pours_53) hS (fun H locs hR hS => ?_)
      refine lv_aload_n hx hb dX5_pours_56 rfl (lv_at hl 0 rfl) ?_
      refine lm_get C0 hR (by decide) cell_140 rfl lw_in_X5 7 (by decide) uw_515 rfl rfl dX5_pours_57 ?_
      refine lv_iconst (v := (1 : Int32)) hx hb dX5_pours_60 (by decide) ?_
      obtain ⟨r21, u20, hf⟩ := lm_bd_e hf
      refine lm_endi (lm_runS C0 hR hS (c_X5_seenBy isM_146 u20) (lw_cS 2 hts uw_648 mv_X5_seenBy rfl rfl hd_X5_seenBy ⟨Nat.le_of_ble_eq_true rfl, Nat.le_of_ble_eq_true rfl⟩) rfl hl rfl (Nat.le_of_ble_eq_true rfl) dX5_pours_61) hS (fun H locs hR hS => ?_)
      refine lv_iload_n hx hb dX5_pours_64 rfl (lv_at hl 1 rfl) ?_
      obtain ⟨r24, u23, hf⟩ := lm_bd_e hf
      refine lm_endi (lm_runS C0 hR hS (c_X5_has u23) (lw_cS 2 hts uw_654 mv_X5_has rfl rfl hd_X5_has ⟨Nat.le_of_ble_eq_true rfl, Nat.le_of_ble_eq_true rfl⟩) rfl hl rfl (Nat.le_of_ble_eq_true rfl) dX5_pours_65) hS (fun H locs hR hS => ?_)
      refine lv_if_eq (tgt := 73) hx hb dX5_pours_68 (by decide) (fun b26 => ?_) (fun b26 => ?_)
      · have hf := lm_T b26 hf
        obtain ⟨v27, ev27, hf⟩ := lm_nm_e hf
        refine lv_iinc (v := v27) (lv' := [(3, .int v27), (0, .ref (B + 140)), (1, .int x1), (2, .int x2)]) hx hb dX5_pours_73 hl (k := 3) rfl (by rw [ev27]; rfl) (by decide) rfl (fun ls hl => ?_)
        refine lv_goto (tgt := 30) hx hb dX5_pours_76 (by decide) ?_
        exact ih _ _ _ _ _ _ _ hR hS (lv_sub hl [1, 2, 3, 0] rfl) hf
      · have hf := lm_F b26 hf
        refine lv_iload_n hx hb dX5_pours_71 rfl (lv_at hl 3 rfl) ?_
        exact lm_riM C0 hR hS hf dX5_pours_72
set_option maxRecDepth 100000 in
set_option maxHeartbeats 4000000 in
theorem c_X5_pours {τ σ τ' : Mem} {p1 : Int32} {p2 : Int32} {r : Int32}  (hf : f_X5_pours τ p1 p2 = some (r, τ')) : lm_CI l yX5_pours wsX5_pours rmX5_pours D cI cZ cL cR B [.ref (B + 140), .int p1, .int p2] σ τ r σ τ' := by
  unfold f_X5_pours at hf
  refine lm_of (cc := cX5_pours) (maxL := 4) (ret := (some .int)) (own := RX5) (by decide) rfl (Nat.le_of_ble_eq_true rfl) (fun p e s m below meth c0 C0 hR ls hl => ?_)
  have hS : va_S (lm_A B) s.heap s.heap [] := va_S.rf
  have hl : lv_has ls 4 [(0, .ref (B + 140)), (1, .int p1), (2, .int p2)] := hl
  obtain ⟨hx, hb, hml, hr, hlk, hown, hts, hK, hX⟩ := id C0
  refine lv_aload_n hx hb dX5_pours_0 rfl (lv_at hl 0 rfl) ?_
  refine lv_iconst (v := (0 : Int32)) hx hb dX5_pours_1 (by decide) ?_
  obtain ⟨τ1, eτ1, hf⟩ := lm_nm_e hf
  refine lm_putM C0 hR hS (by decide) cell_140 rfl lw_in_X5 tyX5 tyX5_ok nmX5 0 (by decide) uw_508 rfl rfl rfl rfl rfl (Nat.le_of_ble_eq_true rfl) eτ1 cell_140u dX5_pours_2 (fun H locs hR hS => ?_)
  refine lv_aload_n hx hb dX5_pours_5 rfl (lv_at hl 0 rfl) ?_
  refine lv_iload_n hx hb dX5_pours_6 rfl (lv_at hl 1 rfl) ?_
  obtain ⟨r3, u2, hf⟩ := lm_bd_e hf
  refine lm_endi (lm_runV C0 hR hS (c_X5_isShip u2) (lw_cV 1 hts uw_682 mv_X5_isShip rfl rfl hd_X5_isShip ⟨Nat.le_of_ble_eq_true rfl, Nat.le_of_ble_eq_true rfl⟩) (by decide) cell_140 rfl rfl hl rfl (Nat.le_of_ble_eq_true rfl) dX5_pours_7) hS (fun H locs hR hS => ?_)
  refine lv_if_eq (tgt := 25) hx hb dX5_pours_10 (by decide) (fun b5 => ?_) (fun b5 => ?_)
  · have hf := lm_T b5 hf
    refine lv_ldc hx hb hown (hts _ uw_548) dX5_pours_25 ?_
    exact lm_riM C0 hR hS hf dX5_pours_27
  · have hf := lm_F b5 hf
    refine lv_iload_n hx hb dX5_pours_13 rfl (lv_at hl 2 rfl) ?_
    refine lv_i2l hx hb dX5_pours_14 rfl ?_
    refine lv_lconst (v := (0 : Int64)) hx hb dX5_pours_15 (by decide) ?_
    refine lv_ldc2 hx hb hown (hts _ uw_731) dX5_pours_16 ?_
    obtain ⟨r7, u6, hf⟩ := lm_bd_e hf
    refine lm_endi (lm_runS C0 hR hS (c_X5_in u6) (lw_cS 3 hts uw_544 mv_X5_in rfl rfl hd_X5_in ⟨Nat.le_of_ble_eq_true rfl, Nat.le_of_ble_eq_true rfl⟩) rfl hl rfl (Nat.le_of_ble_eq_true rfl) dX5_pours_19) hS (fun H locs hR hS => ?_)
    refine lv_if_ne (tgt := 28) hx hb dX5_pours_22 (by decide) (fun b9 => ?_) (fun b9 => ?_)
    · have hf := lm_F b9 hf
      refine lv_iconst (v := (0 : Int32)) hx hb dX5_pours_28 (by decide) ?_
      refine lv_istore_n (lv' := [(3, .int (0 : Int32)), (0, .ref (B + 140)), (1, .int p1), (2, .int p2)]) hx hb dX5_pours_29 rfl hl (by decide) rfl (fun ls hl => ?_)
      exact w_X5_pours_30 C0 _ _ _ _ _ _ _ _ hR hS (lv_sub hl [1, 2, 3, 0] rfl) hf
    · have hf := lm_T b9 hf
      refine lv_ldc hx hb hown (hts _ uw_548) dX5_pours_25 ?_
      exact lm_riM C0 hR hS hf dX5_pours_27
end
/-! ===== X5_lift ===== -/
abbrev rmX5_lift : Room := { frames := 4, cells := 0, slots := 0, locals := 90 }
def f_X5_lift_82 (k50 : Int32 → Int32 → Int32 → Int32 → Int32 → Mem → Option (Int32 × Mem)) : Nat → Int32 → Int32 → Int32 → Int32 → Int32 → Int32 → Int32 → Mem → Option (Int32 × Mem)
  | 0, _, _, _, _, _, _, _, _ => none
  | n + 1, x1, x2, x3, x4, x5, x6, x7, τ => if x1 ≤ x7 then (if x3 = (-1000000 : Int32) then (lm_nm (x5 + (1 : Int32)) fun v24 => k50 x1 x2 x5 x6 v24 τ) else (if x4 ≤ x6 then (lm_nm (x5 + (1 : Int32)) fun v26 => k50 x1 x2 x3 x4 v26 τ) else (lm_nm (x5 + (1 : Int32)) fun v27 => k50 x1 x2 x5 x6 v27 τ))) else (lm_bd (f_X5_watchOf 146 τ) fun τ30 => lm_bd (f_X5_differ 146 τ30) fun r32 => lm_bd (f_X5_bits r32) fun r35 => lm_nm (x6 + r35) fun v37 => lm_nm (x7 + (1 : Int32)) fun v38 => f_X5_lift_82 k50 n x1 x2 x3 x4 x5 v37 v38 τ30)
def f_X5_lift_50 : Nat → Int32 → Int32 → Int32 → Int32 → Int32 → Mem → Option (Int32 × Mem)
  | 0, _, _, _, _, _, _ => none
  | n + 1, x1, x2, x3, x4, x5, τ => lm_ck (lm_in (1 : Int32) 24) (if (τ 144 (1 : Int32).toNatClampNeg) ≤ x5 then (if x2 = 0 then (some (x3, τ)) else (some (x4, τ))) else (lm_bd (f_X5_layThen τ) fun τ19 => lm_ck (lm_in ((6 : Int32) + x5) 24) (lm_nm (up τ19 146 ((6 : Int32) + x5).toNatClampNeg (0 : Int32)) fun τ21 => f_X5_lift_82 (f_X5_lift_50 n) lm_fu x1 x2 x3 x4 x5 (0 : Int32) (0 : Int32) τ21)))
def f_X5_lift (τ : Mem) (p1 : Int32) (p2 : Int32) : Option (Int32 × Mem) := lm_nm (up τ 140 0 (0 : Int32)) fun τ1 => lm_bd (f_X5_isThere τ1) fun r3 => if r3 = 0 then (some ((-1000002 : Int32), τ1)) else (lm_bd (f_X5_in p1.toInt64 (1 : Int64) (30 : Int64)) fun r7 => if r7 = 0 then (some ((-1000001 : Int32), τ1)) else (lm_bd (f_X5_in p2.toInt64 (0 : Int64) (1 : Int64)) fun r11 => if r11 = 0 then (some ((-1000001 : Int32), τ1)) else (f_X5_lift_50 lm_fu p1 p2 (-1000000 : Int32) (-1000000 : Int32) (0 : Int32) τ1)))
abbrev wsX5_lift : List Cond := Cond.code yX5_lift cX5_lift 8 (some .int) :: lw_u
theorem mv_X5_lift : Cond.instanceMethod yX5_lift ∈ lw_u ∧ Cond.selects yX5_lift.cls yX5_lift yX5_lift ∈ lw_u ∧ Cond.initialized yX5_lift.cls ∈ lw_u ∧ Cond.code yX5_lift cX5_lift 8 (some .int) ∈ lw_u := ⟨uw_733, uw_734, uw_6, uw_735⟩
theorem hd_X5_lift : yX5_lift.cls ≠ "java/lang/invoke/MethodHandle" ∧ yX5_lift.cls ≠ "java/lang/invoke/VarHandle" ∧ (parseMethodDescriptor yX5_lift.desc).map (fun d => d.parameters.length) = some 2 := by decide +kernel
section
variable {l : Launch} {D : va_G} {cI cZ cL cR : ClassId} {B : Nat}
set_option maxRecDepth 100000 in
set_option maxHeartbeats 4000000 in
theorem w_X5_lift_82 {p : Program} {e : Env} {s : State} {m : MethodId} {args : Array Value} {below : List Frame} {meth : Method} {c0 : Code} {σ τ' : Mem} {r : Int32} (C0 : lm_Cx D cI cZ cL cR B p s m args meth c0 cX5_lift 8 (some .int) RX5) {k50 : Int32 → Int32 → Int32 → Int32 → Int32 → Mem → Option (Int32 × Mem)} (hk50 : ∀ (x1 : Int32) (x2 : Int32) (x3 : Int32) (x4 : Int32) (x5 : Int32) (τ : Mem) (H : Heap) (locs : List Loc) (ls : Array Slot), va_P D vwCl (wl cI cZ cL cR B σ τ) H → va_S (lm_A B) s.heap H locs → lv_has ls 8 [(0, .ref (B + 140)), (1, .int x1), (2, .int x2), (3, .int x3), (4, .int x4), (5, .int x5)] → k50 x1 x2 x3 x4 x5 τ = some (r, τ') → W p l e rmX5_lift s m args below meth c0 H locs 0 0 (MQ below (lm_QI D cI cZ cL cR B r σ τ') args s 0 0 (lm_A B)) (F0 m 50 ls [])) : ∀ (n : Nat), ∀ (x1 : Int32) (x2 : Int32) (x3 : Int32) (x4 : Int32) (x5 : Int32) (x6 : Int32) (x7 : Int32) (τ : Mem) (H : Heap) (locs : List Loc) (ls : Array Slot), va_P D vwCl (wl cI cZ cL cR B σ τ) H → va_S (lm_A B) s.heap H locs → lv_has ls 8 [(0, .ref (B + 140)), (1, .int x1), (2, .int x2), (3, .int x3), (4, .int x4), (5, .int x5), (6, .int x6), (7, .int x7)] → f_X5_lift_82 k50 n x1 x2 x3 x4 x5 x6 x7 τ = some (r, τ') → W p l e rmX5_lift s m args below meth c0 H locs 0 0 (MQ below (lm_QI D cI cZ cL cR B r σ τ') args s 0 0 (lm_A B)) (F0 m 82 ls []) := by
  obtain ⟨hx, hb, hml, hr, hlk, hown, hts, hK, hX⟩ := id C0
  intro n
  induction n with
  | zero =>
    intro x1 x2 x3 x4 x5 x6 x7 τ H locs ls hR hS hl hf
    cases hf
  | succ n ih =>
    intro x1 x2 x3 x4 x5 x6 x7 τ H locs ls hR hS hl hf
    rw [f_X5_lift_82] at hf
    refine lv_iload hx hb dX5_lift_82 (lv_at hl 7 rfl) ?_
    refine lv_iload_n hx hb dX5_lift_84 rfl (lv_at hl 1 rfl) ?_
    refine lv_icmp_ge (tgt := 116) hx hb dX5_lift_85 (by decide) (fun b22 => ?_) (fun b22 => ?_)
    · have hf := lm_T b22 hf
      refine lv_iload_n hx hb dX5_lift_116 rfl (lv_at hl 3 rfl) ?_
      refine lv_ldc hx hb hown (hts _ uw_585) dX5_lift_117 ?_
      refine lv_icmp_eq (tgt := 129) hx hb dX5_lift_119 (by decide) (fun b23 => ?_) (fun b23 => ?_)
      · have hf := lm_T b23 hf
        refine lv_iload hx hb dX5_lift_129 (lv_at hl 5 rfl) ?_
        refine lv_istore_n (lv' := [(3, .int x5), (0, .ref (B + 140)), (1, .int x1), (2, .int x2), (4, .int x4), (5, .int x5), (6, .int x6), (7, .int x7)]) hx hb dX5_lift_131 rfl hl (by decide) rfl (fun ls hl => ?_)
        refine lv_iload hx hb dX5_lift_132 (lv_at hl 6 rfl) ?_
        refine lv_istore (lv' := [(4, .int x6), (3, .int x5), (0, .ref (B + 140)), (1, .int x1), (2, .int x2), (5, .int x5), (6, .int x6), (7, .int x7)]) hx hb dX5_lift_134 hl (by decide) rfl (fun ls hl => ?_)
        obtain ⟨v24, ev24, hf⟩ := lm_nm_e hf
        refine lv_iinc (v := v24) (lv' := [(5, .int v24), (4, .int x6), (3, .int x5), (0, .ref (B + 140)), (1, .int x1), (2, .int x2), (6, .int x6), (7, .int x7)]) hx hb dX5_lift_136 hl (k := 5) rfl (by rw [ev24]; rfl) (by decide) rfl (fun ls hl => ?_)
        refine lv_goto (tgt := 50) hx hb dX5_lift_139 (by decide) ?_
        exact hk50 _ _ _ _ _ _ _ _ _ hR hS (lv_sub hl [3, 4, 5, 2, 1, 0] rfl) hf
      · have hf := lm_F b23 hf
        refine lv_iload hx hb dX5_lift_122 (lv_at hl 6 rfl) ?_
        refine lv_iload hx hb dX5_lift_124 (lv_at hl 4 rfl) ?_
        refine lv_icmp_ge (tgt := 136) hx hb dX5_lift_126 (by decide) (fun b25 => ?_) (fun b25 => ?_)
        · have hf := lm_T b25 hf
          obtain ⟨v26, ev26, hf⟩ := lm_nm_e hf
          refine lv_iinc (v := v26) (lv' := [(5, .int v26), (0, .ref (B + 140)), (1, .int x1), (2, .int x2), (3, .int x3), (4, .int x4), (6, .int x6), (7, .int x7)]) hx hb dX5_lift_136 hl (k := 5) rfl (by rw [ev26]; rfl) (by decide) rfl (fun ls hl => ?_)
          refine lv_goto (tgt := 50) hx hb dX5_lift_139 (by decide) ?_
          exact hk50 _ _ _ _ _ _ _ _ _ hR hS (lv_sub hl [1, 2, 3, 4, 5, 0] rfl) hf
        · have hf := lm_F b25 hf
          refine lv_iload hx hb dX5_lift_129 (lv_at hl 5 rfl) ?_
          refine lv_istore_n (lv' := [(3, .int x5), (0, .ref (B + 140)), (1, .int x1), (2, .int x2), (4, .int x4), (5, .int x5), (6, .int x6), (7, .int x7)]) hx hb dX5_lift_131 rfl hl (by decide) rfl (fun ls hl => ?_)
          refine lv_iload hx hb dX5_lift_132 (lv_at hl 6 rfl) ?_
          refine lv_istore (lv' := [(4, .int x6), (3, .int x5), (0, .ref (B + 140)), (1, .int x1), (2, .int x2), (5, .int x5), (6, .int x6), (7, .int x7)]) hx hb dX5_lift_134 hl (by decide) rfl (fun ls hl => ?_)
          obtain ⟨v27, ev27, hf⟩ := lm_nm_e hf
          refine lv_iinc (v := v27) (lv' := [(5, .int v27), (4, .int x6), (3, .int x5), (0, .ref (B + 140)), (1, .int x1), (2, .int x2), (6, .int x6), (7, .int x7)]) hx hb dX5_lift_136 hl (k := 5) rfl (by rw [ev27]; rfl) (by decide) rfl (fun ls hl => ?_)
          refine lv_goto (tgt := 50) hx hb dX5_lift_139 (by decide) ?_
          exact hk50 _ _ _ _ _ _ _ _ _ hR hS (lv_sub hl [3, 4, 5, 2, 1, 0] rfl) hf
    · have hf := lm_F b22 hf
      refine lv_aload_n hx hb dX5_lift_88 rfl (lv_at hl 0 rfl) ?_
      refine lm_get C0 hR (by decide) cell_140 rfl lw_in_X5 7 (by decide) uw_515 rfl rfl dX5_lift_89 ?_
      obtain ⟨τ30, u28, hf⟩ := lm_bd_e hf
      refine lm_endv (lm_runS C0 hR hS (c_X5_watchOf isM_146 u28) (lw_cS 1 hts uw_633 mv_X5_watchOf rfl rfl hd_X5_watchOf ⟨Nat.le_of_ble_eq_true rfl, Nat.le_of_ble_eq_true rfl⟩) rfl hl rfl (Nat.le_of_ble_eq_true rfl) dX5_lift_92) hS (fun H locs hR hS => ?_)
      refine lv_iload hx hb dX5_lift_95 (lv_at hl 6 rfl) ?_
      refine lv_aload_n hx hb dX5_lift_97 rfl (lv_at hl 0 rfl) ?_
      refine lm_get C0 hR (by decide) cell_140 rfl lw_in_X5 7 (by decide) uw_515 rfl rfl dX5_lift_98 ?_
      obtain ⟨r32, u31, hf⟩ := lm_bd_e hf
      refine lm_endi (lm_runS C0 hR hS (c_X5_differ isM_146 u31) (lw_cS 1 hts uw_645 mv_X5_differ rfl rfl hd_X5_differ ⟨Nat.le_of_ble_eq_true rfl, Nat.le_of_ble_eq_true rfl⟩) rfl hl rfl (Nat.le_of_ble_eq_true rfl) dX5_lift_101) hS (fun H locs hR hS => ?_)
      obtain ⟨r35, u34, hf⟩ := lm_bd_e hf
      refine lm_endi (lm_runS C0 hR hS (c_X5_bits u34) (lw_cS 1 hts uw_736 mv_X5_bits rfl rfl hd_X5_bits ⟨Nat.le_of_ble_eq_true rfl, Nat.le_of_ble_eq_true rfl⟩) rfl hl rfl (Nat.le_of_ble_eq_true rfl) dX5_lift_104) hS (fun H locs hR hS => ?_)
      refine lv_iadd hx hb dX5_lift_107 ?_
      obtain ⟨v37, ev37, hf⟩ := lm_nm_e hf
      refine lm_topi ev37 ?_
      refine lv_istore (lv' := [(6, .int v37), (0, .ref (B + 140)), (1, .int x1), (2, .int x2), (3, .int x3), (4, .int x4), (5, .int x5), (7, .int x7)]) hx hb dX5_lift_108 hl (by decide) rfl (fun ls hl => ?_)
      obtain ⟨v38, ev38, hf⟩ := lm_nm_e hf
      refine lv_iinc (v := v38) (lv' := [(7, .int v38), (6, .int v37), (0, .ref (B + 140)), (1, .int x1), (2, .int x2), (3, .int x3), (4, .int x4), (5, .int x5)]) hx hb dX5_lift_110 hl (k := 7) rfl (by rw [ev38]; rfl) (by decide) rfl (fun ls hl => ?_)
      refine lv_goto (tgt := 82) hx hb dX5_lift_113 (by decide) ?_
      exact ih _ _ _ _ _ _ _ _ _ _ _ hR hS (lv_sub hl [2, 3, 4, 5, 6, 7, 1, 0] rfl) hf
set_option maxRecDepth 100000 in
set_option maxHeartbeats 4000000 in
theorem w_X5_lift_50 {p : Program} {e : Env} {s : State} {m : MethodId} {args : Array Value} {below : List Frame} {meth : Method} {c0 : Code} {σ τ' : Mem} {r : Int32} (C0 : lm_Cx D cI cZ cL cR B p s m args meth c0 cX5_lift 8 (some .int) RX5) : ∀ (n : Nat), ∀ (x1 : Int32) (x2 : Int32) (x3 : Int32) (x4 : Int32) (x5 : Int32) (τ : Mem) (H : Heap) (locs : List Loc) (ls : Array Slot), va_P D vwCl (wl cI cZ cL cR B σ τ) H → va_S (lm_A B) s.heap H locs → lv_has ls 8 [(0, .ref (B + 140)), (1, .int x1), (2, .int x2), (3, .int x3), (4, .int x4), (5, .int x5)] → f_X5_lift_50 n x1 x2 x3 x4 x5 τ = some (r, τ') → W p l e rmX5_lift s m args below meth c0 H locs 0 0 (MQ below (lm_QI D cI cZ cL cR B r σ τ') args s 0 0 (lm_A B)) (F0 m 50 ls []) := by
  obtain ⟨hx, hb, hml, hr, hlk, hown, hts, hK, hX⟩ := id C0
  intro n
  induction n with
  | zero =>
    intro x1 x2 x3 x4 x5 τ H locs ls hR hS hl hf
    cases hf
  | succ n ih =>
    intro x1 x2 x3 x4 x5 τ H locs ls hR hS hl hf
    rw [f_X5_lift_50] at hf
    refine lv_iload hx hb dX5_lift_50 (lv_at hl 5 rfl) ?_
    refine lv_aload_n hx hb dX5_lift_52 rfl (lv_at hl 0 rfl) ?_
    refine lm_get C0 hR (by decide) cell_140 rfl lw_in_X5 5 (by decide) uw_513 rfl rfl dX5_lift_53 ?_
    refine lv_iconst (v := (1 : Int32)) hx hb dX5_lift_56 (by decide) ?_
    obtain ⟨z14, hf⟩ := lm_ck_e hf
    refine lm_ild C0 hR (by decide) cell_144 z14 dX5_lift_57 ?_
    refine lv_icmp_ge (tgt := 142) hx hb dX5_lift_58 (by decide) (fun b15 => ?_) (fun b15 => ?_)
    · have hf := lm_T b15 hf
      refine lv_iload_n hx hb dX5_lift_142 rfl (lv_at hl 2 rfl) ?_
      refine lv_if_ne (tgt := 150) hx hb dX5_lift_143 (by decide) (fun b16 => ?_) (fun b16 => ?_)
      · have hf := lm_F b16 hf
        refine lv_iload hx hb dX5_lift_150 (lv_at hl 4 rfl) ?_
        exact lm_riM C0 hR hS hf dX5_lift_152
      · have hf := lm_T b16 hf
        refine lv_iload_n hx hb dX5_lift_146 rfl (lv_at hl 3 rfl) ?_
        refine lv_goto (tgt := 152) hx hb dX5_lift_147 (by decide) ?_
        exact lm_riM C0 hR hS hf dX5_lift_152
    · have hf := lm_F b15 hf
      refine lv_aload_n hx hb dX5_lift_61 rfl (lv_at hl 0 rfl) ?_
      obtain ⟨τ19, u17, hf⟩ := lm_bd_e hf
      refine lm_endv (lm_runV C0 hR hS (c_X5_layThen u17) (lw_cV 0 hts uw_708 mv_X5_layThen rfl rfl hd_X5_layThen ⟨Nat.le_of_ble_eq_true rfl, Nat.le_of_ble_eq_true rfl⟩) (by decide) cell_140 rfl rfl hl rfl (Nat.le_of_ble_eq_true rfl) dX5_lift_62) hS (fun H locs hR hS => ?_)
      refine lv_aload_n hx hb dX5_lift_65 rfl (lv_at hl 0 rfl) ?_
      refine lm_get C0 hR (by decide) cell_140 rfl lw_in_X5 7 (by decide) uw_515 rfl rfl dX5_lift_66 ?_
      refine lv_bipush (v := (6 : Int32)) hx hb dX5_lift_69 (by decide) ?_
      refine lv_iload hx hb dX5_lift_71 (lv_at hl 5 rfl) ?_
      refine lv_iadd hx hb dX5_lift_73 ?_
      refine lv_iconst (v := (0 : Int32)) hx hb dX5_lift_74 (by decide) ?_
      obtain ⟨z20, hf⟩ := lm_ck_e hf
      obtain ⟨τ21, eτ21, hf⟩ := lm_nm_e hf
      refine lm_istM C0 hR hS (by decide) cell_146 z20  eτ21 cell_146u dX5_lift_75 (fun H locs hR hS => ?_)
      refine lv_iconst (v := (0 : Int32)) hx hb dX5_lift_76 (by decide) ?_
      refine lv_istore (lv' := [(6, .int (0 : Int32)), (0, .ref (B + 140)), (1, .int x1), (2, .int x2), (3, .int x3), (4, .int x4), (5, .int x5)]) hx hb dX5_lift_77 hl (by decide) rfl (fun ls hl => ?_)
      refine lv_iconst (v := (0 : Int32)) hx hb dX5_lift_79 (by decide) ?_
      refine lv_istore (lv' := [(7, .int (0 : Int32)), (6, .int (0 : Int32)), (0, .ref (B + 140)), (1, .int x1), (2, .int x2), (3, .int x3), (4, .int x4), (5, .int x5)]) hx hb dX5_lift_80 hl (by decide) rfl (fun ls hl => ?_)
      exact w_X5_lift_82 C0 ih _ _ _ _ _ _ _ _ _ _ _ _ hR hS (lv_sub hl [2, 3, 4, 5, 6, 7, 1, 0] rfl) hf
set_option maxRecDepth 100000 in
set_option maxHeartbeats 4000000 in
theorem c_X5_lift {τ σ τ' : Mem} {p1 : Int32} {p2 : Int32} {r : Int32}  (hf : f_X5_lift τ p1 p2 = some (r, τ')) : lm_CI l yX5_lift wsX5_lift rmX5_lift D cI cZ cL cR B [.ref (B + 140), .int p1, .int p2] σ τ r σ τ' := by
  unfold f_X5_lift at hf
  refine lm_of (cc := cX5_lift) (maxL := 8) (ret := (some .int)) (own := RX5) (by decide) rfl (Nat.le_of_ble_eq_true rfl) (fun p e s m below meth c0 C0 hR ls hl => ?_)
  have hS : va_S (lm_A B) s.heap s.heap [] := va_S.rf
  have hl : lv_has ls 8 [(0, .ref (B + 140)), (1, .int p1), (2, .int p2)] := hl
  obtain ⟨hx, hb, hml, hr, hlk, hown, hts, hK, hX⟩ := id C0
  refine lv_aload_n hx hb dX5_lift_0 rfl (lv_at hl 0 rfl) ?_
  refine lv_iconst (v := (0 : Int32)) hx hb dX5_lift_1 (by decide) ?_
  obtain ⟨τ1, eτ1, hf⟩ := lm_nm_e hf
  refine lm_putM C0 hR hS (by decide) cell_140 rfl lw_in_X5 tyX5 tyX5_ok nmX5 0 (by decide) uw_508 rfl rfl rfl rfl rfl (Nat.le_of_ble_eq_true rfl) eτ1 cell_140u dX5_lift_2 (fun H locs hR hS => ?_)
  refine lv_aload_n hx hb dX5_lift_5 rfl (lv_at hl 0 rfl) ?_
  obtain ⟨r3, u2, hf⟩ := lm_bd_e hf
  refine lm_endi (lm_runV C0 hR hS (c_X5_isThere u2) (lw_cV 0 hts uw_625 mv_X5_isThere rfl rfl hd_X5_isThere ⟨Nat.le_of_ble_eq_true rfl, Nat.le_of_ble_eq_true rfl⟩) (by decide) cell_140 rfl rfl hl rfl (Nat.le_of_ble_eq_true rfl) dX5_lift_6) hS (fun H locs hR hS => ?_)
  refine lv_if_ne (tgt := 15) hx hb dX5_lift_9 (by decide) (fun b5 => ?_) (fun b5 => ?_)
  · have hf := lm_F b5 hf
    refine lv_iload_n hx hb dX5_lift_15 rfl (lv_at hl 1 rfl) ?_
    refine lv_i2l hx hb dX5_lift_16 rfl ?_
    refine lv_lconst (v := (1 : Int64)) hx hb dX5_lift_17 (by decide) ?_
    refine lv_ldc2 hx hb hown (hts _ uw_731) dX5_lift_18 ?_
    obtain ⟨r7, u6, hf⟩ := lm_bd_e hf
    refine lm_endi (lm_runS C0 hR hS (c_X5_in u6) (lw_cS 3 hts uw_544 mv_X5_in rfl rfl hd_X5_in ⟨Nat.le_of_ble_eq_true rfl, Nat.le_of_ble_eq_true rfl⟩) rfl hl rfl (Nat.le_of_ble_eq_true rfl) dX5_lift_21) hS (fun H locs hR hS => ?_)
    refine lv_if_eq (tgt := 37) hx hb dX5_lift_24 (by decide) (fun b9 => ?_) (fun b9 => ?_)
    · have hf := lm_T b9 hf
      refine lv_ldc hx hb hown (hts _ uw_548) dX5_lift_37 ?_
      exact lm_riM C0 hR hS hf dX5_lift_39
    · have hf := lm_F b9 hf
      refine lv_iload_n hx hb dX5_lift_27 rfl (lv_at hl 2 rfl) ?_
      refine lv_i2l hx hb dX5_lift_28 rfl ?_
      refine lv_lconst (v := (0 : Int64)) hx hb dX5_lift_29 (by decide) ?_
      refine lv_lconst (v := (1 : Int64)) hx hb dX5_lift_30 (by decide) ?_
      obtain ⟨r11, u10, hf⟩ := lm_bd_e hf
      refine lm_endi (lm_runS C0 hR hS (c_X5_in u10) (lw_cS 3 hts uw_544 mv_X5_in rfl rfl hd_X5_in ⟨Nat.le_of_ble_eq_true rfl, Nat.le_of_ble_eq_true rfl⟩) rfl hl rfl (Nat.le_of_ble_eq_true rfl) dX5_lift_31) hS (fun H locs hR hS => ?_)
      refine lv_if_ne (tgt := 40) hx hb dX5_lift_34 (by decide) (fun b13 => ?_) (fun b13 => ?_)
      · have hf := lm_F b13 hf
        refine lv_ldc hx hb hown (hts _ uw_585) dX5_lift_40 ?_
        refine lv_istore_n (lv' := [(3, .int (-1000000 : Int32)), (0, .ref (B + 140)), (1, .int p1), (2, .int p2)]) hx hb dX5_lift_42 rfl hl (by decide) rfl (fun ls hl => ?_)
        refine lv_ldc hx hb hown (hts _ uw_585) dX5_lift_43 ?_
        refine lv_istore (lv' := [(4, .int (-1000000 : Int32)), (3, .int (-1000000 : Int32)), (0, .ref (B + 140)), (1, .int p1), (2, .int p2)]) hx hb dX5_lift_45 hl (by decide) rfl (fun ls hl => ?_)
        refine lv_iconst (v := (0 : Int32)) hx hb dX5_lift_47 (by decide) ?_
        refine lv_istore (lv' := [(5, .int (0 : Int32)), (4, .int (-1000000 : Int32)), (3, .int (-1000000 : Int32)), (0, .ref (B + 140)), (1, .int p1), (2, .int p2)]) hx hb dX5_lift_48 hl (by decide) rfl (fun ls hl => ?_)
        exact w_X5_lift_50 C0 _ _ _ _ _ _ _ _ _ _ hR hS (lv_sub hl [3, 4, 5, 2, 1, 0] rfl) hf
      · have hf := lm_T b13 hf
        refine lv_ldc hx hb hown (hts _ uw_548) dX5_lift_37 ?_
        exact lm_riM C0 hR hS hf dX5_lift_39
  · have hf := lm_T b5 hf
    refine lv_ldc hx hb hown (hts _ uw_628) dX5_lift_12 ?_
    exact lm_riM C0 hR hS hf dX5_lift_14
end
/-! ===== X5_sent ===== -/
abbrev rmX5_sent : Room := { frames := 4, cells := 0, slots := 0, locals := 90 }
def f_X5_sent_49 : Nat → Int32 → Int32 → Int32 → Int32 → Mem → Option (Int32 × Mem)
  | 0, _, _, _, _, _ => none
  | n + 1, x1, x2, x3, x4, τ => if x1 ≤ x4 then (if x2 = 0 then (lm_bd (f_X5_bits x3) fun r20 => some (r20, τ)) else (some (x3, τ))) else (lm_bd (f_X5_watchOf 146 τ) fun τ24 => lm_bd (f_X5_differ 146 τ24) fun r26 => lm_nm (x3 ||| r26) fun v28 => lm_nm (x4 + (1 : Int32)) fun v29 => f_X5_sent_49 n x1 x2 v28 v29 τ24)
def f_X5_sent (τ : Mem) (p1 : Int32) (p2 : Int32) : Option (Int32 × Mem) := lm_nm (up τ 140 0 (0 : Int32)) fun τ1 => lm_bd (f_X5_isThere τ1) fun r3 => if r3 = 0 then (some ((-1000002 : Int32), τ1)) else (lm_bd (f_X5_in p1.toInt64 (1 : Int64) (30 : Int64)) fun r7 => if r7 = 0 then (some ((-1000001 : Int32), τ1)) else (lm_bd (f_X5_in p2.toInt64 (0 : Int64) (1 : Int64)) fun r11 => if r11 = 0 then (some ((-1000001 : Int32), τ1)) else (lm_bd (f_X5_layThen τ1) fun τ16 => f_X5_sent_49 lm_fu p1 p2 (0 : Int32) (0 : Int32) τ16)))
abbrev wsX5_sent : List Cond := Cond.code yX5_sent cX5_sent 5 (some .int) :: lw_u
theorem mv_X5_sent : Cond.instanceMethod yX5_sent ∈ lw_u ∧ Cond.selects yX5_sent.cls yX5_sent yX5_sent ∈ lw_u ∧ Cond.initialized yX5_sent.cls ∈ lw_u ∧ Cond.code yX5_sent cX5_sent 5 (some .int) ∈ lw_u := ⟨uw_740, uw_741, uw_6, uw_742⟩
theorem hd_X5_sent : yX5_sent.cls ≠ "java/lang/invoke/MethodHandle" ∧ yX5_sent.cls ≠ "java/lang/invoke/VarHandle" ∧ (parseMethodDescriptor yX5_sent.desc).map (fun d => d.parameters.length) = some 2 := by decide +kernel
section
variable {l : Launch} {D : va_G} {cI cZ cL cR : ClassId} {B : Nat}
set_option maxRecDepth 100000 in
set_option maxHeartbeats 4000000 in
theorem w_X5_sent_49 {p : Program} {e : Env} {s : State} {m : MethodId} {args : Array Value} {below : List Frame} {meth : Method} {c0 : Code} {σ τ' : Mem} {r : Int32} (C0 : lm_Cx D cI cZ cL cR B p s m args meth c0 cX5_sent 5 (some .int) RX5) : ∀ (n : Nat), ∀ (x1 : Int32) (x2 : Int32) (x3 : Int32) (x4 : Int32) (τ : Mem) (H : Heap) (locs : List Loc) (ls : Array Slot), va_P D vwCl (wl cI cZ cL cR B σ τ) H → va_S (lm_A B) s.heap H locs → lv_has ls 5 [(0, .ref (B + 140)), (1, .int x1), (2, .int x2), (3, .int x3), (4, .int x4)] → f_X5_sent_49 n x1 x2 x3 x4 τ = some (r, τ') → W p l e rmX5_sent s m args below meth c0 H locs 0 0 (MQ below (lm_QI D cI cZ cL cR B r σ τ') args s 0 0 (lm_A B)) (F0 m 49 ls []) := by
  obtain ⟨hx, hb, hml, hr, hlk, hown, hts, hK, hX⟩ := id C0
  intro n
  induction n with
  | zero =>
    intro x1 x2 x3 x4 τ H locs ls hR hS hl hf
    cases hf
  | succ n ih =>
    intro x1 x2 x3 x4 τ H locs ls hR hS hl hf
    rw [f_X5_sent_49] at hf
    refine lv_iload hx hb dX5_sent_49 (lv_at hl 4 rfl) ?_
    refine lv_iload_n hx hb dX5_sent_51 rfl (lv_at hl 1 rfl) ?_
    refine lv_icmp_ge (tgt := 78) hx hb dX5_sent_52 (by decide) (fun b17 => ?_) (fun b17 => ?_)
    · have hf := lm_T b17 hf
      refine lv_iload_n hx hb dX5_sent_78 rfl (lv_at hl 2 rfl) ?_
      refine lv_if_ne (tgt := 89) hx hb dX5_sent_79 (by decide) (fun b18 => ?_) (fun b18 => ?_)
      · have hf := lm_F b18 hf
        refine lv_iload_n hx hb dX5_sent_89 rfl (lv_at hl 3 rfl) ?_
        exact lm_riM C0 hR hS hf dX5_sent_90
      · have hf := lm_T b18 hf
        refine lv_iload_n hx hb dX5_sent_82 rfl (lv_at hl 3 rfl) ?_
        obtain ⟨r20, u19, hf⟩ := lm_bd_e hf
        refine lm_endi (lm_runS C0 hR hS (c_X5_bits u19) (lw_cS 1 hts uw_736 mv_X5_bits rfl rfl hd_X5_bits ⟨Nat.le_of_ble_eq_true rfl, Nat.le_of_ble_eq_true rfl⟩) rfl hl rfl (Nat.le_of_ble_eq_true rfl) dX5_sent_83) hS (fun H locs hR hS => ?_)
        refine lv_goto (tgt := 90) hx hb dX5_sent_86 (by decide) ?_
        exact lm_riM C0 hR hS hf dX5_sent_90
    · have hf := lm_F b17 hf
      refine lv_aload_n hx hb dX5_sent_55 rfl (lv_at hl 0 rfl) ?_
      refine lm_get C0 hR (by decide) cell_140 rfl lw_in_X5 7 (by decide) uw_515 rfl rfl dX5_sent_56 ?_
      obtain ⟨τ24, u22, hf⟩ := lm_bd_e hf
      refine lm_endv (lm_runS C0 hR hS (c_X5_watchOf isM_146 u22) (lw_cS 1 hts uw_633 mv_X5_watchOf rfl rfl hd_X5_watchOf ⟨Nat.le_of_ble_eq_true rfl, Nat.le_of_ble_eq_true rfl⟩) rfl hl rfl (Nat.le_of_ble_eq_true rfl) dX5_sent_59) hS (fun H locs hR hS => ?_)
      refine lv_iload_n hx hb dX5_sent_62 rfl (lv_at hl 3 rfl) ?_
      refine lv_aload_n hx hb dX5_sent_63 rfl (lv_at hl 0 rfl) ?_
      refine lm_get C0 hR (by decide) cell_140 rfl lw_in_X5 7 (by decide) uw_515 rfl rfl dX5_sent_64 ?_
      obtain ⟨r26, u25, hf⟩ := lm_bd_e hf
      refine lm_endi (lm_runS C0 hR hS (c_X5_differ isM_146 u25) (lw_cS 1 hts uw_645 mv_X5_differ rfl rfl hd_X5_differ ⟨Nat.le_of_ble_eq_true rfl, Nat.le_of_ble_eq_true rfl⟩) rfl hl rfl (Nat.le_of_ble_eq_true rfl) dX5_sent_67) hS (fun H locs hR hS => ?_)
      refine lv_ior hx hb dX5_sent_70 ?_
      obtain ⟨v28, ev28, hf⟩ := lm_nm_e hf
      refine lm_topi ev28 ?_
      refine lv_istore_n (lv' := [(3, .int v28), (0, .ref (B + 140)), (1, .int x1), (2, .int x2), (4, .int x4)]) hx hb dX5_sent_71 rfl hl (by decide) rfl (fun ls hl => ?_)
      obtain ⟨v29, ev29, hf⟩ := lm_nm_e hf
      refine lv_iinc (v := v29) (lv' := [(4, .int v29), (3, .int v28), (0, .ref (B + 140)), (1, .int x1), (2, .int x2)]) hx hb dX5_sent_72 hl (k := 4) rfl (by rw [ev29]; rfl) (by decide) rfl (fun ls hl => ?_)
      refine lv_goto (tgt := 49) hx hb dX5_sent_75 (by decide) ?_
      exact ih _ _ _ _ _ _ _ _ hR hS (lv_sub hl [2, 3, 4, 1, 0] rfl) hf
set_option maxRecDepth 100000 in
set_option maxHeartbeats 4000000 in
theorem c_X5_sent {τ σ τ' : Mem} {p1 : Int32} {p2 : Int32} {r : Int32}  (hf : f_X5_sent τ p1 p2 = some (r, τ')) : lm_CI l yX5_sent wsX5_sent rmX5_sent D cI cZ cL cR B [.ref (B + 140), .int p1, .int p2] σ τ r σ τ' := by
  unfold f_X5_sent at hf
  refine lm_of (cc := cX5_sent) (maxL := 5) (ret := (some .int)) (own := RX5) (by decide) rfl (Nat.le_of_ble_eq_true rfl) (fun p e s m below meth c0 C0 hR ls hl => ?_)
  have hS : va_S (lm_A B) s.heap s.heap [] := va_S.rf
  have hl : lv_has ls 5 [(0, .ref (B + 140)), (1, .int p1), (2, .int p2)] := hl
  obtain ⟨hx, hb, hml, hr, hlk, hown, hts, hK, hX⟩ := id C0
  refine lv_aload_n hx hb dX5_sent_0 rfl (lv_at hl 0 rfl) ?_
  refine lv_iconst (v := (0 : Int32)) hx hb dX5_sent_1 (by decide) ?_
  obtain ⟨τ1, eτ1, hf⟩ := lm_nm_e hf
  refine lm_putM C0 hR hS (by decide) cell_140 rfl lw_in_X5 tyX5 tyX5_ok nmX5 0 (by decide) uw_508 rfl rfl rfl rfl rfl (Nat.le_of_ble_eq_true rfl) eτ1 cell_140u dX5_sent_2 (fun H locs hR hS => ?_)
  refine lv_aload_n hx hb dX5_sent_5 rfl (lv_at hl 0 rfl) ?_
  obtain ⟨r3, u2, hf⟩ := lm_bd_e hf
  refine lm_endi (lm_runV C0 hR hS (c_X5_isThere u2) (lw_cV 0 hts uw_625 mv_X5_isThere rfl rfl hd_X5_isThere ⟨Nat.le_of_ble_eq_true rfl, Nat.le_of_ble_eq_true rfl⟩) (by decide) cell_140 rfl rfl hl rfl (Nat.le_of_ble_eq_true rfl) dX5_sent_6) hS (fun H locs hR hS => ?_)
  refine lv_if_ne (tgt := 15) hx hb dX5_sent_9 (by decide) (fun b5 => ?_) (fun b5 => ?_)
  · have hf := lm_F b5 hf
    refine lv_iload_n hx hb dX5_sent_15 rfl (lv_at hl 1 rfl) ?_
    refine lv_i2l hx hb dX5_sent_16 rfl ?_
    refine lv_lconst (v := (1 : Int64)) hx hb dX5_sent_17 (by decide) ?_
    refine lv_ldc2 hx hb hown (hts _ uw_731) dX5_sent_18 ?_
    obtain ⟨r7, u6, hf⟩ := lm_bd_e hf
    refine lm_endi (lm_runS C0 hR hS (c_X5_in u6) (lw_cS 3 hts uw_544 mv_X5_in rfl rfl hd_X5_in ⟨Nat.le_of_ble_eq_true rfl, Nat.le_of_ble_eq_true rfl⟩) rfl hl rfl (Nat.le_of_ble_eq_true rfl) dX5_sent_21) hS (fun H locs hR hS => ?_)
    refine lv_if_eq (tgt := 37) hx hb dX5_sent_24 (by decide) (fun b9 => ?_) (fun b9 => ?_)
    · have hf := lm_T b9 hf
      refine lv_ldc hx hb hown (hts _ uw_548) dX5_sent_37 ?_
      exact lm_riM C0 hR hS hf dX5_sent_39
    · have hf := lm_F b9 hf
      refine lv_iload_n hx hb dX5_sent_27 rfl (lv_at hl 2 rfl) ?_
      refine lv_i2l hx hb dX5_sent_28 rfl ?_
      refine lv_lconst (v := (0 : Int64)) hx hb dX5_sent_29 (by decide) ?_
      refine lv_lconst (v := (1 : Int64)) hx hb dX5_sent_30 (by decide) ?_
      obtain ⟨r11, u10, hf⟩ := lm_bd_e hf
      refine lm_endi (lm_runS C0 hR hS (c_X5_in u10) (lw_cS 3 hts uw_544 mv_X5_in rfl rfl hd_X5_in ⟨Nat.le_of_ble_eq_true rfl, Nat.le_of_ble_eq_true rfl⟩) rfl hl rfl (Nat.le_of_ble_eq_true rfl) dX5_sent_31) hS (fun H locs hR hS => ?_)
      refine lv_if_ne (tgt := 40) hx hb dX5_sent_34 (by decide) (fun b13 => ?_) (fun b13 => ?_)
      · have hf := lm_F b13 hf
        refine lv_iconst (v := (0 : Int32)) hx hb dX5_sent_40 (by decide) ?_
        refine lv_istore_n (lv' := [(3, .int (0 : Int32)), (0, .ref (B + 140)), (1, .int p1), (2, .int p2)]) hx hb dX5_sent_41 rfl hl (by decide) rfl (fun ls hl => ?_)
        refine lv_aload_n hx hb dX5_sent_42 rfl (lv_at hl 1 rfl) ?_
        obtain ⟨τ16, u14, hf⟩ := lm_bd_e hf
        refine lm_endv (lm_runV C0 hR hS (c_X5_layThen u14) (lw_cV 0 hts uw_708 mv_X5_layThen rfl rfl hd_X5_layThen ⟨Nat.le_of_ble_eq_true rfl, Nat.le_of_ble_eq_true rfl⟩) (by decide) cell_140 rfl rfl hl rfl (Nat.le_of_ble_eq_true rfl) dX5_sent_43) hS (fun H locs hR hS => ?_)
        refine lv_iconst (v := (0 : Int32)) hx hb dX5_sent_46 (by decide) ?_
        refine lv_istore (lv' := [(4, .int (0 : Int32)), (3, .int (0 : Int32)), (0, .ref (B + 140)), (1, .int p1), (2, .int p2)]) hx hb dX5_sent_47 hl (by decide) rfl (fun ls hl => ?_)
        exact w_X5_sent_49 C0 _ _ _ _ _ _ _ _ _ hR hS (lv_sub hl [2, 3, 4, 1, 0] rfl) hf
      · have hf := lm_T b13 hf
        refine lv_ldc hx hb hown (hts _ uw_548) dX5_sent_37 ?_
        exact lm_riM C0 hR hS hf dX5_sent_39
  · have hf := lm_T b5 hf
    refine lv_ldc hx hb hown (hts _ uw_628) dX5_sent_12 ?_
    exact lm_riM C0 hR hS hf dX5_sent_14
end
/-! ===== X5_share ===== -/
abbrev rmX5_share : Room := { frames := 2, cells := 0, slots := 0, locals := 46 }
def f_X5_share_78 : Nat → Int32 → Int32 → Int32 → Int32 → Int32 → Int32 → Mem → Option (Int32 × Mem)
  | 0, _, _, _, _, _, _, _ => none
  | n + 1, x1, x2, x3, x4, x5, x6, τ => lm_ck (lm_in (1 : Int32) 24) (if (τ 144 (1 : Int32).toNatClampNeg) ≤ x6 then (lm_ck (lm_in ((6 : Int32) + x1) 24) (lm_ck (lm_nz x3) (lm_ck (lm_in ((6 : Int32) + x1) 24) (if (τ 144 ((6 : Int32) + x1).toNatClampNeg) ≤ 0 then (some ((((x2 * (τ 144 ((6 : Int32) + x1).toNatClampNeg)) / x3) + (0 : Int32)), τ)) else (if x4 ≤ x5 then (some ((((x2 * (τ 144 ((6 : Int32) + x1).toNatClampNeg)) / x3) + (0 : Int32)), τ)) else (some ((((x2 * (τ 144 ((6 : Int32) + x1).toNatClampNeg)) / x3) + (1 : Int32)), τ))))))) else (lm_ck (lm_in ((6 : Int32) + x6) 24) (lm_ck (lm_nz x3) (lm_nm (x4 - ((x2 * (τ 144 ((6 : Int32) + x6).toNatClampNeg)) / x3)) fun v25 => if x1 ≤ x6 then (lm_nm (x5 + (0 : Int32)) fun v27 => lm_nm (x6 + (1 : Int32)) fun v28 => f_X5_share_78 n x1 x2 x3 v25 v27 v28 τ) else (lm_ck (lm_in ((6 : Int32) + x6) 24) (if (τ 144 ((6 : Int32) + x6).toNatClampNeg) ≤ 0 then (lm_nm (x5 + (0 : Int32)) fun v31 => lm_nm (x6 + (1 : Int32)) fun v32 => f_X5_share_78 n x1 x2 x3 v25 v31 v32 τ) else (lm_nm (x5 + (1 : Int32)) fun v33 => lm_nm (x6 + (1 : Int32)) fun v34 => f_X5_share_78 n x1 x2 x3 v25 v33 v34 τ)))))))
def f_X5_share_33 : Nat → Int32 → Int32 → Int32 → Int32 → Mem → Option (Int32 × Mem)
  | 0, _, _, _, _, _ => none
  | n + 1, x1, x2, x3, x4, τ => lm_ck (lm_in (1 : Int32) 24) (if (τ 144 (1 : Int32).toNatClampNeg) ≤ x4 then (if x3 = 0 then (some ((0 : Int32), τ)) else (f_X5_share_78 lm_fu x1 x2 x3 x2 (0 : Int32) (0 : Int32) τ)) else (lm_ck (lm_in ((6 : Int32) + x4) 24) (lm_nm (x3 + (τ 144 ((6 : Int32) + x4).toNatClampNeg)) fun v14 => lm_nm (x4 + (1 : Int32)) fun v15 => f_X5_share_33 n x1 x2 v14 v15 τ)))
def f_X5_share (τ : Mem) (p1 : Int32) (p2 : Int32) : Option (Int32 × Mem) := lm_nm (up τ 140 0 (0 : Int32)) fun τ1 => lm_bd (f_X5_isFog τ1 p1) fun r3 => if r3 = 0 then (some ((-1000001 : Int32), τ1)) else (lm_bd (f_X5_in p2.toInt64 (0 : Int64) (999 : Int64)) fun r7 => if r7 = 0 then (some ((-1000001 : Int32), τ1)) else (f_X5_share_33 lm_fu p1 p2 (0 : Int32) (0 : Int32) τ1))
abbrev wsX5_share : List Cond := Cond.code yX5_share cX5_share 7 (some .int) :: lw_u
theorem mv_X5_share : Cond.instanceMethod yX5_share ∈ lw_u ∧ Cond.selects yX5_share.cls yX5_share yX5_share ∈ lw_u ∧ Cond.initialized yX5_share.cls ∈ lw_u ∧ Cond.code yX5_share cX5_share 7 (some .int) ∈ lw_u := ⟨uw_744, uw_745, uw_6, uw_746⟩
theorem hd_X5_share : yX5_share.cls ≠ "java/lang/invoke/MethodHandle" ∧ yX5_share.cls ≠ "java/lang/invoke/VarHandle" ∧ (parseMethodDescriptor yX5_share.desc).map (fun d => d.parameters.length) = some 2 := by decide +kernel
section
variable {l : Launch} {D : va_G} {cI cZ cL cR : ClassId} {B : Nat}
set_option maxRecDepth 100000 in
set_option maxHeartbeats 4000000 in
theorem w_X5_share_78 {p : Program} {e : Env} {s : State} {m : MethodId} {args : Array Value} {below : List Frame} {meth : Method} {c0 : Code} {σ τ' : Mem} {r : Int32} (C0 : lm_Cx D cI cZ cL cR B p s m args meth c0 cX5_share 7 (some .int) RX5) : ∀ (n : Nat), ∀ (x1 : Int32) (x2 : Int32) (x3 : Int32) (x4 : Int32) (x5 : Int32) (x6 : Int32) (τ : Mem) (H : Heap) (locs : List Loc) (ls : Array Slot), va_P D vwCl (wl cI cZ cL cR B σ τ) H → va_S (lm_A B) s.heap H locs → lv_has ls 7 [(0, .ref (B + 140)), (1, .int x1), (2, .int x2), (3, .int x3), (4, .int x4), (5, .int x5), (6, .int x6)] → f_X5_share_78 n x1 x2 x3 x4 x5 x6 τ = some (r, τ') → W p l e rmX5_share s m args below meth c0 H locs 0 0 (MQ below (lm_QI D cI cZ cL cR B r σ τ') args s 0 0 (lm_A B)) (F0 m 78 ls []) := by
  obtain ⟨hx, hb, hml, hr, hlk, hown, hts, hK, hX⟩ := id C0
  intro n
  induction n with
  | zero =>
    intro x1 x2 x3 x4 x5 x6 τ H locs ls hR hS hl hf
    cases hf
  | succ n ih =>
    intro x1 x2 x3 x4 x5 x6 τ H locs ls hR hS hl hf
    rw [f_X5_share_78] at hf
    refine lv_iload hx hb dX5_share_78 (lv_at hl 6 rfl) ?_
    refine lv_aload_n hx hb dX5_share_80 rfl (lv_at hl 0 rfl) ?_
    refine lm_get C0 hR (by decide) cell_140 rfl lw_in_X5 5 (by decide) uw_513 rfl rfl dX5_share_81 ?_
    refine lv_iconst (v := (1 : Int32)) hx hb dX5_share_84 (by decide) ?_
    obtain ⟨z16, hf⟩ := lm_ck_e hf
    refine lm_ild C0 hR (by decide) cell_144 z16 dX5_share_85 ?_
    refine lv_icmp_ge (tgt := 143) hx hb dX5_share_86 (by decide) (fun b17 => ?_) (fun b17 => ?_)
    · have hf := lm_T b17 hf
      refine lv_iload_n hx hb dX5_share_143 rfl (lv_at hl 2 rfl) ?_
      refine lv_aload_n hx hb dX5_share_144 rfl (lv_at hl 0 rfl) ?_
      refine lm_get C0 hR (by decide) cell_140 rfl lw_in_X5 5 (by decide) uw_513 rfl rfl dX5_share_145 ?_
      refine lv_bipush (v := (6 : Int32)) hx hb dX5_share_148 (by decide) ?_
      refine lv_iload_n hx hb dX5_share_150 rfl (lv_at hl 1 rfl) ?_
      refine lv_iadd hx hb dX5_share_151 ?_
      obtain ⟨z18, hf⟩ := lm_ck_e hf
      refine lm_ild C0 hR (by decide) cell_144 z18 dX5_share_152 ?_
      refine lv_imul hx hb dX5_share_153 ?_
      refine lv_iload_n hx hb dX5_share_154 rfl (lv_at hl 3 rfl) ?_
      obtain ⟨z19, hf⟩ := lm_ck_e hf
      refine lv_idiv hx hb dX5_share_155 (lm_nzT z19) ?_
      refine lv_aload_n hx hb dX5_share_156 rfl (lv_at hl 0 rfl) ?_
      refine lm_get C0 hR (by decide) cell_140 rfl lw_in_X5 5 (by decide) uw_513 rfl rfl dX5_share_157 ?_
      refine lv_bipush (v := (6 : Int32)) hx hb dX5_share_160 (by decide) ?_
      refine lv_iload_n hx hb dX5_share_162 rfl (lv_at hl 1 rfl) ?_
      refine lv_iadd hx hb dX5_share_163 ?_
      obtain ⟨z20, hf⟩ := lm_ck_e hf
      refine lm_ild C0 hR (by decide) cell_144 z20 dX5_share_164 ?_
      refine lv_if_le (tgt := 179) hx hb dX5_share_165 (by decide) (fun b21 => ?_) (fun b21 => ?_)
      · have hf := lm_T b21 hf
        refine lv_iconst (v := (0 : Int32)) hx hb dX5_share_179 (by decide) ?_
        refine lv_iadd hx hb dX5_share_180 ?_
        exact lm_riM C0 hR hS hf dX5_share_181
      · have hf := lm_F b21 hf
        refine lv_iload hx hb dX5_share_168 (lv_at hl 5 rfl) ?_
        refine lv_iload hx hb dX5_share_170 (lv_at hl 4 rfl) ?_
        refine lv_icmp_ge (tgt := 179) hx hb dX5_share_172 (by decide) (fun b22 => ?_) (fun b22 => ?_)
        · have hf := lm_T b22 hf
          refine lv_iconst (v := (0 : Int32)) hx hb dX5_share_179 (by decide) ?_
          refine lv_iadd hx hb dX5_share_180 ?_
          exact lm_riM C0 hR hS hf dX5_share_181
        · have hf := lm_F b22 hf
          refine lv_iconst (v := (1 : Int32)) hx hb dX5_share_175 (by decide) ?_
          refine lv_goto (tgt := 180) hx hb dX5_share_176 (by decide) ?_
          refine lv_iadd hx hb dX5_share_180 ?_
          exact lm_riM C0 hR hS hf dX5_share_181
    · have hf := lm_F b17 hf
      refine lv_iload hx hb dX5_share_89 (lv_at hl 4 rfl) ?_
      refine lv_iload_n hx hb dX5_share_91 rfl (lv_at hl 2 rfl) ?_
      refine lv_aload_n hx hb dX5_share_92 rfl (lv_at hl 0 rfl) ?_
      refine lm_get C0 hR (by decide) cell_140 rfl lw_in_X5 5 (by decide) uw_513 rfl rfl dX5_share_93 ?_
      refine lv_bipush (v := (6 : Int32)) hx hb dX5_share_96 (by decide) ?_
      refine lv_iload hx hb dX5_share_98 (lv_at hl 6 rfl) ?_
      refine lv_iadd hx hb dX5_share_100 ?_
      obtain ⟨z23, hf⟩ := lm_ck_e hf
      refine lm_ild C0 hR (by decide) cell_144 z23 dX5_share_101 ?_
      refine lv_imul hx hb dX5_share_102 ?_
      refine lv_iload_n hx hb dX5_share_103 rfl (lv_at hl 3 rfl) ?_
      obtain ⟨z24, hf⟩ := lm_ck_e hf
      refine lv_idiv hx hb dX5_share_104 (lm_nzT z24) ?_
      refine lv_isub hx hb dX5_share_105 ?_
      obtain ⟨v25, ev25, hf⟩ := lm_nm_e hf
      refine lm_topi ev25 ?_
      refine lv_istore (lv' := [(4, .int v25), (0, .ref (B + 140)), (1, .int x1), (2, .int x2), (3, .int x3), (5, .int x5), (6, .int x6)]) hx hb dX5_share_106 hl (by decide) rfl (fun ls hl => ?_)
      refine lv_iload hx hb dX5_share_108 (lv_at hl 5 rfl) ?_
      refine lv_iload hx hb dX5_share_110 (lv_at hl 6 rfl) ?_
      refine lv_iload_n hx hb dX5_share_112 rfl (lv_at hl 2 rfl) ?_
      refine lv_icmp_ge (tgt := 133) hx hb dX5_share_113 (by decide) (fun b26 => ?_) (fun b26 => ?_)
      · have hf := lm_T b26 hf
        refine lv_iconst (v := (0 : Int32)) hx hb dX5_share_133 (by decide) ?_
        refine lv_iadd hx hb dX5_share_134 ?_
        obtain ⟨v27, ev27, hf⟩ := lm_nm_e hf
        refine lm_topi ev27 ?_
        refine lv_istore (lv' := [(5, .int v27), (4, .int v25), (0, .ref (B + 140)), (1, .int x1), (2, .int x2), (3, .int x3), (6, .int x6)]) hx hb dX5_share_135 hl (by decide) rfl (fun ls hl => ?_)
        obtain ⟨v28, ev28, hf⟩ := lm_nm_e hf
        refine lv_iinc (v := v28) (lv' := [(6, .int v28), (5, .int v27), (4, .int v25), (0, .ref (B + 140)), (1, .int x1), (2, .int x2), (3, .int x3)]) hx hb dX5_share_137 hl (k := 6) rfl (by rw [ev28]; rfl) (by decide) rfl (fun ls hl => ?_)
        refine lv_goto (tgt := 78) hx hb dX5_share_140 (by decide) ?_
        exact ih _ _ _ _ _ _ _ _ _ _ hR hS (lv_sub hl [3, 4, 5, 6, 2, 1, 0] rfl) hf
      · have hf := lm_F b26 hf
        refine lv_aload_n hx hb dX5_share_116 rfl (lv_at hl 1 rfl) ?_
        refine lm_get C0 hR (by decide) cell_140 rfl lw_in_X5 5 (by decide) uw_513 rfl rfl dX5_share_117 ?_
        refine lv_bipush (v := (6 : Int32)) hx hb dX5_share_120 (by decide) ?_
        refine lv_iload hx hb dX5_share_122 (lv_at hl 6 rfl) ?_
        refine lv_iadd hx hb dX5_share_124 ?_
        obtain ⟨z29, hf⟩ := lm_ck_e hf
        refine lm_ild C0 hR (by decide) cell_144 z29 dX5_share_125 ?_
        refine lv_if_le (tgt := 133) hx hb dX5_share_126 (by decide) (fun b30 => ?_) (fun b30 => ?_)
        · have hf := lm_T b30 hf
          refine lv_iconst (v := (0 : Int32)) hx hb dX5_share_133 (by decide) ?_
          refine lv_iadd hx hb dX5_share_134 ?_
          obtain ⟨v31, ev31, hf⟩ := lm_nm_e hf
          refine lm_topi ev31 ?_
          refine lv_istore (lv' := [(5, .int v31), (4, .int v25), (0, .ref (B + 140)), (1, .int x1), (2, .int x2), (3, .int x3), (6, .int x6)]) hx hb dX5_share_135 hl (by decide) rfl (fun ls hl => ?_)
          obtain ⟨v32, ev32, hf⟩ := lm_nm_e hf
          refine lv_iinc (v := v32) (lv' := [(6, .int v32), (5, .int v31), (4, .int v25), (0, .ref (B + 140)), (1, .int x1), (2, .int x2), (3, .int x3)]) hx hb dX5_share_137 hl (k := 6) rfl (by rw [ev32]; rfl) (by decide) rfl (fun ls hl => ?_)
          refine lv_goto (tgt := 78) hx hb dX5_share_140 (by decide) ?_
          exact ih _ _ _ _ _ _ _ _ _ _ hR hS (lv_sub hl [3, 4, 5, 6, 2, 1, 0] rfl) hf
        · have hf := lm_F b30 hf
          refine lv_iconst (v := (1 : Int32)) hx hb dX5_share_129 (by decide) ?_
          refine lv_goto (tgt := 134) hx hb dX5_share_130 (by decide) ?_
          refine lv_iadd hx hb dX5_share_134 ?_
          obtain ⟨v33, ev33, hf⟩ := lm_nm_e hf
          refine lm_topi ev33 ?_
          refine lv_istore (lv' := [(5, .int v33), (4, .int v25), (0, .ref (B + 140)), (1, .int x1), (2, .int x2), (3, .int x3), (6, .int x6)]) hx hb dX5_share_135 hl (by decide) rfl (fun ls hl => ?_)
          obtain ⟨v34, ev34, hf⟩ := lm_nm_e hf
          refine lv_iinc (v := v34) (lv' := [(6, .int v34), (5, .int v33), (4, .int v25), (0, .ref (B + 140)), (1, .int x1), (2, .int x2), (3, .int x3)]) hx hb dX5_share_137 hl (k := 6) rfl (by rw [ev34]; rfl) (by decide) rfl (fun ls hl => ?_)
          refine lv_goto (tgt := 78) hx hb dX5_share_140 (by decide) ?_
          exact ih _ _ _ _ _ _ _ _ _ _ hR hS (lv_sub hl [3, 4, 5, 6, 2, 1, 0] rfl) hf
set_option maxRecDepth 100000 in
set_option maxHeartbeats 4000000 in
theorem w_X5_share_33 {p : Program} {e : Env} {s : State} {m : MethodId} {args : Array Value} {below : List Frame} {meth : Method} {c0 : Code} {σ τ' : Mem} {r : Int32} (C0 : lm_Cx D cI cZ cL cR B p s m args meth c0 cX5_share 7 (some .int) RX5) : ∀ (n : Nat), ∀ (x1 : Int32) (x2 : Int32) (x3 : Int32) (x4 : Int32) (τ : Mem) (H : Heap) (locs : List Loc) (ls : Array Slot), va_P D vwCl (wl cI cZ cL cR B σ τ) H → va_S (lm_A B) s.heap H locs → lv_has ls 7 [(0, .ref (B + 140)), (1, .int x1), (2, .int x2), (3, .int x3), (4, .int x4)] → f_X5_share_33 n x1 x2 x3 x4 τ = some (r, τ') → W p l e rmX5_share s m args below meth c0 H locs 0 0 (MQ below (lm_QI D cI cZ cL cR B r σ τ') args s 0 0 (lm_A B)) (F0 m 33 ls []) := by
  obtain ⟨hx, hb, hml, hr, hlk, hown, hts, hK, hX⟩ := id C0
  intro n
  induction n with
  | zero =>
    intro x1 x2 x3 x4 τ H locs ls hR hS hl hf
    cases hf
  | succ n ih =>
    intro x1 x2 x3 x4 τ H locs ls hR hS hl hf
    rw [f_X5_share_33] at hf
    refine lv_iload hx hb dX5_share_33 (lv_at hl 4 rfl) ?_
    refine lv_aload_n hx hb dX5_share_35 rfl (lv_at hl 0 rfl) ?_
    refine lm_get C0 hR (by decide) cell_140 rfl lw_in_X5 5 (by decide) uw_513 rfl rfl dX5_share_36 ?_
    refine lv_iconst (v := (1 : Int32)) hx hb dX5_share_39 (by decide) ?_
    obtain ⟨z10, hf⟩ := lm_ck_e hf
    refine lm_ild C0 hR (by decide) cell_144 z10 dX5_share_40 ?_
    refine lv_icmp_ge (tgt := 63) hx hb dX5_share_41 (by decide) (fun b11 => ?_) (fun b11 => ?_)
    · have hf := lm_T b11 hf
      refine lv_iload_n hx hb dX5_share_63 rfl (lv_at hl 3 rfl) ?_
      refine lv_if_ne (tgt := 69) hx hb dX5_share_64 (by decide) (fun b12 => ?_) (fun b12 => ?_)
      · have hf := lm_F b12 hf
        refine lv_iload_n hx hb dX5_share_69 rfl (lv_at hl 2 rfl) ?_
        refine lv_istore (lv' := [(4, .int x2), (0, .ref (B + 140)), (1, .int x1), (2, .int x2), (3, .int x3)]) hx hb dX5_share_70 hl (by decide) rfl (fun ls hl => ?_)
        refine lv_iconst (v := (0 : Int32)) hx hb dX5_share_72 (by decide) ?_
        refine lv_istore (lv' := [(5, .int (0 : Int32)), (4, .int x2), (0, .ref (B + 140)), (1, .int x1), (2, .int x2), (3, .int x3)]) hx hb dX5_share_73 hl (by decide) rfl (fun ls hl => ?_)
        refine lv_iconst (v := (0 : Int32)) hx hb dX5_share_75 (by decide) ?_
        refine lv_istore (lv' := [(6, .int (0 : Int32)), (5, .int (0 : Int32)), (4, .int x2), (0, .ref (B + 140)), (1, .int x1), (2, .int x2), (3, .int x3)]) hx hb dX5_share_76 hl (by decide) rfl (fun ls hl => ?_)
        exact w_X5_share_78 C0 _ _ _ _ _ _ _ _ _ _ _ hR hS (lv_sub hl [3, 4, 5, 6, 2, 1, 0] rfl) hf
      · have hf := lm_T b12 hf
        refine lv_iconst (v := (0 : Int32)) hx hb dX5_share_67 (by decide) ?_
        exact lm_riM C0 hR hS hf dX5_share_68
    · have hf := lm_F b11 hf
      refine lv_iload_n hx hb dX5_share_44 rfl (lv_at hl 3 rfl) ?_
      refine lv_aload_n hx hb dX5_share_45 rfl (lv_at hl 0 rfl) ?_
      refine lm_get C0 hR (by decide) cell_140 rfl lw_in_X5 5 (by decide) uw_513 rfl rfl dX5_share_46 ?_
      refine lv_bipush (v := (6 : Int32)) hx hb dX5_share_49 (by decide) ?_
      refine lv_iload hx hb dX5_share_51 (lv_at hl 4 rfl) ?_
      refine lv_iadd hx hb dX5_share_53 ?_
      obtain ⟨z13, hf⟩ := lm_ck_e hf
      refine lm_ild C0 hR (by decide) cell_144 z13 dX5_share_54 ?_
      refine lv_iadd hx hb dX5_share_55 ?_
      obtain ⟨v14, ev14, hf⟩ := lm_nm_e hf
      refine lm_topi ev14 ?_
      refine lv_istore_n (lv' := [(3, .int v14), (0, .ref (B + 140)), (1, .int x1), (2, .int x2), (4, .int x4)]) hx hb dX5_share_56 rfl hl (by decide) rfl (fun ls hl => ?_)
      obtain ⟨v15, ev15, hf⟩ := lm_nm_e hf
      refine lv_iinc (v := v15) (lv' := [(4, .int v15), (3, .int v14), (0, .ref (B + 140)), (1, .int x1), (2, .int x2)]) hx hb dX5_share_57 hl (k := 4) rfl (by rw [ev15]; rfl) (by decide) rfl (fun ls hl => ?_)
      refine lv_goto (tgt := 33) hx hb dX5_share_60 (by decide) ?_
      exact ih _ _ _ _ _ _ _ _ hR hS (lv_sub hl [2, 3, 4, 1, 0] rfl) hf
set_option maxRecDepth 100000 in
set_option maxHeartbeats 4000000 in
theorem c_X5_share {τ σ τ' : Mem} {p1 : Int32} {p2 : Int32} {r : Int32}  (hf : f_X5_share τ p1 p2 = some (r, τ')) : lm_CI l yX5_share wsX5_share rmX5_share D cI cZ cL cR B [.ref (B + 140), .int p1, .int p2] σ τ r σ τ' := by
  unfold f_X5_share at hf
  refine lm_of (cc := cX5_share) (maxL := 7) (ret := (some .int)) (own := RX5) (by decide) rfl (Nat.le_of_ble_eq_true rfl) (fun p e s m below meth c0 C0 hR ls hl => ?_)
  have hS : va_S (lm_A B) s.heap s.heap [] := va_S.rf
  have hl : lv_has ls 7 [(0, .ref (B + 140)), (1, .int p1), (2, .int p2)] := hl
  obtain ⟨hx, hb, hml, hr, hlk, hown, hts, hK, hX⟩ := id C0
  refine lv_aload_n hx hb dX5_share_0 rfl (lv_at hl 0 rfl) ?_
  refine lv_iconst (v := (0 : Int32)) hx hb dX5_share_1 (by decide) ?_
  obtain ⟨τ1, eτ1, hf⟩ := lm_nm_e hf
  refine lm_putM C0 hR hS (by decide) cell_140 rfl lw_in_X5 tyX5 tyX5_ok nmX5 0 (by decide) uw_508 rfl rfl rfl rfl rfl (Nat.le_of_ble_eq_true rfl) eτ1 cell_140u dX5_share_2 (fun H locs hR hS => ?_)
  refine lv_aload_n hx hb dX5_share_5 rfl (lv_at hl 0 rfl) ?_
  refine lv_iload_n hx hb dX5_share_6 rfl (lv_at hl 1 rfl) ?_
  obtain ⟨r3, u2, hf⟩ := lm_bd_e hf
  refine lm_endi (lm_runV C0 hR hS (c_X5_isFog u2) (lw_cV 1 hts uw_669 mv_X5_isFog rfl rfl hd_X5_isFog ⟨Nat.le_of_ble_eq_true rfl, Nat.le_of_ble_eq_true rfl⟩) (by decide) cell_140 rfl rfl hl rfl (Nat.le_of_ble_eq_true rfl) dX5_share_7) hS (fun H locs hR hS => ?_)
  refine lv_if_eq (tgt := 25) hx hb dX5_share_10 (by decide) (fun b5 => ?_) (fun b5 => ?_)
  · have hf := lm_T b5 hf
    refine lv_ldc hx hb hown (hts _ uw_548) dX5_share_25 ?_
    exact lm_riM C0 hR hS hf dX5_share_27
  · have hf := lm_F b5 hf
    refine lv_iload_n hx hb dX5_share_13 rfl (lv_at hl 2 rfl) ?_
    refine lv_i2l hx hb dX5_share_14 rfl ?_
    refine lv_lconst (v := (0 : Int64)) hx hb dX5_share_15 (by decide) ?_
    refine lv_ldc2 hx hb hown (hts _ uw_747) dX5_share_16 ?_
    obtain ⟨r7, u6, hf⟩ := lm_bd_e hf
    refine lm_endi (lm_runS C0 hR hS (c_X5_in u6) (lw_cS 3 hts uw_544 mv_X5_in rfl rfl hd_X5_in ⟨Nat.le_of_ble_eq_true rfl, Nat.le_of_ble_eq_true rfl⟩) rfl hl rfl (Nat.le_of_ble_eq_true rfl) dX5_share_19) hS (fun H locs hR hS => ?_)
    refine lv_if_ne (tgt := 28) hx hb dX5_share_22 (by decide) (fun b9 => ?_) (fun b9 => ?_)
    · have hf := lm_F b9 hf
      refine lv_iconst (v := (0 : Int32)) hx hb dX5_share_28 (by decide) ?_
      refine lv_istore_n (lv' := [(3, .int (0 : Int32)), (0, .ref (B + 140)), (1, .int p1), (2, .int p2)]) hx hb dX5_share_29 rfl hl (by decide) rfl (fun ls hl => ?_)
      refine lv_iconst (v := (0 : Int32)) hx hb dX5_share_30 (by decide) ?_
      refine lv_istore (lv' := [(4, .int (0 : Int32)), (3, .int (0 : Int32)), (0, .ref (B + 140)), (1, .int p1), (2, .int p2)]) hx hb dX5_share_31 hl (by decide) rfl (fun ls hl => ?_)
      exact w_X5_share_33 C0 _ _ _ _ _ _ _ _ _ hR hS (lv_sub hl [2, 3, 4, 1, 0] rfl) hf
    · have hf := lm_T b9 hf
      refine lv_ldc hx hb hown (hts _ uw_548) dX5_share_25 ?_
      exact lm_riM C0 hR hS hf dX5_share_27
end
/-! ===== X5_afterTurns ===== -/
abbrev rmX5_afterTurns : Room := { frames := 4, cells := 0, slots := 0, locals := 89 }
def f_X5_afterTurns_37 (k7 : Int32 → Int32 → Int32 → Int32 → Mem → Option (Int32 × Mem)) (x1 : Int32) (x2 : Int32) (x3 : Int32) (x4 : Int32) (τ : Mem) : Option (Int32 × Mem) := lm_bd (f_X5_has x1 x4) fun r29 => if r29 = 0 then (lm_nm (x4 + (1 : Int32)) fun v32 => k7 x1 x2 x3 v32 τ) else (if (x4 - x4 / (2 : Int32) * (2 : Int32)) = (1 : Int32) then (lm_ck (lm_in (3 : Int32) 24) (if (τ 146 (3 : Int32).toNatClampNeg) ≤ 0 then (lm_nm (x4 + (1 : Int32)) fun v37 => k7 x1 x2 x3 v37 τ) else (lm_ck (lm_in (3 : Int32) 24) (lm_ck (lm_in (3 : Int32) 24) (lm_nm (up τ 146 (3 : Int32).toNatClampNeg ((τ 146 (3 : Int32).toNatClampNeg) - (1 : Int32))) fun τ40 => lm_nm (x4 + (1 : Int32)) fun v41 => k7 x1 x2 x3 v41 τ40))))) else (lm_nm (x4 + (1 : Int32)) fun v34 => k7 x1 x2 x3 v34 τ))
def f_X5_afterTurns_7 : Nat → Int32 → Int32 → Int32 → Int32 → Mem → Option (Int32 × Mem)
  | 0, _, _, _, _, _ => none
  | n + 1, x1, x2, x3, x4, τ => if x2 ≤ x4 then (lm_bd (f_X5_watchesOf 146 τ x3) fun τ7 => lm_bd (f_X5_seenBy 146 τ7 (1 : Int32)) fun r9 => lm_bd (f_X5_bits r9) fun r12 => lm_bd (f_X5_seenBy 146 τ7 (0 : Int32)) fun r15 => lm_bd (f_X5_bits r15) fun r18 => some ((r12 - r18), τ7)) else (lm_bd (f_X5_has x1 x4) fun r21 => if r21 = 0 then (f_X5_afterTurns_37 (f_X5_afterTurns_7 n) x1 x2 x3 x4 τ) else (if (x4 - x4 / (2 : Int32) * (2 : Int32)) = 0 then (lm_bd (f_X5_pourInto 146 τ (5 : Int32)) fun τ27 => f_X5_afterTurns_37 (f_X5_afterTurns_7 n) x1 x2 x3 x4 τ27) else (f_X5_afterTurns_37 (f_X5_afterTurns_7 n) x1 x2 x3 x4 τ)))
def f_X5_afterTurns (τ : Mem) (p1 : Int32) (p2 : Int32) (p3 : Int32) : Option (Int32 × Mem) := lm_bd (f_X5_layThen τ) fun τ3 => f_X5_afterTurns_7 lm_fu p1 p2 p3 (0 : Int32) τ3
abbrev wsX5_afterTurns : List Cond := Cond.code yX5_afterTurns cX5_afterTurns 5 (some .int) :: lw_u
theorem mv_X5_afterTurns : Cond.instanceMethod yX5_afterTurns ∈ lw_u ∧ Cond.selects yX5_afterTurns.cls yX5_afterTurns yX5_afterTurns ∈ lw_u ∧ Cond.initialized yX5_afterTurns.cls ∈ lw_u ∧ Cond.code yX5_afterTurns cX5_afterTurns 5 (some .int) ∈ lw_u := ⟨uw_755, uw_889, uw_6, uw_756⟩
theorem hd_X5_afterTurns : yX5_afterTurns.cls ≠ "java/lang/invoke/MethodHandle" ∧ yX5_afterTurns.cls ≠ "java/lang/invoke/VarHandle" ∧ (parseMethodDescriptor yX5_afterTurns.desc).map (fun d => d.parameters.length) = some 3 := by decide +kernel
section
variable {l : Launch} {D : va_G} {cI cZ cL cR : ClassId} {B : Nat}
set_option maxRecDepth 100000 in
set_option maxHeartbeats 4000000 in
theorem w_X5_afterTurns_37 {p : Program} {e : Env} {s : State} {m : MethodId} {args : Array Value} {below : List Frame} {meth : Method} {c0 : Code} {σ τ' : Mem} {r : Int32} (C0 : lm_Cx D cI cZ cL cR B p s m args meth c0 cX5_afterTurns 5 (some .int) RX5) {k7 : Int32 → Int32 → Int32 → Int32 → Mem → Option (Int32 × Mem)} (hk7 : ∀ (x1 : Int32) (x2 : Int32) (x3 : Int32) (x4 : Int32) (τ : Mem) (H : Heap) (locs : List Loc) (ls : Array Slot), va_P D vwCl (wl cI cZ cL cR B σ τ) H → va_S (lm_A B) s.heap H locs → lv_has ls 5 [(0, .ref (B + 140)), (1, .int x1), (2, .int x2), (3, .int x3), (4, .int x4)] → k7 x1 x2 x3 x4 τ = some (r, τ') → W p l e rmX5_afterTurns s m args below meth c0 H locs 0 0 (MQ below (lm_QI D cI cZ cL cR B r σ τ') args s 0 0 (lm_A B)) (F0 m 7 ls [])) : ∀ (x1 : Int32) (x2 : Int32) (x3 : Int32) (x4 : Int32) (τ : Mem) (H : Heap) (locs : List Loc) (ls : Array Slot), va_P D vwCl (wl cI cZ cL cR B σ τ) H → va_S (lm_A B) s.heap H locs → lv_has ls 5 [(0, .ref (B + 140)), (1, .int x1), (2, .int x2), (3, .int x3), (4, .int x4)] → f_X5_afterTurns_37 k7 x1 x2 x3 x4 τ = some (r, τ') → W p l e rmX5_afterTurns s m args below meth c0 H locs 0 0 (MQ below (lm_QI D cI cZ cL cR B r σ τ') args s 0 0 (lm_A B)) (F0 m 37 ls []) := by
  obtain ⟨hx, hb, hml, hr, hlk, hown, hts, hK, hX⟩ := id C0
  intro x1 x2 x3 x4 τ H locs ls hR hS hl hf
  unfold f_X5_afterTurns_37 at hf
  refine lv_iload_n hx hb dX5_afterTurns_37 rfl (lv_at hl 1 rfl) ?_
  refine lv_iload hx hb dX5_afterTurns_38 (lv_at hl 4 rfl) ?_
  obtain ⟨r29, u28, hf⟩ := lm_bd_e hf
  refine lm_endi (lm_runS C0 hR hS (c_X5_has u28) (lw_cS 2 hts uw_654 mv_X5_has rfl rfl hd_X5_has ⟨Nat.le_of_ble_eq_true rfl, Nat.le_of_ble_eq_true rfl⟩) rfl hl rfl (Nat.le_of_ble_eq_true rfl) dX5_afterTurns_40) hS (fun H locs hR hS => ?_)
  refine lv_if_eq (tgt := 73) hx hb dX5_afterTurns_43 (by decide) (fun b31 => ?_) (fun b31 => ?_)
  · have hf := lm_T b31 hf
    obtain ⟨v32, ev32, hf⟩ := lm_nm_e hf
    refine lv_iinc (v := v32) (lv' := [(4, .int v32), (0, .ref (B + 140)), (1, .int x1), (2, .int x2), (3, .int x3)]) hx hb dX5_afterTurns_73 hl (k := 4) rfl (by rw [ev32]; rfl) (by decide) rfl (fun ls hl => ?_)
    refine lv_goto (tgt := 7) hx hb dX5_afterTurns_76 (by decide) ?_
    exact hk7 _ _ _ _ _ _ _ _ hR hS (lv_sub hl [1, 2, 3, 4, 0] rfl) hf
  · have hf := lm_F b31 hf
    refine lv_iload hx hb dX5_afterTurns_46 (lv_at hl 4 rfl) ?_
    refine lv_iconst (v := (2 : Int32)) hx hb dX5_afterTurns_48 (by decide) ?_
    refine lv_irem hx hb dX5_afterTurns_49 (by decide) ?_
    refine lv_iconst (v := (1 : Int32)) hx hb dX5_afterTurns_50 (by decide) ?_
    refine lv_icmp_ne (tgt := 73) hx hb dX5_afterTurns_51 (by decide) (fun b33 => ?_) (fun b33 => ?_)
    · have hf := lm_F b33 hf
      obtain ⟨v34, ev34, hf⟩ := lm_nm_e hf
      refine lv_iinc (v := v34) (lv' := [(4, .int v34), (0, .ref (B + 140)), (1, .int x1), (2, .int x2), (3, .int x3)]) hx hb dX5_afterTurns_73 hl (k := 4) rfl (by rw [ev34]; rfl) (by decide) rfl (fun ls hl => ?_)
      refine lv_goto (tgt := 7) hx hb dX5_afterTurns_76 (by decide) ?_
      exact hk7 _ _ _ _ _ _ _ _ hR hS (lv_sub hl [1, 2, 3, 4, 0] rfl) hf
    · have hf := lm_T b33 hf
      refine lv_aload_n hx hb dX5_afterTurns_54 rfl (lv_at hl 0 rfl) ?_
      refine lm_get C0 hR (by decide) cell_140 rfl lw_in_X5 7 (by decide) uw_515 rfl rfl dX5_afterTurns_55 ?_
      refine lv_iconst (v := (3 : Int32)) hx hb dX5_afterTurns_58 (by decide) ?_
      obtain ⟨z35, hf⟩ := lm_ck_e hf
      refine lm_ild C0 hR (by decide) cell_146 z35 dX5_afterTurns_59 ?_
      refine lv_if_le (tgt := 73) hx hb dX5_afterTurns_60 (by decide) (fun b36 => ?_) (fun b36 => ?_)
      · have hf := lm_T b36 hf
        obtain ⟨v37, ev37, hf⟩ := lm_nm_e hf
        refine lv_iinc (v := v37) (lv' := [(4, .int v37), (0, .ref (B + 140)), (1, .int x1), (2, .int x2), (3, .int x3)]) hx hb dX5_afterTurns_73 hl (k := 4) rfl (by rw [ev37]; rfl) (by decide) rfl (fun ls hl => ?_)
        refine lv_goto (tgt := 7) hx hb dX5_afterTurns_76 (by decide) ?_
        exact hk7 _ _ _ _ _ _ _ _ hR hS (lv_sub hl [1, 2, 3, 4, 0] rfl) hf
      · have hf := lm_F b36 hf
        refine lv_aload_n hx hb dX5_afterTurns_63 rfl (lv_at hl 0 rfl) ?_
        refine lm_get C0 hR (by decide) cell_140 rfl lw_in_X5 7 (by decide) uw_515 rfl rfl dX5_afterTurns_64 ?_
        refine lv_iconst (v := (3 : Int32)) hx hb dX5_afterTurns_67 (by decide) ?_
        refine lv_dup2_11 hx hb dX5_afterTurns_68 rfl rfl ?_
        obtain ⟨z38, hf⟩ := lm_ck_e hf
        refine lm_ild C0 hR (by decide) cell_146 z38 dX5_afterTurns_69 ?_
        refine lv_iconst (v := (1 : Int32)) hx hb dX5_afterTurns_70 (by decide) ?_
        refine lv_isub hx hb dX5_afterTurns_71 ?_
        obtain ⟨z39, hf⟩ := lm_ck_e hf
        obtain ⟨τ40, eτ40, hf⟩ := lm_nm_e hf
        refine lm_istM C0 hR hS (by decide) cell_146 z39  eτ40 cell_146u dX5_afterTurns_72 (fun H locs hR hS => ?_)
        obtain ⟨v41, ev41, hf⟩ := lm_nm_e hf
        refine lv_iinc (v := v41) (lv' := [(4, .int v41), (0, .ref (B + 140)), (1, .int x1), (2, .int x2), (3, .int x3)]) hx hb dX5_afterTurns_73 hl (k := 4) rfl (by rw [ev41]; rfl) (by decide) rfl (fun ls hl => ?_)
        refine lv_goto (tgt := 7) hx hb dX5_afterTurns_76 (by decide) ?_
        exact hk7 _ _ _ _ _ _ _ _ hR hS (lv_sub hl [1, 2, 3, 4, 0] rfl) hf
set_option maxRecDepth 100000 in
set_option maxHeartbeats 4000000 in
theorem w_X5_afterTurns_7 {p : Program} {e : Env} {s : State} {m : MethodId} {args : Array Value} {below : List Frame} {meth : Method} {c0 : Code} {σ τ' : Mem} {r : Int32} (C0 : lm_Cx D cI cZ cL cR B p s m args meth c0 cX5_afterTurns 5 (some .int) RX5) : ∀ (n : Nat), ∀ (x1 : Int32) (x2 : Int32) (x3 : Int32) (x4 : Int32) (τ : Mem) (H : Heap) (locs : List Loc) (ls : Array Slot), va_P D vwCl (wl cI cZ cL cR B σ τ) H → va_S (lm_A B) s.heap H locs → lv_has ls 5 [(0, .ref (B + 140)), (1, .int x1), (2, .int x2), (3, .int x3), (4, .int x4)] → f_X5_afterTurns_7 n x1 x2 x3 x4 τ = some (r, τ') → W p l e rmX5_afterTurns s m args below meth c0 H locs 0 0 (MQ below (lm_QI D cI cZ cL cR B r σ τ') args s 0 0 (lm_A B)) (F0 m 7 ls []) := by
  obtain ⟨hx, hb, hml, hr, hlk, hown, hts, hK, hX⟩ := id C0
  intro n
  induction n with
  | zero =>
    intro x1 x2 x3 x4 τ H locs ls hR hS hl hf
    cases hf
  | succ n ih =>
    intro x1 x2 x3 x4 τ H locs ls hR hS hl hf
    rw [f_X5_afterTurns_7] at hf
    refine lv_iload hx hb dX5_afterTurns_7 (lv_at hl 4 rfl) ?_
    refine lv_iload_n hx hb dX5_afterTurns_9 rfl (lv_at hl 2 rfl) ?_
    refine lv_icmp_ge (tgt := 79) hx hb dX5_afterTurns_10 (by decide) (fun b4 => ?_) (fun b4 => ?_)
    · have hf := lm_T b4 hf
      refine lv_aload_n hx hb dX5_afterTurns_79 rfl (lv_at hl 0 rfl) ?_
      refine lm_get C0 hR (by decide) cell_140 rfl lw_in_X5 7 (by decide) uw_515 rfl rfl dX5_afterTurns_80 ?_
      refine lv_iload_n hx hb dX5_afterTurns_83 rfl (lv_at hl 3 rfl) ?_
      obtain ⟨τ7, u5, hf⟩ := lm_bd_e hf
      refine lm_endv (lm_runS C0 hR hS (c_X5_watchesOf isM_146 u5) (lw_cS 2 hts uw_711 mv_X5_watchesOf rfl rfl hd_X5_watchesOf ⟨Nat.le_of_ble_eq_true rfl, Nat.le_of_ble_eq_true rfl⟩) rfl hl rfl (Nat.le_of_ble_eq_true rfl) dX5_afterTurns_84) hS (fun H locs hR hS => ?_)
      refine lv_aload_n hx hb dX5_afterTurns_87 rfl (lv_at hl 0 rfl) ?_
      refine lm_get C0 hR (by decide) cell_140 rfl lw_in_X5 7 (by decide) uw_515 rfl rfl dX5_afterTurns_88 ?_
      refine lv_iconst (v := (1 : Int32)) hx hb dX5_afterTurns_91 (by decide) ?_
      obtain ⟨r9, u8, hf⟩ := lm_bd_e hf
      refine lm_endi (lm_runS C0 hR hS (c_X5_seenBy isM_146 u8) (lw_cS 2 hts uw_648 mv_X5_seenBy rfl rfl hd_X5_seenBy ⟨Nat.le_of_ble_eq_true rfl, Nat.le_of_ble_eq_true rfl⟩) rfl hl rfl (Nat.le_of_ble_eq_true rfl) dX5_afterTurns_92) hS (fun H locs hR hS => ?_)
      obtain ⟨r12, u11, hf⟩ := lm_bd_e hf
      refine lm_endi (lm_runS C0 hR hS (c_X5_bits u11) (lw_cS 1 hts uw_736 mv_X5_bits rfl rfl hd_X5_bits ⟨Nat.le_of_ble_eq_true rfl, Nat.le_of_ble_eq_true rfl⟩) rfl hl rfl (Nat.le_of_ble_eq_true rfl) dX5_afterTurns_95) hS (fun H locs hR hS => ?_)
      refine lv_aload_n hx hb dX5_afterTurns_98 rfl (lv_at hl 0 rfl) ?_
      refine lm_get C0 hR (by decide) cell_140 rfl lw_in_X5 7 (by decide) uw_515 rfl rfl dX5_afterTurns_99 ?_
      refine lv_iconst (v := (0 : Int32)) hx hb dX5_afterTurns_102 (by decide) ?_
      obtain ⟨r15, u14, hf⟩ := lm_bd_e hf
      refine lm_endi (lm_runS C0 hR hS (c_X5_seenBy isM_146 u14) (lw_cS 2 hts uw_648 mv_X5_seenBy rfl rfl hd_X5_seenBy ⟨Nat.le_of_ble_eq_true rfl, Nat.le_of_ble_eq_true rfl⟩) rfl hl rfl (Nat.le_of_ble_eq_true rfl) dX5_afterTurns_103) hS (fun H locs hR hS => ?_)
      obtain ⟨r18, u17, hf⟩ := lm_bd_e hf
      refine lm_endi (lm_runS C0 hR hS (c_X5_bits u17) (lw_cS 1 hts uw_736 mv_X5_bits rfl rfl hd_X5_bits ⟨Nat.le_of_ble_eq_true rfl, Nat.le_of_ble_eq_true rfl⟩) rfl hl rfl (Nat.le_of_ble_eq_true rfl) dX5_afterTurns_106) hS (fun H locs hR hS => ?_)
      refine lv_isub hx hb dX5_afterTurns_109 ?_
      exact lm_riM C0 hR hS hf dX5_afterTurns_110
    · have hf := lm_F b4 hf
      refine lv_iload_n hx hb dX5_afterTurns_13 rfl (lv_at hl 1 rfl) ?_
      refine lv_iload hx hb dX5_afterTurns_14 (lv_at hl 4 rfl) ?_
      obtain ⟨r21, u20, hf⟩ := lm_bd_e hf
      refine lm_endi (lm_runS C0 hR hS (c_X5_has u20) (lw_cS 2 hts uw_654 mv_X5_has rfl rfl hd_X5_has ⟨Nat.le_of_ble_eq_true rfl, Nat.le_of_ble_eq_true rfl⟩) rfl hl rfl (Nat.le_of_ble_eq_true rfl) dX5_afterTurns_16) hS (fun H locs hR hS => ?_)
      refine lv_if_eq (tgt := 37) hx hb dX5_afterTurns_19 (by decide) (fun b23 => ?_) (fun b23 => ?_)
      · have hf := lm_T b23 hf
        exact w_X5_afterTurns_37 C0 ih _ _ _ _ _ _ _ _ hR hS (lv_sub hl [0, 1, 2, 3, 4] rfl) hf
      · have hf := lm_F b23 hf
        refine lv_iload hx hb dX5_afterTurns_22 (lv_at hl 4 rfl) ?_
        refine lv_iconst (v := (2 : Int32)) hx hb dX5_afterTurns_24 (by decide) ?_
        refine lv_irem hx hb dX5_afterTurns_25 (by decide) ?_
        refine lv_if_ne (tgt := 37) hx hb dX5_afterTurns_26 (by decide) (fun b24 => ?_) (fun b24 => ?_)
        · have hf := lm_F b24 hf
          exact w_X5_afterTurns_37 C0 ih _ _ _ _ _ _ _ _ hR hS (lv_sub hl [0, 1, 2, 3, 4] rfl) hf
        · have hf := lm_T b24 hf
          refine lv_aload_n hx hb dX5_afterTurns_29 rfl (lv_at hl 0 rfl) ?_
          refine lm_get C0 hR (by decide) cell_140 rfl lw_in_X5 7 (by decide) uw_515 rfl rfl dX5_afterTurns_30 ?_
          refine lv_iconst (v := (5 : Int32)) hx hb dX5_afterTurns_33 (by decide) ?_
          obtain ⟨τ27, u25, hf⟩ := lm_bd_e hf
          refine lm_endv (lm_runS C0 hR hS (c_X5_pourInto isM_146 u25) (lw_cS 2 hts uw_662 mv_X5_pourInto rfl rfl hd_X5_pourInto ⟨Nat.le_of_ble_eq_true rfl, Nat.le_of_ble_eq_true rfl⟩) rfl hl rfl (Nat.le_of_ble_eq_true rfl) dX5_afterTurns_34) hS (fun H locs hR hS => ?_)
          exact w_X5_afterTurns_37 C0 ih _ _ _ _ _ _ _ _ hR hS (lv_sub hl [0, 1, 2, 3, 4] rfl) hf
set_option maxRecDepth 100000 in
set_option maxHeartbeats 4000000 in
theorem c_X5_afterTurns {τ σ τ' : Mem} {p1 : Int32} {p2 : Int32} {p3 : Int32} {r : Int32}  (hf : f_X5_afterTurns τ p1 p2 p3 = some (r, τ')) : lm_CI l yX5_afterTurns wsX5_afterTurns rmX5_afterTurns D cI cZ cL cR B [.ref (B + 140), .int p1, .int p2, .int p3] σ τ r σ τ' := by
  unfold f_X5_afterTurns at hf
  refine lm_of (cc := cX5_afterTurns) (maxL := 5) (ret := (some .int)) (own := RX5) (by decide) rfl (Nat.le_of_ble_eq_true rfl) (fun p e s m below meth c0 C0 hR ls hl => ?_)
  have hS : va_S (lm_A B) s.heap s.heap [] := va_S.rf
  have hl : lv_has ls 5 [(0, .ref (B + 140)), (1, .int p1), (2, .int p2), (3, .int p3)] := hl
  obtain ⟨hx, hb, hml, hr, hlk, hown, hts, hK, hX⟩ := id C0
  refine lv_aload_n hx hb dX5_afterTurns_0 rfl (lv_at hl 0 rfl) ?_
  obtain ⟨τ3, u1, hf⟩ := lm_bd_e hf
  refine lm_endv (lm_runV C0 hR hS (c_X5_layThen u1) (lw_cV 0 hts uw_708 mv_X5_layThen rfl rfl hd_X5_layThen ⟨Nat.le_of_ble_eq_true rfl, Nat.le_of_ble_eq_true rfl⟩) (by decide) cell_140 rfl rfl hl rfl (Nat.le_of_ble_eq_true rfl) dX5_afterTurns_1) hS (fun H locs hR hS => ?_)
  refine lv_iconst (v := (0 : Int32)) hx hb dX5_afterTurns_4 (by decide) ?_
  refine lv_istore (lv' := [(4, .int (0 : Int32)), (0, .ref (B + 140)), (1, .int p1), (2, .int p2), (3, .int p3)]) hx hb dX5_afterTurns_5 hl (by decide) rfl (fun ls hl => ?_)
  exact w_X5_afterTurns_7 C0 _ _ _ _ _ _ _ _ _ hR hS (lv_sub hl [1, 2, 3, 4, 0] rfl) hf
end
/-! ===== X5_byTurns ===== -/
abbrev rmX5_byTurns : Room := { frames := 5, cells := 0, slots := 0, locals := 113 }
def f_X5_byTurns_144 (k74 : Int32 → Mem → Option (Int32 × Mem)) (k81 : Int32 → Int32 → Mem → Option (Int32 × Mem)) (x3 : Int32) (x4 : Int32) (x5 : Int32) (x6 : Int32) (y0 : Int32) (τ : Mem) : Option (Int32 × Mem) := if y0 = 0 then (lm_ck (lm_in x4 16) (lm_nm (up τ 149 x4.toNatClampNeg x6) fun τ35 => lm_nm (x4 + (1 : Int32)) fun v36 => k81 x3 v36 τ35)) else (lm_ck (lm_in x4 16) (lm_nm (up τ 149 x4.toNatClampNeg x5) fun τ38 => lm_nm (x4 + (1 : Int32)) fun v39 => k81 x3 v39 τ38))
def f_X5_byTurns_81 (k74 : Int32 → Mem → Option (Int32 × Mem)) : Nat → Int32 → Int32 → Mem → Option (Int32 × Mem)
  | 0, _, _, _ => none
  | n + 1, x3, x4, τ => if ((1 : Int32) <<< (x3 &&& 31)) ≤ x4 then (lm_nm (x3 + (-1 : Int32)) fun v25 => k74 v25 τ) else (lm_ck (lm_in x4 16) (lm_nm (τ 149 x4.toNatClampNeg) fun v27 => lm_ck (lm_in (x4 ||| ((1 : Int32) <<< (x3 &&& 31))) 16) (lm_nm (τ 149 (x4 ||| ((1 : Int32) <<< (x3 &&& 31))).toNatClampNeg) fun v29 => if (x3 - x3 / (2 : Int32) * (2 : Int32)) = 0 then (if v27 < v29 then (f_X5_byTurns_144 k74 (f_X5_byTurns_81 k74 n) x3 x4 v27 v29 (0 : Int32) τ) else (f_X5_byTurns_144 k74 (f_X5_byTurns_81 k74 n) x3 x4 v27 v29 (1 : Int32) τ)) else (if v29 < v27 then (f_X5_byTurns_144 k74 (f_X5_byTurns_81 k74 n) x3 x4 v27 v29 (0 : Int32) τ) else (f_X5_byTurns_144 k74 (f_X5_byTurns_81 k74 n) x3 x4 v27 v29 (1 : Int32) τ)))))
def f_X5_byTurns_74 : Nat → Int32 → Mem → Option (Int32 × Mem)
  | 0, _, _ => none
  | n + 1, x3, τ => if x3 < 0 then (lm_ck (lm_in (0 : Int32) 16) (some ((τ 149 (0 : Int32).toNatClampNeg), τ))) else (f_X5_byTurns_81 (f_X5_byTurns_74 n) lm_fu x3 (0 : Int32) τ)
def f_X5_byTurns_44 : Nat → Int32 → Int32 → Int32 → Mem → Option (Int32 × Mem)
  | 0, _, _, _, _ => none
  | n + 1, x1, x2, x3, τ => if ((1 : Int32) <<< (x1 &&& 31)) ≤ x3 then (lm_nm (x1 - (1 : Int32)) fun v15 => f_X5_byTurns_74 lm_fu v15 τ) else (lm_bd2 (f_X5_afterTurns τ x3 x1 x2) fun r17 τ18 => lm_ck (lm_in x3 16) (lm_nm (up τ18 149 x3.toNatClampNeg r17) fun τ20 => lm_nm (x3 + (1 : Int32)) fun v21 => f_X5_byTurns_44 n x1 x2 v21 τ20))
def f_X5_byTurns (τ : Mem) (p1 : Int32) (p2 : Int32) : Option (Int32 × Mem) := lm_nm (up τ 140 0 (0 : Int32)) fun τ1 => lm_bd (f_X5_isThere τ1) fun r3 => if r3 = 0 then (some ((-1000002 : Int32), τ1)) else (lm_bd (f_X5_in p1.toInt64 (0 : Int64) (4 : Int64)) fun r7 => if r7 = 0 then (some ((-1000001 : Int32), τ1)) else (lm_bd (f_X5_in p2.toInt64 (1 : Int64) (20 : Int64)) fun r11 => if r11 = 0 then (some ((-1000001 : Int32), τ1)) else (f_X5_byTurns_44 lm_fu p1 p2 (0 : Int32) τ1)))
abbrev wsX5_byTurns : List Cond := Cond.code yX5_byTurns cX5_byTurns 8 (some .int) :: lw_u
theorem mv_X5_byTurns : Cond.instanceMethod yX5_byTurns ∈ lw_u ∧ Cond.selects yX5_byTurns.cls yX5_byTurns yX5_byTurns ∈ lw_u ∧ Cond.initialized yX5_byTurns.cls ∈ lw_u ∧ Cond.code yX5_byTurns cX5_byTurns 8 (some .int) ∈ lw_u := ⟨uw_749, uw_750, uw_6, uw_751⟩
theorem hd_X5_byTurns : yX5_byTurns.cls ≠ "java/lang/invoke/MethodHandle" ∧ yX5_byTurns.cls ≠ "java/lang/invoke/VarHandle" ∧ (parseMethodDescriptor yX5_byTurns.desc).map (fun d => d.parameters.length) = some 2 := by decide +kernel
section
variable {l : Launch} {D : va_G} {cI cZ cL cR : ClassId} {B : Nat}
set_option maxRecDepth 100000 in
set_option maxHeartbeats 4000000 in
theorem w_X5_byTurns_144 {p : Program} {e : Env} {s : State} {m : MethodId} {args : Array Value} {below : List Frame} {meth : Method} {c0 : Code} {σ τ' : Mem} {r : Int32} (C0 : lm_Cx D cI cZ cL cR B p s m args meth c0 cX5_byTurns 8 (some .int) RX5) {k74 : Int32 → Mem → Option (Int32 × Mem)} (hk74 : ∀ (x3 : Int32) (τ : Mem) (H : Heap) (locs : List Loc) (ls : Array Slot), va_P D vwCl (wl cI cZ cL cR B σ τ) H → va_S (lm_A B) s.heap H locs → lv_has ls 8 [(0, .ref (B + 140)), (3, .int x3)] → k74 x3 τ = some (r, τ') → W p l e rmX5_byTurns s m args below meth c0 H locs 0 0 (MQ below (lm_QI D cI cZ cL cR B r σ τ') args s 0 0 (lm_A B)) (F0 m 74 ls [])) {k81 : Int32 → Int32 → Mem → Option (Int32 × Mem)} (hk81 : ∀ (x3 : Int32) (x4 : Int32) (τ : Mem) (H : Heap) (locs : List Loc) (ls : Array Slot), va_P D vwCl (wl cI cZ cL cR B σ τ) H → va_S (lm_A B) s.heap H locs → lv_has ls 8 [(0, .ref (B + 140)), (3, .int x3), (4, .int x4)] → k81 x3 x4 τ = some (r, τ') → W p l e rmX5_byTurns s m args below meth c0 H locs 0 0 (MQ below (lm_QI D cI cZ cL cR B r σ τ') args s 0 0 (lm_A B)) (F0 m 81 ls [])) : ∀ (x3 : Int32) (x4 : Int32) (x5 : Int32) (x6 : Int32) (y0 : Int32) (τ : Mem) (H : Heap) (locs : List Loc) (ls : Array Slot), va_P D vwCl (wl cI cZ cL cR B σ τ) H → va_S (lm_A B) s.heap H locs → lv_has ls 8 [(0, .ref (B + 140)), (3, .int x3), (4, .int x4), (5, .int x5), (6, .int x6)] → f_X5_byTurns_144 k74 k81 x3 x4 x5 x6 y0 τ = some (r, τ') → W p l e rmX5_byTurns s m args below meth c0 H locs 0 0 (MQ below (lm_QI D cI cZ cL cR B r σ τ') args s 0 0 (lm_A B)) (F0 m 144 ls [.int y0]) := by
  obtain ⟨hx, hb, hml, hr, hlk, hown, hts, hK, hX⟩ := id C0
  intro x3 x4 x5 x6 y0 τ H locs ls hR hS hl hf
  unfold f_X5_byTurns_144 at hf
  refine lv_istore (lv' := [(7, .int y0), (0, .ref (B + 140)), (3, .int x3), (4, .int x4), (5, .int x5), (6, .int x6)]) hx hb dX5_byTurns_144 hl (by decide) rfl (fun ls hl => ?_)
  refine lv_aload_n hx hb dX5_byTurns_146 rfl (lv_at hl 1 rfl) ?_
  refine lm_get C0 hR (by decide) cell_140 rfl lw_in_X5 19 (by decide) uw_527 rfl rfl dX5_byTurns_147 ?_
  refine lv_iload hx hb dX5_byTurns_150 (lv_at hl 3 rfl) ?_
  refine lv_iload hx hb dX5_byTurns_152 (lv_at hl 0 rfl) ?_
  refine lv_if_eq (tgt := 162) hx hb dX5_byTurns_154 (by decide) (fun b33 => ?_) (fun b33 => ?_)
  · have hf := lm_T b33 hf
    refine lv_iload hx hb dX5_byTurns_162 (lv_at hl 5 rfl) ?_
    obtain ⟨z34, hf⟩ := lm_ck_e hf
    obtain ⟨τ35, eτ35, hf⟩ := lm_nm_e hf
    refine lm_istM C0 hR hS (by decide) cell_149 z34  eτ35 cell_149u dX5_byTurns_164 (fun H locs hR hS => ?_)
    obtain ⟨v36, ev36, hf⟩ := lm_nm_e hf
    refine lv_iinc (v := v36) (lv' := [(4, .int v36), (7, .int y0), (0, .ref (B + 140)), (3, .int x3), (5, .int x5), (6, .int x6)]) hx hb dX5_byTurns_165 hl (k := 3) rfl (by rw [ev36]; rfl) (by decide) rfl (fun ls hl => ?_)
    refine lv_goto (tgt := 81) hx hb dX5_byTurns_168 (by decide) ?_
    exact hk81 _ _ _ _ _ _ hR hS (lv_sub hl [2, 3, 0] rfl) hf
  · have hf := lm_F b33 hf
    refine lv_iload hx hb dX5_byTurns_157 (lv_at hl 4 rfl) ?_
    refine lv_goto (tgt := 164) hx hb dX5_byTurns_159 (by decide) ?_
    obtain ⟨z37, hf⟩ := lm_ck_e hf
    obtain ⟨τ38, eτ38, hf⟩ := lm_nm_e hf
    refine lm_istM C0 hR hS (by decide) cell_149 z37  eτ38 cell_149u dX5_byTurns_164 (fun H locs hR hS => ?_)
    obtain ⟨v39, ev39, hf⟩ := lm_nm_e hf
    refine lv_iinc (v := v39) (lv' := [(4, .int v39), (7, .int y0), (0, .ref (B + 140)), (3, .int x3), (5, .int x5), (6, .int x6)]) hx hb dX5_byTurns_165 hl (k := 3) rfl (by rw [ev39]; rfl) (by decide) rfl (fun ls hl => ?_)
    refine lv_goto (tgt := 81) hx hb dX5_byTurns_168 (by decide) ?_
    exact hk81 _ _ _ _ _ _ hR hS (lv_sub hl [2, 3, 0] rfl) hf
set_option maxRecDepth 100000 in
set_option maxHeartbeats 4000000 in
theorem w_X5_byTurns_81 {p : Program} {e : Env} {s : State} {m : MethodId} {args : Array Value} {below : List Frame} {meth : Method} {c0 : Code} {σ τ' : Mem} {r : Int32} (C0 : lm_Cx D cI cZ cL cR B p s m args meth c0 cX5_byTurns 8 (some .int) RX5) {k74 : Int32 → Mem → Option (Int32 × Mem)} (hk74 : ∀ (x3 : Int32) (τ : Mem) (H : Heap) (locs : List Loc) (ls : Array Slot), va_P D vwCl (wl cI cZ cL cR B σ τ) H → va_S (lm_A B) s.heap H locs → lv_has ls 8 [(0, .ref (B + 140)), (3, .int x3)] → k74 x3 τ = some (r, τ') → W p l e rmX5_byTurns s m args below meth c0 H locs 0 0 (MQ below (lm_QI D cI cZ cL cR B r σ τ') args s 0 0 (lm_A B)) (F0 m 74 ls [])) : ∀ (n : Nat), ∀ (x3 : Int32) (x4 : Int32) (τ : Mem) (H : Heap) (locs : List Loc) (ls : Array Slot), va_P D vwCl (wl cI cZ cL cR B σ τ) H → va_S (lm_A B) s.heap H locs → lv_has ls 8 [(0, .ref (B + 140)), (3, .int x3), (4, .int x4)] → f_X5_byTurns_81 k74 n x3 x4 τ = some (r, τ') → W p l e rmX5_byTurns s m args below meth c0 H locs 0 0 (MQ below (lm_QI D cI cZ cL cR B r σ τ') args s 0 0 (lm_A B)) (F0 m 81 ls []) := by
  obtain ⟨hx, hb, hml, hr, hlk, hown, hts, hK, hX⟩ := id C0
  intro n
  induction n with
  | zero =>
    intro x3 x4 τ H locs ls hR hS hl hf
    cases hf
  | succ n ih =>
    intro x3 x4 τ H locs ls hR hS hl hf
    rw [f_X5_byTurns_81] at hf
    refine lv_iload hx hb dX5_byTurns_81 (lv_at hl 2 rfl) ?_
    refine lv_iconst (v := (1 : Int32)) hx hb dX5_byTurns_83 (by decide) ?_
    refine lv_iload_n hx hb dX5_byTurns_84 rfl (lv_at hl 1 rfl) ?_
    refine lv_ishl hx hb dX5_byTurns_85 ?_
    refine lv_icmp_ge (tgt := 171) hx hb dX5_byTurns_86 (by decide) (fun b24 => ?_) (fun b24 => ?_)
    · have hf := lm_T b24 hf
      obtain ⟨v25, ev25, hf⟩ := lm_nm_e hf
      refine lv_iinc (v := v25) (lv' := [(3, .int v25), (0, .ref (B + 140)), (4, .int x4)]) hx hb dX5_byTurns_171 hl (k := 1) rfl (by rw [ev25]; rfl) (by decide) rfl (fun ls hl => ?_)
      refine lv_goto (tgt := 74) hx hb dX5_byTurns_174 (by decide) ?_
      exact hk74 _ _ _ _ _ hR hS (lv_sub hl [1, 0] rfl) hf
    · have hf := lm_F b24 hf
      refine lv_aload_n hx hb dX5_byTurns_89 rfl (lv_at hl 0 rfl) ?_
      refine lm_get C0 hR (by decide) cell_140 rfl lw_in_X5 19 (by decide) uw_527 rfl rfl dX5_byTurns_90 ?_
      refine lv_iload hx hb dX5_byTurns_93 (lv_at hl 2 rfl) ?_
      obtain ⟨z26, hf⟩ := lm_ck_e hf
      refine lm_ild C0 hR (by decide) cell_149 z26 dX5_byTurns_95 ?_
      obtain ⟨v27, ev27, hf⟩ := lm_nm_e hf
      refine lm_topi ev27 ?_
      refine lv_istore (lv' := [(5, .int v27), (0, .ref (B + 140)), (3, .int x3), (4, .int x4)]) hx hb dX5_byTurns_96 hl (by decide) rfl (fun ls hl => ?_)
      refine lv_aload_n hx hb dX5_byTurns_98 rfl (lv_at hl 1 rfl) ?_
      refine lm_get C0 hR (by decide) cell_140 rfl lw_in_X5 19 (by decide) uw_527 rfl rfl dX5_byTurns_99 ?_
      refine lv_iload hx hb dX5_byTurns_102 (lv_at hl 3 rfl) ?_
      refine lv_iconst (v := (1 : Int32)) hx hb dX5_byTurns_104 (by decide) ?_
      refine lv_iload_n hx hb dX5_byTurns_105 rfl (lv_at hl 2 rfl) ?_
      refine lv_ishl hx hb dX5_byTurns_106 ?_
      refine lv_ior hx hb dX5_byTurns_107 ?_
      obtain ⟨z28, hf⟩ := lm_ck_e hf
      refine lm_ild C0 hR (by decide) cell_149 z28 dX5_byTurns_108 ?_
      obtain ⟨v29, ev29, hf⟩ := lm_nm_e hf
      refine lm_topi ev29 ?_
      refine lv_istore (lv' := [(6, .int v29), (5, .int v27), (0, .ref (B + 140)), (3, .int x3), (4, .int x4)]) hx hb dX5_byTurns_109 hl (by decide) rfl (fun ls hl => ?_)
      refine lv_iload_n hx hb dX5_byTurns_111 rfl (lv_at hl 3 rfl) ?_
      refine lv_iconst (v := (2 : Int32)) hx hb dX5_byTurns_112 (by decide) ?_
      refine lv_irem hx hb dX5_byTurns_113 (by decide) ?_
      refine lv_if_ne (tgt := 132) hx hb dX5_byTurns_114 (by decide) (fun b30 => ?_) (fun b30 => ?_)
      · have hf := lm_F b30 hf
        refine lv_iload hx hb dX5_byTurns_132 (lv_at hl 1 rfl) ?_
        refine lv_iload hx hb dX5_byTurns_134 (lv_at hl 0 rfl) ?_
        refine lv_icmp_gt (tgt := 143) hx hb dX5_byTurns_136 (by decide) (fun b31 => ?_) (fun b31 => ?_)
        · have hf := lm_T b31 hf
          refine lv_iconst (v := (0 : Int32)) hx hb dX5_byTurns_143 (by decide) ?_
          exact w_X5_byTurns_144 C0 hk74 ih _ _ _ _ _ _ _ _ _ hR hS (lv_sub hl [2, 3, 4, 1, 0] rfl) hf
        · have hf := lm_F b31 hf
          refine lv_iconst (v := (1 : Int32)) hx hb dX5_byTurns_139 (by decide) ?_
          refine lv_goto (tgt := 144) hx hb dX5_byTurns_140 (by decide) ?_
          exact w_X5_byTurns_144 C0 hk74 ih _ _ _ _ _ _ _ _ _ hR hS (lv_sub hl [2, 3, 4, 1, 0] rfl) hf
      · have hf := lm_T b30 hf
        refine lv_iload hx hb dX5_byTurns_117 (lv_at hl 1 rfl) ?_
        refine lv_iload hx hb dX5_byTurns_119 (lv_at hl 0 rfl) ?_
        refine lv_icmp_lt (tgt := 128) hx hb dX5_byTurns_121 (by decide) (fun b32 => ?_) (fun b32 => ?_)
        · have hf := lm_T b32 hf
          refine lv_iconst (v := (0 : Int32)) hx hb dX5_byTurns_128 (by decide) ?_
          refine lv_goto (tgt := 144) hx hb dX5_byTurns_129 (by decide) ?_
          exact w_X5_byTurns_144 C0 hk74 ih _ _ _ _ _ _ _ _ _ hR hS (lv_sub hl [2, 3, 4, 1, 0] rfl) hf
        · have hf := lm_F b32 hf
          refine lv_iconst (v := (1 : Int32)) hx hb dX5_byTurns_124 (by decide) ?_
          refine lv_goto (tgt := 144) hx hb dX5_byTurns_125 (by decide) ?_
          exact w_X5_byTurns_144 C0 hk74 ih _ _ _ _ _ _ _ _ _ hR hS (lv_sub hl [2, 3, 4, 1, 0] rfl) hf
set_option maxRecDepth 100000 in
set_option maxHeartbeats 4000000 in
theorem w_X5_byTurns_74 {p : Program} {e : Env} {s : State} {m : MethodId} {args : Array Value} {below : List Frame} {meth : Method} {c0 : Code} {σ τ' : Mem} {r : Int32} (C0 : lm_Cx D cI cZ cL cR B p s m args meth c0 cX5_byTurns 8 (some .int) RX5) : ∀ (n : Nat), ∀ (x3 : Int32) (τ : Mem) (H : Heap) (locs : List Loc) (ls : Array Slot), va_P D vwCl (wl cI cZ cL cR B σ τ) H → va_S (lm_A B) s.heap H locs → lv_has ls 8 [(0, .ref (B + 140)), (3, .int x3)] → f_X5_byTurns_74 n x3 τ = some (r, τ') → W p l e rmX5_byTurns s m args below meth c0 H locs 0 0 (MQ below (lm_QI D cI cZ cL cR B r σ τ') args s 0 0 (lm_A B)) (F0 m 74 ls []) := by
  obtain ⟨hx, hb, hml, hr, hlk, hown, hts, hK, hX⟩ := id C0
  intro n
  induction n with
  | zero =>
    intro x3 τ H locs ls hR hS hl hf
    cases hf
  | succ n ih =>
    intro x3 τ H locs ls hR hS hl hf
    rw [f_X5_byTurns_74] at hf
    refine lv_iload_n hx hb dX5_byTurns_74 rfl (lv_at hl 1 rfl) ?_
    refine lv_if_lt (tgt := 177) hx hb dX5_byTurns_75 (by decide) (fun b22 => ?_) (fun b22 => ?_)
    · have hf := lm_T b22 hf
      refine lv_aload_n hx hb dX5_byTurns_177 rfl (lv_at hl 0 rfl) ?_
      refine lm_get C0 hR (by decide) cell_140 rfl lw_in_X5 19 (by decide) uw_527 rfl rfl dX5_byTurns_178 ?_
      refine lv_iconst (v := (0 : Int32)) hx hb dX5_byTurns_181 (by decide) ?_
      obtain ⟨z23, hf⟩ := lm_ck_e hf
      refine lm_ild C0 hR (by decide) cell_149 z23 dX5_byTurns_182 ?_
      exact lm_riM C0 hR hS hf dX5_byTurns_183
    · have hf := lm_F b22 hf
      refine lv_iconst (v := (0 : Int32)) hx hb dX5_byTurns_78 (by decide) ?_
      refine lv_istore (lv' := [(4, .int (0 : Int32)), (0, .ref (B + 140)), (3, .int x3)]) hx hb dX5_byTurns_79 hl (by decide) rfl (fun ls hl => ?_)
      exact w_X5_byTurns_81 C0 ih _ _ _ _ _ _ _ hR hS (lv_sub hl [1, 2, 0] rfl) hf
set_option maxRecDepth 100000 in
set_option maxHeartbeats 4000000 in
theorem w_X5_byTurns_44 {p : Program} {e : Env} {s : State} {m : MethodId} {args : Array Value} {below : List Frame} {meth : Method} {c0 : Code} {σ τ' : Mem} {r : Int32} (C0 : lm_Cx D cI cZ cL cR B p s m args meth c0 cX5_byTurns 8 (some .int) RX5) : ∀ (n : Nat), ∀ (x1 : Int32) (x2 : Int32) (x3 : Int32) (τ : Mem) (H : Heap) (locs : List Loc) (ls : Array Slot), va_P D vwCl (wl cI cZ cL cR B σ τ) H → va_S (lm_A B) s.heap H locs → lv_has ls 8 [(0, .ref (B + 140)), (1, .int x1), (2, .int x2), (3, .int x3)] → f_X5_byTurns_44 n x1 x2 x3 τ = some (r, τ') → W p l e rmX5_byTurns s m args below meth c0 H locs 0 0 (MQ below (lm_QI D cI cZ cL cR B r σ τ') args s 0 0 (lm_A B)) (F0 m 44 ls []) := by
  obtain ⟨hx, hb, hml, hr, hlk, hown, hts, hK, hX⟩ := id C0
  intro n
  induction n with
  | zero =>
    intro x1 x2 x3 τ H locs ls hR hS hl hf
    cases hf
  | succ n ih =>
    intro x1 x2 x3 τ H locs ls hR hS hl hf
    rw [f_X5_byTurns_44] at hf
    refine lv_iload_n hx hb dX5_byTurns_44 rfl (lv_at hl 3 rfl) ?_
    refine lv_iconst (v := (1 : Int32)) hx hb dX5_byTurns_45 (by decide) ?_
    refine lv_iload_n hx hb dX5_byTurns_46 rfl (lv_at hl 1 rfl) ?_
    refine lv_ishl hx hb dX5_byTurns_47 ?_
    refine lv_icmp_ge (tgt := 70) hx hb dX5_byTurns_48 (by decide) (fun b14 => ?_) (fun b14 => ?_)
    · have hf := lm_T b14 hf
      refine lv_iload_n hx hb dX5_byTurns_70 rfl (lv_at hl 1 rfl) ?_
      refine lv_iconst (v := (1 : Int32)) hx hb dX5_byTurns_71 (by decide) ?_
      refine lv_isub hx hb dX5_byTurns_72 ?_
      obtain ⟨v15, ev15, hf⟩ := lm_nm_e hf
      refine lm_topi ev15 ?_
      refine lv_istore_n (lv' := [(3, .int v15), (0, .ref (B + 140)), (1, .int x1), (2, .int x2)]) hx hb dX5_byTurns_73 rfl hl (by decide) rfl (fun ls hl => ?_)
      exact w_X5_byTurns_74 C0 _ _ _ _ _ _ hR hS (lv_sub hl [1, 0] rfl) hf
    · have hf := lm_F b14 hf
      refine lv_aload_n hx hb dX5_byTurns_51 rfl (lv_at hl 0 rfl) ?_
      refine lm_get C0 hR (by decide) cell_140 rfl lw_in_X5 19 (by decide) uw_527 rfl rfl dX5_byTurns_52 ?_
      refine lv_iload_n hx hb dX5_byTurns_55 rfl (lv_at hl 3 rfl) ?_
      refine lv_aload_n hx hb dX5_byTurns_56 rfl (lv_at hl 0 rfl) ?_
      refine lv_iload_n hx hb dX5_byTurns_57 rfl (lv_at hl 3 rfl) ?_
      refine lv_iload_n hx hb dX5_byTurns_58 rfl (lv_at hl 1 rfl) ?_
      refine lv_iload_n hx hb dX5_byTurns_59 rfl (lv_at hl 2 rfl) ?_
      obtain ⟨r17, τ18, u16, hf⟩ := lm_bd2_e hf
      refine lm_endi (lm_runV C0 hR hS (c_X5_afterTurns u16) (lw_cV 3 hts uw_754 mv_X5_afterTurns rfl rfl hd_X5_afterTurns ⟨Nat.le_of_ble_eq_true rfl, Nat.le_of_ble_eq_true rfl⟩) (by decide) cell_140 rfl rfl hl rfl (Nat.le_of_ble_eq_true rfl) dX5_byTurns_60) hS (fun H locs hR hS => ?_)
      obtain ⟨z19, hf⟩ := lm_ck_e hf
      obtain ⟨τ20, eτ20, hf⟩ := lm_nm_e hf
      refine lm_istM C0 hR hS (by decide) cell_149 z19  eτ20 cell_149u dX5_byTurns_63 (fun H locs hR hS => ?_)
      obtain ⟨v21, ev21, hf⟩ := lm_nm_e hf
      refine lv_iinc (v := v21) (lv' := [(3, .int v21), (0, .ref (B + 140)), (1, .int x1), (2, .int x2)]) hx hb dX5_byTurns_64 hl (k := 3) rfl (by rw [ev21]; rfl) (by decide) rfl (fun ls hl => ?_)
      refine lv_goto (tgt := 44) hx hb dX5_byTurns_67 (by decide) ?_
      exact ih _ _ _ _ _ _ _ hR hS (lv_sub hl [1, 2, 3, 0] rfl) hf
set_option maxRecDepth 100000 in
set_option maxHeartbeats 4000000 in
theorem c_X5_byTurns {τ σ τ' : Mem} {p1 : Int32} {p2 : Int32} {r : Int32}  (hf : f_X5_byTurns τ p1 p2 = some (r, τ')) : lm_CI l yX5_byTurns wsX5_byTurns rmX5_byTurns D cI cZ cL cR B [.ref (B + 140), .int p1, .int p2] σ τ r σ τ' := by
  unfold f_X5_byTurns at hf
  refine lm_of (cc := cX5_byTurns) (maxL := 8) (ret := (some .int)) (own := RX5) (by decide) rfl (Nat.le_of_ble_eq_true rfl) (fun p e s m below meth c0 C0 hR ls hl => ?_)
  have hS : va_S (lm_A B) s.heap s.heap [] := va_S.rf
  have hl : lv_has ls 8 [(0, .ref (B + 140)), (1, .int p1), (2, .int p2)] := hl
  obtain ⟨hx, hb, hml, hr, hlk, hown, hts, hK, hX⟩ := id C0
  refine lv_aload_n hx hb dX5_byTurns_0 rfl (lv_at hl 0 rfl) ?_
  refine lv_iconst (v := (0 : Int32)) hx hb dX5_byTurns_1 (by decide) ?_
  obtain ⟨τ1, eτ1, hf⟩ := lm_nm_e hf
  refine lm_putM C0 hR hS (by decide) cell_140 rfl lw_in_X5 tyX5 tyX5_ok nmX5 0 (by decide) uw_508 rfl rfl rfl rfl rfl (Nat.le_of_ble_eq_true rfl) eτ1 cell_140u dX5_byTurns_2 (fun H locs hR hS => ?_)
  refine lv_aload_n hx hb dX5_byTurns_5 rfl (lv_at hl 0 rfl) ?_
  obtain ⟨r3, u2, hf⟩ := lm_bd_e hf
  refine lm_endi (lm_runV C0 hR hS (c_X5_isThere u2) (lw_cV 0 hts uw_625 mv_X5_isThere rfl rfl hd_X5_isThere ⟨Nat.le_of_ble_eq_true rfl, Nat.le_of_ble_eq_true rfl⟩) (by decide) cell_140 rfl rfl hl rfl (Nat.le_of_ble_eq_true rfl) dX5_byTurns_6) hS (fun H locs hR hS => ?_)
  refine lv_if_ne (tgt := 15) hx hb dX5_byTurns_9 (by decide) (fun b5 => ?_) (fun b5 => ?_)
  · have hf := lm_F b5 hf
    refine lv_iload_n hx hb dX5_byTurns_15 rfl (lv_at hl 1 rfl) ?_
    refine lv_i2l hx hb dX5_byTurns_16 rfl ?_
    refine lv_lconst (v := (0 : Int64)) hx hb dX5_byTurns_17 (by decide) ?_
    refine lv_ldc2 hx hb hown (hts _ uw_752) dX5_byTurns_18 ?_
    obtain ⟨r7, u6, hf⟩ := lm_bd_e hf
    refine lm_endi (lm_runS C0 hR hS (c_X5_in u6) (lw_cS 3 hts uw_544 mv_X5_in rfl rfl hd_X5_in ⟨Nat.le_of_ble_eq_true rfl, Nat.le_of_ble_eq_true rfl⟩) rfl hl rfl (Nat.le_of_ble_eq_true rfl) dX5_byTurns_21) hS (fun H locs hR hS => ?_)
    refine lv_if_eq (tgt := 39) hx hb dX5_byTurns_24 (by decide) (fun b9 => ?_) (fun b9 => ?_)
    · have hf := lm_T b9 hf
      refine lv_ldc hx hb hown (hts _ uw_548) dX5_byTurns_39 ?_
      exact lm_riM C0 hR hS hf dX5_byTurns_41
    · have hf := lm_F b9 hf
      refine lv_iload_n hx hb dX5_byTurns_27 rfl (lv_at hl 2 rfl) ?_
      refine lv_i2l hx hb dX5_byTurns_28 rfl ?_
      refine lv_lconst (v := (1 : Int64)) hx hb dX5_byTurns_29 (by decide) ?_
      refine lv_ldc2 hx hb hown (hts _ uw_753) dX5_byTurns_30 ?_
      obtain ⟨r11, u10, hf⟩ := lm_bd_e hf
      refine lm_endi (lm_runS C0 hR hS (c_X5_in u10) (lw_cS 3 hts uw_544 mv_X5_in rfl rfl hd_X5_in ⟨Nat.le_of_ble_eq_true rfl, Nat.le_of_ble_eq_true rfl⟩) rfl hl rfl (Nat.le_of_ble_eq_true rfl) dX5_byTurns_33) hS (fun H locs hR hS => ?_)
      refine lv_if_ne (tgt := 42) hx hb dX5_byTurns_36 (by decide) (fun b13 => ?_) (fun b13 => ?_)
      · have hf := lm_F b13 hf
        refine lv_iconst (v := (0 : Int32)) hx hb dX5_byTurns_42 (by decide) ?_
        refine lv_istore_n (lv' := [(3, .int (0 : Int32)), (0, .ref (B + 140)), (1, .int p1), (2, .int p2)]) hx hb dX5_byTurns_43 rfl hl (by decide) rfl (fun ls hl => ?_)
        exact w_X5_byTurns_44 C0 _ _ _ _ _ _ _ _ hR hS (lv_sub hl [1, 2, 3, 0] rfl) hf
      · have hf := lm_T b13 hf
        refine lv_ldc hx hb hown (hts _ uw_548) dX5_byTurns_39 ?_
        exact lm_riM C0 hR hS hf dX5_byTurns_41
  · have hf := lm_T b5 hf
    refine lv_ldc hx hb hown (hts _ uw_628) dX5_byTurns_12 ?_
    exact lm_riM C0 hR hS hf dX5_byTurns_14
end
/-! ===== X5_isSo ===== -/
abbrev rmX5_isSo : Room := { frames := 3, cells := 0, slots := 0, locals := 67 }
def f_X5_isSo_6 : Nat → Int32 → Int32 → Int32 → Int32 → Int32 → Mem → Option (Int32 × Mem)
  | 0, _, _, _, _, _, _ => none
  | n + 1, x1, x2, x3, x4, x5, τ => if x3 ≤ x5 then (lm_ck (lm_bo x4) (some (x4, τ))) else (lm_bd (f_X5_watchOf 146 τ) fun τ5 => if x4 = 0 then (lm_nm (x5 + (1 : Int32)) fun v7 => f_X5_isSo_6 n x1 x2 x3 (0 : Int32) v7 τ5) else (lm_bd (f_X5_loggedOf 146 τ5 x1) fun r9 => lm_ck (lm_in (x2 + x5) 320) (if r9 = (τ5 143 (x2 + x5).toNatClampNeg) then (lm_nm (x5 + (1 : Int32)) fun v14 => f_X5_isSo_6 n x1 x2 x3 (1 : Int32) v14 τ5) else (lm_nm (x5 + (1 : Int32)) fun v13 => f_X5_isSo_6 n x1 x2 x3 (0 : Int32) v13 τ5))))
def f_X5_isSo (τ : Mem) (p1 : Int32) (p2 : Int32) (p3 : Int32) : Option (Int32 × Mem) := f_X5_isSo_6 lm_fu p1 p2 p3 (1 : Int32) (0 : Int32) τ
abbrev wsX5_isSo : List Cond := Cond.code yX5_isSo cX5_isSo 6 (some .boolean) :: lw_u
theorem mv_X5_isSo : Cond.instanceMethod yX5_isSo ∈ lw_u ∧ Cond.selects yX5_isSo.cls yX5_isSo yX5_isSo ∈ lw_u ∧ Cond.initialized yX5_isSo.cls ∈ lw_u ∧ Cond.code yX5_isSo cX5_isSo 6 (some .boolean) ∈ lw_u := ⟨uw_771, uw_892, uw_6, uw_772⟩
theorem hd_X5_isSo : yX5_isSo.cls ≠ "java/lang/invoke/MethodHandle" ∧ yX5_isSo.cls ≠ "java/lang/invoke/VarHandle" ∧ (parseMethodDescriptor yX5_isSo.desc).map (fun d => d.parameters.length) = some 3 := by decide +kernel
section
variable {l : Launch} {D : va_G} {cI cZ cL cR : ClassId} {B : Nat}
set_option maxRecDepth 100000 in
set_option maxHeartbeats 4000000 in
theorem w_X5_isSo_6 {p : Program} {e : Env} {s : State} {m : MethodId} {args : Array Value} {below : List Frame} {meth : Method} {c0 : Code} {σ τ' : Mem} {r : Int32} (C0 : lm_Cx D cI cZ cL cR B p s m args meth c0 cX5_isSo 6 (some .boolean) RX5) : ∀ (n : Nat), ∀ (x1 : Int32) (x2 : Int32) (x3 : Int32) (x4 : Int32) (x5 : Int32) (τ : Mem) (H : Heap) (locs : List Loc) (ls : Array Slot), va_P D vwCl (wl cI cZ cL cR B σ τ) H → va_S (lm_A B) s.heap H locs → lv_has ls 6 [(0, .ref (B + 140)), (1, .int x1), (2, .int x2), (3, .int x3), (4, .int x4), (5, .int x5)] → f_X5_isSo_6 n x1 x2 x3 x4 x5 τ = some (r, τ') → W p l e rmX5_isSo s m args below meth c0 H locs 0 0 (MQ below (lm_QI D cI cZ cL cR B r σ τ') args s 0 0 (lm_A B)) (F0 m 6 ls []) := by
  obtain ⟨hx, hb, hml, hr, hlk, hown, hts, hK, hX⟩ := id C0
  intro n
  induction n with
  | zero =>
    intro x1 x2 x3 x4 x5 τ H locs ls hR hS hl hf
    cases hf
  | succ n ih =>
    intro x1 x2 x3 x4 x5 τ H locs ls hR hS hl hf
    rw [f_X5_isSo_6] at hf
    refine lv_iload hx hb dX5_isSo_6 (lv_at hl 5 rfl) ?_
    refine lv_iload_n hx hb dX5_isSo_8 rfl (lv_at hl 3 rfl) ?_
    refine lv_icmp_ge (tgt := 57) hx hb dX5_isSo_9 (by decide) (fun b1 => ?_) (fun b1 => ?_)
    · have hf := lm_T b1 hf
      refine lv_iload hx hb dX5_isSo_57 (lv_at hl 4 rfl) ?_
      obtain ⟨z2, hf⟩ := lm_ck_e hf
      exact lm_rzM C0 hR hS hf (lm_boT z2) dX5_isSo_59
    · have hf := lm_F b1 hf
      refine lv_aload_n hx hb dX5_isSo_12 rfl (lv_at hl 0 rfl) ?_
      refine lm_get C0 hR (by decide) cell_140 rfl lw_in_X5 7 (by decide) uw_515 rfl rfl dX5_isSo_13 ?_
      obtain ⟨τ5, u3, hf⟩ := lm_bd_e hf
      refine lm_endv (lm_runS C0 hR hS (c_X5_watchOf isM_146 u3) (lw_cS 1 hts uw_633 mv_X5_watchOf rfl rfl hd_X5_watchOf ⟨Nat.le_of_ble_eq_true rfl, Nat.le_of_ble_eq_true rfl⟩) rfl hl rfl (Nat.le_of_ble_eq_true rfl) dX5_isSo_16) hS (fun H locs hR hS => ?_)
      refine lv_iload hx hb dX5_isSo_19 (lv_at hl 4 rfl) ?_
      refine lv_if_eq (tgt := 48) hx hb dX5_isSo_21 (by decide) (fun b6 => ?_) (fun b6 => ?_)
      · have hf := lm_T b6 hf
        refine lv_iconst (v := (0 : Int32)) hx hb dX5_isSo_48 (by decide) ?_
        refine lv_istore (lv' := [(4, .int (0 : Int32)), (0, .ref (B + 140)), (1, .int x1), (2, .int x2), (3, .int x3), (5, .int x5)]) hx hb dX5_isSo_49 hl (by decide) rfl (fun ls hl => ?_)
        obtain ⟨v7, ev7, hf⟩ := lm_nm_e hf
        refine lv_iinc (v := v7) (lv' := [(5, .int v7), (4, .int (0 : Int32)), (0, .ref (B + 140)), (1, .int x1), (2, .int x2), (3, .int x3)]) hx hb dX5_isSo_51 hl (k := 5) rfl (by rw [ev7]; rfl) (by decide) rfl (fun ls hl => ?_)
        refine lv_goto (tgt := 6) hx hb dX5_isSo_54 (by decide) ?_
        exact ih _ _ _ _ _ _ _ _ _ hR hS (lv_sub hl [2, 3, 4, 5, 1, 0] rfl) hf
      · have hf := lm_F b6 hf
        refine lv_aload_n hx hb dX5_isSo_24 rfl (lv_at hl 0 rfl) ?_
        refine lm_get C0 hR (by decide) cell_140 rfl lw_in_X5 7 (by decide) uw_515 rfl rfl dX5_isSo_25 ?_
        refine lv_iload_n hx hb dX5_isSo_28 rfl (lv_at hl 1 rfl) ?_
        obtain ⟨r9, u8, hf⟩ := lm_bd_e hf
        refine lm_endi (lm_runS C0 hR hS (c_X5_loggedOf isM_146 u8) (lw_cS 2 hts uw_651 mv_X5_loggedOf rfl rfl hd_X5_loggedOf ⟨Nat.le_of_ble_eq_true rfl, Nat.le_of_ble_eq_true rfl⟩) rfl hl rfl (Nat.le_of_ble_eq_true rfl) dX5_isSo_29) hS (fun H locs hR hS => ?_)
        refine lv_aload_n hx hb dX5_isSo_32 rfl (lv_at hl 0 rfl) ?_
        refine lm_get C0 hR (by decide) cell_140 rfl lw_in_X5 4 (by decide) uw_512 rfl rfl dX5_isSo_33 ?_
        refine lv_iload_n hx hb dX5_isSo_36 rfl (lv_at hl 2 rfl) ?_
        refine lv_iload hx hb dX5_isSo_37 (lv_at hl 5 rfl) ?_
        refine lv_iadd hx hb dX5_isSo_39 ?_
        obtain ⟨z11, hf⟩ := lm_ck_e hf
        refine lm_ild C0 hR (by decide) cell_143 z11 dX5_isSo_40 ?_
        refine lv_icmp_ne (tgt := 48) hx hb dX5_isSo_41 (by decide) (fun b12 => ?_) (fun b12 => ?_)
        · have hf := lm_F b12 hf
          refine lv_iconst (v := (0 : Int32)) hx hb dX5_isSo_48 (by decide) ?_
          refine lv_istore (lv' := [(4, .int (0 : Int32)), (0, .ref (B + 140)), (1, .int x1), (2, .int x2), (3, .int x3), (5, .int x5)]) hx hb dX5_isSo_49 hl (by decide) rfl (fun ls hl => ?_)
          obtain ⟨v13, ev13, hf⟩ := lm_nm_e hf
          refine lv_iinc (v := v13) (lv' := [(5, .int v13), (4, .int (0 : Int32)), (0, .ref (B + 140)), (1, .int x1), (2, .int x2), (3, .int x3)]) hx hb dX5_isSo_51 hl (k := 5) rfl (by rw [ev13]; rfl) (by decide) rfl (fun ls hl => ?_)
          refine lv_goto (tgt := 6) hx hb dX5_isSo_54 (by decide) ?_
          exact ih _ _ _ _ _ _ _ _ _ hR hS (lv_sub hl [2, 3, 4, 5, 1, 0] rfl) hf
        · have hf := lm_T b12 hf
          refine lv_iconst (v := (1 : Int32)) hx hb dX5_isSo_44 (by decide) ?_
          refine lv_goto (tgt := 49) hx hb dX5_isSo_45 (by decide) ?_
          refine lv_istore (lv' := [(4, .int (1 : Int32)), (0, .ref (B + 140)), (1, .int x1), (2, .int x2), (3, .int x3), (5, .int x5)]) hx hb dX5_isSo_49 hl (by decide) rfl (fun ls hl => ?_)
          obtain ⟨v14, ev14, hf⟩ := lm_nm_e hf
          refine lv_iinc (v := v14) (lv' := [(5, .int v14), (4, .int (1 : Int32)), (0, .ref (B + 140)), (1, .int x1), (2, .int x2), (3, .int x3)]) hx hb dX5_isSo_51 hl (k := 5) rfl (by rw [ev14]; rfl) (by decide) rfl (fun ls hl => ?_)
          refine lv_goto (tgt := 6) hx hb dX5_isSo_54 (by decide) ?_
          exact ih _ _ _ _ _ _ _ _ _ hR hS (lv_sub hl [2, 3, 4, 5, 1, 0] rfl) hf
set_option maxRecDepth 100000 in
set_option maxHeartbeats 4000000 in
theorem c_X5_isSo {τ σ τ' : Mem} {p1 : Int32} {p2 : Int32} {p3 : Int32} {r : Int32}  (hf : f_X5_isSo τ p1 p2 p3 = some (r, τ')) : lm_CI l yX5_isSo wsX5_isSo rmX5_isSo D cI cZ cL cR B [.ref (B + 140), .int p1, .int p2, .int p3] σ τ r σ τ' := by
  unfold f_X5_isSo at hf
  refine lm_of (cc := cX5_isSo) (maxL := 6) (ret := (some .boolean)) (own := RX5) (by decide) rfl (Nat.le_of_ble_eq_true rfl) (fun p e s m below meth c0 C0 hR ls hl => ?_)
  have hS : va_S (lm_A B) s.heap s.heap [] := va_S.rf
  have hl : lv_has ls 6 [(0, .ref (B + 140)), (1, .int p1), (2, .int p2), (3, .int p3)] := hl
  obtain ⟨hx, hb, hml, hr, hlk, hown, hts, hK, hX⟩ := id C0
  refine lv_iconst (v := (1 : Int32)) hx hb dX5_isSo_0 (by decide) ?_
  refine lv_istore (lv' := [(4, .int (1 : Int32)), (0, .ref (B + 140)), (1, .int p1), (2, .int p2), (3, .int p3)]) hx hb dX5_isSo_1 hl (by decide) rfl (fun ls hl => ?_)
  refine lv_iconst (v := (0 : Int32)) hx hb dX5_isSo_3 (by decide) ?_
  refine lv_istore (lv' := [(5, .int (0 : Int32)), (4, .int (1 : Int32)), (0, .ref (B + 140)), (1, .int p1), (2, .int p2), (3, .int p3)]) hx hb dX5_isSo_4 hl (by decide) rfl (fun ls hl => ?_)
  exact w_X5_isSo_6 C0 _ _ _ _ _ _ _ _ _ _ hR hS (lv_sub hl [2, 3, 4, 5, 1, 0] rfl) hf
end
/-! ===== X5_rowFound ===== -/
abbrev rmX5_rowFound : Room := { frames := 1, cells := 0, slots := 0, locals := 21 }
def f_X5_rowFound (τ : Mem) (p1 : Int32) (p2 : Int32) (p3 : Int32) : Option (Int32 × Mem) := lm_ck (lm_in p1 8) (if 0 ≤ (τ 141 p1.toNatClampNeg) then (if p2 < 0 then (lm_bd2 (f_X5_finding τ (2 : Int32)) fun r5 τ6 => some (r5, τ6)) else (lm_ck (lm_in p1 8) (if (lg_cmp (p2.toInt64 + p3.toInt64) ((τ 142 p1.toNatClampNeg).toInt64)) ≤ 0 then (lm_nm (up τ 140 1 (0 : Int32)) fun τ9 => some ((0 : Int32), τ9)) else (lm_bd2 (f_X5_finding τ (2 : Int32)) fun r11 τ12 => some (r11, τ12))))) else (lm_bd2 (f_X5_finding τ (1 : Int32)) fun r14 τ15 => some (r14, τ15)))
abbrev wsX5_rowFound : List Cond := Cond.code yX5_rowFound cX5_rowFound 4 (some .int) :: lw_u
theorem mv_X5_rowFound : Cond.instanceMethod yX5_rowFound ∈ lw_u ∧ Cond.selects yX5_rowFound.cls yX5_rowFound yX5_rowFound ∈ lw_u ∧ Cond.initialized yX5_rowFound.cls ∈ lw_u ∧ Cond.code yX5_rowFound cX5_rowFound 4 (some .int) ∈ lw_u := ⟨uw_765, uw_890, uw_6, uw_766⟩
theorem hd_X5_rowFound : yX5_rowFound.cls ≠ "java/lang/invoke/MethodHandle" ∧ yX5_rowFound.cls ≠ "java/lang/invoke/VarHandle" ∧ (parseMethodDescriptor yX5_rowFound.desc).map (fun d => d.parameters.length) = some 3 := by decide +kernel
section
variable {l : Launch} {D : va_G} {cI cZ cL cR : ClassId} {B : Nat}
set_option maxRecDepth 100000 in
set_option maxHeartbeats 4000000 in
theorem c_X5_rowFound {τ σ τ' : Mem} {p1 : Int32} {p2 : Int32} {p3 : Int32} {r : Int32}  (hf : f_X5_rowFound τ p1 p2 p3 = some (r, τ')) : lm_CI l yX5_rowFound wsX5_rowFound rmX5_rowFound D cI cZ cL cR B [.ref (B + 140), .int p1, .int p2, .int p3] σ τ r σ τ' := by
  unfold f_X5_rowFound at hf
  refine lm_of (cc := cX5_rowFound) (maxL := 4) (ret := (some .int)) (own := RX5) (by decide) rfl (Nat.le_of_ble_eq_true rfl) (fun p e s m below meth c0 C0 hR ls hl => ?_)
  have hS : va_S (lm_A B) s.heap s.heap [] := va_S.rf
  have hl : lv_has ls 4 [(0, .ref (B + 140)), (1, .int p1), (2, .int p2), (3, .int p3)] := hl
  obtain ⟨hx, hb, hml, hr, hlk, hown, hts, hK, hX⟩ := id C0
  refine lv_aload_n hx hb dX5_rowFound_0 rfl (lv_at hl 0 rfl) ?_
  refine lm_get C0 hR (by decide) cell_140 rfl lw_in_X5 2 (by decide) uw_510 rfl rfl dX5_rowFound_1 ?_
  refine lv_iload_n hx hb dX5_rowFound_4 rfl (lv_at hl 1 rfl) ?_
  obtain ⟨z1, hf⟩ := lm_ck_e hf
  refine lm_ild C0 hR (by decide) cell_141 z1 dX5_rowFound_5 ?_
  refine lv_if_ge (tgt := 15) hx hb dX5_rowFound_6 (by decide) (fun b2 => ?_) (fun b2 => ?_)
  · have hf := lm_T b2 hf
    refine lv_iload_n hx hb dX5_rowFound_15 rfl (lv_at hl 2 rfl) ?_
    refine lv_if_lt (tgt := 35) hx hb dX5_rowFound_16 (by decide) (fun b3 => ?_) (fun b3 => ?_)
    · have hf := lm_T b3 hf
      refine lv_aload_n hx hb dX5_rowFound_35 rfl (lv_at hl 0 rfl) ?_
      refine lv_iconst (v := (2 : Int32)) hx hb dX5_rowFound_36 (by decide) ?_
      obtain ⟨r5, τ6, u4, hf⟩ := lm_bd2_e hf
      refine lm_endi (lm_runV C0 hR hS (c_X5_finding u4) (lw_cV 1 hts uw_549 mv_X5_finding rfl rfl hd_X5_finding ⟨Nat.le_of_ble_eq_true rfl, Nat.le_of_ble_eq_true rfl⟩) (by decide) cell_140 rfl rfl hl rfl (Nat.le_of_ble_eq_true rfl) dX5_rowFound_37) hS (fun H locs hR hS => ?_)
      exact lm_riM C0 hR hS hf dX5_rowFound_40
    · have hf := lm_F b3 hf
      refine lv_iload_n hx hb dX5_rowFound_19 rfl (lv_at hl 2 rfl) ?_
      refine lv_i2l hx hb dX5_rowFound_20 rfl ?_
      refine lv_iload_n hx hb dX5_rowFound_21 rfl (lv_at hl 3 rfl) ?_
      refine lv_i2l hx hb dX5_rowFound_22 rfl ?_
      refine lv_ladd hx hb dX5_rowFound_23 ?_
      refine lv_aload_n hx hb dX5_rowFound_24 rfl (lv_at hl 0 rfl) ?_
      refine lm_get C0 hR (by decide) cell_140 rfl lw_in_X5 3 (by decide) uw_511 rfl rfl dX5_rowFound_25 ?_
      refine lv_iload_n hx hb dX5_rowFound_28 rfl (lv_at hl 1 rfl) ?_
      obtain ⟨z7, hf⟩ := lm_ck_e hf
      refine lm_ild C0 hR (by decide) cell_142 z7 dX5_rowFound_29 ?_
      refine lv_i2l hx hb dX5_rowFound_30 rfl ?_
      refine W.lcmp hx hb dX5_rowFound_31 ?_
      refine lv_if_le (tgt := 41) hx hb dX5_rowFound_32 (by decide) (fun b8 => ?_) (fun b8 => ?_)
      · have hf := lm_T b8 hf
        refine lv_aload_n hx hb dX5_rowFound_41 rfl (lv_at hl 0 rfl) ?_
        refine lv_iconst (v := (0 : Int32)) hx hb dX5_rowFound_42 (by decide) ?_
        obtain ⟨τ9, eτ9, hf⟩ := lm_nm_e hf
        refine lm_putM C0 hR hS (by decide) cell_140 rfl lw_in_X5 tyX5 tyX5_ok nmX5 1 (by decide) uw_509 rfl rfl rfl rfl rfl (Nat.le_of_ble_eq_true rfl) eτ9 cell_140u dX5_rowFound_43 (fun H locs hR hS => ?_)
        refine lv_iconst (v := (0 : Int32)) hx hb dX5_rowFound_46 (by decide) ?_
        exact lm_riM C0 hR hS hf dX5_rowFound_47
      · have hf := lm_F b8 hf
        refine lv_aload_n hx hb dX5_rowFound_35 rfl (lv_at hl 0 rfl) ?_
        refine lv_iconst (v := (2 : Int32)) hx hb dX5_rowFound_36 (by decide) ?_
        obtain ⟨r11, τ12, u10, hf⟩ := lm_bd2_e hf
        refine lm_endi (lm_runV C0 hR hS (c_X5_finding u10) (lw_cV 1 hts uw_549 mv_X5_finding rfl rfl hd_X5_finding ⟨Nat.le_of_ble_eq_true rfl, Nat.le_of_ble_eq_true rfl⟩) (by decide) cell_140 rfl rfl hl rfl (Nat.le_of_ble_eq_true rfl) dX5_rowFound_37) hS (fun H locs hR hS => ?_)
        exact lm_riM C0 hR hS hf dX5_rowFound_40
  · have hf := lm_F b2 hf
    refine lv_aload_n hx hb dX5_rowFound_9 rfl (lv_at hl 0 rfl) ?_
    refine lv_iconst (v := (1 : Int32)) hx hb dX5_rowFound_10 (by decide) ?_
    obtain ⟨r14, τ15, u13, hf⟩ := lm_bd2_e hf
    refine lm_endi (lm_runV C0 hR hS (c_X5_finding u13) (lw_cV 1 hts uw_549 mv_X5_finding rfl rfl hd_X5_finding ⟨Nat.le_of_ble_eq_true rfl, Nat.le_of_ble_eq_true rfl⟩) (by decide) cell_140 rfl rfl hl rfl (Nat.le_of_ble_eq_true rfl) dX5_rowFound_11) hS (fun H locs hR hS => ?_)
    exact lm_riM C0 hR hS hf dX5_rowFound_14
end
/-! ===== X5_isMany ===== -/
abbrev rmX5_isMany : Room := { frames := 2, cells := 0, slots := 0, locals := 45 }
def f_X5_isMany (p0 : Int32) (p1 : Int32) : Option (Int32) := lm_bd (f_X5_isRow p0) fun r2 => if r2 = 0 then (some (0 : Int32)) else (lm_bd (f_X5_in p1.toInt64 (1 : Int64) (12 : Int64)) fun r6 => if r6 = 0 then (some (0 : Int32)) else (some (1 : Int32)))
abbrev wsX5_isMany : List Cond := Cond.code yX5_isMany cX5_isMany 2 (some .boolean) :: lw_u
theorem mv_X5_isMany : Cond.static yX5_isMany ∈ lw_u ∧ Cond.initialized yX5_isMany.cls ∈ lw_u ∧ Cond.code yX5_isMany cX5_isMany 2 (some .boolean) ∈ lw_u := ⟨uw_762, uw_6, uw_763⟩
theorem hd_X5_isMany : yX5_isMany.cls ≠ "java/lang/invoke/MethodHandle" ∧ yX5_isMany.cls ≠ "java/lang/invoke/VarHandle" ∧ (parseMethodDescriptor yX5_isMany.desc).map (fun d => d.parameters.length) = some 2 := by decide +kernel
section
variable {l : Launch} {D : va_G} {cI cZ cL cR : ClassId} {B : Nat}
set_option maxRecDepth 100000 in
set_option maxHeartbeats 4000000 in
theorem c_X5_isMany {τ σ : Mem} {p0 : Int32} {p1 : Int32} {r : Int32}  (hf : f_X5_isMany p0 p1 = some r) : lm_CI l yX5_isMany wsX5_isMany rmX5_isMany D cI cZ cL cR B [.int p0, .int p1] σ τ r σ τ := by
  unfold f_X5_isMany at hf
  refine lm_of (cc := cX5_isMany) (maxL := 2) (ret := (some .boolean)) (own := RX5) (by decide) rfl (Nat.le_of_ble_eq_true rfl) (fun p e s m below meth c0 C0 hR ls hl => ?_)
  have hS : va_S (lm_A B) s.heap s.heap [] := va_S.rf
  have hl : lv_has ls 2 [(0, .int p0), (1, .int p1)] := hl
  obtain ⟨hx, hb, hml, hr, hlk, hown, hts, hK, hX⟩ := id C0
  refine lv_iload_n hx hb dX5_isMany_0 rfl (lv_at hl 0 rfl) ?_
  obtain ⟨r2, u1, hf⟩ := lm_bd_e hf
  refine lm_endi (lm_runS C0 hR hS (c_X5_isRow u1) (lw_cS 1 hts uw_540 mv_X5_isRow rfl rfl hd_X5_isRow ⟨Nat.le_of_ble_eq_true rfl, Nat.le_of_ble_eq_true rfl⟩) rfl hl rfl (Nat.le_of_ble_eq_true rfl) dX5_isMany_1) hS (fun H locs hR hS => ?_)
  refine lv_if_eq (tgt := 23) hx hb dX5_isMany_4 (by decide) (fun b4 => ?_) (fun b4 => ?_)
  · have hf := lm_T b4 hf
    refine lv_iconst (v := (0 : Int32)) hx hb dX5_isMany_23 (by decide) ?_
    exact lm_rzP C0 hR hS hf rfl dX5_isMany_24
  · have hf := lm_F b4 hf
    refine lv_iload_n hx hb dX5_isMany_7 rfl (lv_at hl 1 rfl) ?_
    refine lv_i2l hx hb dX5_isMany_8 rfl ?_
    refine lv_lconst (v := (1 : Int64)) hx hb dX5_isMany_9 (by decide) ?_
    refine lv_ldc2 hx hb hown (hts _ uw_677) dX5_isMany_10 ?_
    obtain ⟨r6, u5, hf⟩ := lm_bd_e hf
    refine lm_endi (lm_runS C0 hR hS (c_X5_in u5) (lw_cS 3 hts uw_544 mv_X5_in rfl rfl hd_X5_in ⟨Nat.le_of_ble_eq_true rfl, Nat.le_of_ble_eq_true rfl⟩) rfl hl rfl (Nat.le_of_ble_eq_true rfl) dX5_isMany_13) hS (fun H locs hR hS => ?_)
    refine lv_if_eq (tgt := 23) hx hb dX5_isMany_16 (by decide) (fun b8 => ?_) (fun b8 => ?_)
    · have hf := lm_T b8 hf
      refine lv_iconst (v := (0 : Int32)) hx hb dX5_isMany_23 (by decide) ?_
      exact lm_rzP C0 hR hS hf rfl dX5_isMany_24
    · have hf := lm_F b8 hf
      refine lv_iconst (v := (1 : Int32)) hx hb dX5_isMany_19 (by decide) ?_
      refine lv_goto (tgt := 24) hx hb dX5_isMany_20 (by decide) ?_
      exact lm_rzP C0 hR hS hf rfl dX5_isMany_24
end
/-! ===== X5_tryAll ===== -/
abbrev rmX5_tryAll : Room := { frames := 4, cells := 0, slots := 0, locals := 92 }
def f_X5_tryAll_90 (k19 : Int32 → Int32 → Int32 → Int32 → Int32 → Int32 → Mem → Option (Mem)) (x1 : Int32) (x3 : Int32) (x4 : Int32) (x5 : Int32) (x6 : Int32) (x7 : Int32) (y0 : Int32) (τ : Mem) : Option (Mem) := lm_nm (up τ 140 22 y0) fun τ18 => lm_nm (up τ18 140 21 ((τ18 140 21) + (1 : Int32))) fun τ19 => lm_nm (x7 + (1 : Int32)) fun v20 => k19 x1 x3 x4 x5 x6 v20 τ19
def f_X5_tryAll_69 (k19 : Int32 → Int32 → Int32 → Int32 → Int32 → Int32 → Mem → Option (Mem)) (x1 : Int32) (x3 : Int32) (x4 : Int32) (x5 : Int32) (x6 : Int32) (x7 : Int32) (y0 : Int32) (y1 : Int32) (τ : Mem) : Option (Mem) := lm_nm (up τ 140 20 (y1 ||| y0)) fun τ16 => if (τ16 140 21) = 0 then (f_X5_tryAll_90 k19 x1 x3 x4 x5 x6 x7 x7 τ16) else (f_X5_tryAll_90 k19 x1 x3 x4 x5 x6 x7 (τ16 140 22) τ16)
def f_X5_tryAll_19 : Nat → Int32 → Int32 → Int32 → Int32 → Int32 → Int32 → Mem → Option (Mem)
  | 0, _, _, _, _, _, _, _ => none
  | n + 1, x1, x3, x4, x5, x6, x7, τ => if x3 < x7 then (some τ) else (lm_bd (f_X5_layThen τ) fun τ7 => lm_ck (lm_in x1 24) (lm_nm (up τ7 146 x1.toNatClampNeg x7) fun τ9 => lm_bd2 (f_X5_isSo τ9 x4 x5 x6) fun r11 τ12 => if r11 = 0 then (lm_nm (x7 + (1 : Int32)) fun v14 => f_X5_tryAll_19 n x1 x3 x4 x5 x6 v14 τ12) else (if (13 : Int32) ≤ x3 then (f_X5_tryAll_69 (f_X5_tryAll_19 n) x1 x3 x4 x5 x6 x7 (0 : Int32) (τ12 140 20) τ12) else (f_X5_tryAll_69 (f_X5_tryAll_19 n) x1 x3 x4 x5 x6 x7 ((1 : Int32) <<< (x7 &&& 31)) (τ12 140 20) τ12))))
def f_X5_tryAll (τ : Mem) (p1 : Int32) (p2 : Int32) (p3 : Int32) (p4 : Int32) (p5 : Int32) (p6 : Int32) : Option (Mem) := lm_nm (up τ 140 20 (0 : Int32)) fun τ1 => lm_nm (up τ1 140 21 (0 : Int32)) fun τ2 => lm_nm (up τ2 140 22 (-1000000 : Int32)) fun τ3 => f_X5_tryAll_19 lm_fu p1 p3 p4 p5 p6 p2 τ3
abbrev wsX5_tryAll : List Cond := Cond.code yX5_tryAll cX5_tryAll 8 none :: lw_u
theorem mv_X5_tryAll : Cond.instanceMethod yX5_tryAll ∈ lw_u ∧ Cond.selects yX5_tryAll.cls yX5_tryAll yX5_tryAll ∈ lw_u ∧ Cond.initialized yX5_tryAll.cls ∈ lw_u ∧ Cond.code yX5_tryAll cX5_tryAll 8 none ∈ lw_u := ⟨uw_768, uw_891, uw_6, uw_769⟩
theorem hd_X5_tryAll : yX5_tryAll.cls ≠ "java/lang/invoke/MethodHandle" ∧ yX5_tryAll.cls ≠ "java/lang/invoke/VarHandle" ∧ (parseMethodDescriptor yX5_tryAll.desc).map (fun d => d.parameters.length) = some 6 := by decide +kernel
section
variable {l : Launch} {D : va_G} {cI cZ cL cR : ClassId} {B : Nat}
set_option maxRecDepth 100000 in
set_option maxHeartbeats 4000000 in
theorem w_X5_tryAll_90 {p : Program} {e : Env} {s : State} {m : MethodId} {args : Array Value} {below : List Frame} {meth : Method} {c0 : Code} {σ τ' : Mem} (C0 : lm_Cx D cI cZ cL cR B p s m args meth c0 cX5_tryAll 8 none RX5) {k19 : Int32 → Int32 → Int32 → Int32 → Int32 → Int32 → Mem → Option (Mem)} (hk19 : ∀ (x1 : Int32) (x3 : Int32) (x4 : Int32) (x5 : Int32) (x6 : Int32) (x7 : Int32) (τ : Mem) (H : Heap) (locs : List Loc) (ls : Array Slot), va_P D vwCl (wl cI cZ cL cR B σ τ) H → va_S (lm_A B) s.heap H locs → lv_has ls 8 [(0, .ref (B + 140)), (1, .int x1), (3, .int x3), (4, .int x4), (5, .int x5), (6, .int x6), (7, .int x7)] → k19 x1 x3 x4 x5 x6 x7 τ = some τ' → W p l e rmX5_tryAll s m args below meth c0 H locs 0 0 (MQ below (lm_QV D cI cZ cL cR B σ τ') args s 0 0 (lm_A B)) (F0 m 19 ls [])) : ∀ (x1 : Int32) (x3 : Int32) (x4 : Int32) (x5 : Int32) (x6 : Int32) (x7 : Int32) (y0 : Int32) (τ : Mem) (H : Heap) (locs : List Loc) (ls : Array Slot), va_P D vwCl (wl cI cZ cL cR B σ τ) H → va_S (lm_A B) s.heap H locs → lv_has ls 8 [(0, .ref (B + 140)), (1, .int x1), (3, .int x3), (4, .int x4), (5, .int x5), (6, .int x6), (7, .int x7)] → f_X5_tryAll_90 k19 x1 x3 x4 x5 x6 x7 y0 τ = some τ' → W p l e rmX5_tryAll s m args below meth c0 H locs 0 0 (MQ below (lm_QV D cI cZ cL cR B σ τ') args s 0 0 (lm_A B)) (F0 m 90 ls [.int y0, .ref (B + 140)]) := by
  obtain ⟨hx, hb, hml, hr, hlk, hown, hts, hK, hX⟩ := id C0
  intro x1 x3 x4 x5 x6 x7 y0 τ H locs ls hR hS hl hf
  unfold f_X5_tryAll_90 at hf
  obtain ⟨τ18, eτ18, hf⟩ := lm_nm_e hf
  refine lm_putM C0 hR hS (by decide) cell_140 rfl lw_in_X5 tyX5 tyX5_ok nmX5 22 (by decide) uw_530 rfl rfl rfl rfl rfl (Nat.le_of_ble_eq_true rfl) eτ18 cell_140u dX5_tryAll_90 (fun H locs hR hS => ?_)
  refine lv_aload_n hx hb dX5_tryAll_93 rfl (lv_at hl 0 rfl) ?_
  refine lv_dup hx hb dX5_tryAll_94 rfl ?_
  refine lm_get C0 hR (by decide) cell_140 rfl lw_in_X5 21 (by decide) uw_529 rfl rfl dX5_tryAll_95 ?_
  refine lv_iconst (v := (1 : Int32)) hx hb dX5_tryAll_98 (by decide) ?_
  refine lv_iadd hx hb dX5_tryAll_99 ?_
  obtain ⟨τ19, eτ19, hf⟩ := lm_nm_e hf
  refine lm_putM C0 hR hS (by decide) cell_140 rfl lw_in_X5 tyX5 tyX5_ok nmX5 21 (by decide) uw_529 rfl rfl rfl rfl rfl (Nat.le_of_ble_eq_true rfl) eτ19 cell_140u dX5_tryAll_100 (fun H locs hR hS => ?_)
  obtain ⟨v20, ev20, hf⟩ := lm_nm_e hf
  refine lv_iinc (v := v20) (lv' := [(7, .int v20), (0, .ref (B + 140)), (1, .int x1), (3, .int x3), (4, .int x4), (5, .int x5), (6, .int x6)]) hx hb dX5_tryAll_103 hl (k := 6) rfl (by rw [ev20]; rfl) (by decide) rfl (fun ls hl => ?_)
  refine lv_goto (tgt := 19) hx hb dX5_tryAll_106 (by decide) ?_
  exact hk19 _ _ _ _ _ _ _ _ _ _ hR hS (lv_sub hl [1, 2, 3, 4, 5, 6, 0] rfl) hf
set_option maxRecDepth 100000 in
set_option maxHeartbeats 4000000 in
theorem w_X5_tryAll_69 {p : Program} {e : Env} {s : State} {m : MethodId} {args : Array Value} {below : List Frame} {meth : Method} {c0 : Code} {σ τ' : Mem} (C0 : lm_Cx D cI cZ cL cR B p s m args meth c0 cX5_tryAll 8 none RX5) {k19 : Int32 → Int32 → Int32 → Int32 → Int32 → Int32 → Mem → Option (Mem)} (hk19 : ∀ (x1 : Int32) (x3 : Int32) (x4 : Int32) (x5 : Int32) (x6 : Int32) (x7 : Int32) (τ : Mem) (H : Heap) (locs : List Loc) (ls : Array Slot), va_P D vwCl (wl cI cZ cL cR B σ τ) H → va_S (lm_A B) s.heap H locs → lv_has ls 8 [(0, .ref (B + 140)), (1, .int x1), (3, .int x3), (4, .int x4), (5, .int x5), (6, .int x6), (7, .int x7)] → k19 x1 x3 x4 x5 x6 x7 τ = some τ' → W p l e rmX5_tryAll s m args below meth c0 H locs 0 0 (MQ below (lm_QV D cI cZ cL cR B σ τ') args s 0 0 (lm_A B)) (F0 m 19 ls [])) : ∀ (x1 : Int32) (x3 : Int32) (x4 : Int32) (x5 : Int32) (x6 : Int32) (x7 : Int32) (y0 : Int32) (y1 : Int32) (τ : Mem) (H : Heap) (locs : List Loc) (ls : Array Slot), va_P D vwCl (wl cI cZ cL cR B σ τ) H → va_S (lm_A B) s.heap H locs → lv_has ls 8 [(0, .ref (B + 140)), (1, .int x1), (3, .int x3), (4, .int x4), (5, .int x5), (6, .int x6), (7, .int x7)] → f_X5_tryAll_69 k19 x1 x3 x4 x5 x6 x7 y0 y1 τ = some τ' → W p l e rmX5_tryAll s m args below meth c0 H locs 0 0 (MQ below (lm_QV D cI cZ cL cR B σ τ') args s 0 0 (lm_A B)) (F0 m 69 ls [.int y0, .int y1, .ref (B + 140)]) := by
  obtain ⟨hx, hb, hml, hr, hlk, hown, hts, hK, hX⟩ := id C0
  intro x1 x3 x4 x5 x6 x7 y0 y1 τ H locs ls hR hS hl hf
  unfold f_X5_tryAll_69 at hf
  refine lv_ior hx hb dX5_tryAll_69 ?_
  obtain ⟨τ16, eτ16, hf⟩ := lm_nm_e hf
  refine lm_putM C0 hR hS (by decide) cell_140 rfl lw_in_X5 tyX5 tyX5_ok nmX5 20 (by decide) uw_528 rfl rfl rfl rfl rfl (Nat.le_of_ble_eq_true rfl) eτ16 cell_140u dX5_tryAll_70 (fun H locs hR hS => ?_)
  refine lv_aload_n hx hb dX5_tryAll_73 rfl (lv_at hl 0 rfl) ?_
  refine lv_aload_n hx hb dX5_tryAll_74 rfl (lv_at hl 0 rfl) ?_
  refine lm_get C0 hR (by decide) cell_140 rfl lw_in_X5 21 (by decide) uw_529 rfl rfl dX5_tryAll_75 ?_
  refine lv_if_ne (tgt := 86) hx hb dX5_tryAll_78 (by decide) (fun b17 => ?_) (fun b17 => ?_)
  · have hf := lm_F b17 hf
    refine lv_aload_n hx hb dX5_tryAll_86 rfl (lv_at hl 0 rfl) ?_
    refine lm_get C0 hR (by decide) cell_140 rfl lw_in_X5 22 (by decide) uw_530 rfl rfl dX5_tryAll_87 ?_
    exact w_X5_tryAll_90 C0 hk19 _ _ _ _ _ _ _ _ _ _ _ hR hS (lv_sub hl [0, 1, 2, 3, 4, 5, 6] rfl) hf
  · have hf := lm_T b17 hf
    refine lv_iload hx hb dX5_tryAll_81 (lv_at hl 6 rfl) ?_
    refine lv_goto (tgt := 90) hx hb dX5_tryAll_83 (by decide) ?_
    exact w_X5_tryAll_90 C0 hk19 _ _ _ _ _ _ _ _ _ _ _ hR hS (lv_sub hl [0, 1, 2, 3, 4, 5, 6] rfl) hf
set_option maxRecDepth 100000 in
set_option maxHeartbeats 4000000 in
theorem w_X5_tryAll_19 {p : Program} {e : Env} {s : State} {m : MethodId} {args : Array Value} {below : List Frame} {meth : Method} {c0 : Code} {σ τ' : Mem} (C0 : lm_Cx D cI cZ cL cR B p s m args meth c0 cX5_tryAll 8 none RX5) : ∀ (n : Nat), ∀ (x1 : Int32) (x3 : Int32) (x4 : Int32) (x5 : Int32) (x6 : Int32) (x7 : Int32) (τ : Mem) (H : Heap) (locs : List Loc) (ls : Array Slot), va_P D vwCl (wl cI cZ cL cR B σ τ) H → va_S (lm_A B) s.heap H locs → lv_has ls 8 [(0, .ref (B + 140)), (1, .int x1), (3, .int x3), (4, .int x4), (5, .int x5), (6, .int x6), (7, .int x7)] → f_X5_tryAll_19 n x1 x3 x4 x5 x6 x7 τ = some τ' → W p l e rmX5_tryAll s m args below meth c0 H locs 0 0 (MQ below (lm_QV D cI cZ cL cR B σ τ') args s 0 0 (lm_A B)) (F0 m 19 ls []) := by
  obtain ⟨hx, hb, hml, hr, hlk, hown, hts, hK, hX⟩ := id C0
  intro n
  induction n with
  | zero =>
    intro x1 x3 x4 x5 x6 x7 τ H locs ls hR hS hl hf
    cases hf
  | succ n ih =>
    intro x1 x3 x4 x5 x6 x7 τ H locs ls hR hS hl hf
    rw [f_X5_tryAll_19] at hf
    refine lv_iload hx hb dX5_tryAll_19 (lv_at hl 6 rfl) ?_
    refine lv_iload_n hx hb dX5_tryAll_21 rfl (lv_at hl 2 rfl) ?_
    refine lv_icmp_gt (tgt := 109) hx hb dX5_tryAll_22 (by decide) (fun b4 => ?_) (fun b4 => ?_)
    · have hf := lm_T b4 hf
      exact lm_rvM C0 hR hS hf dX5_tryAll_109
    · have hf := lm_F b4 hf
      refine lv_aload_n hx hb dX5_tryAll_25 rfl (lv_at hl 0 rfl) ?_
      obtain ⟨τ7, u5, hf⟩ := lm_bd_e hf
      refine lm_endv (lm_runV C0 hR hS (c_X5_layThen u5) (lw_cV 0 hts uw_708 mv_X5_layThen rfl rfl hd_X5_layThen ⟨Nat.le_of_ble_eq_true rfl, Nat.le_of_ble_eq_true rfl⟩) (by decide) cell_140 rfl rfl hl rfl (Nat.le_of_ble_eq_true rfl) dX5_tryAll_26) hS (fun H locs hR hS => ?_)
      refine lv_aload_n hx hb dX5_tryAll_29 rfl (lv_at hl 0 rfl) ?_
      refine lm_get C0 hR (by decide) cell_140 rfl lw_in_X5 7 (by decide) uw_515 rfl rfl dX5_tryAll_30 ?_
      refine lv_iload_n hx hb dX5_tryAll_33 rfl (lv_at hl 1 rfl) ?_
      refine lv_iload hx hb dX5_tryAll_34 (lv_at hl 6 rfl) ?_
      obtain ⟨z8, hf⟩ := lm_ck_e hf
      obtain ⟨τ9, eτ9, hf⟩ := lm_nm_e hf
      refine lm_istM C0 hR hS (by decide) cell_146 z8  eτ9 cell_146u dX5_tryAll_36 (fun H locs hR hS => ?_)
      refine lv_aload_n hx hb dX5_tryAll_37 rfl (lv_at hl 0 rfl) ?_
      refine lv_iload hx hb dX5_tryAll_38 (lv_at hl 3 rfl) ?_
      refine lv_iload hx hb dX5_tryAll_40 (lv_at hl 4 rfl) ?_
      refine lv_iload hx hb dX5_tryAll_42 (lv_at hl 5 rfl) ?_
      obtain ⟨r11, τ12, u10, hf⟩ := lm_bd2_e hf
      refine lm_endi (lm_runV C0 hR hS (c_X5_isSo u10) (lw_cV 3 hts uw_770 mv_X5_isSo rfl rfl hd_X5_isSo ⟨Nat.le_of_ble_eq_true rfl, Nat.le_of_ble_eq_true rfl⟩) (by decide) cell_140 rfl rfl hl rfl (Nat.le_of_ble_eq_true rfl) dX5_tryAll_44) hS (fun H locs hR hS => ?_)
      refine lv_if_eq (tgt := 103) hx hb dX5_tryAll_47 (by decide) (fun b13 => ?_) (fun b13 => ?_)
      · have hf := lm_T b13 hf
        obtain ⟨v14, ev14, hf⟩ := lm_nm_e hf
        refine lv_iinc (v := v14) (lv' := [(7, .int v14), (0, .ref (B + 140)), (1, .int x1), (3, .int x3), (4, .int x4), (5, .int x5), (6, .int x6)]) hx hb dX5_tryAll_103 hl (k := 6) rfl (by rw [ev14]; rfl) (by decide) rfl (fun ls hl => ?_)
        refine lv_goto (tgt := 19) hx hb dX5_tryAll_106 (by decide) ?_
        exact ih _ _ _ _ _ _ _ _ _ _ hR hS (lv_sub hl [1, 2, 3, 4, 5, 6, 0] rfl) hf
      · have hf := lm_F b13 hf
        refine lv_aload_n hx hb dX5_tryAll_50 rfl (lv_at hl 0 rfl) ?_
        refine lv_dup hx hb dX5_tryAll_51 rfl ?_
        refine lm_get C0 hR (by decide) cell_140 rfl lw_in_X5 20 (by decide) uw_528 rfl rfl dX5_tryAll_52 ?_
        refine lv_iload_n hx hb dX5_tryAll_55 rfl (lv_at hl 2 rfl) ?_
        refine lv_bipush (v := (13 : Int32)) hx hb dX5_tryAll_56 (by decide) ?_
        refine lv_icmp_ge (tgt := 68) hx hb dX5_tryAll_58 (by decide) (fun b15 => ?_) (fun b15 => ?_)
        · have hf := lm_T b15 hf
          refine lv_iconst (v := (0 : Int32)) hx hb dX5_tryAll_68 (by decide) ?_
          exact w_X5_tryAll_69 C0 ih _ _ _ _ _ _ _ _ _ _ _ _ hR hS (lv_sub hl [0, 1, 2, 3, 4, 5, 6] rfl) hf
        · have hf := lm_F b15 hf
          refine lv_iconst (v := (1 : Int32)) hx hb dX5_tryAll_61 (by decide) ?_
          refine lv_iload hx hb dX5_tryAll_62 (lv_at hl 6 rfl) ?_
          refine lv_ishl hx hb dX5_tryAll_64 ?_
          refine lv_goto (tgt := 69) hx hb dX5_tryAll_65 (by decide) ?_
          exact w_X5_tryAll_69 C0 ih _ _ _ _ _ _ _ _ _ _ _ _ hR hS (lv_sub hl [0, 1, 2, 3, 4, 5, 6] rfl) hf
set_option maxRecDepth 100000 in
set_option maxHeartbeats 4000000 in
theorem c_X5_tryAll {τ σ τ' : Mem} {p1 : Int32} {p2 : Int32} {p3 : Int32} {p4 : Int32} {p5 : Int32} {p6 : Int32}  (hf : f_X5_tryAll τ p1 p2 p3 p4 p5 p6 = some τ') : lm_CV l yX5_tryAll wsX5_tryAll rmX5_tryAll D cI cZ cL cR B [.ref (B + 140), .int p1, .int p2, .int p3, .int p4, .int p5, .int p6] σ τ σ τ' := by
  unfold f_X5_tryAll at hf
  refine lm_of (cc := cX5_tryAll) (maxL := 8) (ret := none) (own := RX5) (by decide) rfl (Nat.le_of_ble_eq_true rfl) (fun p e s m below meth c0 C0 hR ls hl => ?_)
  have hS : va_S (lm_A B) s.heap s.heap [] := va_S.rf
  have hl : lv_has ls 8 [(0, .ref (B + 140)), (1, .int p1), (2, .int p2), (3, .int p3), (4, .int p4), (5, .int p5), (6, .int p6)] := hl
  obtain ⟨hx, hb, hml, hr, hlk, hown, hts, hK, hX⟩ := id C0
  refine lv_aload_n hx hb dX5_tryAll_0 rfl (lv_at hl 0 rfl) ?_
  refine lv_iconst (v := (0 : Int32)) hx hb dX5_tryAll_1 (by decide) ?_
  obtain ⟨τ1, eτ1, hf⟩ := lm_nm_e hf
  refine lm_putM C0 hR hS (by decide) cell_140 rfl lw_in_X5 tyX5 tyX5_ok nmX5 20 (by decide) uw_528 rfl rfl rfl rfl rfl (Nat.le_of_ble_eq_true rfl) eτ1 cell_140u dX5_tryAll_2 (fun H locs hR hS => ?_)
  refine lv_aload_n hx hb dX5_tryAll_5 rfl (lv_at hl 0 rfl) ?_
  refine lv_iconst (v := (0 : Int32)) hx hb dX5_tryAll_6 (by decide) ?_
  obtain ⟨τ2, eτ2, hf⟩ := lm_nm_e hf
  refine lm_putM C0 hR hS (by decide) cell_140 rfl lw_in_X5 tyX5 tyX5_ok nmX5 21 (by decide) uw_529 rfl rfl rfl rfl rfl (Nat.le_of_ble_eq_true rfl) eτ2 cell_140u dX5_tryAll_7 (fun H locs hR hS => ?_)
  refine lv_aload_n hx hb dX5_tryAll_10 rfl (lv_at hl 0 rfl) ?_
  refine lv_ldc hx hb hown (hts _ uw_585) dX5_tryAll_11 ?_
  obtain ⟨τ3, eτ3, hf⟩ := lm_nm_e hf
  refine lm_putM C0 hR hS (by decide) cell_140 rfl lw_in_X5 tyX5 tyX5_ok nmX5 22 (by decide) uw_530 rfl rfl rfl rfl rfl (Nat.le_of_ble_eq_true rfl) eτ3 cell_140u dX5_tryAll_13 (fun H locs hR hS => ?_)
  refine lv_iload_n hx hb dX5_tryAll_16 rfl (lv_at hl 2 rfl) ?_
  refine lv_istore (lv' := [(7, .int p2), (0, .ref (B + 140)), (1, .int p1), (2, .int p2), (3, .int p3), (4, .int p4), (5, .int p5), (6, .int p6)]) hx hb dX5_tryAll_17 hl (by decide) rfl (fun ls hl => ?_)
  exact w_X5_tryAll_19 C0 _ _ _ _ _ _ _ _ _ _ _ hR hS (lv_sub hl [1, 2, 4, 5, 6, 7, 0] rfl) hf
end
/-! ===== X5_who ===== -/
abbrev rmX5_who : Room := { frames := 5, cells := 0, slots := 0, locals := 119 }
def f_X5_who_88 (x1 : Int32) (x3 : Int32) (x4 : Int32) (x5 : Int32) (y0 : Int32) (y1 : Int32) (y2 : Int32) (τ : Mem) : Option (Int32 × Mem) := lm_bd (f_X5_tryAll τ y2 y1 y0 x1 (((40 : Int32) * x3) + x4) x5) fun τ23 => some ((τ23 140 20), τ23)
def f_X5_who_72 (x1 : Int32) (x2 : Int32) (x3 : Int32) (x4 : Int32) (x5 : Int32) (y0 : Int32) (y1 : Int32) (τ : Mem) : Option (Int32 × Mem) := if x2 = 0 then (f_X5_who_88 x1 x3 x4 x5 (5 : Int32) y0 y1 τ) else (lm_ck (lm_in (2 : Int32) 24) (f_X5_who_88 x1 x3 x4 x5 ((τ 144 (2 : Int32).toNatClampNeg) - (1 : Int32)) y0 y1 τ))
def f_X5_who (τ : Mem) (p1 : Int32) (p2 : Int32) (p3 : Int32) (p4 : Int32) (p5 : Int32) : Option (Int32 × Mem) := lm_nm (up τ 140 0 (0 : Int32)) fun τ1 => lm_bd (f_X5_isShip τ1 p1) fun r3 => if r3 = 0 then (some ((-1000001 : Int32), τ1)) else (lm_bd (f_X5_in p2.toInt64 (0 : Int64) (1 : Int64)) fun r7 => if r7 = 0 then (some ((-1000001 : Int32), τ1)) else (lm_bd (f_X5_isMany p3 p5) fun r11 => if r11 = 0 then (some ((-1000001 : Int32), τ1)) else (lm_bd2 (f_X5_rowFound τ1 p3 p4 p5) fun r15 τ16 => if r15 = 0 then (if p2 = 0 then (f_X5_who_72 p1 p2 p3 p4 p5 (1 : Int32) (((12 : Int32) + ((2 : Int32) * p1)) + p2) τ16) else (f_X5_who_72 p1 p2 p3 p4 p5 (0 : Int32) (((12 : Int32) + ((2 : Int32) * p1)) + p2) τ16)) else (some (r15, τ16)))))
abbrev wsX5_who : List Cond := Cond.code yX5_who cX5_who 7 (some .int) :: lw_u
theorem mv_X5_who : Cond.instanceMethod yX5_who ∈ lw_u ∧ Cond.selects yX5_who.cls yX5_who yX5_who ∈ lw_u ∧ Cond.initialized yX5_who.cls ∈ lw_u ∧ Cond.code yX5_who cX5_who 7 (some .int) ∈ lw_u := ⟨uw_758, uw_759, uw_6, uw_760⟩
theorem hd_X5_who : yX5_who.cls ≠ "java/lang/invoke/MethodHandle" ∧ yX5_who.cls ≠ "java/lang/invoke/VarHandle" ∧ (parseMethodDescriptor yX5_who.desc).map (fun d => d.parameters.length) = some 5 := by decide +kernel
section
variable {l : Launch} {D : va_G} {cI cZ cL cR : ClassId} {B : Nat}
set_option maxRecDepth 100000 in
set_option maxHeartbeats 4000000 in
theorem w_X5_who_88 {p : Program} {e : Env} {s : State} {m : MethodId} {args : Array Value} {below : List Frame} {meth : Method} {c0 : Code} {σ τ' : Mem} {r : Int32} (C0 : lm_Cx D cI cZ cL cR B p s m args meth c0 cX5_who 7 (some .int) RX5) : ∀ (x1 : Int32) (x3 : Int32) (x4 : Int32) (x5 : Int32) (y0 : Int32) (y1 : Int32) (y2 : Int32) (τ : Mem) (H : Heap) (locs : List Loc) (ls : Array Slot), va_P D vwCl (wl cI cZ cL cR B σ τ) H → va_S (lm_A B) s.heap H locs → lv_has ls 7 [(0, .ref (B + 140)), (1, .int x1), (3, .int x3), (4, .int x4), (5, .int x5)] → f_X5_who_88 x1 x3 x4 x5 y0 y1 y2 τ = some (r, τ') → W p l e rmX5_who s m args below meth c0 H locs 0 0 (MQ below (lm_QI D cI cZ cL cR B r σ τ') args s 0 0 (lm_A B)) (F0 m 88 ls [.int y0, .int y1, .int y2, .ref (B + 140)]) := by
  obtain ⟨hx, hb, hml, hr, hlk, hown, hts, hK, hX⟩ := id C0
  intro x1 x3 x4 x5 y0 y1 y2 τ H locs ls hR hS hl hf
  unfold f_X5_who_88 at hf
  refine lv_iload_n hx hb dX5_who_88 rfl (lv_at hl 1 rfl) ?_
  refine lv_bipush (v := (40 : Int32)) hx hb dX5_who_89 (by decide) ?_
  refine lv_iload_n hx hb dX5_who_91 rfl (lv_at hl 2 rfl) ?_
  refine lv_imul hx hb dX5_who_92 ?_
  refine lv_iload hx hb dX5_who_93 (lv_at hl 3 rfl) ?_
  refine lv_iadd hx hb dX5_who_95 ?_
  refine lv_iload hx hb dX5_who_96 (lv_at hl 4 rfl) ?_
  obtain ⟨τ23, u21, hf⟩ := lm_bd_e hf
  refine lm_endv (lm_runV C0 hR hS (c_X5_tryAll u21) (lw_cV 6 hts uw_767 mv_X5_tryAll rfl rfl hd_X5_tryAll ⟨Nat.le_of_ble_eq_true rfl, Nat.le_of_ble_eq_true rfl⟩) (by decide) cell_140 rfl rfl hl rfl (Nat.le_of_ble_eq_true rfl) dX5_who_98) hS (fun H locs hR hS => ?_)
  refine lv_aload_n hx hb dX5_who_101 rfl (lv_at hl 0 rfl) ?_
  refine lm_get C0 hR (by decide) cell_140 rfl lw_in_X5 20 (by decide) uw_528 rfl rfl dX5_who_102 ?_
  exact lm_riM C0 hR hS hf dX5_who_105
set_option maxRecDepth 100000 in
set_option maxHeartbeats 4000000 in
theorem w_X5_who_72 {p : Program} {e : Env} {s : State} {m : MethodId} {args : Array Value} {below : List Frame} {meth : Method} {c0 : Code} {σ τ' : Mem} {r : Int32} (C0 : lm_Cx D cI cZ cL cR B p s m args meth c0 cX5_who 7 (some .int) RX5) : ∀ (x1 : Int32) (x2 : Int32) (x3 : Int32) (x4 : Int32) (x5 : Int32) (y0 : Int32) (y1 : Int32) (τ : Mem) (H : Heap) (locs : List Loc) (ls : Array Slot), va_P D vwCl (wl cI cZ cL cR B σ τ) H → va_S (lm_A B) s.heap H locs → lv_has ls 7 [(0, .ref (B + 140)), (1, .int x1), (2, .int x2), (3, .int x3), (4, .int x4), (5, .int x5)] → f_X5_who_72 x1 x2 x3 x4 x5 y0 y1 τ = some (r, τ') → W p l e rmX5_who s m args below meth c0 H locs 0 0 (MQ below (lm_QI D cI cZ cL cR B r σ τ') args s 0 0 (lm_A B)) (F0 m 72 ls [.int y0, .int y1, .ref (B + 140)]) := by
  obtain ⟨hx, hb, hml, hr, hlk, hown, hts, hK, hX⟩ := id C0
  intro x1 x2 x3 x4 x5 y0 y1 τ H locs ls hR hS hl hf
  unfold f_X5_who_72 at hf
  refine lv_iload_n hx hb dX5_who_72 rfl (lv_at hl 2 rfl) ?_
  refine lv_if_ne (tgt := 80) hx hb dX5_who_73 (by decide) (fun b19 => ?_) (fun b19 => ?_)
  · have hf := lm_F b19 hf
    refine lv_aload_n hx hb dX5_who_80 rfl (lv_at hl 0 rfl) ?_
    refine lm_get C0 hR (by decide) cell_140 rfl lw_in_X5 5 (by decide) uw_513 rfl rfl dX5_who_81 ?_
    refine lv_iconst (v := (2 : Int32)) hx hb dX5_who_84 (by decide) ?_
    obtain ⟨z20, hf⟩ := lm_ck_e hf
    refine lm_ild C0 hR (by decide) cell_144 z20 dX5_who_85 ?_
    refine lv_iconst (v := (1 : Int32)) hx hb dX5_who_86 (by decide) ?_
    refine lv_isub hx hb dX5_who_87 ?_
    exact w_X5_who_88 C0 _ _ _ _ _ _ _ _ _ _ _ hR hS (lv_sub hl [0, 1, 3, 4, 5] rfl) hf
  · have hf := lm_T b19 hf
    refine lv_iconst (v := (5 : Int32)) hx hb dX5_who_76 (by decide) ?_
    refine lv_goto (tgt := 88) hx hb dX5_who_77 (by decide) ?_
    exact w_X5_who_88 C0 _ _ _ _ _ _ _ _ _ _ _ hR hS (lv_sub hl [0, 1, 3, 4, 5] rfl) hf
set_option maxRecDepth 100000 in
set_option maxHeartbeats 4000000 in
theorem c_X5_who {τ σ τ' : Mem} {p1 : Int32} {p2 : Int32} {p3 : Int32} {p4 : Int32} {p5 : Int32} {r : Int32}  (hf : f_X5_who τ p1 p2 p3 p4 p5 = some (r, τ')) : lm_CI l yX5_who wsX5_who rmX5_who D cI cZ cL cR B [.ref (B + 140), .int p1, .int p2, .int p3, .int p4, .int p5] σ τ r σ τ' := by
  unfold f_X5_who at hf
  refine lm_of (cc := cX5_who) (maxL := 7) (ret := (some .int)) (own := RX5) (by decide) rfl (Nat.le_of_ble_eq_true rfl) (fun p e s m below meth c0 C0 hR ls hl => ?_)
  have hS : va_S (lm_A B) s.heap s.heap [] := va_S.rf
  have hl : lv_has ls 7 [(0, .ref (B + 140)), (1, .int p1), (2, .int p2), (3, .int p3), (4, .int p4), (5, .int p5)] := hl
  obtain ⟨hx, hb, hml, hr, hlk, hown, hts, hK, hX⟩ := id C0
  refine lv_aload_n hx hb dX5_who_0 rfl (lv_at hl 0 rfl) ?_
  refine lv_iconst (v := (0 : Int32)) hx hb dX5_who_1 (by decide) ?_
  obtain ⟨τ1, eτ1, hf⟩ := lm_nm_e hf
  refine lm_putM C0 hR hS (by decide) cell_140 rfl lw_in_X5 tyX5 tyX5_ok nmX5 0 (by decide) uw_508 rfl rfl rfl rfl rfl (Nat.le_of_ble_eq_true rfl) eτ1 cell_140u dX5_who_2 (fun H locs hR hS => ?_)
  refine lv_aload_n hx hb dX5_who_5 rfl (lv_at hl 0 rfl) ?_
  refine lv_iload_n hx hb dX5_who_6 rfl (lv_at hl 1 rfl) ?_
  obtain ⟨r3, u2, hf⟩ := lm_bd_e hf
  refine lm_endi (lm_runV C0 hR hS (c_X5_isShip u2) (lw_cV 1 hts uw_682 mv_X5_isShip rfl rfl hd_X5_isShip ⟨Nat.le_of_ble_eq_true rfl, Nat.le_of_ble_eq_true rfl⟩) (by decide) cell_140 rfl rfl hl rfl (Nat.le_of_ble_eq_true rfl) dX5_who_7) hS (fun H locs hR hS => ?_)
  refine lv_if_eq (tgt := 32) hx hb dX5_who_10 (by decide) (fun b5 => ?_) (fun b5 => ?_)
  · have hf := lm_T b5 hf
    refine lv_ldc hx hb hown (hts _ uw_548) dX5_who_32 ?_
    exact lm_riM C0 hR hS hf dX5_who_34
  · have hf := lm_F b5 hf
    refine lv_iload_n hx hb dX5_who_13 rfl (lv_at hl 2 rfl) ?_
    refine lv_i2l hx hb dX5_who_14 rfl ?_
    refine lv_lconst (v := (0 : Int64)) hx hb dX5_who_15 (by decide) ?_
    refine lv_lconst (v := (1 : Int64)) hx hb dX5_who_16 (by decide) ?_
    obtain ⟨r7, u6, hf⟩ := lm_bd_e hf
    refine lm_endi (lm_runS C0 hR hS (c_X5_in u6) (lw_cS 3 hts uw_544 mv_X5_in rfl rfl hd_X5_in ⟨Nat.le_of_ble_eq_true rfl, Nat.le_of_ble_eq_true rfl⟩) rfl hl rfl (Nat.le_of_ble_eq_true rfl) dX5_who_17) hS (fun H locs hR hS => ?_)
    refine lv_if_eq (tgt := 32) hx hb dX5_who_20 (by decide) (fun b9 => ?_) (fun b9 => ?_)
    · have hf := lm_T b9 hf
      refine lv_ldc hx hb hown (hts _ uw_548) dX5_who_32 ?_
      exact lm_riM C0 hR hS hf dX5_who_34
    · have hf := lm_F b9 hf
      refine lv_iload_n hx hb dX5_who_23 rfl (lv_at hl 3 rfl) ?_
      refine lv_iload hx hb dX5_who_24 (lv_at hl 5 rfl) ?_
      obtain ⟨r11, u10, hf⟩ := lm_bd_e hf
      refine lm_endi (lm_runS C0 hR hS (c_X5_isMany u10) (lw_cS 2 hts uw_761 mv_X5_isMany rfl rfl hd_X5_isMany ⟨Nat.le_of_ble_eq_true rfl, Nat.le_of_ble_eq_true rfl⟩) rfl hl rfl (Nat.le_of_ble_eq_true rfl) dX5_who_26) hS (fun H locs hR hS => ?_)
      refine lv_if_ne (tgt := 35) hx hb dX5_who_29 (by decide) (fun b13 => ?_) (fun b13 => ?_)
      · have hf := lm_F b13 hf
        refine lv_aload_n hx hb dX5_who_35 rfl (lv_at hl 0 rfl) ?_
        refine lv_iload_n hx hb dX5_who_36 rfl (lv_at hl 3 rfl) ?_
        refine lv_iload hx hb dX5_who_37 (lv_at hl 4 rfl) ?_
        refine lv_iload hx hb dX5_who_39 (lv_at hl 5 rfl) ?_
        obtain ⟨r15, τ16, u14, hf⟩ := lm_bd2_e hf
        refine lm_endi (lm_runV C0 hR hS (c_X5_rowFound u14) (lw_cV 3 hts uw_764 mv_X5_rowFound rfl rfl hd_X5_rowFound ⟨Nat.le_of_ble_eq_true rfl, Nat.le_of_ble_eq_true rfl⟩) (by decide) cell_140 rfl rfl hl rfl (Nat.le_of_ble_eq_true rfl) dX5_who_41) hS (fun H locs hR hS => ?_)
        refine lv_istore (lv' := [(6, .int r15), (0, .ref (B + 140)), (1, .int p1), (2, .int p2), (3, .int p3), (4, .int p4), (5, .int p5)]) hx hb dX5_who_44 hl (by decide) rfl (fun ls hl => ?_)
        refine lv_iload hx hb dX5_who_46 (lv_at hl 0 rfl) ?_
        refine lv_if_eq (tgt := 54) hx hb dX5_who_48 (by decide) (fun b17 => ?_) (fun b17 => ?_)
        · have hf := lm_T b17 hf
          refine lv_aload_n hx hb dX5_who_54 rfl (lv_at hl 1 rfl) ?_
          refine lv_bipush (v := (12 : Int32)) hx hb dX5_who_55 (by decide) ?_
          refine lv_iconst (v := (2 : Int32)) hx hb dX5_who_57 (by decide) ?_
          refine lv_iload_n hx hb dX5_who_58 rfl (lv_at hl 2 rfl) ?_
          refine lv_imul hx hb dX5_who_59 ?_
          refine lv_iadd hx hb dX5_who_60 ?_
          refine lv_iload_n hx hb dX5_who_61 rfl (lv_at hl 3 rfl) ?_
          refine lv_iadd hx hb dX5_who_62 ?_
          refine lv_iload_n hx hb dX5_who_63 rfl (lv_at hl 3 rfl) ?_
          refine lv_if_ne (tgt := 71) hx hb dX5_who_64 (by decide) (fun b18 => ?_) (fun b18 => ?_)
          · have hf := lm_F b18 hf
            refine lv_iconst (v := (0 : Int32)) hx hb dX5_who_71 (by decide) ?_
            exact w_X5_who_72 C0 _ _ _ _ _ _ _ _ _ _ _ hR hS (lv_sub hl [1, 2, 3, 4, 5, 6] rfl) hf
          · have hf := lm_T b18 hf
            refine lv_iconst (v := (1 : Int32)) hx hb dX5_who_67 (by decide) ?_
            refine lv_goto (tgt := 72) hx hb dX5_who_68 (by decide) ?_
            exact w_X5_who_72 C0 _ _ _ _ _ _ _ _ _ _ _ hR hS (lv_sub hl [1, 2, 3, 4, 5, 6] rfl) hf
        · have hf := lm_F b17 hf
          refine lv_iload hx hb dX5_who_51 (lv_at hl 0 rfl) ?_
          exact lm_riM C0 hR hS hf dX5_who_53
      · have hf := lm_T b13 hf
        refine lv_ldc hx hb hown (hts _ uw_548) dX5_who_32 ?_
        exact lm_riM C0 hR hS hf dX5_who_34
end
/-! ===== X5_fogs ===== -/
abbrev rmX5_fogs : Room := { frames := 5, cells := 0, slots := 0, locals := 119 }
def f_X5_fogs (τ : Mem) (p1 : Int32) (p2 : Int32) (p3 : Int32) (p4 : Int32) (p5 : Int32) : Option (Int32 × Mem) := lm_nm (up τ 140 0 (0 : Int32)) fun τ1 => lm_bd (f_X5_isFog τ1 p1) fun r3 => if r3 = 0 then (some ((-1000001 : Int32), τ1)) else (lm_bd (f_X5_isShip τ1 p2) fun r7 => if r7 = 0 then (some ((-1000001 : Int32), τ1)) else (lm_bd (f_X5_isMany p3 p5) fun r11 => if r11 = 0 then (some ((-1000001 : Int32), τ1)) else (lm_bd2 (f_X5_rowFound τ1 p3 p4 p5) fun r15 τ16 => if r15 = 0 then (lm_bd (f_X5_tryAll τ16 ((6 : Int32) + p1) (0 : Int32) (9 : Int32) p2 (((40 : Int32) * p3) + p4) p5) fun τ20 => some ((τ20 140 20), τ20)) else (some (r15, τ16)))))
abbrev wsX5_fogs : List Cond := Cond.code yX5_fogs cX5_fogs 7 (some .int) :: lw_u
theorem mv_X5_fogs : Cond.instanceMethod yX5_fogs ∈ lw_u ∧ Cond.selects yX5_fogs.cls yX5_fogs yX5_fogs ∈ lw_u ∧ Cond.initialized yX5_fogs.cls ∈ lw_u ∧ Cond.code yX5_fogs cX5_fogs 7 (some .int) ∈ lw_u := ⟨uw_774, uw_775, uw_6, uw_776⟩
theorem hd_X5_fogs : yX5_fogs.cls ≠ "java/lang/invoke/MethodHandle" ∧ yX5_fogs.cls ≠ "java/lang/invoke/VarHandle" ∧ (parseMethodDescriptor yX5_fogs.desc).map (fun d => d.parameters.length) = some 5 := by decide +kernel
section
variable {l : Launch} {D : va_G} {cI cZ cL cR : ClassId} {B : Nat}
set_option maxRecDepth 100000 in
set_option maxHeartbeats 4000000 in
theorem c_X5_fogs {τ σ τ' : Mem} {p1 : Int32} {p2 : Int32} {p3 : Int32} {p4 : Int32} {p5 : Int32} {r : Int32}  (hf : f_X5_fogs τ p1 p2 p3 p4 p5 = some (r, τ')) : lm_CI l yX5_fogs wsX5_fogs rmX5_fogs D cI cZ cL cR B [.ref (B + 140), .int p1, .int p2, .int p3, .int p4, .int p5] σ τ r σ τ' := by
  unfold f_X5_fogs at hf
  refine lm_of (cc := cX5_fogs) (maxL := 7) (ret := (some .int)) (own := RX5) (by decide) rfl (Nat.le_of_ble_eq_true rfl) (fun p e s m below meth c0 C0 hR ls hl => ?_)
  have hS : va_S (lm_A B) s.heap s.heap [] := va_S.rf
  have hl : lv_has ls 7 [(0, .ref (B + 140)), (1, .int p1), (2, .int p2), (3, .int p3), (4, .int p4), (5, .int p5)] := hl
  obtain ⟨hx, hb, hml, hr, hlk, hown, hts, hK, hX⟩ := id C0
  refine lv_aload_n hx hb dX5_fogs_0 rfl (lv_at hl 0 rfl) ?_
  refine lv_iconst (v := (0 : Int32)) hx hb dX5_fogs_1 (by decide) ?_
  obtain ⟨τ1, eτ1, hf⟩ := lm_nm_e hf
  refine lm_putM C0 hR hS (by decide) cell_140 rfl lw_in_X5 tyX5 tyX5_ok nmX5 0 (by decide) uw_508 rfl rfl rfl rfl rfl (Nat.le_of_ble_eq_true rfl) eτ1 cell_140u dX5_fogs_2 (fun H locs hR hS => ?_)
  refine lv_aload_n hx hb dX5_fogs_5 rfl (lv_at hl 0 rfl) ?_
  refine lv_iload_n hx hb dX5_fogs_6 rfl (lv_at hl 1 rfl) ?_
  obtain ⟨r3, u2, hf⟩ := lm_bd_e hf
  refine lm_endi (lm_runV C0 hR hS (c_X5_isFog u2) (lw_cV 1 hts uw_669 mv_X5_isFog rfl rfl hd_X5_isFog ⟨Nat.le_of_ble_eq_true rfl, Nat.le_of_ble_eq_true rfl⟩) (by decide) cell_140 rfl rfl hl rfl (Nat.le_of_ble_eq_true rfl) dX5_fogs_7) hS (fun H locs hR hS => ?_)
  refine lv_if_eq (tgt := 30) hx hb dX5_fogs_10 (by decide) (fun b5 => ?_) (fun b5 => ?_)
  · have hf := lm_T b5 hf
    refine lv_ldc hx hb hown (hts _ uw_548) dX5_fogs_30 ?_
    exact lm_riM C0 hR hS hf dX5_fogs_32
  · have hf := lm_F b5 hf
    refine lv_aload_n hx hb dX5_fogs_13 rfl (lv_at hl 0 rfl) ?_
    refine lv_iload_n hx hb dX5_fogs_14 rfl (lv_at hl 2 rfl) ?_
    obtain ⟨r7, u6, hf⟩ := lm_bd_e hf
    refine lm_endi (lm_runV C0 hR hS (c_X5_isShip u6) (lw_cV 1 hts uw_682 mv_X5_isShip rfl rfl hd_X5_isShip ⟨Nat.le_of_ble_eq_true rfl, Nat.le_of_ble_eq_true rfl⟩) (by decide) cell_140 rfl rfl hl rfl (Nat.le_of_ble_eq_true rfl) dX5_fogs_15) hS (fun H locs hR hS => ?_)
    refine lv_if_eq (tgt := 30) hx hb dX5_fogs_18 (by decide) (fun b9 => ?_) (fun b9 => ?_)
    · have hf := lm_T b9 hf
      refine lv_ldc hx hb hown (hts _ uw_548) dX5_fogs_30 ?_
      exact lm_riM C0 hR hS hf dX5_fogs_32
    · have hf := lm_F b9 hf
      refine lv_iload_n hx hb dX5_fogs_21 rfl (lv_at hl 3 rfl) ?_
      refine lv_iload hx hb dX5_fogs_22 (lv_at hl 5 rfl) ?_
      obtain ⟨r11, u10, hf⟩ := lm_bd_e hf
      refine lm_endi (lm_runS C0 hR hS (c_X5_isMany u10) (lw_cS 2 hts uw_761 mv_X5_isMany rfl rfl hd_X5_isMany ⟨Nat.le_of_ble_eq_true rfl, Nat.le_of_ble_eq_true rfl⟩) rfl hl rfl (Nat.le_of_ble_eq_true rfl) dX5_fogs_24) hS (fun H locs hR hS => ?_)
      refine lv_if_ne (tgt := 33) hx hb dX5_fogs_27 (by decide) (fun b13 => ?_) (fun b13 => ?_)
      · have hf := lm_F b13 hf
        refine lv_aload_n hx hb dX5_fogs_33 rfl (lv_at hl 0 rfl) ?_
        refine lv_iload_n hx hb dX5_fogs_34 rfl (lv_at hl 3 rfl) ?_
        refine lv_iload hx hb dX5_fogs_35 (lv_at hl 4 rfl) ?_
        refine lv_iload hx hb dX5_fogs_37 (lv_at hl 5 rfl) ?_
        obtain ⟨r15, τ16, u14, hf⟩ := lm_bd2_e hf
        refine lm_endi (lm_runV C0 hR hS (c_X5_rowFound u14) (lw_cV 3 hts uw_764 mv_X5_rowFound rfl rfl hd_X5_rowFound ⟨Nat.le_of_ble_eq_true rfl, Nat.le_of_ble_eq_true rfl⟩) (by decide) cell_140 rfl rfl hl rfl (Nat.le_of_ble_eq_true rfl) dX5_fogs_39) hS (fun H locs hR hS => ?_)
        refine lv_istore (lv' := [(6, .int r15), (0, .ref (B + 140)), (1, .int p1), (2, .int p2), (3, .int p3), (4, .int p4), (5, .int p5)]) hx hb dX5_fogs_42 hl (by decide) rfl (fun ls hl => ?_)
        refine lv_iload hx hb dX5_fogs_44 (lv_at hl 0 rfl) ?_
        refine lv_if_eq (tgt := 52) hx hb dX5_fogs_46 (by decide) (fun b17 => ?_) (fun b17 => ?_)
        · have hf := lm_T b17 hf
          refine lv_aload_n hx hb dX5_fogs_52 rfl (lv_at hl 1 rfl) ?_
          refine lv_bipush (v := (6 : Int32)) hx hb dX5_fogs_53 (by decide) ?_
          refine lv_iload_n hx hb dX5_fogs_55 rfl (lv_at hl 2 rfl) ?_
          refine lv_iadd hx hb dX5_fogs_56 ?_
          refine lv_iconst (v := (0 : Int32)) hx hb dX5_fogs_57 (by decide) ?_
          refine lv_bipush (v := (9 : Int32)) hx hb dX5_fogs_58 (by decide) ?_
          refine lv_iload_n hx hb dX5_fogs_60 rfl (lv_at hl 3 rfl) ?_
          refine lv_bipush (v := (40 : Int32)) hx hb dX5_fogs_61 (by decide) ?_
          refine lv_iload_n hx hb dX5_fogs_63 rfl (lv_at hl 4 rfl) ?_
          refine lv_imul hx hb dX5_fogs_64 ?_
          refine lv_iload hx hb dX5_fogs_65 (lv_at hl 5 rfl) ?_
          refine lv_iadd hx hb dX5_fogs_67 ?_
          refine lv_iload hx hb dX5_fogs_68 (lv_at hl 6 rfl) ?_
          obtain ⟨τ20, u18, hf⟩ := lm_bd_e hf
          refine lm_endv (lm_runV C0 hR hS (c_X5_tryAll u18) (lw_cV 6 hts uw_767 mv_X5_tryAll rfl rfl hd_X5_tryAll ⟨Nat.le_of_ble_eq_true rfl, Nat.le_of_ble_eq_true rfl⟩) (by decide) cell_140 rfl rfl hl rfl (Nat.le_of_ble_eq_true rfl) dX5_fogs_70) hS (fun H locs hR hS => ?_)
          refine lv_aload_n hx hb dX5_fogs_73 rfl (lv_at hl 1 rfl) ?_
          refine lm_get C0 hR (by decide) cell_140 rfl lw_in_X5 20 (by decide) uw_528 rfl rfl dX5_fogs_74 ?_
          exact lm_riM C0 hR hS hf dX5_fogs_77
        · have hf := lm_F b17 hf
          refine lv_iload hx hb dX5_fogs_49 (lv_at hl 0 rfl) ?_
          exact lm_riM C0 hR hS hf dX5_fogs_51
      · have hf := lm_T b13 hf
        refine lv_ldc hx hb hown (hts _ uw_548) dX5_fogs_30 ?_
        exact lm_riM C0 hR hS hf dX5_fogs_32
end
/-! ===== X5_sights ===== -/
abbrev rmX5_sights : Room := { frames := 5, cells := 0, slots := 0, locals := 119 }
def f_X5_sights_78 (x1 : Int32) (x2 : Int32) (x3 : Int32) (x4 : Int32) (x5 : Int32) (y0 : Int32) (y1 : Int32) (y2 : Int32) (τ : Mem) : Option (Int32 × Mem) := lm_bd (f_X5_tryAll τ y2 y1 y0 x1 (((40 : Int32) * x3) + x4) x5) fun τ23 => if x2 = 0 then (some ((τ23 140 20), τ23)) else (if x2 = (1 : Int32) then (some ((τ23 140 21), τ23)) else (some ((τ23 140 22), τ23)))
def f_X5_sights (τ : Mem) (p1 : Int32) (p2 : Int32) (p3 : Int32) (p4 : Int32) (p5 : Int32) : Option (Int32 × Mem) := lm_nm (up τ 140 0 (0 : Int32)) fun τ1 => lm_bd (f_X5_isShip τ1 p1) fun r3 => if r3 = 0 then (some ((-1000001 : Int32), τ1)) else (lm_bd (f_X5_in p2.toInt64 (0 : Int64) (2 : Int64)) fun r7 => if r7 = 0 then (some ((-1000001 : Int32), τ1)) else (lm_bd (f_X5_isMany p3 p5) fun r11 => if r11 = 0 then (some ((-1000001 : Int32), τ1)) else (lm_bd2 (f_X5_rowFound τ1 p3 p4 p5) fun r15 τ16 => if r15 = 0 then (if p2 = 0 then (if p2 = 0 then (f_X5_sights_78 p1 p2 p3 p4 p5 (12 : Int32) (0 : Int32) (3 : Int32) τ16) else (f_X5_sights_78 p1 p2 p3 p4 p5 (60 : Int32) (0 : Int32) (3 : Int32) τ16)) else (if p2 = 0 then (f_X5_sights_78 p1 p2 p3 p4 p5 (12 : Int32) (0 : Int32) (4 : Int32) τ16) else (f_X5_sights_78 p1 p2 p3 p4 p5 (60 : Int32) (0 : Int32) (4 : Int32) τ16))) else (some (r15, τ16)))))
abbrev wsX5_sights : List Cond := Cond.code yX5_sights cX5_sights 7 (some .int) :: lw_u
theorem mv_X5_sights : Cond.instanceMethod yX5_sights ∈ lw_u ∧ Cond.selects yX5_sights.cls yX5_sights yX5_sights ∈ lw_u ∧ Cond.initialized yX5_sights.cls ∈ lw_u ∧ Cond.code yX5_sights cX5_sights 7 (some .int) ∈ lw_u := ⟨uw_778, uw_779, uw_6, uw_780⟩
theorem hd_X5_sights : yX5_sights.cls ≠ "java/lang/invoke/MethodHandle" ∧ yX5_sights.cls ≠ "java/lang/invoke/VarHandle" ∧ (parseMethodDescriptor yX5_sights.desc).map (fun d => d.parameters.length) = some 5 := by decide +kernel
section
variable {l : Launch} {D : va_G} {cI cZ cL cR : ClassId} {B : Nat}
set_option maxRecDepth 100000 in
set_option maxHeartbeats 4000000 in
theorem w_X5_sights_78 {p : Program} {e : Env} {s : State} {m : MethodId} {args : Array Value} {below : List Frame} {meth : Method} {c0 : Code} {σ τ' : Mem} {r : Int32} (C0 : lm_Cx D cI cZ cL cR B p s m args meth c0 cX5_sights 7 (some .int) RX5) : ∀ (x1 : Int32) (x2 : Int32) (x3 : Int32) (x4 : Int32) (x5 : Int32) (y0 : Int32) (y1 : Int32) (y2 : Int32) (τ : Mem) (H : Heap) (locs : List Loc) (ls : Array Slot), va_P D vwCl (wl cI cZ cL cR B σ τ) H → va_S (lm_A B) s.heap H locs → lv_has ls 7 [(0, .ref (B + 140)), (1, .int x1), (2, .int x2), (3, .int x3), (4, .int x4), (5, .int x5)] → f_X5_sights_78 x1 x2 x3 x4 x5 y0 y1 y2 τ = some (r, τ') → W p l e rmX5_sights s m args below meth c0 H locs 0 0 (MQ below (lm_QI D cI cZ cL cR B r σ τ') args s 0 0 (lm_A B)) (F0 m 78 ls [.int y0, .int y1, .int y2, .ref (B + 140)]) := by
  obtain ⟨hx, hb, hml, hr, hlk, hown, hts, hK, hX⟩ := id C0
  intro x1 x2 x3 x4 x5 y0 y1 y2 τ H locs ls hR hS hl hf
  unfold f_X5_sights_78 at hf
  refine lv_iload_n hx hb dX5_sights_78 rfl (lv_at hl 1 rfl) ?_
  refine lv_bipush (v := (40 : Int32)) hx hb dX5_sights_79 (by decide) ?_
  refine lv_iload_n hx hb dX5_sights_81 rfl (lv_at hl 3 rfl) ?_
  refine lv_imul hx hb dX5_sights_82 ?_
  refine lv_iload hx hb dX5_sights_83 (lv_at hl 4 rfl) ?_
  refine lv_iadd hx hb dX5_sights_85 ?_
  refine lv_iload hx hb dX5_sights_86 (lv_at hl 5 rfl) ?_
  obtain ⟨τ23, u21, hf⟩ := lm_bd_e hf
  refine lm_endv (lm_runV C0 hR hS (c_X5_tryAll u21) (lw_cV 6 hts uw_767 mv_X5_tryAll rfl rfl hd_X5_tryAll ⟨Nat.le_of_ble_eq_true rfl, Nat.le_of_ble_eq_true rfl⟩) (by decide) cell_140 rfl rfl hl rfl (Nat.le_of_ble_eq_true rfl) dX5_sights_88) hS (fun H locs hR hS => ?_)
  refine lv_iload_n hx hb dX5_sights_91 rfl (lv_at hl 2 rfl) ?_
  refine lv_if_ne (tgt := 102) hx hb dX5_sights_92 (by decide) (fun b24 => ?_) (fun b24 => ?_)
  · have hf := lm_F b24 hf
    refine lv_iload_n hx hb dX5_sights_102 rfl (lv_at hl 2 rfl) ?_
    refine lv_iconst (v := (1 : Int32)) hx hb dX5_sights_103 (by decide) ?_
    refine lv_icmp_ne (tgt := 114) hx hb dX5_sights_104 (by decide) (fun b25 => ?_) (fun b25 => ?_)
    · have hf := lm_F b25 hf
      refine lv_aload_n hx hb dX5_sights_114 rfl (lv_at hl 0 rfl) ?_
      refine lm_get C0 hR (by decide) cell_140 rfl lw_in_X5 22 (by decide) uw_530 rfl rfl dX5_sights_115 ?_
      exact lm_riM C0 hR hS hf dX5_sights_118
    · have hf := lm_T b25 hf
      refine lv_aload_n hx hb dX5_sights_107 rfl (lv_at hl 0 rfl) ?_
      refine lm_get C0 hR (by decide) cell_140 rfl lw_in_X5 21 (by decide) uw_529 rfl rfl dX5_sights_108 ?_
      refine lv_goto (tgt := 118) hx hb dX5_sights_111 (by decide) ?_
      exact lm_riM C0 hR hS hf dX5_sights_118
  · have hf := lm_T b24 hf
    refine lv_aload_n hx hb dX5_sights_95 rfl (lv_at hl 0 rfl) ?_
    refine lm_get C0 hR (by decide) cell_140 rfl lw_in_X5 20 (by decide) uw_528 rfl rfl dX5_sights_96 ?_
    refine lv_goto (tgt := 118) hx hb dX5_sights_99 (by decide) ?_
    exact lm_riM C0 hR hS hf dX5_sights_118
set_option maxRecDepth 100000 in
set_option maxHeartbeats 4000000 in
theorem c_X5_sights {τ σ τ' : Mem} {p1 : Int32} {p2 : Int32} {p3 : Int32} {p4 : Int32} {p5 : Int32} {r : Int32}  (hf : f_X5_sights τ p1 p2 p3 p4 p5 = some (r, τ')) : lm_CI l yX5_sights wsX5_sights rmX5_sights D cI cZ cL cR B [.ref (B + 140), .int p1, .int p2, .int p3, .int p4, .int p5] σ τ r σ τ' := by
  unfold f_X5_sights at hf
  refine lm_of (cc := cX5_sights) (maxL := 7) (ret := (some .int)) (own := RX5) (by decide) rfl (Nat.le_of_ble_eq_true rfl) (fun p e s m below meth c0 C0 hR ls hl => ?_)
  have hS : va_S (lm_A B) s.heap s.heap [] := va_S.rf
  have hl : lv_has ls 7 [(0, .ref (B + 140)), (1, .int p1), (2, .int p2), (3, .int p3), (4, .int p4), (5, .int p5)] := hl
  obtain ⟨hx, hb, hml, hr, hlk, hown, hts, hK, hX⟩ := id C0
  refine lv_aload_n hx hb dX5_sights_0 rfl (lv_at hl 0 rfl) ?_
  refine lv_iconst (v := (0 : Int32)) hx hb dX5_sights_1 (by decide) ?_
  obtain ⟨τ1, eτ1, hf⟩ := lm_nm_e hf
  refine lm_putM C0 hR hS (by decide) cell_140 rfl lw_in_X5 tyX5 tyX5_ok nmX5 0 (by decide) uw_508 rfl rfl rfl rfl rfl (Nat.le_of_ble_eq_true rfl) eτ1 cell_140u dX5_sights_2 (fun H locs hR hS => ?_)
  refine lv_aload_n hx hb dX5_sights_5 rfl (lv_at hl 0 rfl) ?_
  refine lv_iload_n hx hb dX5_sights_6 rfl (lv_at hl 1 rfl) ?_
  obtain ⟨r3, u2, hf⟩ := lm_bd_e hf
  refine lm_endi (lm_runV C0 hR hS (c_X5_isShip u2) (lw_cV 1 hts uw_682 mv_X5_isShip rfl rfl hd_X5_isShip ⟨Nat.le_of_ble_eq_true rfl, Nat.le_of_ble_eq_true rfl⟩) (by decide) cell_140 rfl rfl hl rfl (Nat.le_of_ble_eq_true rfl) dX5_sights_7) hS (fun H locs hR hS => ?_)
  refine lv_if_eq (tgt := 34) hx hb dX5_sights_10 (by decide) (fun b5 => ?_) (fun b5 => ?_)
  · have hf := lm_T b5 hf
    refine lv_ldc hx hb hown (hts _ uw_548) dX5_sights_34 ?_
    exact lm_riM C0 hR hS hf dX5_sights_36
  · have hf := lm_F b5 hf
    refine lv_iload_n hx hb dX5_sights_13 rfl (lv_at hl 2 rfl) ?_
    refine lv_i2l hx hb dX5_sights_14 rfl ?_
    refine lv_lconst (v := (0 : Int64)) hx hb dX5_sights_15 (by decide) ?_
    refine lv_ldc2 hx hb hown (hts _ uw_547) dX5_sights_16 ?_
    obtain ⟨r7, u6, hf⟩ := lm_bd_e hf
    refine lm_endi (lm_runS C0 hR hS (c_X5_in u6) (lw_cS 3 hts uw_544 mv_X5_in rfl rfl hd_X5_in ⟨Nat.le_of_ble_eq_true rfl, Nat.le_of_ble_eq_true rfl⟩) rfl hl rfl (Nat.le_of_ble_eq_true rfl) dX5_sights_19) hS (fun H locs hR hS => ?_)
    refine lv_if_eq (tgt := 34) hx hb dX5_sights_22 (by decide) (fun b9 => ?_) (fun b9 => ?_)
    · have hf := lm_T b9 hf
      refine lv_ldc hx hb hown (hts _ uw_548) dX5_sights_34 ?_
      exact lm_riM C0 hR hS hf dX5_sights_36
    · have hf := lm_F b9 hf
      refine lv_iload_n hx hb dX5_sights_25 rfl (lv_at hl 3 rfl) ?_
      refine lv_iload hx hb dX5_sights_26 (lv_at hl 5 rfl) ?_
      obtain ⟨r11, u10, hf⟩ := lm_bd_e hf
      refine lm_endi (lm_runS C0 hR hS (c_X5_isMany u10) (lw_cS 2 hts uw_761 mv_X5_isMany rfl rfl hd_X5_isMany ⟨Nat.le_of_ble_eq_true rfl, Nat.le_of_ble_eq_true rfl⟩) rfl hl rfl (Nat.le_of_ble_eq_true rfl) dX5_sights_28) hS (fun H locs hR hS => ?_)
      refine lv_if_ne (tgt := 37) hx hb dX5_sights_31 (by decide) (fun b13 => ?_) (fun b13 => ?_)
      · have hf := lm_F b13 hf
        refine lv_aload_n hx hb dX5_sights_37 rfl (lv_at hl 0 rfl) ?_
        refine lv_iload_n hx hb dX5_sights_38 rfl (lv_at hl 3 rfl) ?_
        refine lv_iload hx hb dX5_sights_39 (lv_at hl 4 rfl) ?_
        refine lv_iload hx hb dX5_sights_41 (lv_at hl 5 rfl) ?_
        obtain ⟨r15, τ16, u14, hf⟩ := lm_bd2_e hf
        refine lm_endi (lm_runV C0 hR hS (c_X5_rowFound u14) (lw_cV 3 hts uw_764 mv_X5_rowFound rfl rfl hd_X5_rowFound ⟨Nat.le_of_ble_eq_true rfl, Nat.le_of_ble_eq_true rfl⟩) (by decide) cell_140 rfl rfl hl rfl (Nat.le_of_ble_eq_true rfl) dX5_sights_43) hS (fun H locs hR hS => ?_)
        refine lv_istore (lv' := [(6, .int r15), (0, .ref (B + 140)), (1, .int p1), (2, .int p2), (3, .int p3), (4, .int p4), (5, .int p5)]) hx hb dX5_sights_46 hl (by decide) rfl (fun ls hl => ?_)
        refine lv_iload hx hb dX5_sights_48 (lv_at hl 0 rfl) ?_
        refine lv_if_eq (tgt := 56) hx hb dX5_sights_50 (by decide) (fun b17 => ?_) (fun b17 => ?_)
        · have hf := lm_T b17 hf
          refine lv_aload_n hx hb dX5_sights_56 rfl (lv_at hl 1 rfl) ?_
          refine lv_iload_n hx hb dX5_sights_57 rfl (lv_at hl 3 rfl) ?_
          refine lv_if_ne (tgt := 65) hx hb dX5_sights_58 (by decide) (fun b18 => ?_) (fun b18 => ?_)
          · have hf := lm_F b18 hf
            refine lv_iconst (v := (4 : Int32)) hx hb dX5_sights_65 (by decide) ?_
            refine lv_iconst (v := (0 : Int32)) hx hb dX5_sights_66 (by decide) ?_
            refine lv_iload_n hx hb dX5_sights_67 rfl (lv_at hl 3 rfl) ?_
            refine lv_if_ne (tgt := 76) hx hb dX5_sights_68 (by decide) (fun b19 => ?_) (fun b19 => ?_)
            · have hf := lm_F b19 hf
              refine lv_bipush (v := (60 : Int32)) hx hb dX5_sights_76 (by decide) ?_
              exact w_X5_sights_78 C0 _ _ _ _ _ _ _ _ _ _ _ _ hR hS (lv_sub hl [1, 2, 3, 4, 5, 6] rfl) hf
            · have hf := lm_T b19 hf
              refine lv_bipush (v := (12 : Int32)) hx hb dX5_sights_71 (by decide) ?_
              refine lv_goto (tgt := 78) hx hb dX5_sights_73 (by decide) ?_
              exact w_X5_sights_78 C0 _ _ _ _ _ _ _ _ _ _ _ _ hR hS (lv_sub hl [1, 2, 3, 4, 5, 6] rfl) hf
          · have hf := lm_T b18 hf
            refine lv_iconst (v := (3 : Int32)) hx hb dX5_sights_61 (by decide) ?_
            refine lv_goto (tgt := 66) hx hb dX5_sights_62 (by decide) ?_
            refine lv_iconst (v := (0 : Int32)) hx hb dX5_sights_66 (by decide) ?_
            refine lv_iload_n hx hb dX5_sights_67 rfl (lv_at hl 3 rfl) ?_
            refine lv_if_ne (tgt := 76) hx hb dX5_sights_68 (by decide) (fun b20 => ?_) (fun b20 => ?_)
            · have hf := lm_F b20 hf
              refine lv_bipush (v := (60 : Int32)) hx hb dX5_sights_76 (by decide) ?_
              exact w_X5_sights_78 C0 _ _ _ _ _ _ _ _ _ _ _ _ hR hS (lv_sub hl [1, 2, 3, 4, 5, 6] rfl) hf
            · have hf := lm_T b20 hf
              refine lv_bipush (v := (12 : Int32)) hx hb dX5_sights_71 (by decide) ?_
              refine lv_goto (tgt := 78) hx hb dX5_sights_73 (by decide) ?_
              exact w_X5_sights_78 C0 _ _ _ _ _ _ _ _ _ _ _ _ hR hS (lv_sub hl [1, 2, 3, 4, 5, 6] rfl) hf
        · have hf := lm_F b17 hf
          refine lv_iload hx hb dX5_sights_53 (lv_at hl 0 rfl) ?_
          exact lm_riM C0 hR hS hf dX5_sights_55
      · have hf := lm_T b13 hf
        refine lv_ldc hx hb hown (hts _ uw_548) dX5_sights_34 ?_
        exact lm_riM C0 hR hS hf dX5_sights_36
end
/-! ===== X5_fair ===== -/
abbrev rmX5_fair : Room := { frames := 4, cells := 0, slots := 0, locals := 90 }
def f_X5_fair_213 : Nat → Int32 → Int64 → Int64 → Int64 → Int64 → Mem → Option (Int64 × Mem)
  | 0, _, _, _, _, _, _ => none
  | n + 1, x3, x4, x6, x8, x10, τ => if (lg_cmp x10 (0 : Int64)) = 0 then (if x3 = 0 then (lm_ck (lm_nzl x8) (some ((x4 / x8), τ))) else (lm_ck (lm_nzl x8) (some ((x6 / x8), τ)))) else (lm_ck (lm_nzl x10) (lm_nm (x8 - x8 / x10 * x10) fun v28 => f_X5_fair_213 n x3 x4 x6 x10 v28 τ))
def f_X5_fair_120 (k63 : Int32 → Int32 → Int32 → Int64 → Int64 → Int32 → Mem → Option (Int64 × Mem)) (k86 : Int32 → Int32 → Int32 → Int64 → Int64 → Int32 → Int64 → Int32 → Mem → Option (Int64 × Mem)) (x1 : Int32) (x2 : Int32) (x3 : Int32) (x4 : Int64) (x6 : Int64) (x8 : Int32) (x11 : Int32) (y0 : Int64) (y1 : Int64) (τ : Mem) : Option (Int64 × Mem) := lm_nm (y1 * y0) fun v47 => lm_bd (f_X5_has x8 x11) fun r49 => if r49 = 0 then (lm_ck (lm_in ((6 : Int32) + x11) 24) (lm_ck (lm_in ((6 : Int32) + x11) 24) (lm_nm (up τ 146 ((6 : Int32) + x11).toNatClampNeg (τ 144 ((6 : Int32) + x11).toNatClampNeg)) fun τ54 => lm_nm (x11 + (1 : Int32)) fun v55 => k86 x1 x2 x3 x4 x6 x8 v47 v55 τ54))) else (lm_ck (lm_in ((6 : Int32) + x11) 24) (lm_nm (up τ 146 ((6 : Int32) + x11).toNatClampNeg (0 : Int32)) fun τ57 => lm_nm (x11 + (1 : Int32)) fun v58 => k86 x1 x2 x3 x4 x6 x8 v47 v58 τ57))
def f_X5_fair_86 (k63 : Int32 → Int32 → Int32 → Int64 → Int64 → Int32 → Mem → Option (Int64 × Mem)) : Nat → Int32 → Int32 → Int32 → Int64 → Int64 → Int32 → Int64 → Int32 → Mem → Option (Int64 × Mem)
  | 0, _, _, _, _, _, _, _, _, _ => none
  | n + 1, x1, x2, x3, x4, x6, x8, x9, x11, τ => lm_ck (lm_in (1 : Int32) 24) (if (τ 144 (1 : Int32).toNatClampNeg) ≤ x11 then (lm_bd (f_X5_watchesOf 146 τ x1) fun τ33 => lm_nm (x6 + x9) fun v34 => lm_bd (f_X5_differ 146 τ33) fun r36 => if r36 = 0 then (lm_nm (x4 + x9) fun v41 => lm_nm (x8 + (1 : Int32)) fun v42 => k63 x1 x2 x3 v41 v34 v42 τ33) else (lm_nm (x4 + (0 : Int64)) fun v39 => lm_nm (x8 + (1 : Int32)) fun v40 => k63 x1 x2 x3 v39 v34 v40 τ33)) else (lm_bd (f_X5_has x8 x11) fun r44 => if r44 = 0 then (f_X5_fair_120 k63 (f_X5_fair_86 k63 n) x1 x2 x3 x4 x6 x8 x11 ((10 : Int64) - x2.toInt64) x9 τ) else (f_X5_fair_120 k63 (f_X5_fair_86 k63 n) x1 x2 x3 x4 x6 x8 x11 x2.toInt64 x9 τ)))
def f_X5_fair_63 : Nat → Int32 → Int32 → Int32 → Int64 → Int64 → Int32 → Mem → Option (Int64 × Mem)
  | 0, _, _, _, _, _, _, _ => none
  | n + 1, x1, x2, x3, x4, x6, x8, τ => lm_ck (lm_in (1 : Int32) 24) (if ((1 : Int32) <<< ((τ 144 (1 : Int32).toNatClampNeg) &&& 31)) ≤ x8 then (f_X5_fair_213 lm_fu x3 x4 x6 x4 x6 τ) else (lm_bd (f_X5_layThen τ) fun τ22 => f_X5_fair_86 (f_X5_fair_63 n) lm_fu x1 x2 x3 x4 x6 x8 (1 : Int64) (0 : Int32) τ22))
def f_X5_fair (τ : Mem) (p1 : Int32) (p2 : Int32) (p3 : Int32) : Option (Int64 × Mem) := lm_nm (up τ 140 0 (0 : Int32)) fun τ1 => lm_bd (f_X5_isThere τ1) fun r3 => if r3 = 0 then (some ((-1000002 : Int64), τ1)) else (lm_bd (f_X5_in p1.toInt64 (0 : Int64) (60 : Int64)) fun r7 => if r7 = 0 then (some ((-1000001 : Int64), τ1)) else (lm_bd (f_X5_in p2.toInt64 (0 : Int64) (10 : Int64)) fun r11 => if r11 = 0 then (some ((-1000001 : Int64), τ1)) else (lm_bd (f_X5_in p3.toInt64 (0 : Int64) (1 : Int64)) fun r15 => if r15 = 0 then (some ((-1000001 : Int64), τ1)) else (f_X5_fair_63 lm_fu p1 p2 p3 (0 : Int64) (0 : Int64) (0 : Int32) τ1))))
abbrev wsX5_fair : List Cond := Cond.code yX5_fair cX5_fair 14 (some .long) :: lw_u
theorem mv_X5_fair : Cond.instanceMethod yX5_fair ∈ lw_u ∧ Cond.selects yX5_fair.cls yX5_fair yX5_fair ∈ lw_u ∧ Cond.initialized yX5_fair.cls ∈ lw_u ∧ Cond.code yX5_fair cX5_fair 14 (some .long) ∈ lw_u := ⟨uw_782, uw_783, uw_6, uw_784⟩
theorem hd_X5_fair : yX5_fair.cls ≠ "java/lang/invoke/MethodHandle" ∧ yX5_fair.cls ≠ "java/lang/invoke/VarHandle" ∧ (parseMethodDescriptor yX5_fair.desc).map (fun d => d.parameters.length) = some 3 := by decide +kernel
section
variable {l : Launch} {D : va_G} {cI cZ cL cR : ClassId} {B : Nat}
set_option maxRecDepth 100000 in
set_option maxHeartbeats 4000000 in
theorem w_X5_fair_213 {p : Program} {e : Env} {s : State} {m : MethodId} {args : Array Value} {below : List Frame} {meth : Method} {c0 : Code} {σ τ' : Mem} {r : Int64} (C0 : lm_Cx D cI cZ cL cR B p s m args meth c0 cX5_fair 14 (some .long) RX5) : ∀ (n : Nat), ∀ (x3 : Int32) (x4 : Int64) (x6 : Int64) (x8 : Int64) (x10 : Int64) (τ : Mem) (H : Heap) (locs : List Loc) (ls : Array Slot), va_P D vwCl (wl cI cZ cL cR B σ τ) H → va_S (lm_A B) s.heap H locs → lv_has ls 14 [(3, .int x3), (4, .long x4), (6, .long x6), (8, .long x8), (10, .long x10)] → f_X5_fair_213 n x3 x4 x6 x8 x10 τ = some (r, τ') → W p l e rmX5_fair s m args below meth c0 H locs 0 0 (MQ below (lm_QJ D cI cZ cL cR B r σ τ') args s 0 0 (lm_A B)) (F0 m 213 ls []) := by
  obtain ⟨hx, hb, hml, hr, hlk, hown, hts, hK, hX⟩ := id C0
  intro n
  induction n with
  | zero =>
    intro x3 x4 x6 x8 x10 τ H locs ls hR hS hl hf
    cases hf
  | succ n ih =>
    intro x3 x4 x6 x8 x10 τ H locs ls hR hS hl hf
    rw [f_X5_fair_213] at hf
    refine lv_lload hx hb dX5_fair_213 (lv_at hl 4 rfl) ?_
    refine lv_lconst (v := (0 : Int64)) hx hb dX5_fair_215 (by decide) ?_
    refine W.lcmp hx hb dX5_fair_216 ?_
    refine lv_if_eq (tgt := 238) hx hb dX5_fair_217 (by decide) (fun b23 => ?_) (fun b23 => ?_)
    · have hf := lm_T b23 hf
      refine lv_iload_n hx hb dX5_fair_238 rfl (lv_at hl 0 rfl) ?_
      refine lv_if_ne (tgt := 247) hx hb dX5_fair_239 (by decide) (fun b24 => ?_) (fun b24 => ?_)
      · have hf := lm_F b24 hf
        refine lv_lload hx hb dX5_fair_247 (lv_at hl 2 rfl) ?_
        refine lv_lload hx hb dX5_fair_249 (lv_at hl 3 rfl) ?_
        obtain ⟨z25, hf⟩ := lm_ck_e hf
        refine lv_ldiv hx hb dX5_fair_251 (lm_nzlT z25) ?_
        exact lm_rlM C0 hR hS hf dX5_fair_252
      · have hf := lm_T b24 hf
        refine lv_lload hx hb dX5_fair_242 (lv_at hl 1 rfl) ?_
        refine lv_goto (tgt := 249) hx hb dX5_fair_244 (by decide) ?_
        refine lv_lload hx hb dX5_fair_249 (lv_at hl 3 rfl) ?_
        obtain ⟨z26, hf⟩ := lm_ck_e hf
        refine lv_ldiv hx hb dX5_fair_251 (lm_nzlT z26) ?_
        exact lm_rlM C0 hR hS hf dX5_fair_252
    · have hf := lm_F b23 hf
      refine lv_lload hx hb dX5_fair_220 (lv_at hl 3 rfl) ?_
      refine lv_lload hx hb dX5_fair_222 (lv_at hl 4 rfl) ?_
      obtain ⟨z27, hf⟩ := lm_ck_e hf
      refine lv_lrem hx hb dX5_fair_224 (lm_nzlT z27) ?_
      obtain ⟨v28, ev28, hf⟩ := lm_nm_e hf
      refine lm_topl ev28 ?_
      refine lv_lstore (lv' := [(12, .long v28), (3, .int x3), (4, .long x4), (6, .long x6), (8, .long x8), (10, .long x10)]) hx hb dX5_fair_225 hl (by decide) rfl (fun ls hl => ?_)
      refine lv_lload hx hb dX5_fair_227 (lv_at hl 5 rfl) ?_
      refine lv_lstore (lv' := [(8, .long x10), (12, .long v28), (3, .int x3), (4, .long x4), (6, .long x6), (10, .long x10)]) hx hb dX5_fair_229 hl (by decide) rfl (fun ls hl => ?_)
      refine lv_lload hx hb dX5_fair_231 (lv_at hl 1 rfl) ?_
      refine lv_lstore (lv' := [(10, .long v28), (8, .long x10), (12, .long v28), (3, .int x3), (4, .long x4), (6, .long x6)]) hx hb dX5_fair_233 hl (by decide) rfl (fun ls hl => ?_)
      refine lv_goto (tgt := 213) hx hb dX5_fair_235 (by decide) ?_
      exact ih _ _ _ _ _ _ _ _ _ hR hS (lv_sub hl [3, 4, 5, 1, 0] rfl) hf
set_option maxRecDepth 100000 in
set_option maxHeartbeats 4000000 in
theorem w_X5_fair_120 {p : Program} {e : Env} {s : State} {m : MethodId} {args : Array Value} {below : List Frame} {meth : Method} {c0 : Code} {σ τ' : Mem} {r : Int64} (C0 : lm_Cx D cI cZ cL cR B p s m args meth c0 cX5_fair 14 (some .long) RX5) {k63 : Int32 → Int32 → Int32 → Int64 → Int64 → Int32 → Mem → Option (Int64 × Mem)} (hk63 : ∀ (x1 : Int32) (x2 : Int32) (x3 : Int32) (x4 : Int64) (x6 : Int64) (x8 : Int32) (τ : Mem) (H : Heap) (locs : List Loc) (ls : Array Slot), va_P D vwCl (wl cI cZ cL cR B σ τ) H → va_S (lm_A B) s.heap H locs → lv_has ls 14 [(0, .ref (B + 140)), (1, .int x1), (2, .int x2), (3, .int x3), (4, .long x4), (6, .long x6), (8, .int x8)] → k63 x1 x2 x3 x4 x6 x8 τ = some (r, τ') → W p l e rmX5_fair s m args below meth c0 H locs 0 0 (MQ below (lm_QJ D cI cZ cL cR B r σ τ') args s 0 0 (lm_A B)) (F0 m 63 ls [])) {k86 : Int32 → Int32 → Int32 → Int64 → Int64 → Int32 → Int64 → Int32 → Mem → Option (Int64 × Mem)} (hk86 : ∀ (x1 : Int32) (x2 : Int32) (x3 : Int32) (x4 : Int64) (x6 : Int64) (x8 : Int32) (x9 : Int64) (x11 : Int32) (τ : Mem) (H : Heap) (locs : List Loc) (ls : Array Slot), va_P D vwCl (wl cI cZ cL cR B σ τ) H → va_S (lm_A B) s.heap H locs → lv_has ls 14 [(0, .ref (B + 140)), (1, .int x1), (2, .int x2), (3, .int x3), (4, .long x4), (6, .long x6), (8, .int x8), (9, .long x9), (11, .int x11)] → k86 x1 x2 x3 x4 x6 x8 x9 x11 τ = some (r, τ') → W p l e rmX5_fair s m args below meth c0 H locs 0 0 (MQ below (lm_QJ D cI cZ cL cR B r σ τ') args s 0 0 (lm_A B)) (F0 m 86 ls [])) : ∀ (x1 : Int32) (x2 : Int32) (x3 : Int32) (x4 : Int64) (x6 : Int64) (x8 : Int32) (x11 : Int32) (y0 : Int64) (y1 : Int64) (τ : Mem) (H : Heap) (locs : List Loc) (ls : Array Slot), va_P D vwCl (wl cI cZ cL cR B σ τ) H → va_S (lm_A B) s.heap H locs → lv_has ls 14 [(0, .ref (B + 140)), (1, .int x1), (2, .int x2), (3, .int x3), (4, .long x4), (6, .long x6), (8, .int x8), (11, .int x11)] → f_X5_fair_120 k63 k86 x1 x2 x3 x4 x6 x8 x11 y0 y1 τ = some (r, τ') → W p l e rmX5_fair s m args below meth c0 H locs 0 0 (MQ below (lm_QJ D cI cZ cL cR B r σ τ') args s 0 0 (lm_A B)) (F0 m 120 ls [.long y0, .long y1]) := by
  obtain ⟨hx, hb, hml, hr, hlk, hown, hts, hK, hX⟩ := id C0
  intro x1 x2 x3 x4 x6 x8 x11 y0 y1 τ H locs ls hR hS hl hf
  unfold f_X5_fair_120 at hf
  refine lv_lmul hx hb dX5_fair_120 ?_
  obtain ⟨v47, ev47, hf⟩ := lm_nm_e hf
  refine lm_topl ev47 ?_
  refine lv_lstore (lv' := [(9, .long v47), (0, .ref (B + 140)), (1, .int x1), (2, .int x2), (3, .int x3), (4, .long x4), (6, .long x6), (8, .int x8), (11, .int x11)]) hx hb dX5_fair_121 hl (by decide) rfl (fun ls hl => ?_)
  refine lv_aload_n hx hb dX5_fair_123 rfl (lv_at hl 1 rfl) ?_
  refine lm_get C0 hR (by decide) cell_140 rfl lw_in_X5 7 (by decide) uw_515 rfl rfl dX5_fair_124 ?_
  refine lv_bipush (v := (6 : Int32)) hx hb dX5_fair_127 (by decide) ?_
  refine lv_iload hx hb dX5_fair_129 (lv_at hl 8 rfl) ?_
  refine lv_iadd hx hb dX5_fair_131 ?_
  refine lv_iload hx hb dX5_fair_132 (lv_at hl 7 rfl) ?_
  refine lv_iload hx hb dX5_fair_134 (lv_at hl 8 rfl) ?_
  obtain ⟨r49, u48, hf⟩ := lm_bd_e hf
  refine lm_endi (lm_runS C0 hR hS (c_X5_has u48) (lw_cS 2 hts uw_654 mv_X5_has rfl rfl hd_X5_has ⟨Nat.le_of_ble_eq_true rfl, Nat.le_of_ble_eq_true rfl⟩) rfl hl rfl (Nat.le_of_ble_eq_true rfl) dX5_fair_136) hS (fun H locs hR hS => ?_)
  refine lv_if_eq (tgt := 146) hx hb dX5_fair_139 (by decide) (fun b51 => ?_) (fun b51 => ?_)
  · have hf := lm_T b51 hf
    refine lv_aload_n hx hb dX5_fair_146 rfl (lv_at hl 1 rfl) ?_
    refine lm_get C0 hR (by decide) cell_140 rfl lw_in_X5 5 (by decide) uw_513 rfl rfl dX5_fair_147 ?_
    refine lv_bipush (v := (6 : Int32)) hx hb dX5_fair_150 (by decide) ?_
    refine lv_iload hx hb dX5_fair_152 (lv_at hl 8 rfl) ?_
    refine lv_iadd hx hb dX5_fair_154 ?_
    obtain ⟨z52, hf⟩ := lm_ck_e hf
    refine lm_ild C0 hR (by decide) cell_144 z52 dX5_fair_155 ?_
    obtain ⟨z53, hf⟩ := lm_ck_e hf
    obtain ⟨τ54, eτ54, hf⟩ := lm_nm_e hf
    refine lm_istM C0 hR hS (by decide) cell_146 z53  eτ54 cell_146u dX5_fair_156 (fun H locs hR hS => ?_)
    obtain ⟨v55, ev55, hf⟩ := lm_nm_e hf
    refine lv_iinc (v := v55) (lv' := [(11, .int v55), (9, .long v47), (0, .ref (B + 140)), (1, .int x1), (2, .int x2), (3, .int x3), (4, .long x4), (6, .long x6), (8, .int x8)]) hx hb dX5_fair_157 hl (k := 8) rfl (by rw [ev55]; rfl) (by decide) rfl (fun ls hl => ?_)
    refine lv_goto (tgt := 86) hx hb dX5_fair_160 (by decide) ?_
    exact hk86 _ _ _ _ _ _ _ _ _ _ _ _ hR hS (lv_sub hl [2, 3, 4, 5, 6, 7, 8, 1, 0] rfl) hf
  · have hf := lm_F b51 hf
    refine lv_iconst (v := (0 : Int32)) hx hb dX5_fair_142 (by decide) ?_
    refine lv_goto (tgt := 156) hx hb dX5_fair_143 (by decide) ?_
    obtain ⟨z56, hf⟩ := lm_ck_e hf
    obtain ⟨τ57, eτ57, hf⟩ := lm_nm_e hf
    refine lm_istM C0 hR hS (by decide) cell_146 z56  eτ57 cell_146u dX5_fair_156 (fun H locs hR hS => ?_)
    obtain ⟨v58, ev58, hf⟩ := lm_nm_e hf
    refine lv_iinc (v := v58) (lv' := [(11, .int v58), (9, .long v47), (0, .ref (B + 140)), (1, .int x1), (2, .int x2), (3, .int x3), (4, .long x4), (6, .long x6), (8, .int x8)]) hx hb dX5_fair_157 hl (k := 8) rfl (by rw [ev58]; rfl) (by decide) rfl (fun ls hl => ?_)
    refine lv_goto (tgt := 86) hx hb dX5_fair_160 (by decide) ?_
    exact hk86 _ _ _ _ _ _ _ _ _ _ _ _ hR hS (lv_sub hl [2, 3, 4, 5, 6, 7, 8, 1, 0] rfl) hf
set_option maxRecDepth 100000 in
set_option maxHeartbeats 4000000 in
theorem w_X5_fair_86 {p : Program} {e : Env} {s : State} {m : MethodId} {args : Array Value} {below : List Frame} {meth : Method} {c0 : Code} {σ τ' : Mem} {r : Int64} (C0 : lm_Cx D cI cZ cL cR B p s m args meth c0 cX5_fair 14 (some .long) RX5) {k63 : Int32 → Int32 → Int32 → Int64 → Int64 → Int32 → Mem → Option (Int64 × Mem)} (hk63 : ∀ (x1 : Int32) (x2 : Int32) (x3 : Int32) (x4 : Int64) (x6 : Int64) (x8 : Int32) (τ : Mem) (H : Heap) (locs : List Loc) (ls : Array Slot), va_P D vwCl (wl cI cZ cL cR B σ τ) H → va_S (lm_A B) s.heap H locs → lv_has ls 14 [(0, .ref (B + 140)), (1, .int x1), (2, .int x2), (3, .int x3), (4, .long x4), (6, .long x6), (8, .int x8)] → k63 x1 x2 x3 x4 x6 x8 τ = some (r, τ') → W p l e rmX5_fair s m args below meth c0 H locs 0 0 (MQ below (lm_QJ D cI cZ cL cR B r σ τ') args s 0 0 (lm_A B)) (F0 m 63 ls [])) : ∀ (n : Nat), ∀ (x1 : Int32) (x2 : Int32) (x3 : Int32) (x4 : Int64) (x6 : Int64) (x8 : Int32) (x9 : Int64) (x11 : Int32) (τ : Mem) (H : Heap) (locs : List Loc) (ls : Array Slot), va_P D vwCl (wl cI cZ cL cR B σ τ) H → va_S (lm_A B) s.heap H locs → lv_has ls 14 [(0, .ref (B + 140)), (1, .int x1), (2, .int x2), (3, .int x3), (4, .long x4), (6, .long x6), (8, .int x8), (9, .long x9), (11, .int x11)] → f_X5_fair_86 k63 n x1 x2 x3 x4 x6 x8 x9 x11 τ = some (r, τ') → W p l e rmX5_fair s m args below meth c0 H locs 0 0 (MQ below (lm_QJ D cI cZ cL cR B r σ τ') args s 0 0 (lm_A B)) (F0 m 86 ls []) := by
  obtain ⟨hx, hb, hml, hr, hlk, hown, hts, hK, hX⟩ := id C0
  intro n
  induction n with
  | zero =>
    intro x1 x2 x3 x4 x6 x8 x9 x11 τ H locs ls hR hS hl hf
    cases hf
  | succ n ih =>
    intro x1 x2 x3 x4 x6 x8 x9 x11 τ H locs ls hR hS hl hf
    rw [f_X5_fair_86] at hf
    refine lv_iload hx hb dX5_fair_86 (lv_at hl 8 rfl) ?_
    refine lv_aload_n hx hb dX5_fair_88 rfl (lv_at hl 0 rfl) ?_
    refine lm_get C0 hR (by decide) cell_140 rfl lw_in_X5 5 (by decide) uw_513 rfl rfl dX5_fair_89 ?_
    refine lv_iconst (v := (1 : Int32)) hx hb dX5_fair_92 (by decide) ?_
    obtain ⟨z29, hf⟩ := lm_ck_e hf
    refine lm_ild C0 hR (by decide) cell_144 z29 dX5_fair_93 ?_
    refine lv_icmp_ge (tgt := 163) hx hb dX5_fair_94 (by decide) (fun b30 => ?_) (fun b30 => ?_)
    · have hf := lm_T b30 hf
      refine lv_aload_n hx hb dX5_fair_163 rfl (lv_at hl 0 rfl) ?_
      refine lm_get C0 hR (by decide) cell_140 rfl lw_in_X5 7 (by decide) uw_515 rfl rfl dX5_fair_164 ?_
      refine lv_iload_n hx hb dX5_fair_167 rfl (lv_at hl 1 rfl) ?_
      obtain ⟨τ33, u31, hf⟩ := lm_bd_e hf
      refine lm_endv (lm_runS C0 hR hS (c_X5_watchesOf isM_146 u31) (lw_cS 2 hts uw_711 mv_X5_watchesOf rfl rfl hd_X5_watchesOf ⟨Nat.le_of_ble_eq_true rfl, Nat.le_of_ble_eq_true rfl⟩) rfl hl rfl (Nat.le_of_ble_eq_true rfl) dX5_fair_168) hS (fun H locs hR hS => ?_)
      refine lv_lload hx hb dX5_fair_171 (lv_at hl 5 rfl) ?_
      refine lv_lload hx hb dX5_fair_173 (lv_at hl 7 rfl) ?_
      refine lv_ladd hx hb dX5_fair_175 ?_
      obtain ⟨v34, ev34, hf⟩ := lm_nm_e hf
      refine lm_topl ev34 ?_
      refine lv_lstore (lv' := [(6, .long v34), (0, .ref (B + 140)), (1, .int x1), (2, .int x2), (3, .int x3), (4, .long x4), (8, .int x8), (9, .long x9), (11, .int x11)]) hx hb dX5_fair_176 hl (by decide) rfl (fun ls hl => ?_)
      refine lv_lload hx hb dX5_fair_178 (lv_at hl 5 rfl) ?_
      refine lv_aload_n hx hb dX5_fair_180 rfl (lv_at hl 1 rfl) ?_
      refine lm_get C0 hR (by decide) cell_140 rfl lw_in_X5 7 (by decide) uw_515 rfl rfl dX5_fair_181 ?_
      obtain ⟨r36, u35, hf⟩ := lm_bd_e hf
      refine lm_endi (lm_runS C0 hR hS (c_X5_differ isM_146 u35) (lw_cS 1 hts uw_645 mv_X5_differ rfl rfl hd_X5_differ ⟨Nat.le_of_ble_eq_true rfl, Nat.le_of_ble_eq_true rfl⟩) rfl hl rfl (Nat.le_of_ble_eq_true rfl) dX5_fair_184) hS (fun H locs hR hS => ?_)
      refine lv_if_ne (tgt := 195) hx hb dX5_fair_187 (by decide) (fun b38 => ?_) (fun b38 => ?_)
      · have hf := lm_F b38 hf
        refine lv_lconst (v := (0 : Int64)) hx hb dX5_fair_195 (by decide) ?_
        refine lv_ladd hx hb dX5_fair_196 ?_
        obtain ⟨v39, ev39, hf⟩ := lm_nm_e hf
        refine lm_topl ev39 ?_
        refine lv_lstore (lv' := [(4, .long v39), (6, .long v34), (0, .ref (B + 140)), (1, .int x1), (2, .int x2), (3, .int x3), (8, .int x8), (9, .long x9), (11, .int x11)]) hx hb dX5_fair_197 hl (by decide) rfl (fun ls hl => ?_)
        obtain ⟨v40, ev40, hf⟩ := lm_nm_e hf
        refine lv_iinc (v := v40) (lv' := [(8, .int v40), (4, .long v39), (6, .long v34), (0, .ref (B + 140)), (1, .int x1), (2, .int x2), (3, .int x3), (9, .long x9), (11, .int x11)]) hx hb dX5_fair_199 hl (k := 6) rfl (by rw [ev40]; rfl) (by decide) rfl (fun ls hl => ?_)
        refine lv_goto (tgt := 63) hx hb dX5_fair_202 (by decide) ?_
        exact hk63 _ _ _ _ _ _ _ _ _ _ hR hS (lv_sub hl [3, 4, 5, 6, 1, 2, 0] rfl) hf
      · have hf := lm_T b38 hf
        refine lv_lload hx hb dX5_fair_190 (lv_at hl 7 rfl) ?_
        refine lv_goto (tgt := 196) hx hb dX5_fair_192 (by decide) ?_
        refine lv_ladd hx hb dX5_fair_196 ?_
        obtain ⟨v41, ev41, hf⟩ := lm_nm_e hf
        refine lm_topl ev41 ?_
        refine lv_lstore (lv' := [(4, .long v41), (6, .long v34), (0, .ref (B + 140)), (1, .int x1), (2, .int x2), (3, .int x3), (8, .int x8), (9, .long x9), (11, .int x11)]) hx hb dX5_fair_197 hl (by decide) rfl (fun ls hl => ?_)
        obtain ⟨v42, ev42, hf⟩ := lm_nm_e hf
        refine lv_iinc (v := v42) (lv' := [(8, .int v42), (4, .long v41), (6, .long v34), (0, .ref (B + 140)), (1, .int x1), (2, .int x2), (3, .int x3), (9, .long x9), (11, .int x11)]) hx hb dX5_fair_199 hl (k := 6) rfl (by rw [ev42]; rfl) (by decide) rfl (fun ls hl => ?_)
        refine lv_goto (tgt := 63) hx hb dX5_fair_202 (by decide) ?_
        exact hk63 _ _ _ _ _ _ _ _ _ _ hR hS (lv_sub hl [3, 4, 5, 6, 1, 2, 0] rfl) hf
    · have hf := lm_F b30 hf
      refine lv_lload hx hb dX5_fair_97 (lv_at hl 7 rfl) ?_
      refine lv_iload hx hb dX5_fair_99 (lv_at hl 6 rfl) ?_
      refine lv_iload hx hb dX5_fair_101 (lv_at hl 8 rfl) ?_
      obtain ⟨r44, u43, hf⟩ := lm_bd_e hf
      refine lm_endi (lm_runS C0 hR hS (c_X5_has u43) (lw_cS 2 hts uw_654 mv_X5_has rfl rfl hd_X5_has ⟨Nat.le_of_ble_eq_true rfl, Nat.le_of_ble_eq_true rfl⟩) rfl hl rfl (Nat.le_of_ble_eq_true rfl) dX5_fair_103) hS (fun H locs hR hS => ?_)
      refine lv_if_eq (tgt := 114) hx hb dX5_fair_106 (by decide) (fun b46 => ?_) (fun b46 => ?_)
      · have hf := lm_T b46 hf
        refine lv_ldc2 hx hb hown (hts _ uw_786) dX5_fair_114 ?_
        refine lv_iload_n hx hb dX5_fair_117 rfl (lv_at hl 2 rfl) ?_
        refine lv_i2l hx hb dX5_fair_118 rfl ?_
        refine lv_lsub hx hb dX5_fair_119 ?_
        exact w_X5_fair_120 C0 hk63 ih _ _ _ _ _ _ _ _ _ _ _ _ _ hR hS (lv_sub hl [0, 1, 2, 3, 4, 5, 6, 8] rfl) hf
      · have hf := lm_F b46 hf
        refine lv_iload_n hx hb dX5_fair_109 rfl (lv_at hl 2 rfl) ?_
        refine lv_i2l hx hb dX5_fair_110 rfl ?_
        refine lv_goto (tgt := 120) hx hb dX5_fair_111 (by decide) ?_
        exact w_X5_fair_120 C0 hk63 ih _ _ _ _ _ _ _ _ _ _ _ _ _ hR hS (lv_sub hl [0, 1, 2, 3, 4, 5, 6, 8] rfl) hf
set_option maxRecDepth 100000 in
set_option maxHeartbeats 4000000 in
theorem w_X5_fair_63 {p : Program} {e : Env} {s : State} {m : MethodId} {args : Array Value} {below : List Frame} {meth : Method} {c0 : Code} {σ τ' : Mem} {r : Int64} (C0 : lm_Cx D cI cZ cL cR B p s m args meth c0 cX5_fair 14 (some .long) RX5) : ∀ (n : Nat), ∀ (x1 : Int32) (x2 : Int32) (x3 : Int32) (x4 : Int64) (x6 : Int64) (x8 : Int32) (τ : Mem) (H : Heap) (locs : List Loc) (ls : Array Slot), va_P D vwCl (wl cI cZ cL cR B σ τ) H → va_S (lm_A B) s.heap H locs → lv_has ls 14 [(0, .ref (B + 140)), (1, .int x1), (2, .int x2), (3, .int x3), (4, .long x4), (6, .long x6), (8, .int x8)] → f_X5_fair_63 n x1 x2 x3 x4 x6 x8 τ = some (r, τ') → W p l e rmX5_fair s m args below meth c0 H locs 0 0 (MQ below (lm_QJ D cI cZ cL cR B r σ τ') args s 0 0 (lm_A B)) (F0 m 63 ls []) := by
  obtain ⟨hx, hb, hml, hr, hlk, hown, hts, hK, hX⟩ := id C0
  intro n
  induction n with
  | zero =>
    intro x1 x2 x3 x4 x6 x8 τ H locs ls hR hS hl hf
    cases hf
  | succ n ih =>
    intro x1 x2 x3 x4 x6 x8 τ H locs ls hR hS hl hf
    rw [f_X5_fair_63] at hf
    refine lv_iload hx hb dX5_fair_63 (lv_at hl 6 rfl) ?_
    refine lv_iconst (v := (1 : Int32)) hx hb dX5_fair_65 (by decide) ?_
    refine lv_aload_n hx hb dX5_fair_66 rfl (lv_at hl 0 rfl) ?_
    refine lm_get C0 hR (by decide) cell_140 rfl lw_in_X5 5 (by decide) uw_513 rfl rfl dX5_fair_67 ?_
    refine lv_iconst (v := (1 : Int32)) hx hb dX5_fair_70 (by decide) ?_
    obtain ⟨z18, hf⟩ := lm_ck_e hf
    refine lm_ild C0 hR (by decide) cell_144 z18 dX5_fair_71 ?_
    refine lv_ishl hx hb dX5_fair_72 ?_
    refine lv_icmp_ge (tgt := 205) hx hb dX5_fair_73 (by decide) (fun b19 => ?_) (fun b19 => ?_)
    · have hf := lm_T b19 hf
      refine lv_lload hx hb dX5_fair_205 (lv_at hl 4 rfl) ?_
      refine lv_lstore (lv' := [(8, .long x4), (0, .ref (B + 140)), (1, .int x1), (2, .int x2), (3, .int x3), (4, .long x4), (6, .long x6)]) hx hb dX5_fair_207 hl (by decide) rfl (fun ls hl => ?_)
      refine lv_lload hx hb dX5_fair_209 (lv_at hl 6 rfl) ?_
      refine lv_lstore (lv' := [(10, .long x6), (8, .long x4), (0, .ref (B + 140)), (1, .int x1), (2, .int x2), (3, .int x3), (4, .long x4), (6, .long x6)]) hx hb dX5_fair_211 hl (by decide) rfl (fun ls hl => ?_)
      exact w_X5_fair_213 C0 _ _ _ _ _ _ _ _ _ _ hR hS (lv_sub hl [5, 6, 7, 1, 0] rfl) hf
    · have hf := lm_F b19 hf
      refine lv_lconst (v := (1 : Int64)) hx hb dX5_fair_76 (by decide) ?_
      refine lv_lstore (lv' := [(9, .long (1 : Int64)), (0, .ref (B + 140)), (1, .int x1), (2, .int x2), (3, .int x3), (4, .long x4), (6, .long x6), (8, .int x8)]) hx hb dX5_fair_77 hl (by decide) rfl (fun ls hl => ?_)
      refine lv_aload_n hx hb dX5_fair_79 rfl (lv_at hl 1 rfl) ?_
      obtain ⟨τ22, u20, hf⟩ := lm_bd_e hf
      refine lm_endv (lm_runV C0 hR hS (c_X5_layThen u20) (lw_cV 0 hts uw_708 mv_X5_layThen rfl rfl hd_X5_layThen ⟨Nat.le_of_ble_eq_true rfl, Nat.le_of_ble_eq_true rfl⟩) (by decide) cell_140 rfl rfl hl rfl (Nat.le_of_ble_eq_true rfl) dX5_fair_80) hS (fun H locs hR hS => ?_)
      refine lv_iconst (v := (0 : Int32)) hx hb dX5_fair_83 (by decide) ?_
      refine lv_istore (lv' := [(11, .int (0 : Int32)), (9, .long (1 : Int64)), (0, .ref (B + 140)), (1, .int x1), (2, .int x2), (3, .int x3), (4, .long x4), (6, .long x6), (8, .int x8)]) hx hb dX5_fair_84 hl (by decide) rfl (fun ls hl => ?_)
      exact w_X5_fair_86 C0 ih _ _ _ _ _ _ _ _ _ _ _ _ _ hR hS (lv_sub hl [2, 3, 4, 5, 6, 7, 8, 1, 0] rfl) hf
set_option maxRecDepth 100000 in
set_option maxHeartbeats 4000000 in
theorem c_X5_fair {τ σ τ' : Mem} {p1 : Int32} {p2 : Int32} {p3 : Int32} {r : Int64}  (hf : f_X5_fair τ p1 p2 p3 = some (r, τ')) : lm_CJ l yX5_fair wsX5_fair rmX5_fair D cI cZ cL cR B [.ref (B + 140), .int p1, .int p2, .int p3] σ τ r σ τ' := by
  unfold f_X5_fair at hf
  refine lm_of (cc := cX5_fair) (maxL := 14) (ret := (some .long)) (own := RX5) (by decide) rfl (Nat.le_of_ble_eq_true rfl) (fun p e s m below meth c0 C0 hR ls hl => ?_)
  have hS : va_S (lm_A B) s.heap s.heap [] := va_S.rf
  have hl : lv_has ls 14 [(0, .ref (B + 140)), (1, .int p1), (2, .int p2), (3, .int p3)] := hl
  obtain ⟨hx, hb, hml, hr, hlk, hown, hts, hK, hX⟩ := id C0
  refine lv_aload_n hx hb dX5_fair_0 rfl (lv_at hl 0 rfl) ?_
  refine lv_iconst (v := (0 : Int32)) hx hb dX5_fair_1 (by decide) ?_
  obtain ⟨τ1, eτ1, hf⟩ := lm_nm_e hf
  refine lm_putM C0 hR hS (by decide) cell_140 rfl lw_in_X5 tyX5 tyX5_ok nmX5 0 (by decide) uw_508 rfl rfl rfl rfl rfl (Nat.le_of_ble_eq_true rfl) eτ1 cell_140u dX5_fair_2 (fun H locs hR hS => ?_)
  refine lv_aload_n hx hb dX5_fair_5 rfl (lv_at hl 0 rfl) ?_
  obtain ⟨r3, u2, hf⟩ := lm_bd_e hf
  refine lm_endi (lm_runV C0 hR hS (c_X5_isThere u2) (lw_cV 0 hts uw_625 mv_X5_isThere rfl rfl hd_X5_isThere ⟨Nat.le_of_ble_eq_true rfl, Nat.le_of_ble_eq_true rfl⟩) (by decide) cell_140 rfl rfl hl rfl (Nat.le_of_ble_eq_true rfl) dX5_fair_6) hS (fun H locs hR hS => ?_)
  refine lv_if_ne (tgt := 16) hx hb dX5_fair_9 (by decide) (fun b5 => ?_) (fun b5 => ?_)
  · have hf := lm_F b5 hf
    refine lv_iload_n hx hb dX5_fair_16 rfl (lv_at hl 1 rfl) ?_
    refine lv_i2l hx hb dX5_fair_17 rfl ?_
    refine lv_lconst (v := (0 : Int64)) hx hb dX5_fair_18 (by decide) ?_
    refine lv_ldc2 hx hb hown (hts _ uw_661) dX5_fair_19 ?_
    obtain ⟨r7, u6, hf⟩ := lm_bd_e hf
    refine lm_endi (lm_runS C0 hR hS (c_X5_in u6) (lw_cS 3 hts uw_544 mv_X5_in rfl rfl hd_X5_in ⟨Nat.le_of_ble_eq_true rfl, Nat.le_of_ble_eq_true rfl⟩) rfl hl rfl (Nat.le_of_ble_eq_true rfl) dX5_fair_22) hS (fun H locs hR hS => ?_)
    refine lv_if_eq (tgt := 50) hx hb dX5_fair_25 (by decide) (fun b9 => ?_) (fun b9 => ?_)
    · have hf := lm_T b9 hf
      refine lv_ldc2 hx hb hown (hts _ uw_787) dX5_fair_50 ?_
      exact lm_rlM C0 hR hS hf dX5_fair_53
    · have hf := lm_F b9 hf
      refine lv_iload_n hx hb dX5_fair_28 rfl (lv_at hl 2 rfl) ?_
      refine lv_i2l hx hb dX5_fair_29 rfl ?_
      refine lv_lconst (v := (0 : Int64)) hx hb dX5_fair_30 (by decide) ?_
      refine lv_ldc2 hx hb hown (hts _ uw_786) dX5_fair_31 ?_
      obtain ⟨r11, u10, hf⟩ := lm_bd_e hf
      refine lm_endi (lm_runS C0 hR hS (c_X5_in u10) (lw_cS 3 hts uw_544 mv_X5_in rfl rfl hd_X5_in ⟨Nat.le_of_ble_eq_true rfl, Nat.le_of_ble_eq_true rfl⟩) rfl hl rfl (Nat.le_of_ble_eq_true rfl) dX5_fair_34) hS (fun H locs hR hS => ?_)
      refine lv_if_eq (tgt := 50) hx hb dX5_fair_37 (by decide) (fun b13 => ?_) (fun b13 => ?_)
      · have hf := lm_T b13 hf
        refine lv_ldc2 hx hb hown (hts _ uw_787) dX5_fair_50 ?_
        exact lm_rlM C0 hR hS hf dX5_fair_53
      · have hf := lm_F b13 hf
        refine lv_iload_n hx hb dX5_fair_40 rfl (lv_at hl 3 rfl) ?_
        refine lv_i2l hx hb dX5_fair_41 rfl ?_
        refine lv_lconst (v := (0 : Int64)) hx hb dX5_fair_42 (by decide) ?_
        refine lv_lconst (v := (1 : Int64)) hx hb dX5_fair_43 (by decide) ?_
        obtain ⟨r15, u14, hf⟩ := lm_bd_e hf
        refine lm_endi (lm_runS C0 hR hS (c_X5_in u14) (lw_cS 3 hts uw_544 mv_X5_in rfl rfl hd_X5_in ⟨Nat.le_of_ble_eq_true rfl, Nat.le_of_ble_eq_true rfl⟩) rfl hl rfl (Nat.le_of_ble_eq_true rfl) dX5_fair_44) hS (fun H locs hR hS => ?_)
        refine lv_if_ne (tgt := 54) hx hb dX5_fair_47 (by decide) (fun b17 => ?_) (fun b17 => ?_)
        · have hf := lm_F b17 hf
          refine lv_lconst (v := (0 : Int64)) hx hb dX5_fair_54 (by decide) ?_
          refine lv_lstore (lv' := [(4, .long (0 : Int64)), (0, .ref (B + 140)), (1, .int p1), (2, .int p2), (3, .int p3)]) hx hb dX5_fair_55 hl (by decide) rfl (fun ls hl => ?_)
          refine lv_lconst (v := (0 : Int64)) hx hb dX5_fair_57 (by decide) ?_
          refine lv_lstore (lv' := [(6, .long (0 : Int64)), (4, .long (0 : Int64)), (0, .ref (B + 140)), (1, .int p1), (2, .int p2), (3, .int p3)]) hx hb dX5_fair_58 hl (by decide) rfl (fun ls hl => ?_)
          refine lv_iconst (v := (0 : Int32)) hx hb dX5_fair_60 (by decide) ?_
          refine lv_istore (lv' := [(8, .int (0 : Int32)), (6, .long (0 : Int64)), (4, .long (0 : Int64)), (0, .ref (B + 140)), (1, .int p1), (2, .int p2), (3, .int p3)]) hx hb dX5_fair_61 hl (by decide) rfl (fun ls hl => ?_)
          exact w_X5_fair_63 C0 _ _ _ _ _ _ _ _ _ _ _ hR hS (lv_sub hl [3, 4, 5, 6, 2, 1, 0] rfl) hf
        · have hf := lm_T b17 hf
          refine lv_ldc2 hx hb hown (hts _ uw_787) dX5_fair_50 ?_
          exact lm_rlM C0 hR hS hf dX5_fair_53
  · have hf := lm_T b5 hf
    refine lv_ldc2 hx hb hown (hts _ uw_785) dX5_fair_12 ?_
    exact lm_rlM C0 hR hS hf dX5_fair_15
end
/-! ===== X5_drawn ===== -/
abbrev rmX5_drawn : Room := { frames := 4, cells := 0, slots := 0, locals := 90 }
def f_X5_drawn_187 (k66 : Int32 → Int32 → Int64 → Int32 → Int32 → Mem → Option (Int32 × Mem)) (x1 : Int32) (x3 : Int32) (x4 : Int64) (x6 : Int32) (x7 : Int32) (τ : Mem) : Option (Int32 × Mem) := lm_bd (f_X5_watchOf 146 τ) fun τ48 => lm_bd (f_X5_differ 146 τ48) fun r50 => lm_bd (f_X5_bits r50) fun r53 => lm_nm (x6 + r53) fun v55 => lm_nm (x7 + (1 : Int32)) fun v56 => k66 x1 x3 x4 v55 v56 τ48
def f_X5_drawn_169 (k66 : Int32 → Int32 → Int64 → Int32 → Int32 → Mem → Option (Int32 × Mem)) (x1 : Int32) (x3 : Int32) (x4 : Int64) (x6 : Int32) (x7 : Int32) (τ : Mem) : Option (Int32 × Mem) := lm_ck (lm_in (4 : Int32) 24) (if (τ 146 (4 : Int32).toNatClampNeg) = 0 then (lm_bd (f_X5_pourInto 146 τ (9 : Int32)) fun τ45 => f_X5_drawn_187 k66 x1 x3 x4 x6 x7 τ45) else (f_X5_drawn_187 k66 x1 x3 x4 x6 x7 τ))
def f_X5_drawn_121 (k66 : Int32 → Int32 → Int64 → Int32 → Int32 → Mem → Option (Int32 × Mem)) (x1 : Int32) (x3 : Int32) (x4 : Int64) (x6 : Int32) (x7 : Int32) (τ : Mem) : Option (Int32 × Mem) := lm_ck (lm_in (0 : Int32) 24) (lm_ck (lm_nzl ((τ 146 (0 : Int32).toNatClampNeg).toInt64)) (lm_nm ((x4 - x4 / ((τ 146 (0 : Int32).toNatClampNeg).toInt64) * ((τ 146 (0 : Int32).toNatClampNeg).toInt64)).toInt32) fun v33 => lm_bd (f_X5_of 146 τ v33 (1 : Int32)) fun r35 => if r35 = 0 then (lm_ck (lm_in (2 : Int32) 24) (lm_ck (lm_in (((12 : Int32) + ((2 : Int32) * v33)) + (1 : Int32)) 24) (lm_nm (up τ 146 (((12 : Int32) + ((2 : Int32) * v33)) + (1 : Int32)).toNatClampNeg ((τ 146 (2 : Int32).toNatClampNeg) - (1 : Int32))) fun τ40 => f_X5_drawn_169 k66 x1 x3 x4 x6 x7 τ40))) else (f_X5_drawn_169 k66 x1 x3 x4 x6 x7 τ)))
def f_X5_drawn_66 : Nat → Int32 → Int32 → Int64 → Int32 → Int32 → Mem → Option (Int32 × Mem)
  | 0, _, _, _, _, _, _ => none
  | n + 1, x1, x3, x4, x6, x7, τ => if x1 ≤ x7 then (if x3 = 0 then (some (x6, τ)) else (lm_ck (lm_in (4 : Int32) 24) (some ((τ 146 (4 : Int32).toNatClampNeg), τ)))) else (lm_nm ((x4 * (16807 : Int64)) - (x4 * (16807 : Int64)) / (2147483647 : Int64) * (2147483647 : Int64)) fun v25 => if (lg_cmp (v25 - v25 / (3 : Int64) * (3 : Int64)) (0 : Int64)) = 0 then (lm_ck (lm_in (1 : Int32) 24) (lm_ck (lm_nzl ((τ 146 (1 : Int32).toNatClampNeg).toInt64)) (lm_ck (lm_in ((6 : Int32) + ((v25 - v25 / ((τ 146 (1 : Int32).toNatClampNeg).toInt64) * ((τ 146 (1 : Int32).toNatClampNeg).toInt64)).toInt32)) 24) (lm_nm (up τ 146 ((6 : Int32) + ((v25 - v25 / ((τ 146 (1 : Int32).toNatClampNeg).toInt64) * ((τ 146 (1 : Int32).toNatClampNeg).toInt64)).toInt32)).toNatClampNeg ((v25 - v25 / (10 : Int64) * (10 : Int64)).toInt32)) fun τ30 => f_X5_drawn_121 (f_X5_drawn_66 n) x1 x3 v25 x6 x7 τ30)))) else (f_X5_drawn_121 (f_X5_drawn_66 n) x1 x3 v25 x6 x7 τ))
def f_X5_drawn (τ : Mem) (p1 : Int32) (p2 : Int32) (p3 : Int32) : Option (Int32 × Mem) := lm_nm (up τ 140 0 (0 : Int32)) fun τ1 => lm_bd (f_X5_isThere τ1) fun r3 => if r3 = 0 then (some ((-1000002 : Int32), τ1)) else (lm_bd (f_X5_in p1.toInt64 (0 : Int64) (60 : Int64)) fun r7 => if r7 = 0 then (some ((-1000001 : Int32), τ1)) else (lm_bd (f_X5_in p2.toInt64 (1 : Int64) (999999 : Int64)) fun r11 => if r11 = 0 then (some ((-1000001 : Int32), τ1)) else (lm_bd (f_X5_in p3.toInt64 (0 : Int64) (1 : Int64)) fun r15 => if r15 = 0 then (some ((-1000001 : Int32), τ1)) else (lm_bd (f_X5_layThen τ1) fun τ20 => lm_nm p2.toInt64 fun v21 => f_X5_drawn_66 lm_fu p1 p3 v21 (0 : Int32) (0 : Int32) τ20))))
abbrev wsX5_drawn : List Cond := Cond.code yX5_drawn cX5_drawn 9 (some .int) :: lw_u
theorem mv_X5_drawn : Cond.instanceMethod yX5_drawn ∈ lw_u ∧ Cond.selects yX5_drawn.cls yX5_drawn yX5_drawn ∈ lw_u ∧ Cond.initialized yX5_drawn.cls ∈ lw_u ∧ Cond.code yX5_drawn cX5_drawn 9 (some .int) ∈ lw_u := ⟨uw_789, uw_790, uw_6, uw_791⟩
theorem hd_X5_drawn : yX5_drawn.cls ≠ "java/lang/invoke/MethodHandle" ∧ yX5_drawn.cls ≠ "java/lang/invoke/VarHandle" ∧ (parseMethodDescriptor yX5_drawn.desc).map (fun d => d.parameters.length) = some 3 := by decide +kernel
section
variable {l : Launch} {D : va_G} {cI cZ cL cR : ClassId} {B : Nat}
set_option maxRecDepth 100000 in
set_option maxHeartbeats 4000000 in
theorem w_X5_drawn_187 {p : Program} {e : Env} {s : State} {m : MethodId} {args : Array Value} {below : List Frame} {meth : Method} {c0 : Code} {σ τ' : Mem} {r : Int32} (C0 : lm_Cx D cI cZ cL cR B p s m args meth c0 cX5_drawn 9 (some .int) RX5) {k66 : Int32 → Int32 → Int64 → Int32 → Int32 → Mem → Option (Int32 × Mem)} (hk66 : ∀ (x1 : Int32) (x3 : Int32) (x4 : Int64) (x6 : Int32) (x7 : Int32) (τ : Mem) (H : Heap) (locs : List Loc) (ls : Array Slot), va_P D vwCl (wl cI cZ cL cR B σ τ) H → va_S (lm_A B) s.heap H locs → lv_has ls 9 [(0, .ref (B + 140)), (1, .int x1), (3, .int x3), (4, .long x4), (6, .int x6), (7, .int x7)] → k66 x1 x3 x4 x6 x7 τ = some (r, τ') → W p l e rmX5_drawn s m args below meth c0 H locs 0 0 (MQ below (lm_QI D cI cZ cL cR B r σ τ') args s 0 0 (lm_A B)) (F0 m 66 ls [])) : ∀ (x1 : Int32) (x3 : Int32) (x4 : Int64) (x6 : Int32) (x7 : Int32) (τ : Mem) (H : Heap) (locs : List Loc) (ls : Array Slot), va_P D vwCl (wl cI cZ cL cR B σ τ) H → va_S (lm_A B) s.heap H locs → lv_has ls 9 [(0, .ref (B + 140)), (1, .int x1), (3, .int x3), (4, .long x4), (6, .int x6), (7, .int x7)] → f_X5_drawn_187 k66 x1 x3 x4 x6 x7 τ = some (r, τ') → W p l e rmX5_drawn s m args below meth c0 H locs 0 0 (MQ below (lm_QI D cI cZ cL cR B r σ τ') args s 0 0 (lm_A B)) (F0 m 187 ls []) := by
  obtain ⟨hx, hb, hml, hr, hlk, hown, hts, hK, hX⟩ := id C0
  intro x1 x3 x4 x6 x7 τ H locs ls hR hS hl hf
  unfold f_X5_drawn_187 at hf
  refine lv_aload_n hx hb dX5_drawn_187 rfl (lv_at hl 0 rfl) ?_
  refine lm_get C0 hR (by decide) cell_140 rfl lw_in_X5 7 (by decide) uw_515 rfl rfl dX5_drawn_188 ?_
  obtain ⟨τ48, u46, hf⟩ := lm_bd_e hf
  refine lm_endv (lm_runS C0 hR hS (c_X5_watchOf isM_146 u46) (lw_cS 1 hts uw_633 mv_X5_watchOf rfl rfl hd_X5_watchOf ⟨Nat.le_of_ble_eq_true rfl, Nat.le_of_ble_eq_true rfl⟩) rfl hl rfl (Nat.le_of_ble_eq_true rfl) dX5_drawn_191) hS (fun H locs hR hS => ?_)
  refine lv_iload hx hb dX5_drawn_194 (lv_at hl 4 rfl) ?_
  refine lv_aload_n hx hb dX5_drawn_196 rfl (lv_at hl 0 rfl) ?_
  refine lm_get C0 hR (by decide) cell_140 rfl lw_in_X5 7 (by decide) uw_515 rfl rfl dX5_drawn_197 ?_
  obtain ⟨r50, u49, hf⟩ := lm_bd_e hf
  refine lm_endi (lm_runS C0 hR hS (c_X5_differ isM_146 u49) (lw_cS 1 hts uw_645 mv_X5_differ rfl rfl hd_X5_differ ⟨Nat.le_of_ble_eq_true rfl, Nat.le_of_ble_eq_true rfl⟩) rfl hl rfl (Nat.le_of_ble_eq_true rfl) dX5_drawn_200) hS (fun H locs hR hS => ?_)
  obtain ⟨r53, u52, hf⟩ := lm_bd_e hf
  refine lm_endi (lm_runS C0 hR hS (c_X5_bits u52) (lw_cS 1 hts uw_736 mv_X5_bits rfl rfl hd_X5_bits ⟨Nat.le_of_ble_eq_true rfl, Nat.le_of_ble_eq_true rfl⟩) rfl hl rfl (Nat.le_of_ble_eq_true rfl) dX5_drawn_203) hS (fun H locs hR hS => ?_)
  refine lv_iadd hx hb dX5_drawn_206 ?_
  obtain ⟨v55, ev55, hf⟩ := lm_nm_e hf
  refine lm_topi ev55 ?_
  refine lv_istore (lv' := [(6, .int v55), (0, .ref (B + 140)), (1, .int x1), (3, .int x3), (4, .long x4), (7, .int x7)]) hx hb dX5_drawn_207 hl (by decide) rfl (fun ls hl => ?_)
  obtain ⟨v56, ev56, hf⟩ := lm_nm_e hf
  refine lv_iinc (v := v56) (lv' := [(7, .int v56), (6, .int v55), (0, .ref (B + 140)), (1, .int x1), (3, .int x3), (4, .long x4)]) hx hb dX5_drawn_209 hl (k := 5) rfl (by rw [ev56]; rfl) (by decide) rfl (fun ls hl => ?_)
  refine lv_goto (tgt := 66) hx hb dX5_drawn_212 (by decide) ?_
  exact hk66 _ _ _ _ _ _ _ _ _ hR hS (lv_sub hl [2, 3, 4, 5, 1, 0] rfl) hf
set_option maxRecDepth 100000 in
set_option maxHeartbeats 4000000 in
theorem w_X5_drawn_169 {p : Program} {e : Env} {s : State} {m : MethodId} {args : Array Value} {below : List Frame} {meth : Method} {c0 : Code} {σ τ' : Mem} {r : Int32} (C0 : lm_Cx D cI cZ cL cR B p s m args meth c0 cX5_drawn 9 (some .int) RX5) {k66 : Int32 → Int32 → Int64 → Int32 → Int32 → Mem → Option (Int32 × Mem)} (hk66 : ∀ (x1 : Int32) (x3 : Int32) (x4 : Int64) (x6 : Int32) (x7 : Int32) (τ : Mem) (H : Heap) (locs : List Loc) (ls : Array Slot), va_P D vwCl (wl cI cZ cL cR B σ τ) H → va_S (lm_A B) s.heap H locs → lv_has ls 9 [(0, .ref (B + 140)), (1, .int x1), (3, .int x3), (4, .long x4), (6, .int x6), (7, .int x7)] → k66 x1 x3 x4 x6 x7 τ = some (r, τ') → W p l e rmX5_drawn s m args below meth c0 H locs 0 0 (MQ below (lm_QI D cI cZ cL cR B r σ τ') args s 0 0 (lm_A B)) (F0 m 66 ls [])) : ∀ (x1 : Int32) (x3 : Int32) (x4 : Int64) (x6 : Int32) (x7 : Int32) (τ : Mem) (H : Heap) (locs : List Loc) (ls : Array Slot), va_P D vwCl (wl cI cZ cL cR B σ τ) H → va_S (lm_A B) s.heap H locs → lv_has ls 9 [(0, .ref (B + 140)), (1, .int x1), (3, .int x3), (4, .long x4), (6, .int x6), (7, .int x7)] → f_X5_drawn_169 k66 x1 x3 x4 x6 x7 τ = some (r, τ') → W p l e rmX5_drawn s m args below meth c0 H locs 0 0 (MQ below (lm_QI D cI cZ cL cR B r σ τ') args s 0 0 (lm_A B)) (F0 m 169 ls []) := by
  obtain ⟨hx, hb, hml, hr, hlk, hown, hts, hK, hX⟩ := id C0
  intro x1 x3 x4 x6 x7 τ H locs ls hR hS hl hf
  unfold f_X5_drawn_169 at hf
  refine lv_aload_n hx hb dX5_drawn_169 rfl (lv_at hl 0 rfl) ?_
  refine lm_get C0 hR (by decide) cell_140 rfl lw_in_X5 7 (by decide) uw_515 rfl rfl dX5_drawn_170 ?_
  refine lv_iconst (v := (4 : Int32)) hx hb dX5_drawn_173 (by decide) ?_
  obtain ⟨z41, hf⟩ := lm_ck_e hf
  refine lm_ild C0 hR (by decide) cell_146 z41 dX5_drawn_174 ?_
  refine lv_if_ne (tgt := 187) hx hb dX5_drawn_175 (by decide) (fun b42 => ?_) (fun b42 => ?_)
  · have hf := lm_F b42 hf
    exact w_X5_drawn_187 C0 hk66 _ _ _ _ _ _ _ _ _ hR hS (lv_sub hl [0, 1, 2, 3, 4, 5] rfl) hf
  · have hf := lm_T b42 hf
    refine lv_aload_n hx hb dX5_drawn_178 rfl (lv_at hl 0 rfl) ?_
    refine lm_get C0 hR (by decide) cell_140 rfl lw_in_X5 7 (by decide) uw_515 rfl rfl dX5_drawn_179 ?_
    refine lv_bipush (v := (9 : Int32)) hx hb dX5_drawn_182 (by decide) ?_
    obtain ⟨τ45, u43, hf⟩ := lm_bd_e hf
    refine lm_endv (lm_runS C0 hR hS (c_X5_pourInto isM_146 u43) (lw_cS 2 hts uw_662 mv_X5_pourInto rfl rfl hd_X5_pourInto ⟨Nat.le_of_ble_eq_true rfl, Nat.le_of_ble_eq_true rfl⟩) rfl hl rfl (Nat.le_of_ble_eq_true rfl) dX5_drawn_184) hS (fun H locs hR hS => ?_)
    exact w_X5_drawn_187 C0 hk66 _ _ _ _ _ _ _ _ _ hR hS (lv_sub hl [0, 1, 2, 3, 4, 5] rfl) hf
set_option maxRecDepth 100000 in
set_option maxHeartbeats 4000000 in
theorem w_X5_drawn_121 {p : Program} {e : Env} {s : State} {m : MethodId} {args : Array Value} {below : List Frame} {meth : Method} {c0 : Code} {σ τ' : Mem} {r : Int32} (C0 : lm_Cx D cI cZ cL cR B p s m args meth c0 cX5_drawn 9 (some .int) RX5) {k66 : Int32 → Int32 → Int64 → Int32 → Int32 → Mem → Option (Int32 × Mem)} (hk66 : ∀ (x1 : Int32) (x3 : Int32) (x4 : Int64) (x6 : Int32) (x7 : Int32) (τ : Mem) (H : Heap) (locs : List Loc) (ls : Array Slot), va_P D vwCl (wl cI cZ cL cR B σ τ) H → va_S (lm_A B) s.heap H locs → lv_has ls 9 [(0, .ref (B + 140)), (1, .int x1), (3, .int x3), (4, .long x4), (6, .int x6), (7, .int x7)] → k66 x1 x3 x4 x6 x7 τ = some (r, τ') → W p l e rmX5_drawn s m args below meth c0 H locs 0 0 (MQ below (lm_QI D cI cZ cL cR B r σ τ') args s 0 0 (lm_A B)) (F0 m 66 ls [])) : ∀ (x1 : Int32) (x3 : Int32) (x4 : Int64) (x6 : Int32) (x7 : Int32) (τ : Mem) (H : Heap) (locs : List Loc) (ls : Array Slot), va_P D vwCl (wl cI cZ cL cR B σ τ) H → va_S (lm_A B) s.heap H locs → lv_has ls 9 [(0, .ref (B + 140)), (1, .int x1), (3, .int x3), (4, .long x4), (6, .int x6), (7, .int x7)] → f_X5_drawn_121 k66 x1 x3 x4 x6 x7 τ = some (r, τ') → W p l e rmX5_drawn s m args below meth c0 H locs 0 0 (MQ below (lm_QI D cI cZ cL cR B r σ τ') args s 0 0 (lm_A B)) (F0 m 121 ls []) := by
  obtain ⟨hx, hb, hml, hr, hlk, hown, hts, hK, hX⟩ := id C0
  intro x1 x3 x4 x6 x7 τ H locs ls hR hS hl hf
  unfold f_X5_drawn_121 at hf
  refine lv_lload hx hb dX5_drawn_121 (lv_at hl 3 rfl) ?_
  refine lv_aload_n hx hb dX5_drawn_123 rfl (lv_at hl 0 rfl) ?_
  refine lm_get C0 hR (by decide) cell_140 rfl lw_in_X5 7 (by decide) uw_515 rfl rfl dX5_drawn_124 ?_
  refine lv_iconst (v := (0 : Int32)) hx hb dX5_drawn_127 (by decide) ?_
  obtain ⟨z31, hf⟩ := lm_ck_e hf
  refine lm_ild C0 hR (by decide) cell_146 z31 dX5_drawn_128 ?_
  refine lv_i2l hx hb dX5_drawn_129 rfl ?_
  obtain ⟨z32, hf⟩ := lm_ck_e hf
  refine lv_lrem hx hb dX5_drawn_130 (lm_nzlT z32) ?_
  refine lv_l2i hx hb dX5_drawn_131 rfl ?_
  obtain ⟨v33, ev33, hf⟩ := lm_nm_e hf
  refine lm_topi ev33 ?_
  refine lv_istore (lv' := [(8, .int v33), (0, .ref (B + 140)), (1, .int x1), (3, .int x3), (4, .long x4), (6, .int x6), (7, .int x7)]) hx hb dX5_drawn_132 hl (by decide) rfl (fun ls hl => ?_)
  refine lv_aload_n hx hb dX5_drawn_134 rfl (lv_at hl 1 rfl) ?_
  refine lm_get C0 hR (by decide) cell_140 rfl lw_in_X5 7 (by decide) uw_515 rfl rfl dX5_drawn_135 ?_
  refine lv_iload hx hb dX5_drawn_138 (lv_at hl 0 rfl) ?_
  refine lv_iconst (v := (1 : Int32)) hx hb dX5_drawn_140 (by decide) ?_
  obtain ⟨r35, u34, hf⟩ := lm_bd_e hf
  refine lm_endi (lm_runS C0 hR hS (c_X5_of isM_146 u34) (lw_cS 3 hts uw_639 mv_X5_of rfl rfl hd_X5_of ⟨Nat.le_of_ble_eq_true rfl, Nat.le_of_ble_eq_true rfl⟩) rfl hl rfl (Nat.le_of_ble_eq_true rfl) dX5_drawn_141) hS (fun H locs hR hS => ?_)
  refine lv_if_ne (tgt := 169) hx hb dX5_drawn_144 (by decide) (fun b37 => ?_) (fun b37 => ?_)
  · have hf := lm_F b37 hf
    exact w_X5_drawn_169 C0 hk66 _ _ _ _ _ _ _ _ _ hR hS (lv_sub hl [1, 2, 3, 4, 5, 6] rfl) hf
  · have hf := lm_T b37 hf
    refine lv_aload_n hx hb dX5_drawn_147 rfl (lv_at hl 1 rfl) ?_
    refine lm_get C0 hR (by decide) cell_140 rfl lw_in_X5 7 (by decide) uw_515 rfl rfl dX5_drawn_148 ?_
    refine lv_bipush (v := (12 : Int32)) hx hb dX5_drawn_151 (by decide) ?_
    refine lv_iconst (v := (2 : Int32)) hx hb dX5_drawn_153 (by decide) ?_
    refine lv_iload hx hb dX5_drawn_154 (lv_at hl 0 rfl) ?_
    refine lv_imul hx hb dX5_drawn_156 ?_
    refine lv_iadd hx hb dX5_drawn_157 ?_
    refine lv_iconst (v := (1 : Int32)) hx hb dX5_drawn_158 (by decide) ?_
    refine lv_iadd hx hb dX5_drawn_159 ?_
    refine lv_aload_n hx hb dX5_drawn_160 rfl (lv_at hl 1 rfl) ?_
    refine lm_get C0 hR (by decide) cell_140 rfl lw_in_X5 7 (by decide) uw_515 rfl rfl dX5_drawn_161 ?_
    refine lv_iconst (v := (2 : Int32)) hx hb dX5_drawn_164 (by decide) ?_
    obtain ⟨z38, hf⟩ := lm_ck_e hf
    refine lm_ild C0 hR (by decide) cell_146 z38 dX5_drawn_165 ?_
    refine lv_iconst (v := (1 : Int32)) hx hb dX5_drawn_166 (by decide) ?_
    refine lv_isub hx hb dX5_drawn_167 ?_
    obtain ⟨z39, hf⟩ := lm_ck_e hf
    obtain ⟨τ40, eτ40, hf⟩ := lm_nm_e hf
    refine lm_istM C0 hR hS (by decide) cell_146 z39  eτ40 cell_146u dX5_drawn_168 (fun H locs hR hS => ?_)
    exact w_X5_drawn_169 C0 hk66 _ _ _ _ _ _ _ _ _ hR hS (lv_sub hl [1, 2, 3, 4, 5, 6] rfl) hf
set_option maxRecDepth 100000 in
set_option maxHeartbeats 4000000 in
theorem w_X5_drawn_66 {p : Program} {e : Env} {s : State} {m : MethodId} {args : Array Value} {below : List Frame} {meth : Method} {c0 : Code} {σ τ' : Mem} {r : Int32} (C0 : lm_Cx D cI cZ cL cR B p s m args meth c0 cX5_drawn 9 (some .int) RX5) : ∀ (n : Nat), ∀ (x1 : Int32) (x3 : Int32) (x4 : Int64) (x6 : Int32) (x7 : Int32) (τ : Mem) (H : Heap) (locs : List Loc) (ls : Array Slot), va_P D vwCl (wl cI cZ cL cR B σ τ) H → va_S (lm_A B) s.heap H locs → lv_has ls 9 [(0, .ref (B + 140)), (1, .int x1), (3, .int x3), (4, .long x4), (6, .int x6), (7, .int x7)] → f_X5_drawn_66 n x1 x3 x4 x6 x7 τ = some (r, τ') → W p l e rmX5_drawn s m args below meth c0 H locs 0 0 (MQ below (lm_QI D cI cZ cL cR B r σ τ') args s 0 0 (lm_A B)) (F0 m 66 ls []) := by
  obtain ⟨hx, hb, hml, hr, hlk, hown, hts, hK, hX⟩ := id C0
  intro n
  induction n with
  | zero =>
    intro x1 x3 x4 x6 x7 τ H locs ls hR hS hl hf
    cases hf
  | succ n ih =>
    intro x1 x3 x4 x6 x7 τ H locs ls hR hS hl hf
    rw [f_X5_drawn_66] at hf
    refine lv_iload hx hb dX5_drawn_66 (lv_at hl 5 rfl) ?_
    refine lv_iload_n hx hb dX5_drawn_68 rfl (lv_at hl 1 rfl) ?_
    refine lv_icmp_ge (tgt := 215) hx hb dX5_drawn_69 (by decide) (fun b22 => ?_) (fun b22 => ?_)
    · have hf := lm_T b22 hf
      refine lv_iload_n hx hb dX5_drawn_215 rfl (lv_at hl 2 rfl) ?_
      refine lv_if_ne (tgt := 224) hx hb dX5_drawn_216 (by decide) (fun b23 => ?_) (fun b23 => ?_)
      · have hf := lm_F b23 hf
        refine lv_aload_n hx hb dX5_drawn_224 rfl (lv_at hl 0 rfl) ?_
        refine lm_get C0 hR (by decide) cell_140 rfl lw_in_X5 7 (by decide) uw_515 rfl rfl dX5_drawn_225 ?_
        refine lv_iconst (v := (4 : Int32)) hx hb dX5_drawn_228 (by decide) ?_
        obtain ⟨z24, hf⟩ := lm_ck_e hf
        refine lm_ild C0 hR (by decide) cell_146 z24 dX5_drawn_229 ?_
        exact lm_riM C0 hR hS hf dX5_drawn_230
      · have hf := lm_T b23 hf
        refine lv_iload hx hb dX5_drawn_219 (lv_at hl 4 rfl) ?_
        refine lv_goto (tgt := 230) hx hb dX5_drawn_221 (by decide) ?_
        exact lm_riM C0 hR hS hf dX5_drawn_230
    · have hf := lm_F b22 hf
      refine lv_lload hx hb dX5_drawn_72 (lv_at hl 3 rfl) ?_
      refine lv_ldc2 hx hb hown (hts _ uw_793) dX5_drawn_74 ?_
      refine lv_lmul hx hb dX5_drawn_77 ?_
      refine lv_ldc2 hx hb hown (hts _ uw_794) dX5_drawn_78 ?_
      refine lv_lrem hx hb dX5_drawn_81 (by decide) ?_
      obtain ⟨v25, ev25, hf⟩ := lm_nm_e hf
      refine lm_topl ev25 ?_
      refine lv_lstore (lv' := [(4, .long v25), (0, .ref (B + 140)), (1, .int x1), (3, .int x3), (6, .int x6), (7, .int x7)]) hx hb dX5_drawn_82 hl (by decide) rfl (fun ls hl => ?_)
      refine lv_lload hx hb dX5_drawn_84 (lv_at hl 0 rfl) ?_
      refine lv_ldc2 hx hb hown (hts _ uw_718) dX5_drawn_86 ?_
      refine lv_lrem hx hb dX5_drawn_89 (by decide) ?_
      refine lv_lconst (v := (0 : Int64)) hx hb dX5_drawn_90 (by decide) ?_
      refine W.lcmp hx hb dX5_drawn_91 ?_
      refine lv_if_ne (tgt := 121) hx hb dX5_drawn_92 (by decide) (fun b26 => ?_) (fun b26 => ?_)
      · have hf := lm_F b26 hf
        exact w_X5_drawn_121 C0 ih _ _ _ _ _ _ _ _ _ hR hS (lv_sub hl [1, 2, 3, 0, 4, 5] rfl) hf
      · have hf := lm_T b26 hf
        refine lv_aload_n hx hb dX5_drawn_95 rfl (lv_at hl 1 rfl) ?_
        refine lm_get C0 hR (by decide) cell_140 rfl lw_in_X5 7 (by decide) uw_515 rfl rfl dX5_drawn_96 ?_
        refine lv_bipush (v := (6 : Int32)) hx hb dX5_drawn_99 (by decide) ?_
        refine lv_lload hx hb dX5_drawn_101 (lv_at hl 0 rfl) ?_
        refine lv_aload_n hx hb dX5_drawn_103 rfl (lv_at hl 1 rfl) ?_
        refine lm_get C0 hR (by decide) cell_140 rfl lw_in_X5 7 (by decide) uw_515 rfl rfl dX5_drawn_104 ?_
        refine lv_iconst (v := (1 : Int32)) hx hb dX5_drawn_107 (by decide) ?_
        obtain ⟨z27, hf⟩ := lm_ck_e hf
        refine lm_ild C0 hR (by decide) cell_146 z27 dX5_drawn_108 ?_
        refine lv_i2l hx hb dX5_drawn_109 rfl ?_
        obtain ⟨z28, hf⟩ := lm_ck_e hf
        refine lv_lrem hx hb dX5_drawn_110 (lm_nzlT z28) ?_
        refine lv_l2i hx hb dX5_drawn_111 rfl ?_
        refine lv_iadd hx hb dX5_drawn_112 ?_
        refine lv_lload hx hb dX5_drawn_113 (lv_at hl 0 rfl) ?_
        refine lv_ldc2 hx hb hown (hts _ uw_786) dX5_drawn_115 ?_
        refine lv_lrem hx hb dX5_drawn_118 (by decide) ?_
        refine lv_l2i hx hb dX5_drawn_119 rfl ?_
        obtain ⟨z29, hf⟩ := lm_ck_e hf
        obtain ⟨τ30, eτ30, hf⟩ := lm_nm_e hf
        refine lm_istM C0 hR hS (by decide) cell_146 z29  eτ30 cell_146u dX5_drawn_120 (fun H locs hR hS => ?_)
        exact w_X5_drawn_121 C0 ih _ _ _ _ _ _ _ _ _ hR hS (lv_sub hl [1, 2, 3, 0, 4, 5] rfl) hf
set_option maxRecDepth 100000 in
set_option maxHeartbeats 4000000 in
theorem c_X5_drawn {τ σ τ' : Mem} {p1 : Int32} {p2 : Int32} {p3 : Int32} {r : Int32}  (hf : f_X5_drawn τ p1 p2 p3 = some (r, τ')) : lm_CI l yX5_drawn wsX5_drawn rmX5_drawn D cI cZ cL cR B [.ref (B + 140), .int p1, .int p2, .int p3] σ τ r σ τ' := by
  unfold f_X5_drawn at hf
  refine lm_of (cc := cX5_drawn) (maxL := 9) (ret := (some .int)) (own := RX5) (by decide) rfl (Nat.le_of_ble_eq_true rfl) (fun p e s m below meth c0 C0 hR ls hl => ?_)
  have hS : va_S (lm_A B) s.heap s.heap [] := va_S.rf
  have hl : lv_has ls 9 [(0, .ref (B + 140)), (1, .int p1), (2, .int p2), (3, .int p3)] := hl
  obtain ⟨hx, hb, hml, hr, hlk, hown, hts, hK, hX⟩ := id C0
  refine lv_aload_n hx hb dX5_drawn_0 rfl (lv_at hl 0 rfl) ?_
  refine lv_iconst (v := (0 : Int32)) hx hb dX5_drawn_1 (by decide) ?_
  obtain ⟨τ1, eτ1, hf⟩ := lm_nm_e hf
  refine lm_putM C0 hR hS (by decide) cell_140 rfl lw_in_X5 tyX5 tyX5_ok nmX5 0 (by decide) uw_508 rfl rfl rfl rfl rfl (Nat.le_of_ble_eq_true rfl) eτ1 cell_140u dX5_drawn_2 (fun H locs hR hS => ?_)
  refine lv_aload_n hx hb dX5_drawn_5 rfl (lv_at hl 0 rfl) ?_
  obtain ⟨r3, u2, hf⟩ := lm_bd_e hf
  refine lm_endi (lm_runV C0 hR hS (c_X5_isThere u2) (lw_cV 0 hts uw_625 mv_X5_isThere rfl rfl hd_X5_isThere ⟨Nat.le_of_ble_eq_true rfl, Nat.le_of_ble_eq_true rfl⟩) (by decide) cell_140 rfl rfl hl rfl (Nat.le_of_ble_eq_true rfl) dX5_drawn_6) hS (fun H locs hR hS => ?_)
  refine lv_if_ne (tgt := 15) hx hb dX5_drawn_9 (by decide) (fun b5 => ?_) (fun b5 => ?_)
  · have hf := lm_F b5 hf
    refine lv_iload_n hx hb dX5_drawn_15 rfl (lv_at hl 1 rfl) ?_
    refine lv_i2l hx hb dX5_drawn_16 rfl ?_
    refine lv_lconst (v := (0 : Int64)) hx hb dX5_drawn_17 (by decide) ?_
    refine lv_ldc2 hx hb hown (hts _ uw_661) dX5_drawn_18 ?_
    obtain ⟨r7, u6, hf⟩ := lm_bd_e hf
    refine lm_endi (lm_runS C0 hR hS (c_X5_in u6) (lw_cS 3 hts uw_544 mv_X5_in rfl rfl hd_X5_in ⟨Nat.le_of_ble_eq_true rfl, Nat.le_of_ble_eq_true rfl⟩) rfl hl rfl (Nat.le_of_ble_eq_true rfl) dX5_drawn_21) hS (fun H locs hR hS => ?_)
    refine lv_if_eq (tgt := 49) hx hb dX5_drawn_24 (by decide) (fun b9 => ?_) (fun b9 => ?_)
    · have hf := lm_T b9 hf
      refine lv_ldc hx hb hown (hts _ uw_548) dX5_drawn_49 ?_
      exact lm_riM C0 hR hS hf dX5_drawn_51
    · have hf := lm_F b9 hf
      refine lv_iload_n hx hb dX5_drawn_27 rfl (lv_at hl 2 rfl) ?_
      refine lv_i2l hx hb dX5_drawn_28 rfl ?_
      refine lv_lconst (v := (1 : Int64)) hx hb dX5_drawn_29 (by decide) ?_
      refine lv_ldc2 hx hb hown (hts _ uw_792) dX5_drawn_30 ?_
      obtain ⟨r11, u10, hf⟩ := lm_bd_e hf
      refine lm_endi (lm_runS C0 hR hS (c_X5_in u10) (lw_cS 3 hts uw_544 mv_X5_in rfl rfl hd_X5_in ⟨Nat.le_of_ble_eq_true rfl, Nat.le_of_ble_eq_true rfl⟩) rfl hl rfl (Nat.le_of_ble_eq_true rfl) dX5_drawn_33) hS (fun H locs hR hS => ?_)
      refine lv_if_eq (tgt := 49) hx hb dX5_drawn_36 (by decide) (fun b13 => ?_) (fun b13 => ?_)
      · have hf := lm_T b13 hf
        refine lv_ldc hx hb hown (hts _ uw_548) dX5_drawn_49 ?_
        exact lm_riM C0 hR hS hf dX5_drawn_51
      · have hf := lm_F b13 hf
        refine lv_iload_n hx hb dX5_drawn_39 rfl (lv_at hl 3 rfl) ?_
        refine lv_i2l hx hb dX5_drawn_40 rfl ?_
        refine lv_lconst (v := (0 : Int64)) hx hb dX5_drawn_41 (by decide) ?_
        refine lv_lconst (v := (1 : Int64)) hx hb dX5_drawn_42 (by decide) ?_
        obtain ⟨r15, u14, hf⟩ := lm_bd_e hf
        refine lm_endi (lm_runS C0 hR hS (c_X5_in u14) (lw_cS 3 hts uw_544 mv_X5_in rfl rfl hd_X5_in ⟨Nat.le_of_ble_eq_true rfl, Nat.le_of_ble_eq_true rfl⟩) rfl hl rfl (Nat.le_of_ble_eq_true rfl) dX5_drawn_43) hS (fun H locs hR hS => ?_)
        refine lv_if_ne (tgt := 52) hx hb dX5_drawn_46 (by decide) (fun b17 => ?_) (fun b17 => ?_)
        · have hf := lm_F b17 hf
          refine lv_aload_n hx hb dX5_drawn_52 rfl (lv_at hl 0 rfl) ?_
          obtain ⟨τ20, u18, hf⟩ := lm_bd_e hf
          refine lm_endv (lm_runV C0 hR hS (c_X5_layThen u18) (lw_cV 0 hts uw_708 mv_X5_layThen rfl rfl hd_X5_layThen ⟨Nat.le_of_ble_eq_true rfl, Nat.le_of_ble_eq_true rfl⟩) (by decide) cell_140 rfl rfl hl rfl (Nat.le_of_ble_eq_true rfl) dX5_drawn_53) hS (fun H locs hR hS => ?_)
          refine lv_iload_n hx hb dX5_drawn_56 rfl (lv_at hl 2 rfl) ?_
          refine lv_i2l hx hb dX5_drawn_57 rfl ?_
          obtain ⟨v21, ev21, hf⟩ := lm_nm_e hf
          refine lm_topl ev21 ?_
          refine lv_lstore (lv' := [(4, .long v21), (0, .ref (B + 140)), (1, .int p1), (2, .int p2), (3, .int p3)]) hx hb dX5_drawn_58 hl (by decide) rfl (fun ls hl => ?_)
          refine lv_iconst (v := (0 : Int32)) hx hb dX5_drawn_60 (by decide) ?_
          refine lv_istore (lv' := [(6, .int (0 : Int32)), (4, .long v21), (0, .ref (B + 140)), (1, .int p1), (2, .int p2), (3, .int p3)]) hx hb dX5_drawn_61 hl (by decide) rfl (fun ls hl => ?_)
          refine lv_iconst (v := (0 : Int32)) hx hb dX5_drawn_63 (by decide) ?_
          refine lv_istore (lv' := [(7, .int (0 : Int32)), (6, .int (0 : Int32)), (4, .long v21), (0, .ref (B + 140)), (1, .int p1), (2, .int p2), (3, .int p3)]) hx hb dX5_drawn_64 hl (by decide) rfl (fun ls hl => ?_)
          exact w_X5_drawn_66 C0 _ _ _ _ _ _ _ _ _ _ hR hS (lv_sub hl [3, 4, 6, 2, 1, 0] rfl) hf
        · have hf := lm_T b17 hf
          refine lv_ldc hx hb hown (hts _ uw_548) dX5_drawn_49 ?_
          exact lm_riM C0 hR hS hf dX5_drawn_51
  · have hf := lm_T b5 hf
    refine lv_ldc hx hb hown (hts _ uw_628) dX5_drawn_12 ?_
    exact lm_riM C0 hR hS hf dX5_drawn_14
end
/-! ===== X5_image ===== -/
abbrev rmX5_image : Room := { frames := 1, cells := 0, slots := 0, locals := 25 }
def f_X5_image_30 : Nat → Int32 → Int32 → Mem → Option (Int32 × Mem)
  | 0, _, _, _ => none
  | n + 1, x1, x2, τ => if (24 : Int32) ≤ x2 then (lm_ck (lm_in x1 2) (lm_nm (up τ 150 x1.toNatClampNeg (1 : Int32)) fun τ12 => some ((1 : Int32), τ12))) else (lm_ck (lm_in x2 24) (lm_ck (lm_in (((24 : Int32) * x1) + x2) 48) (lm_nm (up τ 151 (((24 : Int32) * x1) + x2).toNatClampNeg (τ 144 x2.toNatClampNeg)) fun τ15 => lm_nm (x2 + (1 : Int32)) fun v16 => f_X5_image_30 n x1 v16 τ15)))
def f_X5_image (τ : Mem) (p1 : Int32) : Option (Int32 × Mem) := lm_nm (up τ 140 0 (0 : Int32)) fun τ1 => lm_bd (f_X5_in p1.toInt64 (0 : Int64) (1 : Int64)) fun r3 => if r3 = 0 then (some ((-1000001 : Int32), τ1)) else (lm_bd (f_X5_isThere τ1) fun r7 => if r7 = 0 then (some ((-1000002 : Int32), τ1)) else (f_X5_image_30 lm_fu p1 (0 : Int32) τ1))
abbrev wsX5_image : List Cond := Cond.code yX5_image cX5_image 3 (some .int) :: lw_u
theorem mv_X5_image : Cond.instanceMethod yX5_image ∈ lw_u ∧ Cond.selects yX5_image.cls yX5_image yX5_image ∈ lw_u ∧ Cond.initialized yX5_image.cls ∈ lw_u ∧ Cond.code yX5_image cX5_image 3 (some .int) ∈ lw_u := ⟨uw_796, uw_797, uw_6, uw_798⟩
theorem hd_X5_image : yX5_image.cls ≠ "java/lang/invoke/MethodHandle" ∧ yX5_image.cls ≠ "java/lang/invoke/VarHandle" ∧ (parseMethodDescriptor yX5_image.desc).map (fun d => d.parameters.length) = some 1 := by decide +kernel
section
variable {l : Launch} {D : va_G} {cI cZ cL cR : ClassId} {B : Nat}
set_option maxRecDepth 100000 in
set_option maxHeartbeats 4000000 in
theorem w_X5_image_30 {p : Program} {e : Env} {s : State} {m : MethodId} {args : Array Value} {below : List Frame} {meth : Method} {c0 : Code} {σ τ' : Mem} {r : Int32} (C0 : lm_Cx D cI cZ cL cR B p s m args meth c0 cX5_image 3 (some .int) RX5) : ∀ (n : Nat), ∀ (x1 : Int32) (x2 : Int32) (τ : Mem) (H : Heap) (locs : List Loc) (ls : Array Slot), va_P D vwCl (wl cI cZ cL cR B σ τ) H → va_S (lm_A B) s.heap H locs → lv_has ls 3 [(0, .ref (B + 140)), (1, .int x1), (2, .int x2)] → f_X5_image_30 n x1 x2 τ = some (r, τ') → W p l e rmX5_image s m args below meth c0 H locs 0 0 (MQ below (lm_QI D cI cZ cL cR B r σ τ') args s 0 0 (lm_A B)) (F0 m 30 ls []) := by
  obtain ⟨hx, hb, hml, hr, hlk, hown, hts, hK, hX⟩ := id C0
  intro n
  induction n with
  | zero =>
    intro x1 x2 τ H locs ls hR hS hl hf
    cases hf
  | succ n ih =>
    intro x1 x2 τ H locs ls hR hS hl hf
    rw [f_X5_image_30] at hf
    refine lv_iload_n hx hb dX5_image_30 rfl (lv_at hl 2 rfl) ?_
    refine lv_bipush (v := (24 : Int32)) hx hb dX5_image_31 (by decide) ?_
    refine lv_icmp_ge (tgt := 59) hx hb dX5_image_33 (by decide) (fun b10 => ?_) (fun b10 => ?_)
    · have hf := lm_T b10 hf
      refine lv_aload_n hx hb dX5_image_59 rfl (lv_at hl 0 rfl) ?_
      refine lm_get C0 hR (by decide) cell_140 rfl lw_in_X5 23 (by decide) uw_531 rfl rfl dX5_image_60 ?_
      refine lv_iload_n hx hb dX5_image_63 rfl (lv_at hl 1 rfl) ?_
      refine lv_iconst (v := (1 : Int32)) hx hb dX5_image_64 (by decide) ?_
      obtain ⟨z11, hf⟩ := lm_ck_e hf
      obtain ⟨τ12, eτ12, hf⟩ := lm_nm_e hf
      refine lm_zstM C0 hR hS (by decide) cell_150 z11 rfl eτ12 cell_150u dX5_image_65 (fun H locs hR hS => ?_)
      refine lv_iconst (v := (1 : Int32)) hx hb dX5_image_66 (by decide) ?_
      exact lm_riM C0 hR hS hf dX5_image_67
    · have hf := lm_F b10 hf
      refine lv_aload_n hx hb dX5_image_36 rfl (lv_at hl 0 rfl) ?_
      refine lm_get C0 hR (by decide) cell_140 rfl lw_in_X5 24 (by decide) uw_532 rfl rfl dX5_image_37 ?_
      refine lv_bipush (v := (24 : Int32)) hx hb dX5_image_40 (by decide) ?_
      refine lv_iload_n hx hb dX5_image_42 rfl (lv_at hl 1 rfl) ?_
      refine lv_imul hx hb dX5_image_43 ?_
      refine lv_iload_n hx hb dX5_image_44 rfl (lv_at hl 2 rfl) ?_
      refine lv_iadd hx hb dX5_image_45 ?_
      refine lv_aload_n hx hb dX5_image_46 rfl (lv_at hl 0 rfl) ?_
      refine lm_get C0 hR (by decide) cell_140 rfl lw_in_X5 5 (by decide) uw_513 rfl rfl dX5_image_47 ?_
      refine lv_iload_n hx hb dX5_image_50 rfl (lv_at hl 2 rfl) ?_
      obtain ⟨z13, hf⟩ := lm_ck_e hf
      refine lm_ild C0 hR (by decide) cell_144 z13 dX5_image_51 ?_
      obtain ⟨z14, hf⟩ := lm_ck_e hf
      obtain ⟨τ15, eτ15, hf⟩ := lm_nm_e hf
      refine lm_istM C0 hR hS (by decide) cell_151 z14  eτ15 cell_151u dX5_image_52 (fun H locs hR hS => ?_)
      obtain ⟨v16, ev16, hf⟩ := lm_nm_e hf
      refine lv_iinc (v := v16) (lv' := [(2, .int v16), (0, .ref (B + 140)), (1, .int x1)]) hx hb dX5_image_53 hl (k := 2) rfl (by rw [ev16]; rfl) (by decide) rfl (fun ls hl => ?_)
      refine lv_goto (tgt := 30) hx hb dX5_image_56 (by decide) ?_
      exact ih _ _ _ _ _ _ hR hS (lv_sub hl [1, 2, 0] rfl) hf
set_option maxRecDepth 100000 in
set_option maxHeartbeats 4000000 in
theorem c_X5_image {τ σ τ' : Mem} {p1 : Int32} {r : Int32}  (hf : f_X5_image τ p1 = some (r, τ')) : lm_CI l yX5_image wsX5_image rmX5_image D cI cZ cL cR B [.ref (B + 140), .int p1] σ τ r σ τ' := by
  unfold f_X5_image at hf
  refine lm_of (cc := cX5_image) (maxL := 3) (ret := (some .int)) (own := RX5) (by decide) rfl (Nat.le_of_ble_eq_true rfl) (fun p e s m below meth c0 C0 hR ls hl => ?_)
  have hS : va_S (lm_A B) s.heap s.heap [] := va_S.rf
  have hl : lv_has ls 3 [(0, .ref (B + 140)), (1, .int p1)] := hl
  obtain ⟨hx, hb, hml, hr, hlk, hown, hts, hK, hX⟩ := id C0
  refine lv_aload_n hx hb dX5_image_0 rfl (lv_at hl 0 rfl) ?_
  refine lv_iconst (v := (0 : Int32)) hx hb dX5_image_1 (by decide) ?_
  obtain ⟨τ1, eτ1, hf⟩ := lm_nm_e hf
  refine lm_putM C0 hR hS (by decide) cell_140 rfl lw_in_X5 tyX5 tyX5_ok nmX5 0 (by decide) uw_508 rfl rfl rfl rfl rfl (Nat.le_of_ble_eq_true rfl) eτ1 cell_140u dX5_image_2 (fun H locs hR hS => ?_)
  refine lv_iload_n hx hb dX5_image_5 rfl (lv_at hl 1 rfl) ?_
  refine lv_i2l hx hb dX5_image_6 rfl ?_
  refine lv_lconst (v := (0 : Int64)) hx hb dX5_image_7 (by decide) ?_
  refine lv_lconst (v := (1 : Int64)) hx hb dX5_image_8 (by decide) ?_
  obtain ⟨r3, u2, hf⟩ := lm_bd_e hf
  refine lm_endi (lm_runS C0 hR hS (c_X5_in u2) (lw_cS 3 hts uw_544 mv_X5_in rfl rfl hd_X5_in ⟨Nat.le_of_ble_eq_true rfl, Nat.le_of_ble_eq_true rfl⟩) rfl hl rfl (Nat.le_of_ble_eq_true rfl) dX5_image_9) hS (fun H locs hR hS => ?_)
  refine lv_if_ne (tgt := 18) hx hb dX5_image_12 (by decide) (fun b5 => ?_) (fun b5 => ?_)
  · have hf := lm_F b5 hf
    refine lv_aload_n hx hb dX5_image_18 rfl (lv_at hl 0 rfl) ?_
    obtain ⟨r7, u6, hf⟩ := lm_bd_e hf
    refine lm_endi (lm_runV C0 hR hS (c_X5_isThere u6) (lw_cV 0 hts uw_625 mv_X5_isThere rfl rfl hd_X5_isThere ⟨Nat.le_of_ble_eq_true rfl, Nat.le_of_ble_eq_true rfl⟩) (by decide) cell_140 rfl rfl hl rfl (Nat.le_of_ble_eq_true rfl) dX5_image_19) hS (fun H locs hR hS => ?_)
    refine lv_if_ne (tgt := 28) hx hb dX5_image_22 (by decide) (fun b9 => ?_) (fun b9 => ?_)
    · have hf := lm_F b9 hf
      refine lv_iconst (v := (0 : Int32)) hx hb dX5_image_28 (by decide) ?_
      refine lv_istore_n (lv' := [(2, .int (0 : Int32)), (0, .ref (B + 140)), (1, .int p1)]) hx hb dX5_image_29 rfl hl (by decide) rfl (fun ls hl => ?_)
      exact w_X5_image_30 C0 _ _ _ _ _ _ _ hR hS (lv_sub hl [1, 2, 0] rfl) hf
    · have hf := lm_T b9 hf
      refine lv_ldc hx hb hown (hts _ uw_628) dX5_image_25 ?_
      exact lm_riM C0 hR hS hf dX5_image_27
  · have hf := lm_T b5 hf
    refine lv_ldc hx hb hown (hts _ uw_548) dX5_image_15 ?_
    exact lm_riM C0 hR hS hf dX5_image_17
end
/-! ===== X5_restore ===== -/
abbrev rmX5_restore : Room := { frames := 1, cells := 0, slots := 0, locals := 25 }
def f_X5_restore_32 : Nat → Int32 → Int32 → Mem → Option (Int32 × Mem)
  | 0, _, _, _ => none
  | n + 1, x1, x2, τ => if (24 : Int32) ≤ x2 then (lm_nm (up τ 140 9 (0 : Int32)) fun τ9 => some ((1 : Int32), τ9)) else (lm_ck (lm_in (((24 : Int32) * x1) + x2) 48) (lm_ck (lm_in x2 24) (lm_nm (up τ 144 x2.toNatClampNeg (τ 151 (((24 : Int32) * x1) + x2).toNatClampNeg)) fun τ12 => lm_nm (x2 + (1 : Int32)) fun v13 => f_X5_restore_32 n x1 v13 τ12)))
def f_X5_restore (τ : Mem) (p1 : Int32) : Option (Int32 × Mem) := lm_nm (up τ 140 0 (0 : Int32)) fun τ1 => lm_bd (f_X5_in p1.toInt64 (0 : Int64) (1 : Int64)) fun r3 => if r3 = 0 then (some ((-1000001 : Int32), τ1)) else (lm_ck (lm_in p1 2) (if (τ1 150 p1.toNatClampNeg) = 0 then (some ((-1000002 : Int32), τ1)) else (f_X5_restore_32 lm_fu p1 (0 : Int32) τ1)))
abbrev wsX5_restore : List Cond := Cond.code yX5_restore cX5_restore 3 (some .int) :: lw_u
theorem mv_X5_restore : Cond.instanceMethod yX5_restore ∈ lw_u ∧ Cond.selects yX5_restore.cls yX5_restore yX5_restore ∈ lw_u ∧ Cond.initialized yX5_restore.cls ∈ lw_u ∧ Cond.code yX5_restore cX5_restore 3 (some .int) ∈ lw_u := ⟨uw_800, uw_801, uw_6, uw_802⟩
theorem hd_X5_restore : yX5_restore.cls ≠ "java/lang/invoke/MethodHandle" ∧ yX5_restore.cls ≠ "java/lang/invoke/VarHandle" ∧ (parseMethodDescriptor yX5_restore.desc).map (fun d => d.parameters.length) = some 1 := by decide +kernel
section
variable {l : Launch} {D : va_G} {cI cZ cL cR : ClassId} {B : Nat}
set_option maxRecDepth 100000 in
set_option maxHeartbeats 4000000 in
theorem w_X5_restore_32 {p : Program} {e : Env} {s : State} {m : MethodId} {args : Array Value} {below : List Frame} {meth : Method} {c0 : Code} {σ τ' : Mem} {r : Int32} (C0 : lm_Cx D cI cZ cL cR B p s m args meth c0 cX5_restore 3 (some .int) RX5) : ∀ (n : Nat), ∀ (x1 : Int32) (x2 : Int32) (τ : Mem) (H : Heap) (locs : List Loc) (ls : Array Slot), va_P D vwCl (wl cI cZ cL cR B σ τ) H → va_S (lm_A B) s.heap H locs → lv_has ls 3 [(0, .ref (B + 140)), (1, .int x1), (2, .int x2)] → f_X5_restore_32 n x1 x2 τ = some (r, τ') → W p l e rmX5_restore s m args below meth c0 H locs 0 0 (MQ below (lm_QI D cI cZ cL cR B r σ τ') args s 0 0 (lm_A B)) (F0 m 32 ls []) := by
  obtain ⟨hx, hb, hml, hr, hlk, hown, hts, hK, hX⟩ := id C0
  intro n
  induction n with
  | zero =>
    intro x1 x2 τ H locs ls hR hS hl hf
    cases hf
  | succ n ih =>
    intro x1 x2 τ H locs ls hR hS hl hf
    rw [f_X5_restore_32] at hf
    refine lv_iload_n hx hb dX5_restore_32 rfl (lv_at hl 2 rfl) ?_
    refine lv_bipush (v := (24 : Int32)) hx hb dX5_restore_33 (by decide) ?_
    refine lv_icmp_ge (tgt := 61) hx hb dX5_restore_35 (by decide) (fun b8 => ?_) (fun b8 => ?_)
    · have hf := lm_T b8 hf
      refine lv_aload_n hx hb dX5_restore_61 rfl (lv_at hl 0 rfl) ?_
      refine lv_iconst (v := (0 : Int32)) hx hb dX5_restore_62 (by decide) ?_
      obtain ⟨τ9, eτ9, hf⟩ := lm_nm_e hf
      refine lm_putM C0 hR hS (by decide) cell_140 rfl lw_in_X5 tyX5 tyX5_ok nmX5 9 (by decide) uw_517 rfl rfl rfl rfl rfl (Nat.le_of_ble_eq_true rfl) eτ9 cell_140u dX5_restore_63 (fun H locs hR hS => ?_)
      refine lv_iconst (v := (1 : Int32)) hx hb dX5_restore_66 (by decide) ?_
      exact lm_riM C0 hR hS hf dX5_restore_67
    · have hf := lm_F b8 hf
      refine lv_aload_n hx hb dX5_restore_38 rfl (lv_at hl 0 rfl) ?_
      refine lm_get C0 hR (by decide) cell_140 rfl lw_in_X5 5 (by decide) uw_513 rfl rfl dX5_restore_39 ?_
      refine lv_iload_n hx hb dX5_restore_42 rfl (lv_at hl 2 rfl) ?_
      refine lv_aload_n hx hb dX5_restore_43 rfl (lv_at hl 0 rfl) ?_
      refine lm_get C0 hR (by decide) cell_140 rfl lw_in_X5 24 (by decide) uw_532 rfl rfl dX5_restore_44 ?_
      refine lv_bipush (v := (24 : Int32)) hx hb dX5_restore_47 (by decide) ?_
      refine lv_iload_n hx hb dX5_restore_49 rfl (lv_at hl 1 rfl) ?_
      refine lv_imul hx hb dX5_restore_50 ?_
      refine lv_iload_n hx hb dX5_restore_51 rfl (lv_at hl 2 rfl) ?_
      refine lv_iadd hx hb dX5_restore_52 ?_
      obtain ⟨z10, hf⟩ := lm_ck_e hf
      refine lm_ild C0 hR (by decide) cell_151 z10 dX5_restore_53 ?_
      obtain ⟨z11, hf⟩ := lm_ck_e hf
      obtain ⟨τ12, eτ12, hf⟩ := lm_nm_e hf
      refine lm_istM C0 hR hS (by decide) cell_144 z11  eτ12 cell_144u dX5_restore_54 (fun H locs hR hS => ?_)
      obtain ⟨v13, ev13, hf⟩ := lm_nm_e hf
      refine lv_iinc (v := v13) (lv' := [(2, .int v13), (0, .ref (B + 140)), (1, .int x1)]) hx hb dX5_restore_55 hl (k := 2) rfl (by rw [ev13]; rfl) (by decide) rfl (fun ls hl => ?_)
      refine lv_goto (tgt := 32) hx hb dX5_restore_58 (by decide) ?_
      exact ih _ _ _ _ _ _ hR hS (lv_sub hl [1, 2, 0] rfl) hf
set_option maxRecDepth 100000 in
set_option maxHeartbeats 4000000 in
theorem c_X5_restore {τ σ τ' : Mem} {p1 : Int32} {r : Int32}  (hf : f_X5_restore τ p1 = some (r, τ')) : lm_CI l yX5_restore wsX5_restore rmX5_restore D cI cZ cL cR B [.ref (B + 140), .int p1] σ τ r σ τ' := by
  unfold f_X5_restore at hf
  refine lm_of (cc := cX5_restore) (maxL := 3) (ret := (some .int)) (own := RX5) (by decide) rfl (Nat.le_of_ble_eq_true rfl) (fun p e s m below meth c0 C0 hR ls hl => ?_)
  have hS : va_S (lm_A B) s.heap s.heap [] := va_S.rf
  have hl : lv_has ls 3 [(0, .ref (B + 140)), (1, .int p1)] := hl
  obtain ⟨hx, hb, hml, hr, hlk, hown, hts, hK, hX⟩ := id C0
  refine lv_aload_n hx hb dX5_restore_0 rfl (lv_at hl 0 rfl) ?_
  refine lv_iconst (v := (0 : Int32)) hx hb dX5_restore_1 (by decide) ?_
  obtain ⟨τ1, eτ1, hf⟩ := lm_nm_e hf
  refine lm_putM C0 hR hS (by decide) cell_140 rfl lw_in_X5 tyX5 tyX5_ok nmX5 0 (by decide) uw_508 rfl rfl rfl rfl rfl (Nat.le_of_ble_eq_true rfl) eτ1 cell_140u dX5_restore_2 (fun H locs hR hS => ?_)
  refine lv_iload_n hx hb dX5_restore_5 rfl (lv_at hl 1 rfl) ?_
  refine lv_i2l hx hb dX5_restore_6 rfl ?_
  refine lv_lconst (v := (0 : Int64)) hx hb dX5_restore_7 (by decide) ?_
  refine lv_lconst (v := (1 : Int64)) hx hb dX5_restore_8 (by decide) ?_
  obtain ⟨r3, u2, hf⟩ := lm_bd_e hf
  refine lm_endi (lm_runS C0 hR hS (c_X5_in u2) (lw_cS 3 hts uw_544 mv_X5_in rfl rfl hd_X5_in ⟨Nat.le_of_ble_eq_true rfl, Nat.le_of_ble_eq_true rfl⟩) rfl hl rfl (Nat.le_of_ble_eq_true rfl) dX5_restore_9) hS (fun H locs hR hS => ?_)
  refine lv_if_ne (tgt := 18) hx hb dX5_restore_12 (by decide) (fun b5 => ?_) (fun b5 => ?_)
  · have hf := lm_F b5 hf
    refine lv_aload_n hx hb dX5_restore_18 rfl (lv_at hl 0 rfl) ?_
    refine lm_get C0 hR (by decide) cell_140 rfl lw_in_X5 23 (by decide) uw_531 rfl rfl dX5_restore_19 ?_
    refine lv_iload_n hx hb dX5_restore_22 rfl (lv_at hl 1 rfl) ?_
    obtain ⟨z6, hf⟩ := lm_ck_e hf
    refine lm_zld C0 hR (by decide) cell_150 z6 dX5_restore_23 ?_
    refine lv_if_ne (tgt := 30) hx hb dX5_restore_24 (by decide) (fun b7 => ?_) (fun b7 => ?_)
    · have hf := lm_F b7 hf
      refine lv_iconst (v := (0 : Int32)) hx hb dX5_restore_30 (by decide) ?_
      refine lv_istore_n (lv' := [(2, .int (0 : Int32)), (0, .ref (B + 140)), (1, .int p1)]) hx hb dX5_restore_31 rfl hl (by decide) rfl (fun ls hl => ?_)
      exact w_X5_restore_32 C0 _ _ _ _ _ _ _ hR hS (lv_sub hl [1, 2, 0] rfl) hf
    · have hf := lm_T b7 hf
      refine lv_ldc hx hb hown (hts _ uw_628) dX5_restore_27 ?_
      exact lm_riM C0 hR hS hf dX5_restore_29
  · have hf := lm_T b5 hf
    refine lv_ldc hx hb hown (hts _ uw_548) dX5_restore_15 ?_
    exact lm_riM C0 hR hS hf dX5_restore_17
end
/-! ===== X5_isOf ===== -/
abbrev rmX5_isOf : Room := { frames := 0, cells := 0, slots := 0, locals := 0 }
def f_X5_isOf_19 (x0 : Int32) (x1 : Int32) : Option (Int32) := if x1 = (4 : Int32) then (if x0 = (5 : Int32) then (some (1 : Int32)) else (some (0 : Int32))) else (some (0 : Int32))
def f_X5_isOf (p0 : Int32) (p1 : Int32) : Option (Int32) := if p1 = 0 then (some (1 : Int32)) else (if p0 = p1 then (some (1 : Int32)) else (if p1 = (1 : Int32) then (if p0 < (4 : Int32) then (some (1 : Int32)) else (f_X5_isOf_19 p0 p1)) else (f_X5_isOf_19 p0 p1)))
abbrev wsX5_isOf : List Cond := Cond.code yX5_isOf cX5_isOf 2 (some .boolean) :: lw_u
theorem mv_X5_isOf : Cond.static yX5_isOf ∈ lw_u ∧ Cond.initialized yX5_isOf.cls ∈ lw_u ∧ Cond.code yX5_isOf cX5_isOf 2 (some .boolean) ∈ lw_u := ⟨uw_813, uw_6, uw_814⟩
theorem hd_X5_isOf : yX5_isOf.cls ≠ "java/lang/invoke/MethodHandle" ∧ yX5_isOf.cls ≠ "java/lang/invoke/VarHandle" ∧ (parseMethodDescriptor yX5_isOf.desc).map (fun d => d.parameters.length) = some 2 := by decide +kernel
section
variable {l : Launch} {D : va_G} {cI cZ cL cR : ClassId} {B : Nat}
set_option maxRecDepth 100000 in
set_option maxHeartbeats 4000000 in
theorem w_X5_isOf_19 {p : Program} {e : Env} {s : State} {m : MethodId} {args : Array Value} {below : List Frame} {meth : Method} {c0 : Code} {σ τ : Mem} {r : Int32} (C0 : lm_Cx D cI cZ cL cR B p s m args meth c0 cX5_isOf 2 (some .boolean) RX5) : ∀ (x0 : Int32) (x1 : Int32) (H : Heap) (locs : List Loc) (ls : Array Slot), va_P D vwCl (wl cI cZ cL cR B σ τ) H → va_S (lm_A B) s.heap H locs → lv_has ls 2 [(0, .int x0), (1, .int x1)] → f_X5_isOf_19 x0 x1 = some r → W p l e rmX5_isOf s m args below meth c0 H locs 0 0 (MQ below (lm_QI D cI cZ cL cR B r σ τ) args s 0 0 (lm_A B)) (F0 m 19 ls []) := by
  obtain ⟨hx, hb, hml, hr, hlk, hown, hts, hK, hX⟩ := id C0
  intro x0 x1 H locs ls hR hS hl hf
  unfold f_X5_isOf_19 at hf
  refine lv_iload_n hx hb dX5_isOf_19 rfl (lv_at hl 1 rfl) ?_
  refine lv_iconst (v := (4 : Int32)) hx hb dX5_isOf_20 (by decide) ?_
  refine lv_icmp_ne (tgt := 33) hx hb dX5_isOf_21 (by decide) (fun b5 => ?_) (fun b5 => ?_)
  · have hf := lm_F b5 hf
    refine lv_iconst (v := (0 : Int32)) hx hb dX5_isOf_33 (by decide) ?_
    exact lm_rzP C0 hR hS hf rfl dX5_isOf_34
  · have hf := lm_T b5 hf
    refine lv_iload_n hx hb dX5_isOf_24 rfl (lv_at hl 0 rfl) ?_
    refine lv_iconst (v := (5 : Int32)) hx hb dX5_isOf_25 (by decide) ?_
    refine lv_icmp_ne (tgt := 33) hx hb dX5_isOf_26 (by decide) (fun b6 => ?_) (fun b6 => ?_)
    · have hf := lm_F b6 hf
      refine lv_iconst (v := (0 : Int32)) hx hb dX5_isOf_33 (by decide) ?_
      exact lm_rzP C0 hR hS hf rfl dX5_isOf_34
    · have hf := lm_T b6 hf
      refine lv_iconst (v := (1 : Int32)) hx hb dX5_isOf_29 (by decide) ?_
      refine lv_goto (tgt := 34) hx hb dX5_isOf_30 (by decide) ?_
      exact lm_rzP C0 hR hS hf rfl dX5_isOf_34
set_option maxRecDepth 100000 in
set_option maxHeartbeats 4000000 in
theorem c_X5_isOf {τ σ : Mem} {p0 : Int32} {p1 : Int32} {r : Int32}  (hf : f_X5_isOf p0 p1 = some r) : lm_CI l yX5_isOf wsX5_isOf rmX5_isOf D cI cZ cL cR B [.int p0, .int p1] σ τ r σ τ := by
  unfold f_X5_isOf at hf
  refine lm_of (cc := cX5_isOf) (maxL := 2) (ret := (some .boolean)) (own := RX5) (by decide) rfl (Nat.le_of_ble_eq_true rfl) (fun p e s m below meth c0 C0 hR ls hl => ?_)
  have hS : va_S (lm_A B) s.heap s.heap [] := va_S.rf
  have hl : lv_has ls 2 [(0, .int p0), (1, .int p1)] := hl
  obtain ⟨hx, hb, hml, hr, hlk, hown, hts, hK, hX⟩ := id C0
  refine lv_iload_n hx hb dX5_isOf_0 rfl (lv_at hl 1 rfl) ?_
  refine lv_if_eq (tgt := 29) hx hb dX5_isOf_1 (by decide) (fun b1 => ?_) (fun b1 => ?_)
  · have hf := lm_T b1 hf
    refine lv_iconst (v := (1 : Int32)) hx hb dX5_isOf_29 (by decide) ?_
    refine lv_goto (tgt := 34) hx hb dX5_isOf_30 (by decide) ?_
    exact lm_rzP C0 hR hS hf rfl dX5_isOf_34
  · have hf := lm_F b1 hf
    refine lv_iload_n hx hb dX5_isOf_4 rfl (lv_at hl 0 rfl) ?_
    refine lv_iload_n hx hb dX5_isOf_5 rfl (lv_at hl 1 rfl) ?_
    refine lv_icmp_eq (tgt := 29) hx hb dX5_isOf_6 (by decide) (fun b2 => ?_) (fun b2 => ?_)
    · have hf := lm_T b2 hf
      refine lv_iconst (v := (1 : Int32)) hx hb dX5_isOf_29 (by decide) ?_
      refine lv_goto (tgt := 34) hx hb dX5_isOf_30 (by decide) ?_
      exact lm_rzP C0 hR hS hf rfl dX5_isOf_34
    · have hf := lm_F b2 hf
      refine lv_iload_n hx hb dX5_isOf_9 rfl (lv_at hl 1 rfl) ?_
      refine lv_iconst (v := (1 : Int32)) hx hb dX5_isOf_10 (by decide) ?_
      refine lv_icmp_ne (tgt := 19) hx hb dX5_isOf_11 (by decide) (fun b3 => ?_) (fun b3 => ?_)
      · have hf := lm_F b3 hf
        exact w_X5_isOf_19 C0 _ _ _ _ _ hR hS (lv_sub hl [0, 1] rfl) hf
      · have hf := lm_T b3 hf
        refine lv_iload_n hx hb dX5_isOf_14 rfl (lv_at hl 0 rfl) ?_
        refine lv_iconst (v := (4 : Int32)) hx hb dX5_isOf_15 (by decide) ?_
        refine lv_icmp_lt (tgt := 29) hx hb dX5_isOf_16 (by decide) (fun b4 => ?_) (fun b4 => ?_)
        · have hf := lm_T b4 hf
          refine lv_iconst (v := (1 : Int32)) hx hb dX5_isOf_29 (by decide) ?_
          refine lv_goto (tgt := 34) hx hb dX5_isOf_30 (by decide) ?_
          exact lm_rzP C0 hR hS hf rfl dX5_isOf_34
        · have hf := lm_F b4 hf
          exact w_X5_isOf_19 C0 _ _ _ _ _ hR hS (lv_sub hl [0, 1] rfl) hf
end
/-! ===== X5_kind ===== -/
abbrev rmX5_kind : Room := { frames := 2, cells := 0, slots := 0, locals := 46 }
def f_X5_kind (τ : Mem) (p1 : Int32) : Option (Int32 × Mem) := lm_nm (up τ 140 0 (0 : Int32)) fun τ1 => lm_bd (f_X5_isShip τ1 p1) fun r3 => if r3 = 0 then (some ((-1000001 : Int32), τ1)) else (lm_bd (f_X5_of 144 τ1 p1 (0 : Int32)) fun r7 => some (r7, τ1))
abbrev wsX5_kind : List Cond := Cond.code yX5_kind cX5_kind 2 (some .int) :: lw_u
theorem mv_X5_kind : Cond.instanceMethod yX5_kind ∈ lw_u ∧ Cond.selects yX5_kind.cls yX5_kind yX5_kind ∈ lw_u ∧ Cond.initialized yX5_kind.cls ∈ lw_u ∧ Cond.code yX5_kind cX5_kind 2 (some .int) ∈ lw_u := ⟨uw_804, uw_805, uw_6, uw_806⟩
theorem hd_X5_kind : yX5_kind.cls ≠ "java/lang/invoke/MethodHandle" ∧ yX5_kind.cls ≠ "java/lang/invoke/VarHandle" ∧ (parseMethodDescriptor yX5_kind.desc).map (fun d => d.parameters.length) = some 1 := by decide +kernel
section
variable {l : Launch} {D : va_G} {cI cZ cL cR : ClassId} {B : Nat}
set_option maxRecDepth 100000 in
set_option maxHeartbeats 4000000 in
theorem c_X5_kind {τ σ τ' : Mem} {p1 : Int32} {r : Int32}  (hf : f_X5_kind τ p1 = some (r, τ')) : lm_CI l yX5_kind wsX5_kind rmX5_kind D cI cZ cL cR B [.ref (B + 140), .int p1] σ τ r σ τ' := by
  unfold f_X5_kind at hf
  refine lm_of (cc := cX5_kind) (maxL := 2) (ret := (some .int)) (own := RX5) (by decide) rfl (Nat.le_of_ble_eq_true rfl) (fun p e s m below meth c0 C0 hR ls hl => ?_)
  have hS : va_S (lm_A B) s.heap s.heap [] := va_S.rf
  have hl : lv_has ls 2 [(0, .ref (B + 140)), (1, .int p1)] := hl
  obtain ⟨hx, hb, hml, hr, hlk, hown, hts, hK, hX⟩ := id C0
  refine lv_aload_n hx hb dX5_kind_0 rfl (lv_at hl 0 rfl) ?_
  refine lv_iconst (v := (0 : Int32)) hx hb dX5_kind_1 (by decide) ?_
  obtain ⟨τ1, eτ1, hf⟩ := lm_nm_e hf
  refine lm_putM C0 hR hS (by decide) cell_140 rfl lw_in_X5 tyX5 tyX5_ok nmX5 0 (by decide) uw_508 rfl rfl rfl rfl rfl (Nat.le_of_ble_eq_true rfl) eτ1 cell_140u dX5_kind_2 (fun H locs hR hS => ?_)
  refine lv_aload_n hx hb dX5_kind_5 rfl (lv_at hl 0 rfl) ?_
  refine lv_iload_n hx hb dX5_kind_6 rfl (lv_at hl 1 rfl) ?_
  obtain ⟨r3, u2, hf⟩ := lm_bd_e hf
  refine lm_endi (lm_runV C0 hR hS (c_X5_isShip u2) (lw_cV 1 hts uw_682 mv_X5_isShip rfl rfl hd_X5_isShip ⟨Nat.le_of_ble_eq_true rfl, Nat.le_of_ble_eq_true rfl⟩) (by decide) cell_140 rfl rfl hl rfl (Nat.le_of_ble_eq_true rfl) dX5_kind_7) hS (fun H locs hR hS => ?_)
  refine lv_if_eq (tgt := 25) hx hb dX5_kind_10 (by decide) (fun b5 => ?_) (fun b5 => ?_)
  · have hf := lm_T b5 hf
    refine lv_ldc hx hb hown (hts _ uw_548) dX5_kind_25 ?_
    exact lm_riM C0 hR hS hf dX5_kind_27
  · have hf := lm_F b5 hf
    refine lv_aload_n hx hb dX5_kind_13 rfl (lv_at hl 0 rfl) ?_
    refine lm_get C0 hR (by decide) cell_140 rfl lw_in_X5 5 (by decide) uw_513 rfl rfl dX5_kind_14 ?_
    refine lv_iload_n hx hb dX5_kind_17 rfl (lv_at hl 1 rfl) ?_
    refine lv_iconst (v := (0 : Int32)) hx hb dX5_kind_18 (by decide) ?_
    obtain ⟨r7, u6, hf⟩ := lm_bd_e hf
    refine lm_endi (lm_runS C0 hR hS (c_X5_of isM_144 u6) (lw_cS 3 hts uw_639 mv_X5_of rfl rfl hd_X5_of ⟨Nat.le_of_ble_eq_true rfl, Nat.le_of_ble_eq_true rfl⟩) rfl hl rfl (Nat.le_of_ble_eq_true rfl) dX5_kind_19) hS (fun H locs hR hS => ?_)
    refine lv_goto (tgt := 27) hx hb dX5_kind_22 (by decide) ?_
    exact lm_riM C0 hR hS hf dX5_kind_27
end
/-! ===== X5_as ===== -/
abbrev rmX5_as : Room := { frames := 2, cells := 0, slots := 0, locals := 46 }
def f_X5_as (τ : Mem) (p1 : Int32) (p2 : Int32) : Option (Int32 × Mem) := lm_nm (up τ 140 0 (0 : Int32)) fun τ1 => lm_bd (f_X5_isShip τ1 p1) fun r3 => if r3 = 0 then (some ((-1000001 : Int32), τ1)) else (lm_bd (f_X5_in p2.toInt64 (0 : Int64) (5 : Int64)) fun r7 => if r7 = 0 then (some ((-1000001 : Int32), τ1)) else (lm_nm (up τ1 140 1 (0 : Int32)) fun τ10 => lm_bd (f_X5_of 144 τ10 p1 (0 : Int32)) fun r12 => lm_bd (f_X5_isOf r12 p2) fun r15 => if r15 = 0 then (lm_bd2 (f_X5_finding τ10 (3 : Int32)) fun r19 τ20 => some (r19, τ20)) else (some (p1, τ10))))
abbrev wsX5_as : List Cond := Cond.code yX5_as cX5_as 3 (some .int) :: lw_u
theorem mv_X5_as : Cond.instanceMethod yX5_as ∈ lw_u ∧ Cond.selects yX5_as.cls yX5_as yX5_as ∈ lw_u ∧ Cond.initialized yX5_as.cls ∈ lw_u ∧ Cond.code yX5_as cX5_as 3 (some .int) ∈ lw_u := ⟨uw_808, uw_809, uw_6, uw_810⟩
theorem hd_X5_as : yX5_as.cls ≠ "java/lang/invoke/MethodHandle" ∧ yX5_as.cls ≠ "java/lang/invoke/VarHandle" ∧ (parseMethodDescriptor yX5_as.desc).map (fun d => d.parameters.length) = some 2 := by decide +kernel
section
variable {l : Launch} {D : va_G} {cI cZ cL cR : ClassId} {B : Nat}
set_option maxRecDepth 100000 in
set_option maxHeartbeats 4000000 in
theorem c_X5_as {τ σ τ' : Mem} {p1 : Int32} {p2 : Int32} {r : Int32}  (hf : f_X5_as τ p1 p2 = some (r, τ')) : lm_CI l yX5_as wsX5_as rmX5_as D cI cZ cL cR B [.ref (B + 140), .int p1, .int p2] σ τ r σ τ' := by
  unfold f_X5_as at hf
  refine lm_of (cc := cX5_as) (maxL := 3) (ret := (some .int)) (own := RX5) (by decide) rfl (Nat.le_of_ble_eq_true rfl) (fun p e s m below meth c0 C0 hR ls hl => ?_)
  have hS : va_S (lm_A B) s.heap s.heap [] := va_S.rf
  have hl : lv_has ls 3 [(0, .ref (B + 140)), (1, .int p1), (2, .int p2)] := hl
  obtain ⟨hx, hb, hml, hr, hlk, hown, hts, hK, hX⟩ := id C0
  refine lv_aload_n hx hb dX5_as_0 rfl (lv_at hl 0 rfl) ?_
  refine lv_iconst (v := (0 : Int32)) hx hb dX5_as_1 (by decide) ?_
  obtain ⟨τ1, eτ1, hf⟩ := lm_nm_e hf
  refine lm_putM C0 hR hS (by decide) cell_140 rfl lw_in_X5 tyX5 tyX5_ok nmX5 0 (by decide) uw_508 rfl rfl rfl rfl rfl (Nat.le_of_ble_eq_true rfl) eτ1 cell_140u dX5_as_2 (fun H locs hR hS => ?_)
  refine lv_aload_n hx hb dX5_as_5 rfl (lv_at hl 0 rfl) ?_
  refine lv_iload_n hx hb dX5_as_6 rfl (lv_at hl 1 rfl) ?_
  obtain ⟨r3, u2, hf⟩ := lm_bd_e hf
  refine lm_endi (lm_runV C0 hR hS (c_X5_isShip u2) (lw_cV 1 hts uw_682 mv_X5_isShip rfl rfl hd_X5_isShip ⟨Nat.le_of_ble_eq_true rfl, Nat.le_of_ble_eq_true rfl⟩) (by decide) cell_140 rfl rfl hl rfl (Nat.le_of_ble_eq_true rfl) dX5_as_7) hS (fun H locs hR hS => ?_)
  refine lv_if_eq (tgt := 25) hx hb dX5_as_10 (by decide) (fun b5 => ?_) (fun b5 => ?_)
  · have hf := lm_T b5 hf
    refine lv_ldc hx hb hown (hts _ uw_548) dX5_as_25 ?_
    exact lm_riM C0 hR hS hf dX5_as_27
  · have hf := lm_F b5 hf
    refine lv_iload_n hx hb dX5_as_13 rfl (lv_at hl 2 rfl) ?_
    refine lv_i2l hx hb dX5_as_14 rfl ?_
    refine lv_lconst (v := (0 : Int64)) hx hb dX5_as_15 (by decide) ?_
    refine lv_ldc2 hx hb hown (hts _ uw_811) dX5_as_16 ?_
    obtain ⟨r7, u6, hf⟩ := lm_bd_e hf
    refine lm_endi (lm_runS C0 hR hS (c_X5_in u6) (lw_cS 3 hts uw_544 mv_X5_in rfl rfl hd_X5_in ⟨Nat.le_of_ble_eq_true rfl, Nat.le_of_ble_eq_true rfl⟩) rfl hl rfl (Nat.le_of_ble_eq_true rfl) dX5_as_19) hS (fun H locs hR hS => ?_)
    refine lv_if_ne (tgt := 28) hx hb dX5_as_22 (by decide) (fun b9 => ?_) (fun b9 => ?_)
    · have hf := lm_F b9 hf
      refine lv_aload_n hx hb dX5_as_28 rfl (lv_at hl 0 rfl) ?_
      refine lv_iconst (v := (0 : Int32)) hx hb dX5_as_29 (by decide) ?_
      obtain ⟨τ10, eτ10, hf⟩ := lm_nm_e hf
      refine lm_putM C0 hR hS (by decide) cell_140 rfl lw_in_X5 tyX5 tyX5_ok nmX5 1 (by decide) uw_509 rfl rfl rfl rfl rfl (Nat.le_of_ble_eq_true rfl) eτ10 cell_140u dX5_as_30 (fun H locs hR hS => ?_)
      refine lv_aload_n hx hb dX5_as_33 rfl (lv_at hl 0 rfl) ?_
      refine lm_get C0 hR (by decide) cell_140 rfl lw_in_X5 5 (by decide) uw_513 rfl rfl dX5_as_34 ?_
      refine lv_iload_n hx hb dX5_as_37 rfl (lv_at hl 1 rfl) ?_
      refine lv_iconst (v := (0 : Int32)) hx hb dX5_as_38 (by decide) ?_
      obtain ⟨r12, u11, hf⟩ := lm_bd_e hf
      refine lm_endi (lm_runS C0 hR hS (c_X5_of isM_144 u11) (lw_cS 3 hts uw_639 mv_X5_of rfl rfl hd_X5_of ⟨Nat.le_of_ble_eq_true rfl, Nat.le_of_ble_eq_true rfl⟩) rfl hl rfl (Nat.le_of_ble_eq_true rfl) dX5_as_39) hS (fun H locs hR hS => ?_)
      refine lv_iload_n hx hb dX5_as_42 rfl (lv_at hl 2 rfl) ?_
      obtain ⟨r15, u14, hf⟩ := lm_bd_e hf
      refine lm_endi (lm_runS C0 hR hS (c_X5_isOf u14) (lw_cS 2 hts uw_812 mv_X5_isOf rfl rfl hd_X5_isOf ⟨Nat.le_of_ble_eq_true rfl, Nat.le_of_ble_eq_true rfl⟩) rfl hl rfl (Nat.le_of_ble_eq_true rfl) dX5_as_43) hS (fun H locs hR hS => ?_)
      refine lv_if_eq (tgt := 53) hx hb dX5_as_46 (by decide) (fun b17 => ?_) (fun b17 => ?_)
      · have hf := lm_T b17 hf
        refine lv_aload_n hx hb dX5_as_53 rfl (lv_at hl 0 rfl) ?_
        refine lv_iconst (v := (3 : Int32)) hx hb dX5_as_54 (by decide) ?_
        obtain ⟨r19, τ20, u18, hf⟩ := lm_bd2_e hf
        refine lm_endi (lm_runV C0 hR hS (c_X5_finding u18) (lw_cV 1 hts uw_549 mv_X5_finding rfl rfl hd_X5_finding ⟨Nat.le_of_ble_eq_true rfl, Nat.le_of_ble_eq_true rfl⟩) (by decide) cell_140 rfl rfl hl rfl (Nat.le_of_ble_eq_true rfl) dX5_as_55) hS (fun H locs hR hS => ?_)
        exact lm_riM C0 hR hS hf dX5_as_58
      · have hf := lm_F b17 hf
        refine lv_iload_n hx hb dX5_as_49 rfl (lv_at hl 1 rfl) ?_
        refine lv_goto (tgt := 58) hx hb dX5_as_50 (by decide) ?_
        exact lm_riM C0 hR hS hf dX5_as_58
    · have hf := lm_T b9 hf
      refine lv_ldc hx hb hown (hts _ uw_548) dX5_as_25 ?_
      exact lm_riM C0 hR hS hf dX5_as_27
end
/-! ===== X5_began ===== -/
abbrev rmX5_began : Room := { frames := 0, cells := 0, slots := 0, locals := 0 }
def f_X5_began (τ : Mem) (p1 : Int32) : Option (Mem) := if (16 : Int32) ≤ (τ 140 26) then (some τ) else (lm_ck (lm_in (τ 140 26) 16) (lm_nm (up τ 152 (τ 140 26).toNatClampNeg p1) fun τ3 => lm_nm (up τ3 140 26 ((τ3 140 26) + (1 : Int32))) fun τ4 => some τ4))
abbrev wsX5_began : List Cond := Cond.code yX5_began cX5_began 2 none :: lw_u
theorem mv_X5_began : Cond.instanceMethod yX5_began ∈ lw_u ∧ Cond.selects yX5_began.cls yX5_began yX5_began ∈ lw_u ∧ Cond.initialized yX5_began.cls ∈ lw_u ∧ Cond.code yX5_began cX5_began 2 none ∈ lw_u := ⟨uw_826, uw_895, uw_6, uw_827⟩
theorem hd_X5_began : yX5_began.cls ≠ "java/lang/invoke/MethodHandle" ∧ yX5_began.cls ≠ "java/lang/invoke/VarHandle" ∧ (parseMethodDescriptor yX5_began.desc).map (fun d => d.parameters.length) = some 1 := by decide +kernel
section
variable {l : Launch} {D : va_G} {cI cZ cL cR : ClassId} {B : Nat}
set_option maxRecDepth 100000 in
set_option maxHeartbeats 4000000 in
theorem c_X5_began {τ σ τ' : Mem} {p1 : Int32}  (hf : f_X5_began τ p1 = some τ') : lm_CV l yX5_began wsX5_began rmX5_began D cI cZ cL cR B [.ref (B + 140), .int p1] σ τ σ τ' := by
  unfold f_X5_began at hf
  refine lm_of (cc := cX5_began) (maxL := 2) (ret := none) (own := RX5) (by decide) rfl (Nat.le_of_ble_eq_true rfl) (fun p e s m below meth c0 C0 hR ls hl => ?_)
  have hS : va_S (lm_A B) s.heap s.heap [] := va_S.rf
  have hl : lv_has ls 2 [(0, .ref (B + 140)), (1, .int p1)] := hl
  obtain ⟨hx, hb, hml, hr, hlk, hown, hts, hK, hX⟩ := id C0
  refine lv_aload_n hx hb dX5_began_0 rfl (lv_at hl 0 rfl) ?_
  refine lm_get C0 hR (by decide) cell_140 rfl lw_in_X5 26 (by decide) uw_534 rfl rfl dX5_began_1 ?_
  refine lv_bipush (v := (16 : Int32)) hx hb dX5_began_4 (by decide) ?_
  refine lv_icmp_ge (tgt := 29) hx hb dX5_began_6 (by decide) (fun b1 => ?_) (fun b1 => ?_)
  · have hf := lm_T b1 hf
    exact lm_rvM C0 hR hS hf dX5_began_29
  · have hf := lm_F b1 hf
    refine lv_aload_n hx hb dX5_began_9 rfl (lv_at hl 0 rfl) ?_
    refine lm_get C0 hR (by decide) cell_140 rfl lw_in_X5 25 (by decide) uw_533 rfl rfl dX5_began_10 ?_
    refine lv_aload_n hx hb dX5_began_13 rfl (lv_at hl 0 rfl) ?_
    refine lm_get C0 hR (by decide) cell_140 rfl lw_in_X5 26 (by decide) uw_534 rfl rfl dX5_began_14 ?_
    refine lv_iload_n hx hb dX5_began_17 rfl (lv_at hl 1 rfl) ?_
    obtain ⟨z2, hf⟩ := lm_ck_e hf
    obtain ⟨τ3, eτ3, hf⟩ := lm_nm_e hf
    refine lm_istM C0 hR hS (by decide) cell_152 z2  eτ3 cell_152u dX5_began_18 (fun H locs hR hS => ?_)
    refine lv_aload_n hx hb dX5_began_19 rfl (lv_at hl 0 rfl) ?_
    refine lv_dup hx hb dX5_began_20 rfl ?_
    refine lm_get C0 hR (by decide) cell_140 rfl lw_in_X5 26 (by decide) uw_534 rfl rfl dX5_began_21 ?_
    refine lv_iconst (v := (1 : Int32)) hx hb dX5_began_24 (by decide) ?_
    refine lv_iadd hx hb dX5_began_25 ?_
    obtain ⟨τ4, eτ4, hf⟩ := lm_nm_e hf
    refine lm_putM C0 hR hS (by decide) cell_140 rfl lw_in_X5 tyX5 tyX5_ok nmX5 26 (by decide) uw_534 rfl rfl rfl rfl rfl (Nat.le_of_ble_eq_true rfl) eτ4 cell_140u dX5_began_26 (fun H locs hR hS => ?_)
    exact lm_rvM C0 hR hS hf dX5_began_29
end
/-! ===== X5_plainSize ===== -/
abbrev rmX5_plainSize : Room := { frames := 1, cells := 0, slots := 0, locals := 22 }
def f_X5_plainSize (τ : Mem) (p1 : Int32) : Option (Int32 × Mem) := lm_bd (f_X5_began τ (10 : Int32)) fun τ3 => lm_bd (f_X5_of 144 τ3 p1 (1 : Int32)) fun r5 => some (r5, τ3)
abbrev wsX5_plainSize : List Cond := Cond.code yX5_plainSize cX5_plainSize 2 (some .int) :: lw_u
theorem mv_X5_plainSize : Cond.instanceMethod yX5_plainSize ∈ lw_u ∧ Cond.selects yX5_plainSize.cls yX5_plainSize yX5_plainSize ∈ lw_u ∧ Cond.initialized yX5_plainSize.cls ∈ lw_u ∧ Cond.code yX5_plainSize cX5_plainSize 2 (some .int) ∈ lw_u := ⟨uw_829, uw_896, uw_6, uw_830⟩
theorem hd_X5_plainSize : yX5_plainSize.cls ≠ "java/lang/invoke/MethodHandle" ∧ yX5_plainSize.cls ≠ "java/lang/invoke/VarHandle" ∧ (parseMethodDescriptor yX5_plainSize.desc).map (fun d => d.parameters.length) = some 1 := by decide +kernel
section
variable {l : Launch} {D : va_G} {cI cZ cL cR : ClassId} {B : Nat}
set_option maxRecDepth 100000 in
set_option maxHeartbeats 4000000 in
theorem c_X5_plainSize {τ σ τ' : Mem} {p1 : Int32} {r : Int32}  (hf : f_X5_plainSize τ p1 = some (r, τ')) : lm_CI l yX5_plainSize wsX5_plainSize rmX5_plainSize D cI cZ cL cR B [.ref (B + 140), .int p1] σ τ r σ τ' := by
  unfold f_X5_plainSize at hf
  refine lm_of (cc := cX5_plainSize) (maxL := 2) (ret := (some .int)) (own := RX5) (by decide) rfl (Nat.le_of_ble_eq_true rfl) (fun p e s m below meth c0 C0 hR ls hl => ?_)
  have hS : va_S (lm_A B) s.heap s.heap [] := va_S.rf
  have hl : lv_has ls 2 [(0, .ref (B + 140)), (1, .int p1)] := hl
  obtain ⟨hx, hb, hml, hr, hlk, hown, hts, hK, hX⟩ := id C0
  refine lv_aload_n hx hb dX5_plainSize_0 rfl (lv_at hl 0 rfl) ?_
  refine lv_bipush (v := (10 : Int32)) hx hb dX5_plainSize_1 (by decide) ?_
  obtain ⟨τ3, u1, hf⟩ := lm_bd_e hf
  refine lm_endv (lm_runV C0 hR hS (c_X5_began u1) (lw_cV 1 hts uw_825 mv_X5_began rfl rfl hd_X5_began ⟨Nat.le_of_ble_eq_true rfl, Nat.le_of_ble_eq_true rfl⟩) (by decide) cell_140 rfl rfl hl rfl (Nat.le_of_ble_eq_true rfl) dX5_plainSize_3) hS (fun H locs hR hS => ?_)
  refine lv_aload_n hx hb dX5_plainSize_6 rfl (lv_at hl 0 rfl) ?_
  refine lm_get C0 hR (by decide) cell_140 rfl lw_in_X5 5 (by decide) uw_513 rfl rfl dX5_plainSize_7 ?_
  refine lv_iload_n hx hb dX5_plainSize_10 rfl (lv_at hl 1 rfl) ?_
  refine lv_iconst (v := (1 : Int32)) hx hb dX5_plainSize_11 (by decide) ?_
  obtain ⟨r5, u4, hf⟩ := lm_bd_e hf
  refine lm_endi (lm_runS C0 hR hS (c_X5_of isM_144 u4) (lw_cS 3 hts uw_639 mv_X5_of rfl rfl hd_X5_of ⟨Nat.le_of_ble_eq_true rfl, Nat.le_of_ble_eq_true rfl⟩) rfl hl rfl (Nat.le_of_ble_eq_true rfl) dX5_plainSize_12) hS (fun H locs hR hS => ?_)
  exact lm_riM C0 hR hS hf dX5_plainSize_15
end
/-! ===== X5_gullSize ===== -/
abbrev rmX5_gullSize : Room := { frames := 2, cells := 0, slots := 0, locals := 43 }
def f_X5_gullSize_29 (x1 : Int32) (x2 : Int32) (τ : Mem) : Option (Int32 × Mem) := lm_bd (f_X5_began τ (13 : Int32)) fun τ15 => lm_bd2 (f_X5_plainSize τ15 x1) fun r17 τ18 => lm_nm (r17 - (100 : Int32)) fun v19 => if x2 = 0 then (some (v19, τ18)) else (some (((2 : Int32) * v19), τ18))
def f_X5_gullSize (τ : Mem) (p1 : Int32) : Option (Int32 × Mem) := lm_bd (f_X5_of 144 τ p1 (0 : Int32)) fun r2 => if r2 = (5 : Int32) then (if (1 : Int32) = 0 then (f_X5_gullSize_29 p1 (1 : Int32) τ) else (lm_bd (f_X5_began τ (14 : Int32)) fun τ12 => f_X5_gullSize_29 p1 (1 : Int32) τ12)) else (if (0 : Int32) = 0 then (f_X5_gullSize_29 p1 (0 : Int32) τ) else (lm_bd (f_X5_began τ (14 : Int32)) fun τ8 => f_X5_gullSize_29 p1 (0 : Int32) τ8))
abbrev wsX5_gullSize : List Cond := Cond.code yX5_gullSize cX5_gullSize 4 (some .int) :: lw_u
theorem mv_X5_gullSize : Cond.instanceMethod yX5_gullSize ∈ lw_u ∧ Cond.selects yX5_gullSize.cls yX5_gullSize yX5_gullSize ∈ lw_u ∧ Cond.initialized yX5_gullSize.cls ∈ lw_u ∧ Cond.code yX5_gullSize cX5_gullSize 4 (some .int) ∈ lw_u := ⟨uw_823, uw_894, uw_6, uw_824⟩
theorem hd_X5_gullSize : yX5_gullSize.cls ≠ "java/lang/invoke/MethodHandle" ∧ yX5_gullSize.cls ≠ "java/lang/invoke/VarHandle" ∧ (parseMethodDescriptor yX5_gullSize.desc).map (fun d => d.parameters.length) = some 1 := by decide +kernel
section
variable {l : Launch} {D : va_G} {cI cZ cL cR : ClassId} {B : Nat}
set_option maxRecDepth 100000 in
set_option maxHeartbeats 4000000 in
theorem w_X5_gullSize_29 {p : Program} {e : Env} {s : State} {m : MethodId} {args : Array Value} {below : List Frame} {meth : Method} {c0 : Code} {σ τ' : Mem} {r : Int32} (C0 : lm_Cx D cI cZ cL cR B p s m args meth c0 cX5_gullSize 4 (some .int) RX5) : ∀ (x1 : Int32) (x2 : Int32) (τ : Mem) (H : Heap) (locs : List Loc) (ls : Array Slot), va_P D vwCl (wl cI cZ cL cR B σ τ) H → va_S (lm_A B) s.heap H locs → lv_has ls 4 [(0, .ref (B + 140)), (1, .int x1), (2, .int x2)] → f_X5_gullSize_29 x1 x2 τ = some (r, τ') → W p l e rmX5_gullSize s m args below meth c0 H locs 0 0 (MQ below (lm_QI D cI cZ cL cR B r σ τ') args s 0 0 (lm_A B)) (F0 m 29 ls []) := by
  obtain ⟨hx, hb, hml, hr, hlk, hown, hts, hK, hX⟩ := id C0
  intro x1 x2 τ H locs ls hR hS hl hf
  unfold f_X5_gullSize_29 at hf
  refine lv_aload_n hx hb dX5_gullSize_29 rfl (lv_at hl 0 rfl) ?_
  refine lv_bipush (v := (13 : Int32)) hx hb dX5_gullSize_30 (by decide) ?_
  obtain ⟨τ15, u13, hf⟩ := lm_bd_e hf
  refine lm_endv (lm_runV C0 hR hS (c_X5_began u13) (lw_cV 1 hts uw_825 mv_X5_began rfl rfl hd_X5_began ⟨Nat.le_of_ble_eq_true rfl, Nat.le_of_ble_eq_true rfl⟩) (by decide) cell_140 rfl rfl hl rfl (Nat.le_of_ble_eq_true rfl) dX5_gullSize_32) hS (fun H locs hR hS => ?_)
  refine lv_aload_n hx hb dX5_gullSize_35 rfl (lv_at hl 0 rfl) ?_
  refine lv_iload_n hx hb dX5_gullSize_36 rfl (lv_at hl 1 rfl) ?_
  obtain ⟨r17, τ18, u16, hf⟩ := lm_bd2_e hf
  refine lm_endi (lm_runV C0 hR hS (c_X5_plainSize u16) (lw_cV 1 hts uw_828 mv_X5_plainSize rfl rfl hd_X5_plainSize ⟨Nat.le_of_ble_eq_true rfl, Nat.le_of_ble_eq_true rfl⟩) (by decide) cell_140 rfl rfl hl rfl (Nat.le_of_ble_eq_true rfl) dX5_gullSize_37) hS (fun H locs hR hS => ?_)
  refine lv_bipush (v := (100 : Int32)) hx hb dX5_gullSize_40 (by decide) ?_
  refine lv_isub hx hb dX5_gullSize_42 ?_
  obtain ⟨v19, ev19, hf⟩ := lm_nm_e hf
  refine lm_topi ev19 ?_
  refine lv_istore_n (lv' := [(3, .int v19), (0, .ref (B + 140)), (1, .int x1), (2, .int x2)]) hx hb dX5_gullSize_43 rfl hl (by decide) rfl (fun ls hl => ?_)
  refine lv_iload_n hx hb dX5_gullSize_44 rfl (lv_at hl 3 rfl) ?_
  refine lv_if_eq (tgt := 54) hx hb dX5_gullSize_45 (by decide) (fun b20 => ?_) (fun b20 => ?_)
  · have hf := lm_T b20 hf
    refine lv_iload_n hx hb dX5_gullSize_54 rfl (lv_at hl 0 rfl) ?_
    exact lm_riM C0 hR hS hf dX5_gullSize_55
  · have hf := lm_F b20 hf
    refine lv_iconst (v := (2 : Int32)) hx hb dX5_gullSize_48 (by decide) ?_
    refine lv_iload_n hx hb dX5_gullSize_49 rfl (lv_at hl 0 rfl) ?_
    refine lv_imul hx hb dX5_gullSize_50 ?_
    refine lv_goto (tgt := 55) hx hb dX5_gullSize_51 (by decide) ?_
    exact lm_riM C0 hR hS hf dX5_gullSize_55
set_option maxRecDepth 100000 in
set_option maxHeartbeats 4000000 in
theorem c_X5_gullSize {τ σ τ' : Mem} {p1 : Int32} {r : Int32}  (hf : f_X5_gullSize τ p1 = some (r, τ')) : lm_CI l yX5_gullSize wsX5_gullSize rmX5_gullSize D cI cZ cL cR B [.ref (B + 140), .int p1] σ τ r σ τ' := by
  unfold f_X5_gullSize at hf
  refine lm_of (cc := cX5_gullSize) (maxL := 4) (ret := (some .int)) (own := RX5) (by decide) rfl (Nat.le_of_ble_eq_true rfl) (fun p e s m below meth c0 C0 hR ls hl => ?_)
  have hS : va_S (lm_A B) s.heap s.heap [] := va_S.rf
  have hl : lv_has ls 4 [(0, .ref (B + 140)), (1, .int p1)] := hl
  obtain ⟨hx, hb, hml, hr, hlk, hown, hts, hK, hX⟩ := id C0
  refine lv_aload_n hx hb dX5_gullSize_0 rfl (lv_at hl 0 rfl) ?_
  refine lm_get C0 hR (by decide) cell_140 rfl lw_in_X5 5 (by decide) uw_513 rfl rfl dX5_gullSize_1 ?_
  refine lv_iload_n hx hb dX5_gullSize_4 rfl (lv_at hl 1 rfl) ?_
  refine lv_iconst (v := (0 : Int32)) hx hb dX5_gullSize_5 (by decide) ?_
  obtain ⟨r2, u1, hf⟩ := lm_bd_e hf
  refine lm_endi (lm_runS C0 hR hS (c_X5_of isM_144 u1) (lw_cS 3 hts uw_639 mv_X5_of rfl rfl hd_X5_of ⟨Nat.le_of_ble_eq_true rfl, Nat.le_of_ble_eq_true rfl⟩) rfl hl rfl (Nat.le_of_ble_eq_true rfl) dX5_gullSize_6) hS (fun H locs hR hS => ?_)
  refine lv_iconst (v := (5 : Int32)) hx hb dX5_gullSize_9 (by decide) ?_
  refine lv_icmp_ne (tgt := 17) hx hb dX5_gullSize_10 (by decide) (fun b4 => ?_) (fun b4 => ?_)
  · have hf := lm_F b4 hf
    refine lv_iconst (v := (0 : Int32)) hx hb dX5_gullSize_17 (by decide) ?_
    refine lv_istore_n (lv' := [(2, .int (0 : Int32)), (0, .ref (B + 140)), (1, .int p1)]) hx hb dX5_gullSize_18 rfl hl (by decide) rfl (fun ls hl => ?_)
    refine lv_iload_n hx hb dX5_gullSize_19 rfl (lv_at hl 0 rfl) ?_
    refine lv_if_eq (tgt := 29) hx hb dX5_gullSize_20 (by decide) (fun b5 => ?_) (fun b5 => ?_)
    · have hf := lm_T b5 hf
      exact w_X5_gullSize_29 C0 _ _ _ _ _ _ hR hS (lv_sub hl [1, 2, 0] rfl) hf
    · have hf := lm_F b5 hf
      refine lv_aload_n hx hb dX5_gullSize_23 rfl (lv_at hl 1 rfl) ?_
      refine lv_bipush (v := (14 : Int32)) hx hb dX5_gullSize_24 (by decide) ?_
      obtain ⟨τ8, u6, hf⟩ := lm_bd_e hf
      refine lm_endv (lm_runV C0 hR hS (c_X5_began u6) (lw_cV 1 hts uw_825 mv_X5_began rfl rfl hd_X5_began ⟨Nat.le_of_ble_eq_true rfl, Nat.le_of_ble_eq_true rfl⟩) (by decide) cell_140 rfl rfl hl rfl (Nat.le_of_ble_eq_true rfl) dX5_gullSize_26) hS (fun H locs hR hS => ?_)
      exact w_X5_gullSize_29 C0 _ _ _ _ _ _ hR hS (lv_sub hl [1, 2, 0] rfl) hf
  · have hf := lm_T b4 hf
    refine lv_iconst (v := (1 : Int32)) hx hb dX5_gullSize_13 (by decide) ?_
    refine lv_goto (tgt := 18) hx hb dX5_gullSize_14 (by decide) ?_
    refine lv_istore_n (lv' := [(2, .int (1 : Int32)), (0, .ref (B + 140)), (1, .int p1)]) hx hb dX5_gullSize_18 rfl hl (by decide) rfl (fun ls hl => ?_)
    refine lv_iload_n hx hb dX5_gullSize_19 rfl (lv_at hl 0 rfl) ?_
    refine lv_if_eq (tgt := 29) hx hb dX5_gullSize_20 (by decide) (fun b9 => ?_) (fun b9 => ?_)
    · have hf := lm_T b9 hf
      exact w_X5_gullSize_29 C0 _ _ _ _ _ _ hR hS (lv_sub hl [1, 2, 0] rfl) hf
    · have hf := lm_F b9 hf
      refine lv_aload_n hx hb dX5_gullSize_23 rfl (lv_at hl 1 rfl) ?_
      refine lv_bipush (v := (14 : Int32)) hx hb dX5_gullSize_24 (by decide) ?_
      obtain ⟨τ12, u10, hf⟩ := lm_bd_e hf
      refine lm_endv (lm_runV C0 hR hS (c_X5_began u10) (lw_cV 1 hts uw_825 mv_X5_began rfl rfl hd_X5_began ⟨Nat.le_of_ble_eq_true rfl, Nat.le_of_ble_eq_true rfl⟩) (by decide) cell_140 rfl rfl hl rfl (Nat.le_of_ble_eq_true rfl) dX5_gullSize_26) hS (fun H locs hR hS => ?_)
      exact w_X5_gullSize_29 C0 _ _ _ _ _ _ hR hS (lv_sub hl [1, 2, 0] rfl) hf
end
/-! ===== X5_markOf ===== -/
abbrev rmX5_markOf : Room := { frames := 3, cells := 0, slots := 0, locals := 66 }
def f_X5_markOf_56 (x1 : Int32) (x2 : Int32) (τ : Mem) : Option (Int32 × Mem) := lm_bd (f_X5_began τ (21 : Int32)) fun τ24 => lm_bd (f_X5_began τ24 (20 : Int32)) fun τ27 => lm_bd (f_X5_loggedOf 144 τ27 x1) fun r29 => lm_nm (x1 + r29) fun v31 => if x2 = (1 : Int32) then (some (v31, τ27)) else (if x2 = (3 : Int32) then (some ((v31 - (1000 : Int32)), τ27)) else (some (((2 : Int32) * v31), τ27)))
def f_X5_markOf (τ : Mem) (p1 : Int32) : Option (Int32 × Mem) := lm_bd (f_X5_of 144 τ p1 (0 : Int32)) fun r2 => if r2 < (4 : Int32) then (if r2 = (1 : Int32) then (f_X5_markOf_56 p1 r2 τ) else (if r2 = (3 : Int32) then (lm_bd (f_X5_began τ (22 : Int32)) fun τ12 => f_X5_markOf_56 p1 r2 τ12) else (lm_bd (f_X5_began τ (24 : Int32)) fun τ9 => f_X5_markOf_56 p1 r2 τ9))) else (lm_bd (f_X5_began τ (23 : Int32)) fun τ15 => lm_bd (f_X5_began τ15 (20 : Int32)) fun τ18 => lm_bd2 (f_X5_gullSize τ18 p1) fun r20 τ21 => some ((p1 - r20), τ21))
abbrev wsX5_markOf : List Cond := Cond.code yX5_markOf cX5_markOf 4 (some .int) :: lw_u
theorem mv_X5_markOf : Cond.instanceMethod yX5_markOf ∈ lw_u ∧ Cond.selects yX5_markOf.cls yX5_markOf yX5_markOf ∈ lw_u ∧ Cond.initialized yX5_markOf.cls ∈ lw_u ∧ Cond.code yX5_markOf cX5_markOf 4 (some .int) ∈ lw_u := ⟨uw_832, uw_897, uw_6, uw_833⟩
theorem hd_X5_markOf : yX5_markOf.cls ≠ "java/lang/invoke/MethodHandle" ∧ yX5_markOf.cls ≠ "java/lang/invoke/VarHandle" ∧ (parseMethodDescriptor yX5_markOf.desc).map (fun d => d.parameters.length) = some 1 := by decide +kernel
section
variable {l : Launch} {D : va_G} {cI cZ cL cR : ClassId} {B : Nat}
set_option maxRecDepth 100000 in
set_option maxHeartbeats 4000000 in
theorem w_X5_markOf_56 {p : Program} {e : Env} {s : State} {m : MethodId} {args : Array Value} {below : List Frame} {meth : Method} {c0 : Code} {σ τ' : Mem} {r : Int32} (C0 : lm_Cx D cI cZ cL cR B p s m args meth c0 cX5_markOf 4 (some .int) RX5) : ∀ (x1 : Int32) (x2 : Int32) (τ : Mem) (H : Heap) (locs : List Loc) (ls : Array Slot), va_P D vwCl (wl cI cZ cL cR B σ τ) H → va_S (lm_A B) s.heap H locs → lv_has ls 4 [(0, .ref (B + 140)), (1, .int x1), (2, .int x2)] → f_X5_markOf_56 x1 x2 τ = some (r, τ') → W p l e rmX5_markOf s m args below meth c0 H locs 0 0 (MQ below (lm_QI D cI cZ cL cR B r σ τ') args s 0 0 (lm_A B)) (F0 m 56 ls []) := by
  obtain ⟨hx, hb, hml, hr, hlk, hown, hts, hK, hX⟩ := id C0
  intro x1 x2 τ H locs ls hR hS hl hf
  unfold f_X5_markOf_56 at hf
  refine lv_aload_n hx hb dX5_markOf_56 rfl (lv_at hl 0 rfl) ?_
  refine lv_bipush (v := (21 : Int32)) hx hb dX5_markOf_57 (by decide) ?_
  obtain ⟨τ24, u22, hf⟩ := lm_bd_e hf
  refine lm_endv (lm_runV C0 hR hS (c_X5_began u22) (lw_cV 1 hts uw_825 mv_X5_began rfl rfl hd_X5_began ⟨Nat.le_of_ble_eq_true rfl, Nat.le_of_ble_eq_true rfl⟩) (by decide) cell_140 rfl rfl hl rfl (Nat.le_of_ble_eq_true rfl) dX5_markOf_59) hS (fun H locs hR hS => ?_)
  refine lv_aload_n hx hb dX5_markOf_62 rfl (lv_at hl 0 rfl) ?_
  refine lv_bipush (v := (20 : Int32)) hx hb dX5_markOf_63 (by decide) ?_
  obtain ⟨τ27, u25, hf⟩ := lm_bd_e hf
  refine lm_endv (lm_runV C0 hR hS (c_X5_began u25) (lw_cV 1 hts uw_825 mv_X5_began rfl rfl hd_X5_began ⟨Nat.le_of_ble_eq_true rfl, Nat.le_of_ble_eq_true rfl⟩) (by decide) cell_140 rfl rfl hl rfl (Nat.le_of_ble_eq_true rfl) dX5_markOf_65) hS (fun H locs hR hS => ?_)
  refine lv_iload_n hx hb dX5_markOf_68 rfl (lv_at hl 1 rfl) ?_
  refine lv_aload_n hx hb dX5_markOf_69 rfl (lv_at hl 0 rfl) ?_
  refine lm_get C0 hR (by decide) cell_140 rfl lw_in_X5 5 (by decide) uw_513 rfl rfl dX5_markOf_70 ?_
  refine lv_iload_n hx hb dX5_markOf_73 rfl (lv_at hl 1 rfl) ?_
  obtain ⟨r29, u28, hf⟩ := lm_bd_e hf
  refine lm_endi (lm_runS C0 hR hS (c_X5_loggedOf isM_144 u28) (lw_cS 2 hts uw_651 mv_X5_loggedOf rfl rfl hd_X5_loggedOf ⟨Nat.le_of_ble_eq_true rfl, Nat.le_of_ble_eq_true rfl⟩) rfl hl rfl (Nat.le_of_ble_eq_true rfl) dX5_markOf_74) hS (fun H locs hR hS => ?_)
  refine lv_iadd hx hb dX5_markOf_77 ?_
  obtain ⟨v31, ev31, hf⟩ := lm_nm_e hf
  refine lm_topi ev31 ?_
  refine lv_istore_n (lv' := [(3, .int v31), (0, .ref (B + 140)), (1, .int x1), (2, .int x2)]) hx hb dX5_markOf_78 rfl hl (by decide) rfl (fun ls hl => ?_)
  refine lv_iload_n hx hb dX5_markOf_79 rfl (lv_at hl 3 rfl) ?_
  refine lv_iconst (v := (1 : Int32)) hx hb dX5_markOf_80 (by decide) ?_
  refine lv_icmp_ne (tgt := 88) hx hb dX5_markOf_81 (by decide) (fun b32 => ?_) (fun b32 => ?_)
  · have hf := lm_F b32 hf
    refine lv_iload_n hx hb dX5_markOf_88 rfl (lv_at hl 3 rfl) ?_
    refine lv_iconst (v := (3 : Int32)) hx hb dX5_markOf_89 (by decide) ?_
    refine lv_icmp_ne (tgt := 101) hx hb dX5_markOf_90 (by decide) (fun b33 => ?_) (fun b33 => ?_)
    · have hf := lm_F b33 hf
      refine lv_iconst (v := (2 : Int32)) hx hb dX5_markOf_101 (by decide) ?_
      refine lv_iload_n hx hb dX5_markOf_102 rfl (lv_at hl 0 rfl) ?_
      refine lv_imul hx hb dX5_markOf_103 ?_
      exact lm_riM C0 hR hS hf dX5_markOf_104
    · have hf := lm_T b33 hf
      refine lv_iload_n hx hb dX5_markOf_93 rfl (lv_at hl 0 rfl) ?_
      refine lv_sipush (v := (1000 : Int32)) hx hb dX5_markOf_94 (by decide) ?_
      refine lv_isub hx hb dX5_markOf_97 ?_
      refine lv_goto (tgt := 104) hx hb dX5_markOf_98 (by decide) ?_
      exact lm_riM C0 hR hS hf dX5_markOf_104
  · have hf := lm_T b32 hf
    refine lv_iload_n hx hb dX5_markOf_84 rfl (lv_at hl 0 rfl) ?_
    refine lv_goto (tgt := 104) hx hb dX5_markOf_85 (by decide) ?_
    exact lm_riM C0 hR hS hf dX5_markOf_104
set_option maxRecDepth 100000 in
set_option maxHeartbeats 4000000 in
theorem c_X5_markOf {τ σ τ' : Mem} {p1 : Int32} {r : Int32}  (hf : f_X5_markOf τ p1 = some (r, τ')) : lm_CI l yX5_markOf wsX5_markOf rmX5_markOf D cI cZ cL cR B [.ref (B + 140), .int p1] σ τ r σ τ' := by
  unfold f_X5_markOf at hf
  refine lm_of (cc := cX5_markOf) (maxL := 4) (ret := (some .int)) (own := RX5) (by decide) rfl (Nat.le_of_ble_eq_true rfl) (fun p e s m below meth c0 C0 hR ls hl => ?_)
  have hS : va_S (lm_A B) s.heap s.heap [] := va_S.rf
  have hl : lv_has ls 4 [(0, .ref (B + 140)), (1, .int p1)] := hl
  obtain ⟨hx, hb, hml, hr, hlk, hown, hts, hK, hX⟩ := id C0
  refine lv_aload_n hx hb dX5_markOf_0 rfl (lv_at hl 0 rfl) ?_
  refine lm_get C0 hR (by decide) cell_140 rfl lw_in_X5 5 (by decide) uw_513 rfl rfl dX5_markOf_1 ?_
  refine lv_iload_n hx hb dX5_markOf_4 rfl (lv_at hl 1 rfl) ?_
  refine lv_iconst (v := (0 : Int32)) hx hb dX5_markOf_5 (by decide) ?_
  obtain ⟨r2, u1, hf⟩ := lm_bd_e hf
  refine lm_endi (lm_runS C0 hR hS (c_X5_of isM_144 u1) (lw_cS 3 hts uw_639 mv_X5_of rfl rfl hd_X5_of ⟨Nat.le_of_ble_eq_true rfl, Nat.le_of_ble_eq_true rfl⟩) rfl hl rfl (Nat.le_of_ble_eq_true rfl) dX5_markOf_6) hS (fun H locs hR hS => ?_)
  refine lv_istore_n (lv' := [(2, .int r2), (0, .ref (B + 140)), (1, .int p1)]) hx hb dX5_markOf_9 rfl hl (by decide) rfl (fun ls hl => ?_)
  refine lv_iload_n hx hb dX5_markOf_10 rfl (lv_at hl 0 rfl) ?_
  refine lv_iconst (v := (4 : Int32)) hx hb dX5_markOf_11 (by decide) ?_
  refine lv_icmp_lt (tgt := 35) hx hb dX5_markOf_12 (by decide) (fun b4 => ?_) (fun b4 => ?_)
  · have hf := lm_T b4 hf
    refine lv_iload_n hx hb dX5_markOf_35 rfl (lv_at hl 0 rfl) ?_
    refine lv_iconst (v := (1 : Int32)) hx hb dX5_markOf_36 (by decide) ?_
    refine lv_icmp_eq (tgt := 56) hx hb dX5_markOf_37 (by decide) (fun b5 => ?_) (fun b5 => ?_)
    · have hf := lm_T b5 hf
      exact w_X5_markOf_56 C0 _ _ _ _ _ _ hR hS (lv_sub hl [1, 2, 0] rfl) hf
    · have hf := lm_F b5 hf
      refine lv_aload_n hx hb dX5_markOf_40 rfl (lv_at hl 1 rfl) ?_
      refine lv_iload_n hx hb dX5_markOf_41 rfl (lv_at hl 0 rfl) ?_
      refine lv_iconst (v := (3 : Int32)) hx hb dX5_markOf_42 (by decide) ?_
      refine lv_icmp_ne (tgt := 51) hx hb dX5_markOf_43 (by decide) (fun b6 => ?_) (fun b6 => ?_)
      · have hf := lm_F b6 hf
        refine lv_bipush (v := (24 : Int32)) hx hb dX5_markOf_51 (by decide) ?_
        obtain ⟨τ9, u7, hf⟩ := lm_bd_e hf
        refine lm_endv (lm_runV C0 hR hS (c_X5_began u7) (lw_cV 1 hts uw_825 mv_X5_began rfl rfl hd_X5_began ⟨Nat.le_of_ble_eq_true rfl, Nat.le_of_ble_eq_true rfl⟩) (by decide) cell_140 rfl rfl hl rfl (Nat.le_of_ble_eq_true rfl) dX5_markOf_53) hS (fun H locs hR hS => ?_)
        exact w_X5_markOf_56 C0 _ _ _ _ _ _ hR hS (lv_sub hl [1, 2, 0] rfl) hf
      · have hf := lm_T b6 hf
        refine lv_bipush (v := (22 : Int32)) hx hb dX5_markOf_46 (by decide) ?_
        refine lv_goto (tgt := 53) hx hb dX5_markOf_48 (by decide) ?_
        obtain ⟨τ12, u10, hf⟩ := lm_bd_e hf
        refine lm_endv (lm_runV C0 hR hS (c_X5_began u10) (lw_cV 1 hts uw_825 mv_X5_began rfl rfl hd_X5_began ⟨Nat.le_of_ble_eq_true rfl, Nat.le_of_ble_eq_true rfl⟩) (by decide) cell_140 rfl rfl hl rfl (Nat.le_of_ble_eq_true rfl) dX5_markOf_53) hS (fun H locs hR hS => ?_)
        exact w_X5_markOf_56 C0 _ _ _ _ _ _ hR hS (lv_sub hl [1, 2, 0] rfl) hf
  · have hf := lm_F b4 hf
    refine lv_aload_n hx hb dX5_markOf_15 rfl (lv_at hl 1 rfl) ?_
    refine lv_bipush (v := (23 : Int32)) hx hb dX5_markOf_16 (by decide) ?_
    obtain ⟨τ15, u13, hf⟩ := lm_bd_e hf
    refine lm_endv (lm_runV C0 hR hS (c_X5_began u13) (lw_cV 1 hts uw_825 mv_X5_began rfl rfl hd_X5_began ⟨Nat.le_of_ble_eq_true rfl, Nat.le_of_ble_eq_true rfl⟩) (by decide) cell_140 rfl rfl hl rfl (Nat.le_of_ble_eq_true rfl) dX5_markOf_18) hS (fun H locs hR hS => ?_)
    refine lv_aload_n hx hb dX5_markOf_21 rfl (lv_at hl 1 rfl) ?_
    refine lv_bipush (v := (20 : Int32)) hx hb dX5_markOf_22 (by decide) ?_
    obtain ⟨τ18, u16, hf⟩ := lm_bd_e hf
    refine lm_endv (lm_runV C0 hR hS (c_X5_began u16) (lw_cV 1 hts uw_825 mv_X5_began rfl rfl hd_X5_began ⟨Nat.le_of_ble_eq_true rfl, Nat.le_of_ble_eq_true rfl⟩) (by decide) cell_140 rfl rfl hl rfl (Nat.le_of_ble_eq_true rfl) dX5_markOf_24) hS (fun H locs hR hS => ?_)
    refine lv_iload_n hx hb dX5_markOf_27 rfl (lv_at hl 2 rfl) ?_
    refine lv_aload_n hx hb dX5_markOf_28 rfl (lv_at hl 1 rfl) ?_
    refine lv_iload_n hx hb dX5_markOf_29 rfl (lv_at hl 2 rfl) ?_
    obtain ⟨r20, τ21, u19, hf⟩ := lm_bd2_e hf
    refine lm_endi (lm_runV C0 hR hS (c_X5_gullSize u19) (lw_cV 1 hts uw_822 mv_X5_gullSize rfl rfl hd_X5_gullSize ⟨Nat.le_of_ble_eq_true rfl, Nat.le_of_ble_eq_true rfl⟩) (by decide) cell_140 rfl rfl hl rfl (Nat.le_of_ble_eq_true rfl) dX5_markOf_30) hS (fun H locs hR hS => ?_)
    refine lv_isub hx hb dX5_markOf_33 ?_
    exact lm_riM C0 hR hS hf dX5_markOf_34
end
/-! ===== X5_sizeOf ===== -/
abbrev rmX5_sizeOf : Room := { frames := 4, cells := 0, slots := 0, locals := 89 }
def f_X5_sizeOf_32 (x1 : Int32) (x2 : Int32) (τ : Mem) : Option (Int32 × Mem) := lm_bd (f_X5_began τ (11 : Int32)) fun τ14 => lm_bd2 (f_X5_plainSize τ14 x1) fun r16 τ17 => lm_bd2 (f_X5_markOf τ17 x1) fun r19 τ20 => lm_nm (r16 + r19) fun v21 => if x2 = (2 : Int32) then (some ((-v21), τ20)) else (some (v21, τ20))
def f_X5_sizeOf (τ : Mem) (p1 : Int32) : Option (Int32 × Mem) := lm_bd (f_X5_of 144 τ p1 (0 : Int32)) fun r2 => if r2 < (4 : Int32) then (if r2 = (2 : Int32) then (lm_bd (f_X5_began τ (12 : Int32)) fun τ8 => f_X5_sizeOf_32 p1 r2 τ8) else (f_X5_sizeOf_32 p1 r2 τ)) else (lm_bd2 (f_X5_gullSize τ p1) fun r10 τ11 => some (r10, τ11))
abbrev wsX5_sizeOf : List Cond := Cond.code yX5_sizeOf cX5_sizeOf 4 (some .int) :: lw_u
theorem mv_X5_sizeOf : Cond.instanceMethod yX5_sizeOf ∈ lw_u ∧ Cond.selects yX5_sizeOf.cls yX5_sizeOf yX5_sizeOf ∈ lw_u ∧ Cond.initialized yX5_sizeOf.cls ∈ lw_u ∧ Cond.code yX5_sizeOf cX5_sizeOf 4 (some .int) ∈ lw_u := ⟨uw_820, uw_893, uw_6, uw_821⟩
theorem hd_X5_sizeOf : yX5_sizeOf.cls ≠ "java/lang/invoke/MethodHandle" ∧ yX5_sizeOf.cls ≠ "java/lang/invoke/VarHandle" ∧ (parseMethodDescriptor yX5_sizeOf.desc).map (fun d => d.parameters.length) = some 1 := by decide +kernel
section
variable {l : Launch} {D : va_G} {cI cZ cL cR : ClassId} {B : Nat}
set_option maxRecDepth 100000 in
set_option maxHeartbeats 4000000 in
theorem w_X5_sizeOf_32 {p : Program} {e : Env} {s : State} {m : MethodId} {args : Array Value} {below : List Frame} {meth : Method} {c0 : Code} {σ τ' : Mem} {r : Int32} (C0 : lm_Cx D cI cZ cL cR B p s m args meth c0 cX5_sizeOf 4 (some .int) RX5) : ∀ (x1 : Int32) (x2 : Int32) (τ : Mem) (H : Heap) (locs : List Loc) (ls : Array Slot), va_P D vwCl (wl cI cZ cL cR B σ τ) H → va_S (lm_A B) s.heap H locs → lv_has ls 4 [(0, .ref (B + 140)), (1, .int x1), (2, .int x2)] → f_X5_sizeOf_32 x1 x2 τ = some (r, τ') → W p l e rmX5_sizeOf s m args below meth c0 H locs 0 0 (MQ below (lm_QI D cI cZ cL cR B r σ τ') args s 0 0 (lm_A B)) (F0 m 32 ls []) := by
  obtain ⟨hx, hb, hml, hr, hlk, hown, hts, hK, hX⟩ := id C0
  intro x1 x2 τ H locs ls hR hS hl hf
  unfold f_X5_sizeOf_32 at hf
  refine lv_aload_n hx hb dX5_sizeOf_32 rfl (lv_at hl 0 rfl) ?_
  refine lv_bipush (v := (11 : Int32)) hx hb dX5_sizeOf_33 (by decide) ?_
  obtain ⟨τ14, u12, hf⟩ := lm_bd_e hf
  refine lm_endv (lm_runV C0 hR hS (c_X5_began u12) (lw_cV 1 hts uw_825 mv_X5_began rfl rfl hd_X5_began ⟨Nat.le_of_ble_eq_true rfl, Nat.le_of_ble_eq_true rfl⟩) (by decide) cell_140 rfl rfl hl rfl (Nat.le_of_ble_eq_true rfl) dX5_sizeOf_35) hS (fun H locs hR hS => ?_)
  refine lv_aload_n hx hb dX5_sizeOf_38 rfl (lv_at hl 0 rfl) ?_
  refine lv_iload_n hx hb dX5_sizeOf_39 rfl (lv_at hl 1 rfl) ?_
  obtain ⟨r16, τ17, u15, hf⟩ := lm_bd2_e hf
  refine lm_endi (lm_runV C0 hR hS (c_X5_plainSize u15) (lw_cV 1 hts uw_828 mv_X5_plainSize rfl rfl hd_X5_plainSize ⟨Nat.le_of_ble_eq_true rfl, Nat.le_of_ble_eq_true rfl⟩) (by decide) cell_140 rfl rfl hl rfl (Nat.le_of_ble_eq_true rfl) dX5_sizeOf_40) hS (fun H locs hR hS => ?_)
  refine lv_istore_n (lv' := [(3, .int r16), (0, .ref (B + 140)), (1, .int x1), (2, .int x2)]) hx hb dX5_sizeOf_43 rfl hl (by decide) rfl (fun ls hl => ?_)
  refine lv_iload_n hx hb dX5_sizeOf_44 rfl (lv_at hl 0 rfl) ?_
  refine lv_aload_n hx hb dX5_sizeOf_45 rfl (lv_at hl 1 rfl) ?_
  refine lv_iload_n hx hb dX5_sizeOf_46 rfl (lv_at hl 2 rfl) ?_
  obtain ⟨r19, τ20, u18, hf⟩ := lm_bd2_e hf
  refine lm_endi (lm_runV C0 hR hS (c_X5_markOf u18) (lw_cV 1 hts uw_831 mv_X5_markOf rfl rfl hd_X5_markOf ⟨Nat.le_of_ble_eq_true rfl, Nat.le_of_ble_eq_true rfl⟩) (by decide) cell_140 rfl rfl hl rfl (Nat.le_of_ble_eq_true rfl) dX5_sizeOf_47) hS (fun H locs hR hS => ?_)
  refine lv_iadd hx hb dX5_sizeOf_50 ?_
  obtain ⟨v21, ev21, hf⟩ := lm_nm_e hf
  refine lm_topi ev21 ?_
  refine lv_istore_n (lv' := [(3, .int v21), (0, .ref (B + 140)), (1, .int x1), (2, .int x2)]) hx hb dX5_sizeOf_51 rfl hl (by decide) rfl (fun ls hl => ?_)
  refine lv_iload_n hx hb dX5_sizeOf_52 rfl (lv_at hl 3 rfl) ?_
  refine lv_iconst (v := (2 : Int32)) hx hb dX5_sizeOf_53 (by decide) ?_
  refine lv_icmp_ne (tgt := 62) hx hb dX5_sizeOf_54 (by decide) (fun b22 => ?_) (fun b22 => ?_)
  · have hf := lm_F b22 hf
    refine lv_iload_n hx hb dX5_sizeOf_62 rfl (lv_at hl 0 rfl) ?_
    exact lm_riM C0 hR hS hf dX5_sizeOf_63
  · have hf := lm_T b22 hf
    refine lv_iload_n hx hb dX5_sizeOf_57 rfl (lv_at hl 0 rfl) ?_
    refine lv_ineg hx hb dX5_sizeOf_58 ?_
    refine lv_goto (tgt := 63) hx hb dX5_sizeOf_59 (by decide) ?_
    exact lm_riM C0 hR hS hf dX5_sizeOf_63
set_option maxRecDepth 100000 in
set_option maxHeartbeats 4000000 in
theorem c_X5_sizeOf {τ σ τ' : Mem} {p1 : Int32} {r : Int32}  (hf : f_X5_sizeOf τ p1 = some (r, τ')) : lm_CI l yX5_sizeOf wsX5_sizeOf rmX5_sizeOf D cI cZ cL cR B [.ref (B + 140), .int p1] σ τ r σ τ' := by
  unfold f_X5_sizeOf at hf
  refine lm_of (cc := cX5_sizeOf) (maxL := 4) (ret := (some .int)) (own := RX5) (by decide) rfl (Nat.le_of_ble_eq_true rfl) (fun p e s m below meth c0 C0 hR ls hl => ?_)
  have hS : va_S (lm_A B) s.heap s.heap [] := va_S.rf
  have hl : lv_has ls 4 [(0, .ref (B + 140)), (1, .int p1)] := hl
  obtain ⟨hx, hb, hml, hr, hlk, hown, hts, hK, hX⟩ := id C0
  refine lv_aload_n hx hb dX5_sizeOf_0 rfl (lv_at hl 0 rfl) ?_
  refine lm_get C0 hR (by decide) cell_140 rfl lw_in_X5 5 (by decide) uw_513 rfl rfl dX5_sizeOf_1 ?_
  refine lv_iload_n hx hb dX5_sizeOf_4 rfl (lv_at hl 1 rfl) ?_
  refine lv_iconst (v := (0 : Int32)) hx hb dX5_sizeOf_5 (by decide) ?_
  obtain ⟨r2, u1, hf⟩ := lm_bd_e hf
  refine lm_endi (lm_runS C0 hR hS (c_X5_of isM_144 u1) (lw_cS 3 hts uw_639 mv_X5_of rfl rfl hd_X5_of ⟨Nat.le_of_ble_eq_true rfl, Nat.le_of_ble_eq_true rfl⟩) rfl hl rfl (Nat.le_of_ble_eq_true rfl) dX5_sizeOf_6) hS (fun H locs hR hS => ?_)
  refine lv_istore_n (lv' := [(2, .int r2), (0, .ref (B + 140)), (1, .int p1)]) hx hb dX5_sizeOf_9 rfl hl (by decide) rfl (fun ls hl => ?_)
  refine lv_iload_n hx hb dX5_sizeOf_10 rfl (lv_at hl 0 rfl) ?_
  refine lv_iconst (v := (4 : Int32)) hx hb dX5_sizeOf_11 (by decide) ?_
  refine lv_icmp_lt (tgt := 21) hx hb dX5_sizeOf_12 (by decide) (fun b4 => ?_) (fun b4 => ?_)
  · have hf := lm_T b4 hf
    refine lv_iload_n hx hb dX5_sizeOf_21 rfl (lv_at hl 0 rfl) ?_
    refine lv_iconst (v := (2 : Int32)) hx hb dX5_sizeOf_22 (by decide) ?_
    refine lv_icmp_ne (tgt := 32) hx hb dX5_sizeOf_23 (by decide) (fun b5 => ?_) (fun b5 => ?_)
    · have hf := lm_F b5 hf
      exact w_X5_sizeOf_32 C0 _ _ _ _ _ _ hR hS (lv_sub hl [1, 2, 0] rfl) hf
    · have hf := lm_T b5 hf
      refine lv_aload_n hx hb dX5_sizeOf_26 rfl (lv_at hl 1 rfl) ?_
      refine lv_bipush (v := (12 : Int32)) hx hb dX5_sizeOf_27 (by decide) ?_
      obtain ⟨τ8, u6, hf⟩ := lm_bd_e hf
      refine lm_endv (lm_runV C0 hR hS (c_X5_began u6) (lw_cV 1 hts uw_825 mv_X5_began rfl rfl hd_X5_began ⟨Nat.le_of_ble_eq_true rfl, Nat.le_of_ble_eq_true rfl⟩) (by decide) cell_140 rfl rfl hl rfl (Nat.le_of_ble_eq_true rfl) dX5_sizeOf_29) hS (fun H locs hR hS => ?_)
      exact w_X5_sizeOf_32 C0 _ _ _ _ _ _ hR hS (lv_sub hl [1, 2, 0] rfl) hf
  · have hf := lm_F b4 hf
    refine lv_aload_n hx hb dX5_sizeOf_15 rfl (lv_at hl 1 rfl) ?_
    refine lv_iload_n hx hb dX5_sizeOf_16 rfl (lv_at hl 2 rfl) ?_
    obtain ⟨r10, τ11, u9, hf⟩ := lm_bd2_e hf
    refine lm_endi (lm_runV C0 hR hS (c_X5_gullSize u9) (lw_cV 1 hts uw_822 mv_X5_gullSize rfl rfl hd_X5_gullSize ⟨Nat.le_of_ble_eq_true rfl, Nat.le_of_ble_eq_true rfl⟩) (by decide) cell_140 rfl rfl hl rfl (Nat.le_of_ble_eq_true rfl) dX5_sizeOf_17) hS (fun H locs hR hS => ?_)
    exact lm_riM C0 hR hS hf dX5_sizeOf_20
end
/-! ===== X5_ask ===== -/
abbrev rmX5_ask : Room := { frames := 5, cells := 0, slots := 0, locals := 112 }
def f_X5_ask (τ : Mem) (p1 : Int32) (p2 : Int32) : Option (Int32 × Mem) := lm_nm (up τ 140 0 (0 : Int32)) fun τ1 => lm_bd (f_X5_isShip τ1 p1) fun r3 => if r3 = 0 then (some ((-1000001 : Int32), τ1)) else (lm_bd (f_X5_in p2.toInt64 (0 : Int64) (1 : Int64)) fun r7 => if r7 = 0 then (some ((-1000001 : Int32), τ1)) else (lm_nm (up τ1 140 26 (0 : Int32)) fun τ10 => if p2 = 0 then (lm_bd2 (f_X5_sizeOf τ10 p1) fun r16 τ17 => some (r16, τ17)) else (lm_bd2 (f_X5_markOf τ10 p1) fun r13 τ14 => some (r13, τ14))))
abbrev wsX5_ask : List Cond := Cond.code yX5_ask cX5_ask 3 (some .int) :: lw_u
theorem mv_X5_ask : Cond.instanceMethod yX5_ask ∈ lw_u ∧ Cond.selects yX5_ask.cls yX5_ask yX5_ask ∈ lw_u ∧ Cond.initialized yX5_ask.cls ∈ lw_u ∧ Cond.code yX5_ask cX5_ask 3 (some .int) ∈ lw_u := ⟨uw_816, uw_817, uw_6, uw_818⟩
theorem hd_X5_ask : yX5_ask.cls ≠ "java/lang/invoke/MethodHandle" ∧ yX5_ask.cls ≠ "java/lang/invoke/VarHandle" ∧ (parseMethodDescriptor yX5_ask.desc).map (fun d => d.parameters.length) = some 2 := by decide +kernel
section
variable {l : Launch} {D : va_G} {cI cZ cL cR : ClassId} {B : Nat}
set_option maxRecDepth 100000 in
set_option maxHeartbeats 4000000 in
theorem c_X5_ask {τ σ τ' : Mem} {p1 : Int32} {p2 : Int32} {r : Int32}  (hf : f_X5_ask τ p1 p2 = some (r, τ')) : lm_CI l yX5_ask wsX5_ask rmX5_ask D cI cZ cL cR B [.ref (B + 140), .int p1, .int p2] σ τ r σ τ' := by
  unfold f_X5_ask at hf
  refine lm_of (cc := cX5_ask) (maxL := 3) (ret := (some .int)) (own := RX5) (by decide) rfl (Nat.le_of_ble_eq_true rfl) (fun p e s m below meth c0 C0 hR ls hl => ?_)
  have hS : va_S (lm_A B) s.heap s.heap [] := va_S.rf
  have hl : lv_has ls 3 [(0, .ref (B + 140)), (1, .int p1), (2, .int p2)] := hl
  obtain ⟨hx, hb, hml, hr, hlk, hown, hts, hK, hX⟩ := id C0
  refine lv_aload_n hx hb dX5_ask_0 rfl (lv_at hl 0 rfl) ?_
  refine lv_iconst (v := (0 : Int32)) hx hb dX5_ask_1 (by decide) ?_
  obtain ⟨τ1, eτ1, hf⟩ := lm_nm_e hf
  refine lm_putM C0 hR hS (by decide) cell_140 rfl lw_in_X5 tyX5 tyX5_ok nmX5 0 (by decide) uw_508 rfl rfl rfl rfl rfl (Nat.le_of_ble_eq_true rfl) eτ1 cell_140u dX5_ask_2 (fun H locs hR hS => ?_)
  refine lv_aload_n hx hb dX5_ask_5 rfl (lv_at hl 0 rfl) ?_
  refine lv_iload_n hx hb dX5_ask_6 rfl (lv_at hl 1 rfl) ?_
  obtain ⟨r3, u2, hf⟩ := lm_bd_e hf
  refine lm_endi (lm_runV C0 hR hS (c_X5_isShip u2) (lw_cV 1 hts uw_682 mv_X5_isShip rfl rfl hd_X5_isShip ⟨Nat.le_of_ble_eq_true rfl, Nat.le_of_ble_eq_true rfl⟩) (by decide) cell_140 rfl rfl hl rfl (Nat.le_of_ble_eq_true rfl) dX5_ask_7) hS (fun H locs hR hS => ?_)
  refine lv_if_eq (tgt := 23) hx hb dX5_ask_10 (by decide) (fun b5 => ?_) (fun b5 => ?_)
  · have hf := lm_T b5 hf
    refine lv_ldc hx hb hown (hts _ uw_548) dX5_ask_23 ?_
    exact lm_riM C0 hR hS hf dX5_ask_25
  · have hf := lm_F b5 hf
    refine lv_iload_n hx hb dX5_ask_13 rfl (lv_at hl 2 rfl) ?_
    refine lv_i2l hx hb dX5_ask_14 rfl ?_
    refine lv_lconst (v := (0 : Int64)) hx hb dX5_ask_15 (by decide) ?_
    refine lv_lconst (v := (1 : Int64)) hx hb dX5_ask_16 (by decide) ?_
    obtain ⟨r7, u6, hf⟩ := lm_bd_e hf
    refine lm_endi (lm_runS C0 hR hS (c_X5_in u6) (lw_cS 3 hts uw_544 mv_X5_in rfl rfl hd_X5_in ⟨Nat.le_of_ble_eq_true rfl, Nat.le_of_ble_eq_true rfl⟩) rfl hl rfl (Nat.le_of_ble_eq_true rfl) dX5_ask_17) hS (fun H locs hR hS => ?_)
    refine lv_if_ne (tgt := 26) hx hb dX5_ask_20 (by decide) (fun b9 => ?_) (fun b9 => ?_)
    · have hf := lm_F b9 hf
      refine lv_aload_n hx hb dX5_ask_26 rfl (lv_at hl 0 rfl) ?_
      refine lv_iconst (v := (0 : Int32)) hx hb dX5_ask_27 (by decide) ?_
      obtain ⟨τ10, eτ10, hf⟩ := lm_nm_e hf
      refine lm_putM C0 hR hS (by decide) cell_140 rfl lw_in_X5 tyX5 tyX5_ok nmX5 26 (by decide) uw_534 rfl rfl rfl rfl rfl (Nat.le_of_ble_eq_true rfl) eτ10 cell_140u dX5_ask_28 (fun H locs hR hS => ?_)
      refine lv_iload_n hx hb dX5_ask_31 rfl (lv_at hl 2 rfl) ?_
      refine lv_if_ne (tgt := 43) hx hb dX5_ask_32 (by decide) (fun b11 => ?_) (fun b11 => ?_)
      · have hf := lm_F b11 hf
        refine lv_aload_n hx hb dX5_ask_43 rfl (lv_at hl 0 rfl) ?_
        refine lv_iload_n hx hb dX5_ask_44 rfl (lv_at hl 1 rfl) ?_
        obtain ⟨r13, τ14, u12, hf⟩ := lm_bd2_e hf
        refine lm_endi (lm_runV C0 hR hS (c_X5_markOf u12) (lw_cV 1 hts uw_831 mv_X5_markOf rfl rfl hd_X5_markOf ⟨Nat.le_of_ble_eq_true rfl, Nat.le_of_ble_eq_true rfl⟩) (by decide) cell_140 rfl rfl hl rfl (Nat.le_of_ble_eq_true rfl) dX5_ask_45) hS (fun H locs hR hS => ?_)
        exact lm_riM C0 hR hS hf dX5_ask_48
      · have hf := lm_T b11 hf
        refine lv_aload_n hx hb dX5_ask_35 rfl (lv_at hl 0 rfl) ?_
        refine lv_iload_n hx hb dX5_ask_36 rfl (lv_at hl 1 rfl) ?_
        obtain ⟨r16, τ17, u15, hf⟩ := lm_bd2_e hf
        refine lm_endi (lm_runV C0 hR hS (c_X5_sizeOf u15) (lw_cV 1 hts uw_819 mv_X5_sizeOf rfl rfl hd_X5_sizeOf ⟨Nat.le_of_ble_eq_true rfl, Nat.le_of_ble_eq_true rfl⟩) (by decide) cell_140 rfl rfl hl rfl (Nat.le_of_ble_eq_true rfl) dX5_ask_37) hS (fun H locs hR hS => ?_)
        refine lv_goto (tgt := 48) hx hb dX5_ask_40 (by decide) ?_
        exact lm_riM C0 hR hS hf dX5_ask_48
    · have hf := lm_T b9 hf
      refine lv_ldc hx hb hown (hts _ uw_548) dX5_ask_23 ?_
      exact lm_riM C0 hR hS hf dX5_ask_25
end
/-! ===== X5_trace ===== -/
abbrev rmX5_trace : Room := { frames := 1, cells := 0, slots := 0, locals := 25 }
def f_X5_trace (τ : Mem) (p1 : Int32) : Option (Int32 × Mem) := lm_nm (up τ 140 0 (0 : Int32)) fun τ1 => lm_bd (f_X5_in p1.toInt64 (0 : Int64) (((τ1 140 26) - (1 : Int32)).toInt64)) fun r3 => if r3 = 0 then (some ((-1000000 : Int32), τ1)) else (lm_ck (lm_in p1 16) (some ((τ1 152 p1.toNatClampNeg), τ1)))
abbrev wsX5_trace : List Cond := Cond.code yX5_trace cX5_trace 2 (some .int) :: lw_u
theorem mv_X5_trace : Cond.instanceMethod yX5_trace ∈ lw_u ∧ Cond.selects yX5_trace.cls yX5_trace yX5_trace ∈ lw_u ∧ Cond.initialized yX5_trace.cls ∈ lw_u ∧ Cond.code yX5_trace cX5_trace 2 (some .int) ∈ lw_u := ⟨uw_835, uw_836, uw_6, uw_837⟩
theorem hd_X5_trace : yX5_trace.cls ≠ "java/lang/invoke/MethodHandle" ∧ yX5_trace.cls ≠ "java/lang/invoke/VarHandle" ∧ (parseMethodDescriptor yX5_trace.desc).map (fun d => d.parameters.length) = some 1 := by decide +kernel
section
variable {l : Launch} {D : va_G} {cI cZ cL cR : ClassId} {B : Nat}
set_option maxRecDepth 100000 in
set_option maxHeartbeats 4000000 in
theorem c_X5_trace {τ σ τ' : Mem} {p1 : Int32} {r : Int32}  (hf : f_X5_trace τ p1 = some (r, τ')) : lm_CI l yX5_trace wsX5_trace rmX5_trace D cI cZ cL cR B [.ref (B + 140), .int p1] σ τ r σ τ' := by
  unfold f_X5_trace at hf
  refine lm_of (cc := cX5_trace) (maxL := 2) (ret := (some .int)) (own := RX5) (by decide) rfl (Nat.le_of_ble_eq_true rfl) (fun p e s m below meth c0 C0 hR ls hl => ?_)
  have hS : va_S (lm_A B) s.heap s.heap [] := va_S.rf
  have hl : lv_has ls 2 [(0, .ref (B + 140)), (1, .int p1)] := hl
  obtain ⟨hx, hb, hml, hr, hlk, hown, hts, hK, hX⟩ := id C0
  refine lv_aload_n hx hb dX5_trace_0 rfl (lv_at hl 0 rfl) ?_
  refine lv_iconst (v := (0 : Int32)) hx hb dX5_trace_1 (by decide) ?_
  obtain ⟨τ1, eτ1, hf⟩ := lm_nm_e hf
  refine lm_putM C0 hR hS (by decide) cell_140 rfl lw_in_X5 tyX5 tyX5_ok nmX5 0 (by decide) uw_508 rfl rfl rfl rfl rfl (Nat.le_of_ble_eq_true rfl) eτ1 cell_140u dX5_trace_2 (fun H locs hR hS => ?_)
  refine lv_iload_n hx hb dX5_trace_5 rfl (lv_at hl 1 rfl) ?_
  refine lv_i2l hx hb dX5_trace_6 rfl ?_
  refine lv_lconst (v := (0 : Int64)) hx hb dX5_trace_7 (by decide) ?_
  refine lv_aload_n hx hb dX5_trace_8 rfl (lv_at hl 0 rfl) ?_
  refine lm_get C0 hR (by decide) cell_140 rfl lw_in_X5 26 (by decide) uw_534 rfl rfl dX5_trace_9 ?_
  refine lv_iconst (v := (1 : Int32)) hx hb dX5_trace_12 (by decide) ?_
  refine lv_isub hx hb dX5_trace_13 ?_
  refine lv_i2l hx hb dX5_trace_14 rfl ?_
  obtain ⟨r3, u2, hf⟩ := lm_bd_e hf
  refine lm_endi (lm_runS C0 hR hS (c_X5_in u2) (lw_cS 3 hts uw_544 mv_X5_in rfl rfl hd_X5_in ⟨Nat.le_of_ble_eq_true rfl, Nat.le_of_ble_eq_true rfl⟩) rfl hl rfl (Nat.le_of_ble_eq_true rfl) dX5_trace_15) hS (fun H locs hR hS => ?_)
  refine lv_if_eq (tgt := 30) hx hb dX5_trace_18 (by decide) (fun b5 => ?_) (fun b5 => ?_)
  · have hf := lm_T b5 hf
    refine lv_ldc hx hb hown (hts _ uw_585) dX5_trace_30 ?_
    exact lm_riM C0 hR hS hf dX5_trace_32
  · have hf := lm_F b5 hf
    refine lv_aload_n hx hb dX5_trace_21 rfl (lv_at hl 0 rfl) ?_
    refine lm_get C0 hR (by decide) cell_140 rfl lw_in_X5 25 (by decide) uw_533 rfl rfl dX5_trace_22 ?_
    refine lv_iload_n hx hb dX5_trace_25 rfl (lv_at hl 1 rfl) ?_
    obtain ⟨z6, hf⟩ := lm_ck_e hf
    refine lm_ild C0 hR (by decide) cell_152 z6 dX5_trace_26 ?_
    refine lv_goto (tgt := 32) hx hb dX5_trace_27 (by decide) ?_
    exact lm_riM C0 hR hS hf dX5_trace_32
end
/-! ===== X5_count ===== -/
abbrev rmX5_count : Room := { frames := 1, cells := 0, slots := 0, locals := 22 }
def f_X5_count_119 : Nat → Int32 → Int32 → Mem → Option (Int32 × Mem)
  | 0, _, _, _ => none
  | n + 1, x2, x3, τ => lm_ck (lm_in (0 : Int32) 24) (if (τ 144 (0 : Int32).toNatClampNeg) ≤ x3 then (some (x2, τ)) else (lm_bd (f_X5_of 144 τ x3 (1 : Int32)) fun r24 => if r24 = 0 then (lm_nm (x2 + (1 : Int32)) fun v29 => lm_nm (x3 + (1 : Int32)) fun v30 => f_X5_count_119 n v29 v30 τ) else (lm_nm (x2 + (0 : Int32)) fun v27 => lm_nm (x3 + (1 : Int32)) fun v28 => f_X5_count_119 n v27 v28 τ)))
def f_X5_count_58 : Nat → Int32 → Int32 → Mem → Option (Int32 × Mem)
  | 0, _, _, _ => none
  | n + 1, x2, x3, τ => if (8 : Int32) ≤ x3 then (some (x2, τ)) else (lm_ck (lm_in x3 8) (if (τ 141 x3.toNatClampNeg) < 0 then (lm_nm (x2 + (0 : Int32)) fun v17 => lm_nm (x3 + (1 : Int32)) fun v18 => f_X5_count_58 n v17 v18 τ) else (lm_nm (x2 + (1 : Int32)) fun v19 => lm_nm (x3 + (1 : Int32)) fun v20 => f_X5_count_58 n v19 v20 τ)))
def f_X5_count (τ : Mem) (p1 : Int32) : Option (Int32 × Mem) := lm_nm (up τ 140 0 (0 : Int32)) fun τ1 => if p1 = (0 : Int32) then (f_X5_count_58 lm_fu (0 : Int32) (0 : Int32) τ1) else (if p1 = (1 : Int32) then (lm_ck (lm_in (0 : Int32) 24) (some ((τ1 144 (0 : Int32).toNatClampNeg), τ1))) else (if p1 = (2 : Int32) then (lm_ck (lm_in (1 : Int32) 24) (some ((τ1 144 (1 : Int32).toNatClampNeg), τ1))) else (if p1 = (3 : Int32) then (lm_ck (lm_in (5 : Int32) 24) (some ((τ1 144 (5 : Int32).toNatClampNeg), τ1))) else (if p1 = (4 : Int32) then (lm_ck (lm_in (4 : Int32) 24) (some ((τ1 144 (4 : Int32).toNatClampNeg), τ1))) else (if p1 = (5 : Int32) then (f_X5_count_119 lm_fu (0 : Int32) (0 : Int32) τ1) else (if p1 = (6 : Int32) then (some ((τ1 140 9), τ1)) else (if p1 = (7 : Int32) then (some ((τ1 140 11), τ1)) else (some ((-1000001 : Int32), τ1)))))))))
abbrev wsX5_count : List Cond := Cond.code yX5_count cX5_count 4 (some .int) :: lw_u
theorem mv_X5_count : Cond.instanceMethod yX5_count ∈ lw_u ∧ Cond.selects yX5_count.cls yX5_count yX5_count ∈ lw_u ∧ Cond.initialized yX5_count.cls ∈ lw_u ∧ Cond.code yX5_count cX5_count 4 (some .int) ∈ lw_u := ⟨uw_839, uw_840, uw_6, uw_841⟩
theorem hd_X5_count : yX5_count.cls ≠ "java/lang/invoke/MethodHandle" ∧ yX5_count.cls ≠ "java/lang/invoke/VarHandle" ∧ (parseMethodDescriptor yX5_count.desc).map (fun d => d.parameters.length) = some 1 := by decide +kernel
section
variable {l : Launch} {D : va_G} {cI cZ cL cR : ClassId} {B : Nat}
set_option maxRecDepth 100000 in
set_option maxHeartbeats 4000000 in
theorem w_X5_count_119 {p : Program} {e : Env} {s : State} {m : MethodId} {args : Array Value} {below : List Frame} {meth : Method} {c0 : Code} {σ τ' : Mem} {r : Int32} (C0 : lm_Cx D cI cZ cL cR B p s m args meth c0 cX5_count 4 (some .int) RX5) : ∀ (n : Nat), ∀ (x2 : Int32) (x3 : Int32) (τ : Mem) (H : Heap) (locs : List Loc) (ls : Array Slot), va_P D vwCl (wl cI cZ cL cR B σ τ) H → va_S (lm_A B) s.heap H locs → lv_has ls 4 [(0, .ref (B + 140)), (2, .int x2), (3, .int x3)] → f_X5_count_119 n x2 x3 τ = some (r, τ') → W p l e rmX5_count s m args below meth c0 H locs 0 0 (MQ below (lm_QI D cI cZ cL cR B r σ τ') args s 0 0 (lm_A B)) (F0 m 119 ls []) := by
  obtain ⟨hx, hb, hml, hr, hlk, hown, hts, hK, hX⟩ := id C0
  intro n
  induction n with
  | zero =>
    intro x2 x3 τ H locs ls hR hS hl hf
    cases hf
  | succ n ih =>
    intro x2 x3 τ H locs ls hR hS hl hf
    rw [f_X5_count_119] at hf
    refine lv_iload_n hx hb dX5_count_119 rfl (lv_at hl 2 rfl) ?_
    refine lv_aload_n hx hb dX5_count_120 rfl (lv_at hl 0 rfl) ?_
    refine lm_get C0 hR (by decide) cell_140 rfl lw_in_X5 5 (by decide) uw_513 rfl rfl dX5_count_121 ?_
    refine lv_iconst (v := (0 : Int32)) hx hb dX5_count_124 (by decide) ?_
    obtain ⟨z21, hf⟩ := lm_ck_e hf
    refine lm_ild C0 hR (by decide) cell_144 z21 dX5_count_125 ?_
    refine lv_icmp_ge (tgt := 155) hx hb dX5_count_126 (by decide) (fun b22 => ?_) (fun b22 => ?_)
    · have hf := lm_T b22 hf
      refine lv_iload_n hx hb dX5_count_155 rfl (lv_at hl 1 rfl) ?_
      exact lm_riM C0 hR hS hf dX5_count_156
    · have hf := lm_F b22 hf
      refine lv_iload_n hx hb dX5_count_129 rfl (lv_at hl 1 rfl) ?_
      refine lv_aload_n hx hb dX5_count_130 rfl (lv_at hl 0 rfl) ?_
      refine lm_get C0 hR (by decide) cell_140 rfl lw_in_X5 5 (by decide) uw_513 rfl rfl dX5_count_131 ?_
      refine lv_iload_n hx hb dX5_count_134 rfl (lv_at hl 2 rfl) ?_
      refine lv_iconst (v := (1 : Int32)) hx hb dX5_count_135 (by decide) ?_
      obtain ⟨r24, u23, hf⟩ := lm_bd_e hf
      refine lm_endi (lm_runS C0 hR hS (c_X5_of isM_144 u23) (lw_cS 3 hts uw_639 mv_X5_of rfl rfl hd_X5_of ⟨Nat.le_of_ble_eq_true rfl, Nat.le_of_ble_eq_true rfl⟩) rfl hl rfl (Nat.le_of_ble_eq_true rfl) dX5_count_136) hS (fun H locs hR hS => ?_)
      refine lv_if_ne (tgt := 146) hx hb dX5_count_139 (by decide) (fun b26 => ?_) (fun b26 => ?_)
      · have hf := lm_F b26 hf
        refine lv_iconst (v := (0 : Int32)) hx hb dX5_count_146 (by decide) ?_
        refine lv_iadd hx hb dX5_count_147 ?_
        obtain ⟨v27, ev27, hf⟩ := lm_nm_e hf
        refine lm_topi ev27 ?_
        refine lv_istore_n (lv' := [(2, .int v27), (0, .ref (B + 140)), (3, .int x3)]) hx hb dX5_count_148 rfl hl (by decide) rfl (fun ls hl => ?_)
        obtain ⟨v28, ev28, hf⟩ := lm_nm_e hf
        refine lv_iinc (v := v28) (lv' := [(3, .int v28), (2, .int v27), (0, .ref (B + 140))]) hx hb dX5_count_149 hl (k := 2) rfl (by rw [ev28]; rfl) (by decide) rfl (fun ls hl => ?_)
        refine lv_goto (tgt := 119) hx hb dX5_count_152 (by decide) ?_
        exact ih _ _ _ _ _ _ hR hS (lv_sub hl [2, 1, 0] rfl) hf
      · have hf := lm_T b26 hf
        refine lv_iconst (v := (1 : Int32)) hx hb dX5_count_142 (by decide) ?_
        refine lv_goto (tgt := 147) hx hb dX5_count_143 (by decide) ?_
        refine lv_iadd hx hb dX5_count_147 ?_
        obtain ⟨v29, ev29, hf⟩ := lm_nm_e hf
        refine lm_topi ev29 ?_
        refine lv_istore_n (lv' := [(2, .int v29), (0, .ref (B + 140)), (3, .int x3)]) hx hb dX5_count_148 rfl hl (by decide) rfl (fun ls hl => ?_)
        obtain ⟨v30, ev30, hf⟩ := lm_nm_e hf
        refine lv_iinc (v := v30) (lv' := [(3, .int v30), (2, .int v29), (0, .ref (B + 140))]) hx hb dX5_count_149 hl (k := 2) rfl (by rw [ev30]; rfl) (by decide) rfl (fun ls hl => ?_)
        refine lv_goto (tgt := 119) hx hb dX5_count_152 (by decide) ?_
        exact ih _ _ _ _ _ _ hR hS (lv_sub hl [2, 1, 0] rfl) hf
set_option maxRecDepth 100000 in
set_option maxHeartbeats 4000000 in
theorem w_X5_count_58 {p : Program} {e : Env} {s : State} {m : MethodId} {args : Array Value} {below : List Frame} {meth : Method} {c0 : Code} {σ τ' : Mem} {r : Int32} (C0 : lm_Cx D cI cZ cL cR B p s m args meth c0 cX5_count 4 (some .int) RX5) : ∀ (n : Nat), ∀ (x2 : Int32) (x3 : Int32) (τ : Mem) (H : Heap) (locs : List Loc) (ls : Array Slot), va_P D vwCl (wl cI cZ cL cR B σ τ) H → va_S (lm_A B) s.heap H locs → lv_has ls 4 [(0, .ref (B + 140)), (2, .int x2), (3, .int x3)] → f_X5_count_58 n x2 x3 τ = some (r, τ') → W p l e rmX5_count s m args below meth c0 H locs 0 0 (MQ below (lm_QI D cI cZ cL cR B r σ τ') args s 0 0 (lm_A B)) (F0 m 58 ls []) := by
  obtain ⟨hx, hb, hml, hr, hlk, hown, hts, hK, hX⟩ := id C0
  intro n
  induction n with
  | zero =>
    intro x2 x3 τ H locs ls hR hS hl hf
    cases hf
  | succ n ih =>
    intro x2 x3 τ H locs ls hR hS hl hf
    rw [f_X5_count_58] at hf
    refine lv_iload_n hx hb dX5_count_58 rfl (lv_at hl 2 rfl) ?_
    refine lv_bipush (v := (8 : Int32)) hx hb dX5_count_59 (by decide) ?_
    refine lv_icmp_ge (tgt := 87) hx hb dX5_count_61 (by decide) (fun b14 => ?_) (fun b14 => ?_)
    · have hf := lm_T b14 hf
      refine lv_iload_n hx hb dX5_count_87 rfl (lv_at hl 1 rfl) ?_
      exact lm_riM C0 hR hS hf dX5_count_88
    · have hf := lm_F b14 hf
      refine lv_iload_n hx hb dX5_count_64 rfl (lv_at hl 1 rfl) ?_
      refine lv_aload_n hx hb dX5_count_65 rfl (lv_at hl 0 rfl) ?_
      refine lm_get C0 hR (by decide) cell_140 rfl lw_in_X5 2 (by decide) uw_510 rfl rfl dX5_count_66 ?_
      refine lv_iload_n hx hb dX5_count_69 rfl (lv_at hl 2 rfl) ?_
      obtain ⟨z15, hf⟩ := lm_ck_e hf
      refine lm_ild C0 hR (by decide) cell_141 z15 dX5_count_70 ?_
      refine lv_if_lt (tgt := 78) hx hb dX5_count_71 (by decide) (fun b16 => ?_) (fun b16 => ?_)
      · have hf := lm_T b16 hf
        refine lv_iconst (v := (0 : Int32)) hx hb dX5_count_78 (by decide) ?_
        refine lv_iadd hx hb dX5_count_79 ?_
        obtain ⟨v17, ev17, hf⟩ := lm_nm_e hf
        refine lm_topi ev17 ?_
        refine lv_istore_n (lv' := [(2, .int v17), (0, .ref (B + 140)), (3, .int x3)]) hx hb dX5_count_80 rfl hl (by decide) rfl (fun ls hl => ?_)
        obtain ⟨v18, ev18, hf⟩ := lm_nm_e hf
        refine lv_iinc (v := v18) (lv' := [(3, .int v18), (2, .int v17), (0, .ref (B + 140))]) hx hb dX5_count_81 hl (k := 2) rfl (by rw [ev18]; rfl) (by decide) rfl (fun ls hl => ?_)
        refine lv_goto (tgt := 58) hx hb dX5_count_84 (by decide) ?_
        exact ih _ _ _ _ _ _ hR hS (lv_sub hl [2, 1, 0] rfl) hf
      · have hf := lm_F b16 hf
        refine lv_iconst (v := (1 : Int32)) hx hb dX5_count_74 (by decide) ?_
        refine lv_goto (tgt := 79) hx hb dX5_count_75 (by decide) ?_
        refine lv_iadd hx hb dX5_count_79 ?_
        obtain ⟨v19, ev19, hf⟩ := lm_nm_e hf
        refine lm_topi ev19 ?_
        refine lv_istore_n (lv' := [(2, .int v19), (0, .ref (B + 140)), (3, .int x3)]) hx hb dX5_count_80 rfl hl (by decide) rfl (fun ls hl => ?_)
        obtain ⟨v20, ev20, hf⟩ := lm_nm_e hf
        refine lv_iinc (v := v20) (lv' := [(3, .int v20), (2, .int v19), (0, .ref (B + 140))]) hx hb dX5_count_81 hl (k := 2) rfl (by rw [ev20]; rfl) (by decide) rfl (fun ls hl => ?_)
        refine lv_goto (tgt := 58) hx hb dX5_count_84 (by decide) ?_
        exact ih _ _ _ _ _ _ hR hS (lv_sub hl [2, 1, 0] rfl) hf
set_option maxRecDepth 100000 in
set_option maxHeartbeats 4000000 in
theorem c_X5_count {τ σ τ' : Mem} {p1 : Int32} {r : Int32}  (hf : f_X5_count τ p1 = some (r, τ')) : lm_CI l yX5_count wsX5_count rmX5_count D cI cZ cL cR B [.ref (B + 140), .int p1] σ τ r σ τ' := by
  unfold f_X5_count at hf
  refine lm_of (cc := cX5_count) (maxL := 4) (ret := (some .int)) (own := RX5) (by decide) rfl (Nat.le_of_ble_eq_true rfl) (fun p e s m below meth c0 C0 hR ls hl => ?_)
  have hS : va_S (lm_A B) s.heap s.heap [] := va_S.rf
  have hl : lv_has ls 4 [(0, .ref (B + 140)), (1, .int p1)] := hl
  obtain ⟨hx, hb, hml, hr, hlk, hown, hts, hK, hX⟩ := id C0
  refine lv_aload_n hx hb dX5_count_0 rfl (lv_at hl 0 rfl) ?_
  refine lv_iconst (v := (0 : Int32)) hx hb dX5_count_1 (by decide) ?_
  obtain ⟨τ1, eτ1, hf⟩ := lm_nm_e hf
  refine lm_putM C0 hR hS (by decide) cell_140 rfl lw_in_X5 tyX5 tyX5_ok nmX5 0 (by decide) uw_508 rfl rfl rfl rfl rfl (Nat.le_of_ble_eq_true rfl) eτ1 cell_140u dX5_count_2 (fun H locs hR hS => ?_)
  refine lv_iconst (v := (0 : Int32)) hx hb dX5_count_5 (by decide) ?_
  refine lv_istore_n (lv' := [(2, .int (0 : Int32)), (0, .ref (B + 140)), (1, .int p1)]) hx hb dX5_count_6 rfl hl (by decide) rfl (fun ls hl => ?_)
  refine lv_iload_n hx hb dX5_count_7 rfl (lv_at hl 2 rfl) ?_
  by_cases b2 : p1 = (0 : Int32)
  · have hf := lm_T b2 hf
    refine lv_tableIn (off := 48) (tgt := 56) hx hb dX5_count_8 (by rw [b2]; decide) (by rw [b2]; decide) (by rw [b2]; decide) (by decide) ?_
    refine lv_iconst (v := (0 : Int32)) hx hb dX5_count_56 (by decide) ?_
    refine lv_istore_n (lv' := [(3, .int (0 : Int32)), (2, .int (0 : Int32)), (0, .ref (B + 140)), (1, .int p1)]) hx hb dX5_count_57 rfl hl (by decide) rfl (fun ls hl => ?_)
    exact w_X5_count_58 C0 _ _ _ _ _ _ _ hR hS (lv_sub hl [2, 1, 0] rfl) hf
  have hf := lm_F b2 hf
  by_cases b3 : p1 = (1 : Int32)
  · have hf := lm_T b3 hf
    refine lv_tableIn (off := 81) (tgt := 89) hx hb dX5_count_8 (by rw [b3]; decide) (by rw [b3]; decide) (by rw [b3]; decide) (by decide) ?_
    refine lv_aload_n hx hb dX5_count_89 rfl (lv_at hl 1 rfl) ?_
    refine lm_get C0 hR (by decide) cell_140 rfl lw_in_X5 5 (by decide) uw_513 rfl rfl dX5_count_90 ?_
    refine lv_iconst (v := (0 : Int32)) hx hb dX5_count_93 (by decide) ?_
    obtain ⟨z4, hf⟩ := lm_ck_e hf
    refine lm_ild C0 hR (by decide) cell_144 z4 dX5_count_94 ?_
    exact lm_riM C0 hR hS hf dX5_count_95
  have hf := lm_F b3 hf
  by_cases b5 : p1 = (2 : Int32)
  · have hf := lm_T b5 hf
    refine lv_tableIn (off := 88) (tgt := 96) hx hb dX5_count_8 (by rw [b5]; decide) (by rw [b5]; decide) (by rw [b5]; decide) (by decide) ?_
    refine lv_aload_n hx hb dX5_count_96 rfl (lv_at hl 1 rfl) ?_
    refine lm_get C0 hR (by decide) cell_140 rfl lw_in_X5 5 (by decide) uw_513 rfl rfl dX5_count_97 ?_
    refine lv_iconst (v := (1 : Int32)) hx hb dX5_count_100 (by decide) ?_
    obtain ⟨z6, hf⟩ := lm_ck_e hf
    refine lm_ild C0 hR (by decide) cell_144 z6 dX5_count_101 ?_
    exact lm_riM C0 hR hS hf dX5_count_102
  have hf := lm_F b5 hf
  by_cases b7 : p1 = (3 : Int32)
  · have hf := lm_T b7 hf
    refine lv_tableIn (off := 95) (tgt := 103) hx hb dX5_count_8 (by rw [b7]; decide) (by rw [b7]; decide) (by rw [b7]; decide) (by decide) ?_
    refine lv_aload_n hx hb dX5_count_103 rfl (lv_at hl 1 rfl) ?_
    refine lm_get C0 hR (by decide) cell_140 rfl lw_in_X5 5 (by decide) uw_513 rfl rfl dX5_count_104 ?_
    refine lv_iconst (v := (5 : Int32)) hx hb dX5_count_107 (by decide) ?_
    obtain ⟨z8, hf⟩ := lm_ck_e hf
    refine lm_ild C0 hR (by decide) cell_144 z8 dX5_count_108 ?_
    exact lm_riM C0 hR hS hf dX5_count_109
  have hf := lm_F b7 hf
  by_cases b9 : p1 = (4 : Int32)
  · have hf := lm_T b9 hf
    refine lv_tableIn (off := 102) (tgt := 110) hx hb dX5_count_8 (by rw [b9]; decide) (by rw [b9]; decide) (by rw [b9]; decide) (by decide) ?_
    refine lv_aload_n hx hb dX5_count_110 rfl (lv_at hl 1 rfl) ?_
    refine lm_get C0 hR (by decide) cell_140 rfl lw_in_X5 5 (by decide) uw_513 rfl rfl dX5_count_111 ?_
    refine lv_iconst (v := (4 : Int32)) hx hb dX5_count_114 (by decide) ?_
    obtain ⟨z10, hf⟩ := lm_ck_e hf
    refine lm_ild C0 hR (by decide) cell_144 z10 dX5_count_115 ?_
    exact lm_riM C0 hR hS hf dX5_count_116
  have hf := lm_F b9 hf
  by_cases b11 : p1 = (5 : Int32)
  · have hf := lm_T b11 hf
    refine lv_tableIn (off := 109) (tgt := 117) hx hb dX5_count_8 (by rw [b11]; decide) (by rw [b11]; decide) (by rw [b11]; decide) (by decide) ?_
    refine lv_iconst (v := (0 : Int32)) hx hb dX5_count_117 (by decide) ?_
    refine lv_istore_n (lv' := [(3, .int (0 : Int32)), (2, .int (0 : Int32)), (0, .ref (B + 140)), (1, .int p1)]) hx hb dX5_count_118 rfl hl (by decide) rfl (fun ls hl => ?_)
    exact w_X5_count_119 C0 _ _ _ _ _ _ _ hR hS (lv_sub hl [2, 1, 0] rfl) hf
  have hf := lm_F b11 hf
  by_cases b12 : p1 = (6 : Int32)
  · have hf := lm_T b12 hf
    refine lv_tableIn (off := 149) (tgt := 157) hx hb dX5_count_8 (by rw [b12]; decide) (by rw [b12]; decide) (by rw [b12]; decide) (by decide) ?_
    refine lv_aload_n hx hb dX5_count_157 rfl (lv_at hl 1 rfl) ?_
    refine lm_get C0 hR (by decide) cell_140 rfl lw_in_X5 9 (by decide) uw_517 rfl rfl dX5_count_158 ?_
    exact lm_riM C0 hR hS hf dX5_count_161
  have hf := lm_F b12 hf
  by_cases b13 : p1 = (7 : Int32)
  · have hf := lm_T b13 hf
    refine lv_tableIn (off := 154) (tgt := 162) hx hb dX5_count_8 (by rw [b13]; decide) (by rw [b13]; decide) (by rw [b13]; decide) (by decide) ?_
    refine lv_aload_n hx hb dX5_count_162 rfl (lv_at hl 1 rfl) ?_
    refine lm_get C0 hR (by decide) cell_140 rfl lw_in_X5 11 (by decide) uw_519 rfl rfl dX5_count_163 ?_
    exact lm_riM C0 hR hS hf dX5_count_166
  have hf := lm_F b13 hf
  refine lv_tableOut (tgt := 167) hx hb dX5_count_8 (by have qb2 := lv_neT b2 (a := 0) (by decide); have qb3 := lv_neT b3 (a := 1) (by decide); have qb5 := lv_neT b5 (a := 2) (by decide); have qb7 := lv_neT b7 (a := 3) (by decide); have qb9 := lv_neT b9 (a := 4) (by decide); have qb11 := lv_neT b11 (a := 5) (by decide); have qb12 := lv_neT b12 (a := 6) (by decide); have qb13 := lv_neT b13 (a := 7) (by decide); omega) (by decide) ?_
  refine lv_ldc hx hb hown (hts _ uw_548) dX5_count_167 ?_
  exact lm_riM C0 hR hS hf dX5_count_169
end
/-! ===== X5_status ===== -/
abbrev rmX5_status : Room := { frames := 0, cells := 0, slots := 0, locals := 0 }
def f_X5_status (τ : Mem) : Option (Int32 × Mem) := lm_nm (up τ 140 0 (0 : Int32)) fun τ1 => some ((τ1 140 1), τ1)
abbrev wsX5_status : List Cond := Cond.code yX5_status cX5_status 1 (some .int) :: lw_u
theorem mv_X5_status : Cond.instanceMethod yX5_status ∈ lw_u ∧ Cond.selects yX5_status.cls yX5_status yX5_status ∈ lw_u ∧ Cond.initialized yX5_status.cls ∈ lw_u ∧ Cond.code yX5_status cX5_status 1 (some .int) ∈ lw_u := ⟨uw_843, uw_844, uw_6, uw_845⟩
theorem hd_X5_status : yX5_status.cls ≠ "java/lang/invoke/MethodHandle" ∧ yX5_status.cls ≠ "java/lang/invoke/VarHandle" ∧ (parseMethodDescriptor yX5_status.desc).map (fun d => d.parameters.length) = some 0 := by decide +kernel
section
variable {l : Launch} {D : va_G} {cI cZ cL cR : ClassId} {B : Nat}
set_option maxRecDepth 100000 in
set_option maxHeartbeats 4000000 in
theorem c_X5_status {τ σ τ' : Mem} {r : Int32}  (hf : f_X5_status τ = some (r, τ')) : lm_CI l yX5_status wsX5_status rmX5_status D cI cZ cL cR B [.ref (B + 140)] σ τ r σ τ' := by
  unfold f_X5_status at hf
  refine lm_of (cc := cX5_status) (maxL := 1) (ret := (some .int)) (own := RX5) (by decide) rfl (Nat.le_of_ble_eq_true rfl) (fun p e s m below meth c0 C0 hR ls hl => ?_)
  have hS : va_S (lm_A B) s.heap s.heap [] := va_S.rf
  have hl : lv_has ls 1 [(0, .ref (B + 140))] := hl
  obtain ⟨hx, hb, hml, hr, hlk, hown, hts, hK, hX⟩ := id C0
  refine lv_aload_n hx hb dX5_status_0 rfl (lv_at hl 0 rfl) ?_
  refine lv_iconst (v := (0 : Int32)) hx hb dX5_status_1 (by decide) ?_
  obtain ⟨τ1, eτ1, hf⟩ := lm_nm_e hf
  refine lm_putM C0 hR hS (by decide) cell_140 rfl lw_in_X5 tyX5 tyX5_ok nmX5 0 (by decide) uw_508 rfl rfl rfl rfl rfl (Nat.le_of_ble_eq_true rfl) eτ1 cell_140u dX5_status_2 (fun H locs hR hS => ?_)
  refine lv_aload_n hx hb dX5_status_5 rfl (lv_at hl 0 rfl) ?_
  refine lm_get C0 hR (by decide) cell_140 rfl lw_in_X5 1 (by decide) uw_509 rfl rfl dX5_status_6 ?_
  exact lm_riM C0 hR hS hf dX5_status_9
end
