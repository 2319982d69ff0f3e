/-! the constructors of the class and of the reference -/
abbrev rmK4 : Room := { frames := 3, cells := 139, slots := 1313, locals := 160 }
abbrev rmK5 : Room := { frames := 1, cells := 12, slots := 1186, locals := 60 }
theorem ct_EL_ne {cI : ClassId} {B N c x : Nat} {E : Nat → va_E} (h1 : x ≠ c) (h2 : ¬ N ≤ x) : ct_EL cI B E N c x = E x := by simp [ct_EL, h1, h2]
theorem ct_ET_ne {cI : ClassId} {B N c x : Nat} {E : Nat → va_E} (h1 : x ≠ c) (h2 : x ≠ N) : ct_ET cI B E N c x = E x := by simp [ct_ET, h1, h2]
theorem ct_EA_ne {cI cL : ClassId} {B N c x k : Nat} {E : Nat → va_E} (h1 : x ≠ c) (h2 : ¬ N ≤ x) : ct_EA cI cL B E N c k x = E x := by simp [ct_EA, h1, show x ≠ N by omega, show ¬ N < x by omega]
def ct_s0 : Mem := fun c k => if 116 ≤ c ∧ c < 132 ∧ c % 2 = 0 ∧ k = 1 then 1 else 0
theorem ct_s0z {c : Nat} (h : ¬ isR c) : ct_s0 c = ct_z := by
  funext k
  unfold ct_s0
  rw [if_neg]
  intro q
  exact h ⟨q.1, q.2.1, q.2.2.1⟩
def ct_EM (cI cZ cL cR : ClassId) (B : Nat) (τ : Mem) (r j : Nat) : Nat → va_E := fun x => if x = 1 then e_ref cR 8 (fun i => if i < r then some (B + (116 + 2 * i)) else none) else if x = 114 then e_ref cL 2 (fun i => if i < j then some (B + (132 + 4 * i)) else none) else if x = 17 then e_ref cL 24 (fun i => if i < 24 then some (B + (18 + 4 * i)) else none) else cellA cI cZ cL cR B ct_s0 τ x
section
variable {l : Launch} {D : va_G} {cI cZ cL cR : ClassId} {B : Nat} {E : Nat → va_E} {τ : Mem}
set_option maxRecDepth 100000 in
set_option maxHeartbeats 4000000 in
theorem k_X4_loop2 {p : Program} {e : Env} {s : State} {m : MethodId} {args : Array Value} {below : List Frame} {meth : Method} {c0 : Code} (C0 : ct_Cx D cI cZ cL cR B p s m args meth c0 cX4_init 2 RX4) : ∀ (n k : Nat), k + n = 2 → ∀ (H : Heap) (locs : List Loc) (ls : Array Slot), ct_S D B (132 + 4 * k) (ct_EM cI cZ cL cR B τ 8 k) H → va_S (lm_A B) s.heap H locs → lv_has ls 2 [(0, .ref (B + 0)), (1, .int (nI k))] → W p l e rmK4 s m args below meth c0 H locs (131 + 4 * k) (1259 + 27 * k) (MQ below (ct_Q D B 140 (ct_EM cI cZ cL cR B τ 8 2)) args s 139 1313 (lm_A B)) (F0 m 113 ls []) := by
  obtain ⟨hx, hb, hml, hr, hlk, hown, hts, hK, hY, hin, hBs⟩ := id C0
  intro n
  induction n with
  | zero =>
    intro k hk H locs ls hR hS hl
    obtain rfl : k = 2 := by omega
    refine lv_iload_n hx hb dX4_init_113 rfl (lv_at hl 1 rfl) ?_
    refine lv_iconst (v := 2) hx hb dX4_init_114 (by decide) ?_
    refine lv_icmp_ge (tgt := 137) hx hb dX4_init_115 (by decide) (fun b1 => ?_) (fun b1 => absurd (show (2 : Int32) ≤ nI 2 by decide) b1)
    exact ct_ret C0 hR hS (fun _ _ => rfl) dX4_init_137
  | succ n ih =>
    intro k hk H locs ls hR hS hl
    have hk24 : k < 2 := by omega
    have hki : lm_in (nI k) 2 = true := by
      refine decide_eq_true ?_
      exact nI_in hk24 (by decide)
    have hkc : (nI k).toNatClampNeg = k := nI_clamp (by omega)
    refine lv_iload_n hx hb dX4_init_113 rfl (lv_at hl 1 rfl) ?_
    refine lv_iconst (v := 2) hx hb dX4_init_114 (by decide) ?_
    refine lv_icmp_ge (tgt := 137) hx hb dX4_init_115 (by decide) (fun b1 => absurd b1 (nI_ge (b := 2) hk24 (by decide))) (fun b1 => ?_)
    refine lv_aload_n hx hb dX4_init_118 rfl (lv_at hl 0 rfl) ?_
    refine ct_get C0 hR (x := 0) (by omega) (show ct_EM cI cZ cL cR B τ 8 k 0 = e_obj 4 [.ref (B + 1), .ref (B + 2), .ref (B + 4), .ref (B + 8), .ref (B + 12), .ref (B + 16), .ref (B + 114), .ref (B + 115), .int (ct_s0 0 8), .int (ct_s0 0 9), .int (ct_s0 0 10)] from rfl) rfl lw_in_X4 6 (by decide) uw_93 rfl rfl dX4_init_119 ?_
    refine lv_iload_n hx hb dX4_init_122 rfl (lv_at hl 1 rfl) ?_
    refine ct_new C0 hR hS (ci := 1) (fs := [.null, .null, .null, .int 0, .int 0, .int 0, .int 0, .int 0, .int 0]) lw_in_X1 tyX1 tyX1_ok uw_33 uw_34 uw_3 rfl (fun j hj => by rcases (show j = 0 ∨ j = 1 ∨ j = 2 ∨ j = 3 ∨ j = 4 ∨ j = 5 ∨ j = 6 ∨ j = 7 ∨ j = 8 by omega) with rfl | rfl | rfl | rfl | rfl | rfl | rfl | rfl | rfl <;> rfl) (by show 131 + 4 * k + 1 ≤ 139; omega) (by show 1259 + 27 * k + 9 ≤ 1313; omega) dX4_init_123 (fun H hR hS => ?_)
    refine lv_dup hx hb dX4_init_126 rfl ?_
    refine ct_end (ct_runN C0 hR (k_X1_init (by omega) ct_eq) hY.2.1 mi_X1 rfl rfl rfl hi_X1 ⟨(Nat.le_of_ble_eq_true rfl), (Nat.le_of_ble_eq_true rfl)⟩ hl (Nat.le_of_ble_eq_true rfl) dX4_init_127 ⟨by show 131 + 4 * k + 1 + 3 ≤ 139; omega, by show 1259 + 27 * k + 9 + 18 ≤ 1313; omega⟩) hS (fun H locs hR hS => ?_)
    refine ct_ast C0 hR hS (x := 114) (y := 132 + 4 * k) (t0 := 2) (r := (RX1, TX1, 9)) (ci := 1) (n := 2) (f := fun i => if i < k then some (B + (132 + 4 * i)) else none) (by omega) ?_ rfl (by omega) (vs := [.ref (B + (132 + 4 * k + 1)), .ref (B + (132 + 4 * k + 1 + 1)), .ref (B + (132 + 4 * k + 1 + 2)), .int 0, .int 0, .int 0, .int 0, .int 0, .int 0]) ?_ rfl hki dX4_init_130 (fun H locs hR hS => ?_)
    · simp [ct_EL, va_up, ct_EM, show 114 ≠ 132 + 4 * k by omega, show ¬ (132 + 4 * k + 1 ≤ 114) by omega]
    · simp [ct_EL]
    refine lv_iinc (v := nI (k + 1)) (lv' := [(1, .int (nI (k + 1))), (0, .ref (B + 0))]) hx hb dX4_init_131 hl (k := 1) rfl (nI_1 k) (by decide) rfl (fun ls hl => ?_)
    refine lv_goto (tgt := 113) hx hb dX4_init_134 (by decide) ?_
    refine W.widen (k := 131 + 4 * (k + 1)) (n := 1259 + 27 * (k + 1)) (by omega) (by omega) ?_
    refine ih (k + 1) (by omega) H locs ls ⟨?_, by rw [hR.2]; omega⟩ hS (lv_sub hl [1, 0] rfl)
    have hw := hR.1
    rw [hkc, show 132 + 4 * k + 1 + 3 = 132 + 4 * (k + 1) by omega] at hw
    rw [wF_congr (E' := ct_EM cI cZ cL cR B τ 8 (k + 1)) (fun x hx => ?_)] at hw
    · exact hw
    · have hfun : (va_up (fun i => if i < k then some (B + (132 + 4 * i)) else none) k (some (B + (132 + 4 * k)))) = (fun i => if i < k + 1 then some (B + (132 + 4 * i)) else none) := by
        funext i
        unfold va_up
        by_cases hi : i = k
        · subst hi
          simp
        · simp only [hi, if_false]
          by_cases hi2 : i < k
          · simp [hi2, show i < k + 1 by omega]
          · simp [hi2, show ¬ i < k + 1 by omega]
      by_cases h2 : x = 114
      · subst h2
        simp [va_up, ct_EM] at hfun ⊢
        exact hfun
      · by_cases h3 : x = 132 + 4 * k
        · subst h3
          have h4 : isL (132 + 4 * k) := by unfold isL; omega
          have h5 : ¬ isR (132 + 4 * k) := by unfold isR; omega
          simp only [va_up, ct_EL, ct_EM, h2, if_false, if_true, show ¬ (132 + 4 * k = 1) by omega, show ¬ (132 + 4 * k = 17) by omega]
          rw [cell_L h4, ct_s0z h5]
          rfl
        · by_cases h4 : 132 + 4 * k + 1 ≤ x
          · have h5 : ¬ isR x := by unfold isR; omega
            simp only [va_up, ct_EL, ct_EM, h2, h3, h4, if_false, if_true, show ¬ (x = 1) by omega, show ¬ (x = 17) by omega]
            rcases (show x = 132 + 4 * k + 1 ∨ x = 132 + 4 * k + 2 ∨ x = 132 + 4 * k + 3 by omega) with h6 | h6 | h6
            · subst h6
              rw [cell_L1 (by unfold isL; omega), ct_s0z h5]
            · subst h6
              rw [cell_L2 (by unfold isL; omega), ct_s0z h5]
            · subst h6
              rw [cell_L3 (by unfold isL; omega), ct_s0z h5]
          · simp [va_up, ct_EL, ct_EM, h2, h3, h4]
set_option maxRecDepth 100000 in
set_option maxHeartbeats 4000000 in
theorem k_X4_loop1 {p : Program} {e : Env} {s : State} {m : MethodId} {args : Array Value} {below : List Frame} {meth : Method} {c0 : Code} (C0 : ct_Cx D cI cZ cL cR B p s m args meth c0 cX4_init 2 RX4) : ∀ (n k : Nat), k + n = 8 → ∀ (H : Heap) (locs : List Loc) (ls : Array Slot), ct_S D B (116 + 2 * k) (ct_EM cI cZ cL cR B τ k 0) H → va_S (lm_A B) s.heap H locs → lv_has ls 2 [(0, .ref (B + 0)), (1, .int (nI k))] → W p l e rmK4 s m args below meth c0 H locs (115 + 2 * k) (907 + 44 * k) (MQ below (ct_Q D B 140 (ct_EM cI cZ cL cR B τ 8 2)) args s 139 1313 (lm_A B)) (F0 m 86 ls []) := by
  obtain ⟨hx, hb, hml, hr, hlk, hown, hts, hK, hY, hin, hBs⟩ := id C0
  intro n
  induction n with
  | zero =>
    intro k hk H locs ls hR hS hl
    obtain rfl : k = 8 := by omega
    refine lv_iload_n hx hb dX4_init_86 rfl (lv_at hl 1 rfl) ?_
    refine lv_bipush (v := 8) hx hb dX4_init_87 (by decide) ?_
    refine lv_icmp_ge (tgt := 111) hx hb dX4_init_89 (by decide) (fun b1 => ?_) (fun b1 => absurd (show (8 : Int32) ≤ nI 8 by decide) b1)
    refine lv_iconst (v := 0) hx hb dX4_init_111 (by decide) ?_
    refine lv_istore_n (lv' := [(1, .int (nI 0)), (0, .ref (B + 0))]) hx hb dX4_init_112 rfl hl (by decide) rfl (fun ls hl => ?_)
    exact k_X4_loop2 C0 2 0 rfl H locs ls hR hS (lv_sub hl [1, 0] rfl)
  | succ n ih =>
    intro k hk H locs ls hR hS hl
    have hk24 : k < 8 := by omega
    have hki : lm_in (nI k) 8 = true := by
      refine decide_eq_true ?_
      exact nI_in hk24 (by decide)
    have hkc : (nI k).toNatClampNeg = k := nI_clamp (by omega)
    refine lv_iload_n hx hb dX4_init_86 rfl (lv_at hl 1 rfl) ?_
    refine lv_bipush (v := 8) hx hb dX4_init_87 (by decide) ?_
    refine lv_icmp_ge (tgt := 111) hx hb dX4_init_89 (by decide) (fun b1 => absurd b1 (nI_ge (b := 8) hk24 (by decide))) (fun b1 => ?_)
    refine lv_aload_n hx hb dX4_init_92 rfl (lv_at hl 0 rfl) ?_
    refine ct_get C0 hR (x := 0) (by omega) (show ct_EM cI cZ cL cR B τ k 0 0 = e_obj 4 [.ref (B + 1), .ref (B + 2), .ref (B + 4), .ref (B + 8), .ref (B + 12), .ref (B + 16), .ref (B + 114), .ref (B + 115), .int (ct_s0 0 8), .int (ct_s0 0 9), .int (ct_s0 0 10)] from rfl) rfl lw_in_X4 0 (by decide) uw_87 rfl rfl dX4_init_93 ?_
    refine lv_iload_n hx hb dX4_init_96 rfl (lv_at hl 1 rfl) ?_
    refine ct_new C0 hR hS (ci := 2) (fs := [.null, .int 0, .int 0, .int 0]) lw_in_X2 tyX2 tyX2_ok uw_18 uw_75 uw_5 rfl (fun j hj => by rcases (show j = 0 ∨ j = 1 ∨ j = 2 ∨ j = 3 by omega) with rfl | rfl | rfl | rfl <;> rfl) (by show 115 + 2 * k + 1 ≤ 139; omega) (by show 907 + 44 * k + 4 ≤ 1313; omega) dX4_init_97 (fun H hR hS => ?_)
    refine lv_dup hx hb dX4_init_100 rfl ?_
    refine ct_end (ct_runN C0 hR (k_X2_init (by omega) ct_eq) hY.2.2.2.1 mi_X2 rfl rfl rfl hi_X2 ⟨(Nat.le_of_ble_eq_true rfl), (Nat.le_of_ble_eq_true rfl)⟩ hl (Nat.le_of_ble_eq_true rfl) dX4_init_101 ⟨by show 115 + 2 * k + 1 + 1 ≤ 139; omega, by show 907 + 44 * k + 4 + 40 ≤ 1313; omega⟩) hS (fun H locs hR hS => ?_)
    refine ct_ast C0 hR hS (x := 1) (y := 116 + 2 * k) (t0 := 3) (r := (RX2, TX2, 4)) (ci := 2) (n := 8) (f := fun i => if i < k then some (B + (116 + 2 * i)) else none) (by omega) ?_ rfl (by omega) (vs := [.ref (B + (116 + 2 * k + 1)), .int 1, .int 0, .int 0]) ?_ rfl hki dX4_init_104 (fun H locs hR hS => ?_)
    · simp [ct_ER, va_up, ct_EM, show 1 ≠ 116 + 2 * k by omega, show 1 ≠ 116 + 2 * k + 1 by omega]
    · simp [ct_ER]
    refine lv_iinc (v := nI (k + 1)) (lv' := [(1, .int (nI (k + 1))), (0, .ref (B + 0))]) hx hb dX4_init_105 hl (k := 1) rfl (nI_1 k) (by decide) rfl (fun ls hl => ?_)
    refine lv_goto (tgt := 86) hx hb dX4_init_108 (by decide) ?_
    refine W.widen (k := 115 + 2 * (k + 1)) (n := 907 + 44 * (k + 1)) (by omega) (by omega) ?_
    refine ih (k + 1) (by omega) H locs ls ⟨?_, by rw [hR.2]; omega⟩ hS (lv_sub hl [1, 0] rfl)
    have hw := hR.1
    rw [hkc, show 116 + 2 * k + 1 + 1 = 116 + 2 * (k + 1) by omega] at hw
    rw [wF_congr (E' := ct_EM cI cZ cL cR B τ (k + 1) 0) (fun x hx => ?_)] at hw
    · exact hw
    · have hfun : (va_up (fun i => if i < k then some (B + (116 + 2 * i)) else none) k (some (B + (116 + 2 * k)))) = (fun i => if i < k + 1 then some (B + (116 + 2 * i)) else none) := by
        funext i
        unfold va_up
        by_cases hi : i = k
        · subst hi
          simp
        · simp only [hi, if_false]
          by_cases hi2 : i < k
          · simp [hi2, show i < k + 1 by omega]
          · simp [hi2, show ¬ i < k + 1 by omega]
      by_cases h2 : x = 1
      · subst h2
        simp [va_up, ct_EM] at hfun ⊢
        exact hfun
      · by_cases h3 : x = 116 + 2 * k
        · subst h3
          have h4 : isR (116 + 2 * k) := by unfold isR; omega
          simp only [va_up, ct_ER, ct_EM, h2, if_false, if_true, show ¬ (116 + 2 * k = 114) by omega, show ¬ (116 + 2 * k = 17) by omega]
          rw [cell_R h4]
          have h5 : ∀ j, ct_s0 (116 + 2 * k) j = if j = 1 then 1 else 0 := fun j => by
            unfold ct_s0
            by_cases hj : j = 1
            · rw [if_pos ⟨by omega, by omega, by omega, hj⟩, if_pos hj]
            · rw [if_neg (fun q => hj q.2.2.2), if_neg hj]
          unfold e_row
          rw [h5 1, h5 2, h5 3]
          rfl
        · by_cases h4 : x = 116 + 2 * k + 1
          · subst h4
            have h5 : ¬ isR (116 + 2 * k + 1) := by unfold isR; omega
            simp only [va_up, ct_ER, ct_EM, h2, h3, if_false, if_true, show ¬ (116 + 2 * k + 1 = 114) by omega, show ¬ (116 + 2 * k + 1 = 17) by omega]
            rw [cell_R1 (by unfold isR; omega), ct_s0z h5]
          · simp [va_up, ct_ER, ct_EM, h2, h3, h4]
set_option maxRecDepth 100000 in
set_option maxHeartbeats 4000000 in
theorem k_X4_init (he : E 0 = ct_fM) : ct_C l yX4_init (Cond.code yX4_init cX4_init 2 none :: lw_u) rmK4 D cI cZ cL cR B [.ref (B + 0)] 1 E 140 (ct_EM cI cZ cL cR B τ 8 2) 139 1313 := by
  refine ct_of (cc := cX4_init) (maxL := 2) (own := RX4) (by decide) rfl rfl (Nat.le_of_ble_eq_true rfl) (fun p e s m below meth c0 C0 hR ls hl => ?_)
  have hS : va_S (lm_A B) s.heap s.heap [] := va_S.rf
  have hl : lv_has ls 2 [(0, .ref (B + 0))] := hl
  obtain ⟨hx, hb, hml, hr, hlk, hown, hts, hK, hY, hin, hBs⟩ := id C0
  refine lv_aload_n hx hb dX4_init_0 rfl (lv_at hl 0 rfl) ?_
  refine ct_obj C0 hl uw_15 dX4_init_1 (Nat.le_of_ble_eq_true rfl) (Nat.le_of_ble_eq_true rfl) ?_
  refine lv_aload_n hx hb dX4_init_4 rfl (lv_at hl 0 rfl) ?_
  refine lv_bipush (v := 8) hx hb dX4_init_5 (by decide) ?_
  refine ct_newq C0 hR hS (t0 := 3) (n := 8) uw_18 hY.2.2.2.2.2 rfl (by decide) rfl (by decide) (Nat.le_of_ble_eq_true rfl) (Nat.le_of_ble_eq_true rfl) dX4_init_7 (fun H hR hS => ?_)
  refine ct_putF C0 hR hS (x := 0) (by decide) ((ct_ne (by decide)).trans he) rfl lw_in_X4 tyX4 tyX4_ok nmX4 0 (by decide) uw_87 rfl rfl rfl rfl rfl rfl (Nat.le_of_ble_eq_true rfl) dX4_init_10 (fun H locs hR hS => ?_)
  refine lv_aload_n hx hb dX4_init_13 rfl (lv_at hl 0 rfl) ?_
  refine ct_new C0 hR hS (ci := 3) (fs := [.null, .int 0, .int 0, .int 0, .int 0]) lw_in_X3 tyX3 tyX3_ok uw_19 uw_20 uw_2 rfl (fun j hj => by rcases (show j = 0 ∨ j = 1 ∨ j = 2 ∨ j = 3 ∨ j = 4 by omega) with rfl | rfl | rfl | rfl | rfl <;> rfl) (Nat.le_of_ble_eq_true rfl) (Nat.le_of_ble_eq_true rfl) dX4_init_14 (fun H hR hS => ?_)
  refine lv_dup hx hb dX4_init_17 rfl ?_
  refine ct_end (ct_runN C0 hR (k_X3_init (by decide) ct_eq) hY.1 mi_X3 rfl rfl rfl hi_X3 ⟨(Nat.le_of_ble_eq_true rfl), (Nat.le_of_ble_eq_true rfl)⟩ hl (Nat.le_of_ble_eq_true rfl) dX4_init_18 ⟨(Nat.le_of_ble_eq_true rfl), (Nat.le_of_ble_eq_true rfl)⟩) hS (fun H locs hR hS => ?_)
  refine ct_putF C0 hR hS (x := 0) (by decide) ((ct_ET_ne (by decide) (by decide)).trans ((ct_ne (by decide)).trans ct_eq)) rfl lw_in_X4 tyX4 tyX4_ok nmX4 1 (by decide) uw_88 rfl rfl rfl rfl rfl rfl (Nat.le_of_ble_eq_true rfl) dX4_init_21 (fun H locs hR hS => ?_)
  refine lv_aload_n hx hb dX4_init_24 rfl (lv_at hl 0 rfl) ?_
  refine ct_new C0 hR hS (ci := 1) (fs := [.null, .null, .null, .int 0, .int 0, .int 0, .int 0, .int 0, .int 0]) lw_in_X1 tyX1 tyX1_ok uw_33 uw_34 uw_3 rfl (fun j hj => by rcases (show j = 0 ∨ j = 1 ∨ j = 2 ∨ j = 3 ∨ j = 4 ∨ j = 5 ∨ j = 6 ∨ j = 7 ∨ j = 8 by omega) with rfl | rfl | rfl | rfl | rfl | rfl | rfl | rfl | rfl <;> rfl) (Nat.le_of_ble_eq_true rfl) (Nat.le_of_ble_eq_true rfl) dX4_init_25 (fun H hR hS => ?_)
  refine lv_dup hx hb dX4_init_28 rfl ?_
  refine ct_end (ct_runN C0 hR (k_X1_init (by decide) ct_eq) hY.2.1 mi_X1 rfl rfl rfl hi_X1 ⟨(Nat.le_of_ble_eq_true rfl), (Nat.le_of_ble_eq_true rfl)⟩ hl (Nat.le_of_ble_eq_true rfl) dX4_init_29 ⟨(Nat.le_of_ble_eq_true rfl), (Nat.le_of_ble_eq_true rfl)⟩) hS (fun H locs hR hS => ?_)
  refine ct_putF C0 hR hS (x := 0) (by decide) ((ct_EL_ne (by decide) (by decide)).trans ((ct_ne (by decide)).trans ct_eq)) rfl lw_in_X4 tyX4 tyX4_ok nmX4 2 (by decide) uw_89 rfl rfl rfl rfl rfl rfl (Nat.le_of_ble_eq_true rfl) dX4_init_32 (fun H locs hR hS => ?_)
  refine lv_aload_n hx hb dX4_init_35 rfl (lv_at hl 0 rfl) ?_
  refine ct_new C0 hR hS (ci := 1) (fs := [.null, .null, .null, .int 0, .int 0, .int 0, .int 0, .int 0, .int 0]) lw_in_X1 tyX1 tyX1_ok uw_33 uw_34 uw_3 rfl (fun j hj => by rcases (show j = 0 ∨ j = 1 ∨ j = 2 ∨ j = 3 ∨ j = 4 ∨ j = 5 ∨ j = 6 ∨ j = 7 ∨ j = 8 by omega) with rfl | rfl | rfl | rfl | rfl | rfl | rfl | rfl | rfl <;> rfl) (Nat.le_of_ble_eq_true rfl) (Nat.le_of_ble_eq_true rfl) dX4_init_36 (fun H hR hS => ?_)
  refine lv_dup hx hb dX4_init_39 rfl ?_
  refine ct_end (ct_runN C0 hR (k_X1_init (by decide) ct_eq) hY.2.1 mi_X1 rfl rfl rfl hi_X1 ⟨(Nat.le_of_ble_eq_true rfl), (Nat.le_of_ble_eq_true rfl)⟩ hl (Nat.le_of_ble_eq_true rfl) dX4_init_40 ⟨(Nat.le_of_ble_eq_true rfl), (Nat.le_of_ble_eq_true rfl)⟩) hS (fun H locs hR hS => ?_)
  refine ct_putF C0 hR hS (x := 0) (by decide) ((ct_EL_ne (by decide) (by decide)).trans ((ct_ne (by decide)).trans ct_eq)) rfl lw_in_X4 tyX4 tyX4_ok nmX4 3 (by decide) uw_90 rfl rfl rfl rfl rfl rfl (Nat.le_of_ble_eq_true rfl) dX4_init_43 (fun H locs hR hS => ?_)
  refine lv_aload_n hx hb dX4_init_46 rfl (lv_at hl 0 rfl) ?_
  refine ct_new C0 hR hS (ci := 1) (fs := [.null, .null, .null, .int 0, .int 0, .int 0, .int 0, .int 0, .int 0]) lw_in_X1 tyX1 tyX1_ok uw_33 uw_34 uw_3 rfl (fun j hj => by rcases (show j = 0 ∨ j = 1 ∨ j = 2 ∨ j = 3 ∨ j = 4 ∨ j = 5 ∨ j = 6 ∨ j = 7 ∨ j = 8 by omega) with rfl | rfl | rfl | rfl | rfl | rfl | rfl | rfl | rfl <;> rfl) (Nat.le_of_ble_eq_true rfl) (Nat.le_of_ble_eq_true rfl) dX4_init_47 (fun H hR hS => ?_)
  refine lv_dup hx hb dX4_init_50 rfl ?_
  refine ct_end (ct_runN C0 hR (k_X1_init (by decide) ct_eq) hY.2.1 mi_X1 rfl rfl rfl hi_X1 ⟨(Nat.le_of_ble_eq_true rfl), (Nat.le_of_ble_eq_true rfl)⟩ hl (Nat.le_of_ble_eq_true rfl) dX4_init_51 ⟨(Nat.le_of_ble_eq_true rfl), (Nat.le_of_ble_eq_true rfl)⟩) hS (fun H locs hR hS => ?_)
  refine ct_putF C0 hR hS (x := 0) (by decide) ((ct_EL_ne (by decide) (by decide)).trans ((ct_ne (by decide)).trans ct_eq)) rfl lw_in_X4 tyX4 tyX4_ok nmX4 4 (by decide) uw_91 rfl rfl rfl rfl rfl rfl (Nat.le_of_ble_eq_true rfl) dX4_init_54 (fun H locs hR hS => ?_)
  refine lv_aload_n hx hb dX4_init_57 rfl (lv_at hl 0 rfl) ?_
  refine ct_new C0 hR hS (ci := 0) (fs := [.null, .int 0, .int 0]) lw_in_X0 tyX0 tyX0_ok uw_64 uw_65 uw_4 rfl (fun j hj => by rcases (show j = 0 ∨ j = 1 ∨ j = 2 by omega) with rfl | rfl | rfl <;> rfl) (Nat.le_of_ble_eq_true rfl) (Nat.le_of_ble_eq_true rfl) dX4_init_58 (fun H hR hS => ?_)
  refine lv_dup hx hb dX4_init_61 rfl ?_
  refine ct_end (ct_runI C0 hR (k_X0_init (by decide) ct_eq) uw_66 mi_X0 rfl rfl rfl hi_X0 ⟨(Nat.le_of_ble_eq_true rfl), (Nat.le_of_ble_eq_true rfl)⟩ hl (Nat.le_of_ble_eq_true rfl) dX4_init_62 ⟨(Nat.le_of_ble_eq_true rfl), (Nat.le_of_ble_eq_true rfl)⟩) hS (fun H locs hR hS => ?_)
  refine ct_putF C0 hR hS (x := 0) (by decide) ((ct_EA_ne (by decide) (by decide)).trans ((ct_ne (by decide)).trans ct_eq)) rfl lw_in_X4 tyX4 tyX4_ok nmX4 5 (by decide) uw_92 rfl rfl rfl rfl rfl rfl (Nat.le_of_ble_eq_true rfl) dX4_init_65 (fun H locs hR hS => ?_)
  refine lv_aload_n hx hb dX4_init_68 rfl (lv_at hl 0 rfl) ?_
  refine lv_iconst (v := 2) hx hb dX4_init_69 (by decide) ?_
  refine ct_newq C0 hR hS (t0 := 2) (n := 2) uw_33 hY.2.2.2.2.1 rfl (by decide) rfl (by decide) (Nat.le_of_ble_eq_true rfl) (Nat.le_of_ble_eq_true rfl) dX4_init_70 (fun H hR hS => ?_)
  refine ct_putF C0 hR hS (x := 0) (by decide) ((ct_ne (by decide)).trans ct_eq) rfl lw_in_X4 tyX4 tyX4_ok nmX4 6 (by decide) uw_93 rfl rfl rfl rfl rfl rfl (Nat.le_of_ble_eq_true rfl) dX4_init_73 (fun H locs hR hS => ?_)
  refine lv_aload_n hx hb dX4_init_76 rfl (lv_at hl 0 rfl) ?_
  refine lv_bipush (v := 16) hx hb dX4_init_77 (by decide) ?_
  refine ct_newi C0 hR hS (n := 16) (by decide) rfl (by decide) (Nat.le_of_ble_eq_true rfl) (Nat.le_of_ble_eq_true rfl) dX4_init_79 (fun H hR hS => ?_)
  refine ct_putF C0 hR hS (x := 0) (by decide) ((ct_ne (by decide)).trans ct_eq) rfl lw_in_X4 tyX4 tyX4_ok nmX4 7 (by decide) uw_94 rfl rfl rfl rfl rfl rfl (Nat.le_of_ble_eq_true rfl) dX4_init_81 (fun H locs hR hS => ?_)
  refine lv_iconst (v := 0) hx hb dX4_init_84 (by decide) ?_
  refine lv_istore_n (lv' := [(1, .int (nI 0)), (0, .ref (B + 0))]) hx hb dX4_init_85 rfl hl (by decide) rfl (fun ls hl => ?_)
  refine k_X4_loop1 (τ := τ) C0 8 0 rfl H locs ls ⟨?_, by rw [hR.2]⟩ hS (lv_sub hl [1, 0] rfl)
  have hw := hR.1
  rw [wF_congr (E' := ct_EM cI cZ cL cR B τ 0 0) (fun x hx => ?_)] at hw
  · exact hw
  · by_cases h18 : 18 ≤ x
    · rcases (show x < 114 ∨ x = 114 ∨ x = 115 by omega) with h1 | rfl | rfl
      · have h2 : ¬ isR x := by unfold isR; omega
        simp only [va_up, ct_EA, ct_EM, show ¬ x = 0 by omega, show ¬ x = 115 by omega, show ¬ x = 114 by omega, show ¬ x = 16 by omega, show ¬ x = 17 by omega, show 17 < x by omega, show ¬ x = 1 by omega, if_false, if_true]
        by_cases h3 : (x - (17 + 1)) % 4 = 0
        · rw [if_pos h3, cell_L (show isL x by unfold isL; omega), ct_s0z h2]
        · rw [if_neg h3]
          rcases (show isL (x - 1) ∨ isL (x - 2) ∨ isL (x - 3) by unfold isL; omega) with h4 | h4 | h4
          · have h5 : x = x - 1 + 1 := by unfold isL at h4; omega
            have h6 := cell_L1 (cI := cI) (cZ := cZ) (cL := cL) (cR := cR) (B := B) (σ := ct_s0) (τ := τ) h4
            rw [← h5] at h6
            rw [h6, ct_s0z h2]
          · have h5 : x = x - 2 + 2 := by unfold isL at h4; omega
            have h6 := cell_L2 (cI := cI) (cZ := cZ) (cL := cL) (cR := cR) (B := B) (σ := ct_s0) (τ := τ) h4
            rw [← h5] at h6
            rw [h6, ct_s0z h2]
          · have h5 : x = x - 3 + 3 := by unfold isL at h4; omega
            have h6 := cell_L3 (cI := cI) (cZ := cZ) (cL := cL) (cR := cR) (B := B) (σ := ct_s0) (τ := τ) h4
            rw [← h5] at h6
            rw [h6, ct_s0z h2]
      · simp [va_up, ct_EM]
      · have h2 : ct_s0 115 = ct_z := ct_s0z (by unfold isR; omega)
        simp [va_up, ct_EM, cell_115, h2]
    · have hz : ct_s0 x = ct_z := ct_s0z (by unfold isR; omega)
      rcases (show x = 0 ∨ x = 1 ∨ x = 2 ∨ x = 3 ∨ x = 4 ∨ x = 5 ∨ x = 6 ∨ x = 7 ∨ x = 8 ∨ x = 9 ∨ x = 10 ∨ x = 11 ∨ x = 12 ∨ x = 13 ∨ x = 14 ∨ x = 15 ∨ x = 16 ∨ x = 17 by omega) with rfl | rfl | rfl | rfl | rfl | rfl | rfl | rfl | rfl | rfl | rfl | rfl | rfl | rfl | rfl | rfl | rfl | rfl <;> simp [va_up, ct_EM, ct_EL, ct_ET, ct_EA, cellA, hz, e_main, e_tape, e_light, e_acts]
abbrev ct_f5 : va_E := e_obj 5 [.int 0, .int 0, .null, .null, .null, .null, .null, .null, .null, .int 0, .null, .int 0, .int 0, .int 0, .int 0, .int 0, .int 0, .int 0, .int 0, .null, .int 0, .int 0, .int 0, .null, .null, .null, .int 0]
def ct_t0 : Mem := fun c k => if c = 141 ∧ k < 8 then -1 else 0
def ct_E5 (cI cZ cL cR : ClassId) (B : Nat) (E : Nat → va_E) : Nat → va_E := fun x => if x < 140 then E x else cellA cI cZ cL cR B ct_s0 ct_t0 x
set_option maxRecDepth 100000 in
set_option maxHeartbeats 4000000 in
theorem k_X5_init (he : E 140 = ct_f5) : ct_C l yX5_init (Cond.code yX5_init cX5_init 1 none :: lw_u) rmK5 D cI cZ cL cR B [.ref (B + 140)] 141 E 153 (ct_E5 cI cZ cL cR B E) 12 1186 := by
  refine ct_of (cc := cX5_init) (maxL := 1) (own := RX5) (by decide) rfl rfl (Nat.le_of_ble_eq_true rfl) (fun p e s m below meth c0 C0 hR ls hl => ?_)
  have hS : va_S (lm_A B) s.heap s.heap [] := va_S.rf
  have hl : lv_has ls 1 [(0, .ref (B + 140))] := hl
  obtain ⟨hx, hb, hml, hr, hlk, hown, hts, hK, hY, hin, hBs⟩ := id C0
  refine lv_aload_n hx hb dX5_init_0 rfl (lv_at hl 0 rfl) ?_
  refine ct_obj C0 hl uw_507 dX5_init_1 (Nat.le_of_ble_eq_true rfl) (Nat.le_of_ble_eq_true rfl) ?_
  refine lv_aload_n hx hb dX5_init_4 rfl (lv_at hl 0 rfl) ?_
  refine lv_bipush (v := 8) hx hb dX5_init_5 (by decide) ?_
  refine ct_newi C0 hR hS (n := 8) (by decide) rfl (by decide) (Nat.le_of_ble_eq_true rfl) (Nat.le_of_ble_eq_true rfl) dX5_init_7 (fun H hR hS => ?_)
  refine lv_dup hx hb dX5_init_9 rfl ?_
  refine lv_iconst (v := 0) hx hb dX5_init_10 (by decide) ?_
  refine lv_iconst (v := (-1)) hx hb dX5_init_11 (by decide) ?_
  refine ct_ist C0 hR hS (x := 141) (by decide) ct_eq (by decide) dX5_init_12 (fun H locs hR hS => ?_)
  refine lv_dup hx hb dX5_init_13 rfl ?_
  refine lv_iconst (v := 1) hx hb dX5_init_14 (by decide) ?_
  refine lv_iconst (v := (-1)) hx hb dX5_init_15 (by decide) ?_
  refine ct_ist C0 hR hS (x := 141) (by decide) ct_eq (by decide) dX5_init_16 (fun H locs hR hS => ?_)
  refine lv_dup hx hb dX5_init_17 rfl ?_
  refine lv_iconst (v := 2) hx hb dX5_init_18 (by decide) ?_
  refine lv_iconst (v := (-1)) hx hb dX5_init_19 (by decide) ?_
  refine ct_ist C0 hR hS (x := 141) (by decide) ct_eq (by decide) dX5_init_20 (fun H locs hR hS => ?_)
  refine lv_dup hx hb dX5_init_21 rfl ?_
  refine lv_iconst (v := 3) hx hb dX5_init_22 (by decide) ?_
  refine lv_iconst (v := (-1)) hx hb dX5_init_23 (by decide) ?_
  refine ct_ist C0 hR hS (x := 141) (by decide) ct_eq (by decide) dX5_init_24 (fun H locs hR hS => ?_)
  refine lv_dup hx hb dX5_init_25 rfl ?_
  refine lv_iconst (v := 4) hx hb dX5_init_26 (by decide) ?_
  refine lv_iconst (v := (-1)) hx hb dX5_init_27 (by decide) ?_
  refine ct_ist C0 hR hS (x := 141) (by decide) ct_eq (by decide) dX5_init_28 (fun H locs hR hS => ?_)
  refine lv_dup hx hb dX5_init_29 rfl ?_
  refine lv_iconst (v := 5) hx hb dX5_init_30 (by decide) ?_
  refine lv_iconst (v := (-1)) hx hb dX5_init_31 (by decide) ?_
  refine ct_ist C0 hR hS (x := 141) (by decide) ct_eq (by decide) dX5_init_32 (fun H locs hR hS => ?_)
  refine lv_dup hx hb dX5_init_33 rfl ?_
  refine lv_bipush (v := 6) hx hb dX5_init_34 (by decide) ?_
  refine lv_iconst (v := (-1)) hx hb dX5_init_36 (by decide) ?_
  refine ct_ist C0 hR hS (x := 141) (by decide) ct_eq (by decide) dX5_init_37 (fun H locs hR hS => ?_)
  refine lv_dup hx hb dX5_init_38 rfl ?_
  refine lv_bipush (v := 7) hx hb dX5_init_39 (by decide) ?_
  refine lv_iconst (v := (-1)) hx hb dX5_init_41 (by decide) ?_
  refine ct_ist C0 hR hS (x := 141) (by decide) ct_eq (by decide) dX5_init_42 (fun H locs hR hS => ?_)
  refine ct_putF C0 hR hS (x := 140) (by decide) ((ct_ne (by decide)).trans ((ct_ne (by decide)).trans ((ct_ne (by decide)).trans ((ct_ne (by decide)).trans ((ct_ne (by decide)).trans ((ct_ne (by decide)).trans ((ct_ne (by decide)).trans ((ct_ne (by decide)).trans ((ct_ne (by decide)).trans he))))))))) rfl lw_in_X5 tyX5 tyX5_ok nmX5 2 (by decide) uw_510 rfl rfl rfl rfl rfl rfl (Nat.le_of_ble_eq_true rfl) dX5_init_43 (fun H locs hR hS => ?_)
  refine lv_aload_n hx hb dX5_init_46 rfl (lv_at hl 0 rfl) ?_
  refine lv_bipush (v := 8) hx hb dX5_init_47 (by decide) ?_
  refine ct_newi C0 hR hS (n := 8) (by decide) rfl (by decide) (Nat.le_of_ble_eq_true rfl) (Nat.le_of_ble_eq_true rfl) dX5_init_49 (fun H hR hS => ?_)
  refine ct_putF C0 hR hS (x := 140) (by decide) ((ct_ne (by decide)).trans ct_eq) rfl lw_in_X5 tyX5 tyX5_ok nmX5 3 (by decide) uw_511 rfl rfl rfl rfl rfl rfl (Nat.le_of_ble_eq_true rfl) dX5_init_51 (fun H locs hR hS => ?_)
  refine lv_aload_n hx hb dX5_init_54 rfl (lv_at hl 0 rfl) ?_
  refine lv_sipush (v := 320) hx hb dX5_init_55 (by decide) ?_
  refine ct_newi C0 hR hS (n := 320) (by decide) rfl (by decide) (Nat.le_of_ble_eq_true rfl) (Nat.le_of_ble_eq_true rfl) dX5_init_58 (fun H hR hS => ?_)
  refine ct_putF C0 hR hS (x := 140) (by decide) ((ct_ne (by decide)).trans ct_eq) rfl lw_in_X5 tyX5 tyX5_ok nmX5 4 (by decide) uw_512 rfl rfl rfl rfl rfl rfl (Nat.le_of_ble_eq_true rfl) dX5_init_60 (fun H locs hR hS => ?_)
  refine lv_aload_n hx hb dX5_init_63 rfl (lv_at hl 0 rfl) ?_
  refine lv_bipush (v := 24) hx hb dX5_init_64 (by decide) ?_
  refine ct_newi C0 hR hS (n := 24) (by decide) rfl (by decide) (Nat.le_of_ble_eq_true rfl) (Nat.le_of_ble_eq_true rfl) dX5_init_66 (fun H hR hS => ?_)
  refine ct_putF C0 hR hS (x := 140) (by decide) ((ct_ne (by decide)).trans ct_eq) rfl lw_in_X5 tyX5 tyX5_ok nmX5 5 (by decide) uw_513 rfl rfl rfl rfl rfl rfl (Nat.le_of_ble_eq_true rfl) dX5_init_68 (fun H locs hR hS => ?_)
  refine lv_aload_n hx hb dX5_init_71 rfl (lv_at hl 0 rfl) ?_
  refine lv_bipush (v := 24) hx hb dX5_init_72 (by decide) ?_
  refine ct_newi C0 hR hS (n := 24) (by decide) rfl (by decide) (Nat.le_of_ble_eq_true rfl) (Nat.le_of_ble_eq_true rfl) dX5_init_74 (fun H hR hS => ?_)
  refine ct_putF C0 hR hS (x := 140) (by decide) ((ct_ne (by decide)).trans ct_eq) rfl lw_in_X5 tyX5 tyX5_ok nmX5 6 (by decide) uw_514 rfl rfl rfl rfl rfl rfl (Nat.le_of_ble_eq_true rfl) dX5_init_76 (fun H locs hR hS => ?_)
  refine lv_aload_n hx hb dX5_init_79 rfl (lv_at hl 0 rfl) ?_
  refine lv_bipush (v := 24) hx hb dX5_init_80 (by decide) ?_
  refine ct_newi C0 hR hS (n := 24) (by decide) rfl (by decide) (Nat.le_of_ble_eq_true rfl) (Nat.le_of_ble_eq_true rfl) dX5_init_82 (fun H hR hS => ?_)
  refine ct_putF C0 hR hS (x := 140) (by decide) ((ct_ne (by decide)).trans ct_eq) rfl lw_in_X5 tyX5 tyX5_ok nmX5 7 (by decide) uw_515 rfl rfl rfl rfl rfl rfl (Nat.le_of_ble_eq_true rfl) dX5_init_84 (fun H locs hR hS => ?_)
  refine lv_aload_n hx hb dX5_init_87 rfl (lv_at hl 0 rfl) ?_
  refine lv_sipush (v := 576) hx hb dX5_init_88 (by decide) ?_
  refine ct_newi C0 hR hS (n := 576) (by decide) rfl (by decide) (Nat.le_of_ble_eq_true rfl) (Nat.le_of_ble_eq_true rfl) dX5_init_91 (fun H hR hS => ?_)
  refine ct_putF C0 hR hS (x := 140) (by decide) ((ct_ne (by decide)).trans ct_eq) rfl lw_in_X5 tyX5 tyX5_ok nmX5 8 (by decide) uw_516 rfl rfl rfl rfl rfl rfl (Nat.le_of_ble_eq_true rfl) dX5_init_93 (fun H locs hR hS => ?_)
  refine lv_aload_n hx hb dX5_init_96 rfl (lv_at hl 0 rfl) ?_
  refine lv_bipush (v := 120) hx hb dX5_init_97 (by decide) ?_
  refine ct_newi C0 hR hS (n := 120) (by decide) rfl (by decide) (Nat.le_of_ble_eq_true rfl) (Nat.le_of_ble_eq_true rfl) dX5_init_99 (fun H hR hS => ?_)
  refine ct_putF C0 hR hS (x := 140) (by decide) ((ct_ne (by decide)).trans ct_eq) rfl lw_in_X5 tyX5 tyX5_ok nmX5 10 (by decide) uw_518 rfl rfl rfl rfl rfl rfl (Nat.le_of_ble_eq_true rfl) dX5_init_101 (fun H locs hR hS => ?_)
  refine lv_aload_n hx hb dX5_init_104 rfl (lv_at hl 0 rfl) ?_
  refine lv_bipush (v := 16) hx hb dX5_init_105 (by decide) ?_
  refine ct_newi C0 hR hS (n := 16) (by decide) rfl (by decide) (Nat.le_of_ble_eq_true rfl) (Nat.le_of_ble_eq_true rfl) dX5_init_107 (fun H hR hS => ?_)
  refine ct_putF C0 hR hS (x := 140) (by decide) ((ct_ne (by decide)).trans ct_eq) rfl lw_in_X5 tyX5 tyX5_ok nmX5 19 (by decide) uw_527 rfl rfl rfl rfl rfl rfl (Nat.le_of_ble_eq_true rfl) dX5_init_109 (fun H locs hR hS => ?_)
  refine lv_aload_n hx hb dX5_init_112 rfl (lv_at hl 0 rfl) ?_
  refine lv_iconst (v := 2) hx hb dX5_init_113 (by decide) ?_
  refine ct_newz C0 hR hS uw_535 (n := 2) (by decide) rfl (by decide) (Nat.le_of_ble_eq_true rfl) (Nat.le_of_ble_eq_true rfl) dX5_init_114 (fun H hR hS => ?_)
  refine ct_putF C0 hR hS (x := 140) (by decide) ((ct_ne (by decide)).trans ct_eq) rfl lw_in_X5 tyX5 tyX5_ok nmX5 23 (by decide) uw_531 rfl rfl rfl rfl rfl rfl (Nat.le_of_ble_eq_true rfl) dX5_init_116 (fun H locs hR hS => ?_)
  refine lv_aload_n hx hb dX5_init_119 rfl (lv_at hl 0 rfl) ?_
  refine lv_bipush (v := 48) hx hb dX5_init_120 (by decide) ?_
  refine ct_newi C0 hR hS (n := 48) (by decide) rfl (by decide) (Nat.le_of_ble_eq_true rfl) (Nat.le_of_ble_eq_true rfl) dX5_init_122 (fun H hR hS => ?_)
  refine ct_putF C0 hR hS (x := 140) (by decide) ((ct_ne (by decide)).trans ct_eq) rfl lw_in_X5 tyX5 tyX5_ok nmX5 24 (by decide) uw_532 rfl rfl rfl rfl rfl rfl (Nat.le_of_ble_eq_true rfl) dX5_init_124 (fun H locs hR hS => ?_)
  refine lv_aload_n hx hb dX5_init_127 rfl (lv_at hl 0 rfl) ?_
  refine lv_bipush (v := 16) hx hb dX5_init_128 (by decide) ?_
  refine ct_newi C0 hR hS (n := 16) (by decide) rfl (by decide) (Nat.le_of_ble_eq_true rfl) (Nat.le_of_ble_eq_true rfl) dX5_init_130 (fun H hR hS => ?_)
  refine ct_putF C0 hR hS (x := 140) (by decide) ((ct_ne (by decide)).trans ct_eq) rfl lw_in_X5 tyX5 tyX5_ok nmX5 25 (by decide) uw_533 rfl rfl rfl rfl rfl rfl (Nat.le_of_ble_eq_true rfl) dX5_init_132 (fun H locs hR hS => ?_)
  refine ct_ret C0 hR hS (fun x hx => ?_) dX5_init_135
  by_cases h1 : x < 140
  · simp only [va_up, ct_E5, h1, if_true, show ¬ x = 140 by omega, show ¬ x = 141 by omega, show ¬ x = 142 by omega, show ¬ x = 143 by omega, show ¬ x = 144 by omega, show ¬ x = 145 by omega, show ¬ x = 146 by omega, show ¬ x = 147 by omega, show ¬ x = 148 by omega, show ¬ x = 149 by omega, show ¬ x = 150 by omega, show ¬ x = 151 by omega, show ¬ x = 152 by omega, if_false]
  · have hz : x ≠ 141 → ct_t0 x = ct_z := fun h => by
      funext k
      simp [ct_t0, h]
    rcases (show x = 140 ∨ x = 141 ∨ x = 142 ∨ x = 143 ∨ x = 144 ∨ x = 145 ∨ x = 146 ∨ x = 147 ∨ x = 148 ∨ x = 149 ∨ x = 150 ∨ x = 151 ∨ x = 152 by omega) with rfl | rfl | rfl | rfl | rfl | rfl | rfl | rfl | rfl | rfl | rfl | rfl | rfl
    · simp [va_up, ct_E5, cell_140, hz, e_model]
    · have h2 : (upd (upd (upd (upd (upd (upd (upd (upd ct_z (0 : Int32).toNatClampNeg (-1)) (1 : Int32).toNatClampNeg (-1)) (2 : Int32).toNatClampNeg (-1)) (3 : Int32).toNatClampNeg (-1)) (4 : Int32).toNatClampNeg (-1)) (5 : Int32).toNatClampNeg (-1)) (6 : Int32).toNatClampNeg (-1)) (7 : Int32).toNatClampNeg (-1)) = ct_t0 141 := by
        funext k
        by_cases hk : k < 8
        · rcases (show k = 0 ∨ k = 1 ∨ k = 2 ∨ k = 3 ∨ k = 4 ∨ k = 5 ∨ k = 6 ∨ k = 7 by omega) with rfl | rfl | rfl | rfl | rfl | rfl | rfl | rfl <;> rfl
        · have e0 : (0 : Int32).toNatClampNeg = 0 := rfl
          have e1 : (1 : Int32).toNatClampNeg = 1 := rfl
          have e2 : (2 : Int32).toNatClampNeg = 2 := rfl
          have e3 : (3 : Int32).toNatClampNeg = 3 := rfl
          have e4 : (4 : Int32).toNatClampNeg = 4 := rfl
          have e5 : (5 : Int32).toNatClampNeg = 5 := rfl
          have e6 : (6 : Int32).toNatClampNeg = 6 := rfl
          have e7 : (7 : Int32).toNatClampNeg = 7 := rfl
          simp only [e0, e1, e2, e3, e4, e5, e6, e7, upd, ct_t0, hk, show ¬ k = 0 by omega, show ¬ k = 1 by omega, show ¬ k = 2 by omega, show ¬ k = 3 by omega, show ¬ k = 4 by omega, show ¬ k = 5 by omega, show ¬ k = 6 by omega, show ¬ k = 7 by omega, if_false, and_false]
      simp only [va_up, ct_E5, cell_141, if_true, if_false, show ¬ (141 < 140) by decide, show ¬ (141 = 140) by decide, show ¬ (141 = 142) by decide, show ¬ (141 = 143) by decide, show ¬ (141 = 144) by decide, show ¬ (141 = 145) by decide, show ¬ (141 = 146) by decide, show ¬ (141 = 147) by decide, show ¬ (141 = 148) by decide, show ¬ (141 = 149) by decide, show ¬ (141 = 150) by decide, show ¬ (141 = 151) by decide, show ¬ (141 = 152) by decide]
      rw [← h2]
      rfl
    all_goals simp [va_up, ct_E5, cell_142, cell_143, cell_144, cell_145, cell_146, cell_147, cell_148, cell_149, cell_150, cell_151, cell_152, hz]
end
