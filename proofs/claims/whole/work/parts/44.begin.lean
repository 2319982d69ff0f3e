/-! THE START: what the tables and the Statement give; the two objects; then the loop -/
theorem tbl_1 {w : Cond} (h : w ∈ tables_1_1) : w ∈ lw_tbl := List.mem_append_right _ (List.mem_append_left _ h)
theorem tbl_2 {w : Cond} (h : w ∈ tables_1_2) : w ∈ lw_tbl := List.mem_append_right _ (List.mem_append_right _ (List.mem_append_left _ h))
theorem tbl_3 {w : Cond} (h : w ∈ tables_1_3) : w ∈ lw_tbl := List.mem_append_right _ (List.mem_append_right _ (List.mem_append_right _ (List.mem_append_left _ h)))
theorem tbw_1 : Cond.methodLinkNest RX4 17 yX3_init "LampLogs" ∈ lw_tbl := tbl_1 (List.mem_of_getElem? (i := 22) (by decide +kernel))
theorem tbw_2 : Cond.methodLinkNest RX4 24 yX1_init "LampLogs" ∈ lw_tbl := tbl_1 (List.mem_of_getElem? (i := 48) (by decide +kernel))
theorem tbw_3 : Cond.methodLinkNest RX0 17 yX1_init "LampLogs" ∈ lw_tbl := tbl_1 (List.mem_of_getElem? (i := 105) (by decide +kernel))
theorem tbw_4 : Cond.methodLinkNest RX4 50 yX2_init "LampLogs" ∈ lw_tbl := tbl_1 (List.mem_of_getElem? (i := 118) (by decide +kernel))
theorem tbw_5 : Cond.arrayOver (.object "LampLogs$Light") ∈ lw_tbl := tbl_1 (List.mem_of_getElem? (i := 104) (by decide +kernel))
theorem tbw_6 : Cond.arrayOver (.object "LampLogs$Row") ∈ lw_tbl := tbl_1 (List.mem_of_getElem? (i := 19) (by decide +kernel))
theorem tbw_7 : Cond.methodLinkNest RX1 54 yX4_isSeenBy "LampLogs" ∈ lw_tbl := tbl_2 (List.mem_of_getElem? (i := 115) (by decide +kernel))
theorem tbw_8 : Cond.methodLinkNest RX1 58 yX4_bitIf "LampLogs" ∈ lw_tbl := tbl_2 (List.mem_of_getElem? (i := 118) (by decide +kernel))
theorem tbw_9 : Cond.methodLinkNest RX3 51 yX4_isWithin "LampLogs" ∈ lw_tbl := tbl_2 (List.mem_of_getElem? (i := 23) (by decide +kernel))
theorem tbw_10 : Cond.laysStatic "LampLogs" "PARENT" "[I" ∈ lw_tbl := tbl_3 (List.mem_of_getElem? (i := 87) (by decide +kernel))
theorem tbw_11 : Cond.laysStatic "LampLogs" "SIZE_BODY" "[I" ∈ lw_tbl := tbl_3 (List.mem_of_getElem? (i := 97) (by decide +kernel))
theorem tbw_12 : Cond.laysStatic "LampLogs" "MARK_BODY" "[I" ∈ lw_tbl := tbl_3 (List.mem_of_getElem? (i := 99) (by decide +kernel))
theorem st_one {args : Array Value} {s : State} {n : String} {f : Nat → Int32} (hl : (Cond.laysStatic "LampLogs" n "[I").before args s = true) (hini : (Cond.initialized "LampLogs").before args s = true) (harr : (Cond.arrayOf (.static "LampLogs" n "[I") .int).before args s = true) (hlen : (Cond.eq (.length (.static "LampLogs" n "[I")) (.int (Int32.ofNat 6))).before args s = true) (hel : ∀ j : Nat, j < 6 → (Cond.eq (.elem (.static "LampLogs" n "[I") (.int (Int32.ofNat j))) (.int (f j))).before args s = true) : lm_st n f s.heap.size s := by
  have hA : ∀ a : Nat, a < s.heap.size → ¬ lm_A s.heap.size a := fun a h q => absurd h (Nat.not_lt.mpr q)
  obtain ⟨t, ht, hT⟩ := va_Tof (tm := .static "LampLogs" n "[I") (ty := .int) (N := 6) (f := fun j => .int (f j)) (A := lm_A s.heap.size) (by decide) harr (va_eqt hlen) (fun j hj => va_eqt (hel j hj)) hA
  exact ⟨t, va_Zof hl hini ht hA, hT⟩
theorem st_Y {args : Array Value} {s : State} (h : ∀ w ∈ lw_tbl, w.before args s = true) : lm_Y s := ⟨va_Nw.of rfl (h _ tbw_1), va_Nw.of rfl (h _ tbw_2), va_Nw.of rfl (h _ tbw_3), va_Nw.of rfl (h _ tbw_4), va_AO.of (h _ tbw_5), va_AO.of (h _ tbw_6)⟩
theorem st_e1 : ∀ j : Nat, j < 6 → (Cond.eq (.elem (.static "LampLogs" "PARENT" "[I") (.int (Int32.ofNat j))) (.int (lm_t1 j))) ∈ flatC (Jvm.Cond.and given_1 narrow_1) := by decide +kernel
theorem st_e2 : ∀ j : Nat, j < 6 → (Cond.eq (.elem (.static "LampLogs" "SIZE_BODY" "[I") (.int (Int32.ofNat j))) (.int (lm_t2 j))) ∈ flatC (Jvm.Cond.and given_1 narrow_1) := by decide +kernel
theorem st_e3 : ∀ j : Nat, j < 6 → (Cond.eq (.elem (.static "LampLogs" "MARK_BODY" "[I") (.int (Int32.ofNat j))) (.int (lm_t3 j))) ∈ flatC (Jvm.Cond.and given_1 narrow_1) := by decide +kernel
theorem st_X {args : Array Value} {s : State} (h : ∀ w ∈ lw_tbl, w.before args s = true) (hg : (Jvm.Cond.and given_1 narrow_1).before args s = true) : lm_X s.heap.size s := by
  have hs := flat_of_before _ hg
  have hini : (Cond.initialized "LampLogs").before args s = true := h _ (List.mem_filter.mp uw_1).1
  exact ⟨st_one (h _ tbw_10) hini (hs _ (by decide +kernel)) (hs _ (by decide +kernel)) (fun j hj => hs _ (st_e1 j hj)), st_one (h _ tbw_11) hini (hs _ (by decide +kernel)) (hs _ (by decide +kernel)) (fun j hj => hs _ (st_e2 j hj)), st_one (h _ tbw_12) hini (hs _ (by decide +kernel)) (hs _ (by decide +kernel)) (fun j hj => hs _ (st_e3 j hj)), va_Nw.of rfl (h _ tbw_7), va_Nw.of rfl (h _ tbw_8), va_Nw.of rfl (h _ tbw_9)⟩
theorem st_K {args : Array Value} {s : State} (hu : ∀ w ∈ lw_u, w.before args s = true) (h : ∀ w ∈ lw_tbl, w.before args s = true) : ∃ (D : va_G) (cI cZ cL cR : ClassId), va_K D vwCl (tyl cI cZ cL cR) s := by
  obtain ⟨c0, i0, k0⟩ := u_known (C := RX0) (T := TX0) (N := 3) (n := 3) hu lw_in_X0 (hu _ uw_65)
  obtain ⟨c1, i1, k1⟩ := u_known (C := RX1) (T := TX1) (N := 9) (n := 9) hu lw_in_X1 (hu _ uw_34)
  obtain ⟨c2, i2, k2⟩ := u_known (C := RX2) (T := TX2) (N := 4) (n := 4) hu lw_in_X2 (hu _ uw_75)
  obtain ⟨c3, i3, k3⟩ := u_known (C := RX3) (T := TX3) (N := 5) (n := 5) hu lw_in_X3 (hu _ uw_20)
  obtain ⟨c4, i4, k4⟩ := u_known (C := RX4) (T := TX4) (N := 11) (n := 11) hu lw_in_X4 (hu _ uw_11)
  obtain ⟨c5, i5, k5⟩ := u_known (C := RX5) (T := TX5) (N := 27) (n := 27) hu lw_in_X5 (hu _ uw_503)
  obtain ⟨cI, kI, pI, a1, a2, a3⟩ := Cond.arrayClass_spec (args := args) (first := s) (o := none) (s := s) (idx := []) (type := .int) (hu _ uw_32)
  obtain ⟨cZ, kZ, pZ, z1, z2, z3⟩ := Cond.arrayClass_spec (args := args) (first := s) (o := none) (s := s) (idx := []) (type := .boolean) (hu _ uw_535)
  obtain ⟨pL, cL, kL, l1, l2, l3, l4, l5⟩ := Cond.arrayOver_spec (args := args) (first := s) (o := none) (s := s) (idx := []) (n := "LampLogs$Light") (h _ tbw_5)
  obtain ⟨pR, cR, kR, r1, r2, r3, r4, r5⟩ := Cond.arrayOver_spec (args := args) (first := s) (o := none) (s := s) (idx := []) (n := "LampLogs$Row") (h _ tbw_6)
  refine ⟨(fun k => match k with | 0 => c0 | 1 => c1 | 2 => c2 | 3 => c3 | 4 => c4 | _ => c5, fun k => match k with | 0 => i0 | 1 => i1 | 2 => i2 | 3 => i3 | 4 => i4 | _ => i5), cI, cZ, cL, cR, fun k q hq => ?_, fun k q hq => ?_⟩
  · match k, hq with
    | 0, hq => cases hq; exact k0
    | 1, hq => cases hq; exact k1
    | 2, hq => cases hq; exact k2
    | 3, hq => cases hq; exact k3
    | 4, hq => cases hq; exact k4
    | 5, hq => cases hq; exact k5
    | k + 6, hq => simp [vwCl] at hq
  · match k, hq with
    | 0, hq => cases hq; exact ⟨fun n z => ⟨fun k h => (by cases h), kI, a2, pI, a3⟩, a1⟩
    | 1, hq => cases hq; exact ⟨fun n z => ⟨fun k h => (by cases h), kZ, z2, pZ, z3⟩, z1⟩
    | 2, hq => cases hq; exact ⟨fun n z => ⟨fun k h => (by cases h), kL, l3, pL, l4⟩, kL, pL, l3, l4, l1, l5⟩
    | 3, hq => cases hq; exact ⟨fun n z => ⟨fun k h => (by cases h), kR, r3, pR, r4⟩, kR, pR, r3, r4, r1, r5⟩
    | k + 4, hq => simp [tyl] at hq
theorem st_ref {D : va_G} {a n : Nat} {cA : ClassId} {f g : Nat → Option Nat} {H : Heap} (h : va_at D vwCl (a, e_ref cA n f) H) (hfg : ∀ i, i < n → f i = g i) : va_at D vwCl (a, e_ref cA n g) H := by
  have h1 : H[a]? = some (vp_cell cA (n, .inr (.inr (.inr (.inr f))))) := h
  show H[a]? = some (vp_cell cA (n, .inr (.inr (.inr (.inr g)))))
  rw [h1, vp_cell_q, vp_cell_q]
  unfold arrV
  have e : (Array.ofFn (n := n) fun j => va_rf (f j.val)) = (Array.ofFn (n := n) fun j => va_rf (g j.val)) := by
    congr 1
    funext j
    rw [hfg j.val j.isLt]
  rw [e]
theorem st_wl {D : va_G} {cI cZ cL cR : ClassId} {B : Nat} {H : Heap} (h : va_P D vwCl (wF B 153 (ct_E5 cI cZ cL cR B (va_up (ct_EM cI cZ cL cR B ct_t0 8 2) 140 ct_f5))) H) : va_P D vwCl (wl cI cZ cL cR B ct_s0 ct_t0) H := by
  intro k q hq
  obtain ⟨hk, rfl⟩ := wl_lt hq
  have h1 := h k _ (wF_get hk)
  by_cases e1 : k = 1
  · subst e1
    have e : ct_E5 cI cZ cL cR B (va_up (ct_EM cI cZ cL cR B ct_t0 8 2) 140 ct_f5) 1 = e_ref cR 8 (fun i => if i < 8 then some (B + (116 + 2 * i)) else none) := by simp [ct_E5, va_up, ct_EM]
    rw [e] at h1
    exact st_ref h1 (fun i hi => if_pos hi)
  by_cases e2 : k = 114
  · subst e2
    have e : ct_E5 cI cZ cL cR B (va_up (ct_EM cI cZ cL cR B ct_t0 8 2) 140 ct_f5) 114 = e_ref cL 2 (fun i => if i < 2 then some (B + (132 + 4 * i)) else none) := by simp [ct_E5, va_up, ct_EM]
    rw [e] at h1
    exact st_ref h1 (fun i hi => if_pos hi)
  by_cases e3 : k = 17
  · subst e3
    have e : ct_E5 cI cZ cL cR B (va_up (ct_EM cI cZ cL cR B ct_t0 8 2) 140 ct_f5) 17 = e_ref cL 24 (fun i => if i < 24 then some (B + (18 + 4 * i)) else none) := by simp [ct_E5, va_up, ct_EM]
    rw [e] at h1
    exact st_ref h1 (fun i hi => if_pos hi)
  have e : ct_E5 cI cZ cL cR B (va_up (ct_EM cI cZ cL cR B ct_t0 8 2) 140 ct_f5) k = cellA cI cZ cL cR B ct_s0 ct_t0 k := by
    unfold ct_E5
    by_cases h140 : k < 140
    · rw [if_pos h140, ct_ne (by omega)]
      unfold ct_EM
      rw [if_neg e1, if_neg e2, if_neg e3]
    · rw [if_neg h140]
  rw [e] at h1
  exact h1
section STB
variable {l : Launch} {D : va_G} {cI cZ cL cR : ClassId} {B N : Nat} {E : Nat → va_E} {p : Program} {e : Env} {R : Room} {s : State} {m : MethodId} {args : Array Value} {below : List Frame} {meth : Method} {c : Code} {H : Heap} {locs : List Loc} {Q : State → Prop} {cc : ByteArray} {nL cells slots : Nat} {own : String} {pc : Nat} {ls : Array Slot} {rest : List Value}
theorem st_new (hx : p.tables.exec = Jvm.exec) (hb : c.code = cc) (hown : s.vm.findClass own = some m.cls) (hts : ∀ w ∈ lw_u, w.before args s = true) (hK : va_K D vwCl (tyl cI cZ cL cR) s) (hR : ct_S D B N E H) (hS : va_S (lm_A B) s.heap H locs) {C : String} {T : u_T} {M ci index : Nat} (hin2 : ∀ w ∈ u_ws C T M, w ∈ lw_u) (ty : Nat → FieldType) (hty : ∀ k, k < M → parseFieldDescriptor (T k).2.2.1 = some (ty k)) (hcl : Cond.classLink own index C ∈ lw_u) (hinst : Cond.instantiable C M ∈ lw_u) (hini : Cond.initialized C ∈ lw_u) (hc : vwCl[ci]? = some (C, T, M)) {fs : List Value} (hfs : ∀ j, j < M → defaultValue (ty j) = vp_V fs j) (hcells : cells + 1 ≤ R.cells) (hslots : slots + M ≤ R.slots) (hd : decode cc pc = .ok (.new index, 3))
    (kk : ∀ H1 : Heap, ct_S D B (N + 1) (va_up E N (e_obj ci fs)) H1 → va_S (lm_A B) s.heap H1 locs → W p l e R s m args below meth c H1 locs (cells + 1) (slots + M) Q (F0 m (pc + 3) ls (.ref (B + N) :: rest))) : W p l e R s m args below meth c H locs cells slots Q (F0 m pc ls rest) := by
  have hKn := hK.1 ci _ hc
  refine W.newcK hx hb hown (hts _ hcl) (hts _ hinst) (hts _ hini) rfl hd hcells hslots hKn.2.1 hR.2 fun H1 kC hkC e1 z1 o1 => ?_
  obtain ⟨g1, g2⟩ := ct_new1 (e0 := e_obj ci fs) hR hS (by rw [z1, hR.2]) (fun q hq => o1 q (by rw [← hR.2]; exact hq)) ⟨_, hc, (u_born ty hts hin2 hKn hkC e1 hty).to hfs⟩
  exact kk H1 g1 g2
variable {y : MethodName} {rm : Room} {Qc : Array Value → State → Outcome → State → Prop} {bytes : ByteArray} {maxL index mc ms : Nat} {lv : List (Nat × Value)} {x : Nat}
theorem st_runI (hx : p.tables.exec = Jvm.exec) (hb : c.code = cc) (hml : c.maxLocals = nL) (hown : s.vm.findClass own = some m.cls) (hts : ∀ w ∈ lw_u, w.before args s = true) (hK : va_K D vwCl (tyl cI cZ cL cR) s) (hY : lm_Y s) (hR : ct_S D B N E H) (hM : Met l y (Cond.code y bytes maxL none :: lw_u) rm (va_Pc [.ref (B + x)] (ct_W D cI cZ cL cR B N E)) Qc mc ms (lm_A B)) (hl2 : Cond.methodLink own index y ∈ lw_u) (hq : Cond.instanceMethod y ∈ lw_u ∧ Cond.initialized y.cls ∈ lw_u ∧ Cond.code y bytes maxL none ∈ lw_u) (hy : y.name = "<init>") (hrc : rm.cells = mc) (hrs : rm.slots = ms) (hdd : y.cls ≠ "java/lang/invoke/MethodHandle" ∧ y.cls ≠ "java/lang/invoke/VarHandle" ∧ (parseMethodDescriptor y.desc).map (fun d => d.parameters.length) = some 0) (hRm : rm.frames + 1 ≤ R.frames ∧ 8 + (maxL + 11) + rm.locals ≤ R.locals) (hl : lv_has ls nL lv) (hW : (rest.map fun v => v.category).sum ≤ 8) (hd : decode cc pc = .ok (.invokespecial index, 3)) (hf : cells + mc ≤ R.cells ∧ slots + ms ≤ R.slots) :
    va_Run p l e R s m args below meth c H locs cells slots mc ms (F0 m pc ls (.ref (B + x) :: rest)) rest (Qc [Value.ref (B + x)].toArray) (lm_A B) :=
  va_runI (As := []) ⟨hx, hb, hml, hown, hts⟩ hM (cwI 0 hts (lw_G hq.2.2) rfl hrc hrs (hts _ hq.2.1) (hts _ hl2) (hts _ hq.1) hy hdd hRm) ⟨ct_blind, ct_pre hR hK hY _⟩ rfl rfl hl.1 rfl (lv_room hW) hd hf
end STB
