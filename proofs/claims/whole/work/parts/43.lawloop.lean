/-! THE LAW'S LOOP -/
section LGL
variable {l : Launch} {D : va_G} {cI cZ cL cR : ClassId} {B : Nat} {p : Program} {e : Env} {s : State} {m : MethodId} {args : Array Value} {below : List Frame} {meth : Method} {c : Code} {Q : State → Prop} {cells slots : Nat} {b L : Nat} {xs : Nat → Int32}
theorem lw_sw (hcs : cells ≤ room_1.cells ∧ slots ≤ room_1.slots) (C0 : lm_Cx D cI cZ cL cR B p s m args meth c cL_law 4 (some .boolean) RL) (hX : va_X b L xs s s.heap) (hbl : b < s.heap.size) (hbA : ¬ lm_A B b) {i j : Nat} {ls : Array Slot} {σ τ : Mem} {H : Heap} {locs : List Loc} (hj : j < 64) (hl : lv_has ls 4 [(0, .ref b), (1, .ref (B + 0)), (2, .ref (B + 140)), (3, .int (nI i))]) (hi : i + 6 ≤ L) (hL : L ≤ 3072) (R0 : Rel σ τ) (hR : va_P D vwCl (wl cI cZ cL cR B σ τ) H) (hS : va_S (lm_A B) s.heap H locs) (kk : lw_N l D cI cZ cL cR B p e s m args below meth c Q cells slots ls) : W p l e room_1 s m args below meth c H locs cells slots Q (F0 m 33 ls [.int (nI j)]) := by
  have hx := C0.1
  have hb := C0.2.1
  by_cases q : j = 0
  · subst q
    exact lv_tableIn (tgt := 200) (off := 167) hx hb dL_law_33 (by decide) (by decide) (by decide) (by decide) (lc_row hcs C0 hX hbl hbA hl hi hL R0 hR hS kk)
  by_cases q : j = 1
  · subst q
    exact lv_tableIn (tgt := 243) (off := 210) hx hb dL_law_33 (by decide) (by decide) (by decide) (by decide) (lc_set hcs C0 hX hbl hbA hl hi hL R0 hR hS kk)
  by_cases q : j = 2
  · subst q
    exact lv_tableIn (tgt := 286) (off := 253) hx hb dL_law_33 (by decide) (by decide) (by decide) (by decide) (lc_copy hcs C0 hX hbl hbA hl hi hL R0 hR hS kk)
  by_cases q : j = 3
  · subst q
    exact lv_tableIn (tgt := 349) (off := 316) hx hb dL_law_33 (by decide) (by decide) (by decide) (by decide) (lc_drop hcs C0 hX hbl hbA hl hi hL R0 hR hS kk)
  by_cases q : j = 4
  · subst q
    exact lv_tableIn (tgt := 372) (off := 339) hx hb dL_law_33 (by decide) (by decide) (by decide) (by decide) (lc_feed hcs C0 hX hbl hbA hl hi hL R0 hR hS kk)
  by_cases q : j = 5
  · subst q
    exact lv_tableIn (tgt := 395) (off := 362) hx hb dL_law_33 (by decide) (by decide) (by decide) (by decide) (lc_light hcs C0 hX hbl hbA hl hi hL R0 hR hS kk)
  by_cases q : j = 6
  · subst q
    exact lv_tableIn (tgt := 408) (off := 375) hx hb dL_law_33 (by decide) (by decide) (by decide) (by decide) (lc_fault hcs C0 hX hbl hbA hl hi hL R0 hR hS kk)
  by_cases q : j = 7
  · subst q
    exact lv_tableIn (tgt := 421) (off := 388) hx hb dL_law_33 (by decide) (by decide) (by decide) (by decide) (lc_undo hcs C0 hX hbl hbA hl hi hL R0 hR hS kk)
  by_cases q : j = 8
  · subst q
    exact lv_tableIn (tgt := 434) (off := 401) hx hb dL_law_33 (by decide) (by decide) (by decide) (by decide) (lc_watches hcs C0 hX hbl hbA hl hi hL R0 hR hS kk)
  by_cases q : j = 9
  · subst q
    exact lv_tableIn (tgt := 457) (off := 424) hx hb dL_law_33 (by decide) (by decide) (by decide) (by decide) (lc_pour hcs C0 hX hbl hbA hl hi hL R0 hR hS kk)
  by_cases q : j = 10
  · subst q
    exact lv_tableIn (tgt := 480) (off := 447) hx hb dL_law_33 (by decide) (by decide) (by decide) (by decide) (lc_fog hcs C0 hX hbl hbA hl hi hL R0 hR hS kk)
  by_cases q : j = 11
  · subst q
    exact lv_tableIn (tgt := 513) (off := 480) hx hb dL_law_33 (by decide) (by decide) (by decide) (by decide) (lc_eyes hcs C0 hX hbl hbA hl hi hL R0 hR hS kk)
  by_cases q : j = 12
  · subst q
    exact lv_tableIn (tgt := 536) (off := 503) hx hb dL_law_33 (by decide) (by decide) (by decide) (by decide) (lc_move hcs C0 hX hbl hbA hl hi hL R0 hR hS kk)
  by_cases q : j = 13
  · subst q
    exact lv_tableIn (tgt := 569) (off := 536) hx hb dL_law_33 (by decide) (by decide) (by decide) (by decide) (lc_ship hcs C0 hX hbl hbA hl hi hL R0 hR hS kk)
  by_cases q : j = 14
  · subst q
    exact lv_tableIn (tgt := 602) (off := 569) hx hb dL_law_33 (by decide) (by decide) (by decide) (by decide) (lc_stand hcs C0 hX hbl hbA hl hi hL R0 hR hS kk)
  by_cases q : j = 15
  · subst q
    exact lv_tableIn (tgt := 625) (off := 592) hx hb dL_law_33 (by decide) (by decide) (by decide) (by decide) (lc_thick hcs C0 hX hbl hbA hl hi hL R0 hR hS kk)
  by_cases q : j = 16
  · subst q
    exact lv_tableIn (tgt := 648) (off := 615) hx hb dL_law_33 (by decide) (by decide) (by decide) (by decide) (lc_ahead hcs C0 hX hbl hbA hl hi hL R0 hR hS kk)
  by_cases q : j = 17
  · subst q
    exact lv_tableIn (tgt := 691) (off := 658) hx hb dL_law_33 (by decide) (by decide) (by decide) (by decide) (lc_written hcs C0 hX hbl hbA hl hi hL R0 hR hS kk)
  by_cases q : j = 18
  · subst q
    exact lv_tableIn (tgt := 724) (off := 691) hx hb dL_law_33 (by decide) (by decide) (by decide) (by decide) (lc_when hcs C0 hX hbl hbA hl hi hL R0 hR hS kk)
  by_cases q : j = 19
  · subst q
    exact lv_tableIn (tgt := 757) (off := 724) hx hb dL_law_33 (by decide) (by decide) (by decide) (by decide) (lc_quarrel hcs C0 hX hbl hbA hl hi hL R0 hR hS kk)
  by_cases q : j = 20
  · subst q
    exact lv_tableIn (tgt := 780) (off := 747) hx hb dL_law_33 (by decide) (by decide) (by decide) (by decide) (lc_pours hcs C0 hX hbl hbA hl hi hL R0 hR hS kk)
  by_cases q : j = 21
  · subst q
    exact lv_tableIn (tgt := 813) (off := 780) hx hb dL_law_33 (by decide) (by decide) (by decide) (by decide) (lc_lift hcs C0 hX hbl hbA hl hi hL R0 hR hS kk)
  by_cases q : j = 22
  · subst q
    exact lv_tableIn (tgt := 846) (off := 813) hx hb dL_law_33 (by decide) (by decide) (by decide) (by decide) (lc_sent hcs C0 hX hbl hbA hl hi hL R0 hR hS kk)
  by_cases q : j = 23
  · subst q
    exact lv_tableIn (tgt := 879) (off := 846) hx hb dL_law_33 (by decide) (by decide) (by decide) (by decide) (lc_share hcs C0 hX hbl hbA hl hi hL R0 hR hS kk)
  by_cases q : j = 24
  · subst q
    exact lv_tableIn (tgt := 912) (off := 879) hx hb dL_law_33 (by decide) (by decide) (by decide) (by decide) (lc_byTurns hcs C0 hX hbl hbA hl hi hL R0 hR hS kk)
  by_cases q : j = 25
  · subst q
    exact lv_tableIn (tgt := 945) (off := 912) hx hb dL_law_33 (by decide) (by decide) (by decide) (by decide) (lc_who hcs C0 hX hbl hbA hl hi hL R0 hR hS kk)
  by_cases q : j = 26
  · subst q
    exact lv_tableIn (tgt := 1008) (off := 975) hx hb dL_law_33 (by decide) (by decide) (by decide) (by decide) (lc_fogs hcs C0 hX hbl hbA hl hi hL R0 hR hS kk)
  by_cases q : j = 27
  · subst q
    exact lv_tableIn (tgt := 1071) (off := 1038) hx hb dL_law_33 (by decide) (by decide) (by decide) (by decide) (lc_sights hcs C0 hX hbl hbA hl hi hL R0 hR hS kk)
  by_cases q : j = 28
  · subst q
    exact lv_tableIn (tgt := 1134) (off := 1101) hx hb dL_law_33 (by decide) (by decide) (by decide) (by decide) (lc_fair hcs C0 hX hbl hbA hl hi hL R0 hR hS kk)
  by_cases q : j = 29
  · subst q
    exact lv_tableIn (tgt := 1178) (off := 1145) hx hb dL_law_33 (by decide) (by decide) (by decide) (by decide) (lc_drawn hcs C0 hX hbl hbA hl hi hL R0 hR hS kk)
  by_cases q : j = 30
  · subst q
    exact lv_tableIn (tgt := 1221) (off := 1188) hx hb dL_law_33 (by decide) (by decide) (by decide) (by decide) (lc_image hcs C0 hX hbl hbA hl hi hL R0 hR hS kk)
  by_cases q : j = 31
  · subst q
    exact lv_tableIn (tgt := 1244) (off := 1211) hx hb dL_law_33 (by decide) (by decide) (by decide) (by decide) (lc_restore hcs C0 hX hbl hbA hl hi hL R0 hR hS kk)
  by_cases q : j = 32
  · subst q
    exact lv_tableIn (tgt := 1267) (off := 1234) hx hb dL_law_33 (by decide) (by decide) (by decide) (by decide) (lc_kind hcs C0 hX hbl hbA hl hi hL R0 hR hS kk)
  by_cases q : j = 33
  · subst q
    exact lv_tableIn (tgt := 1290) (off := 1257) hx hb dL_law_33 (by decide) (by decide) (by decide) (by decide) (lc_as hcs C0 hX hbl hbA hl hi hL R0 hR hS kk)
  by_cases q : j = 34
  · subst q
    exact lv_tableIn (tgt := 1323) (off := 1290) hx hb dL_law_33 (by decide) (by decide) (by decide) (by decide) (lc_ask hcs C0 hX hbl hbA hl hi hL R0 hR hS kk)
  by_cases q : j = 35
  · subst q
    exact lv_tableIn (tgt := 1356) (off := 1323) hx hb dL_law_33 (by decide) (by decide) (by decide) (by decide) (lc_trace hcs C0 hX hbl hbA hl hi hL R0 hR hS kk)
  by_cases q : j = 36
  · subst q
    exact lv_tableIn (tgt := 1379) (off := 1346) hx hb dL_law_33 (by decide) (by decide) (by decide) (by decide) (lc_count hcs C0 hX hbl hbA hl hi hL R0 hR hS kk)
  by_cases q : j = 37
  · subst q
    exact lv_tableIn (tgt := 1402) (off := 1369) hx hb dL_law_33 (by decide) (by decide) (by decide) (by decide) (lc_status hcs C0 hX hbl hbA hl hi hL R0 hR hS kk)
  refine lv_tableOut (tgt := 1415) hx hb dL_law_33 (Or.inr ?_) (by decide) (kk σ τ H locs R0 hR hS)
  rw [nI_toInt (by omega)]
  omega
theorem lw_loop (hcs : cells ≤ room_1.cells ∧ slots ≤ room_1.slots) (C0 : lm_Cx D cI cZ cL cR B p s m args meth c cL_law 4 (some .boolean) RL) (hX : va_X b L xs s s.heap) (hbl : b < s.heap.size) (hbA : ¬ lm_A B b) (hL : L ≤ 3072) (kE : ∀ (H : Heap) (locs : List Loc) (ls : Array Slot), va_S (lm_A B) s.heap H locs → W p l e room_1 s m args below meth c H locs cells slots Q (F0 m 1421 ls [])) : ∀ (n i : Nat) (ls : Array Slot) (σ τ : Mem) (H : Heap) (locs : List Loc), L - i < n → i ≤ L → lv_has ls 4 [(0, .ref b), (1, .ref (B + 0)), (2, .ref (B + 140)), (3, .int (nI i))] → Rel σ τ → va_P D vwCl (wl cI cZ cL cR B σ τ) H → va_S (lm_A B) s.heap H locs → W p l e room_1 s m args below meth c H locs cells slots Q (F0 m 18 ls [])
  | 0, i, ls, σ, τ, H, locs, hn, hi, hl, R0, hR, hS => by omega
  | n + 1, i, ls, σ, τ, H, locs, hn, hi, hl, R0, hR, hS => by
    have hx := C0.1
    have hb := C0.2.1
    refine lv_iload_n hx hb dL_law_18 rfl (lv_at hl 3 rfl) ?_
    refine lv_aload_n hx hb dL_law_19 rfl (lv_at hl 0 rfl) ?_
    refine va_slen hx hb hX hbl hbA hS dL_law_20 ?_
    refine lv_bipush (v := nI 6) hx hb dL_law_21 (by decide) ?_
    refine lv_isub hx hb dL_law_23 ?_
    refine lv_icmp_gt (tgt := 1421) hx hb dL_law_24 (by decide) (fun _ => kE H locs ls hS) (fun hq => ?_)
    have hi6 : i + 6 ≤ L := by
      rcases Nat.lt_or_ge L (i + 6) with h | h
      · exact absurd ((sI_lt (a := L) (b := 6) (c := i) (by omega) (by omega) (by omega)).mpr h) hq
      · exact h
    refine lv_aload_n hx hb dL_law_27 rfl (lv_at hl 0 rfl) ?_
    refine lv_iload_n hx hb dL_law_28 rfl (lv_at hl 3 rfl) ?_
    refine va_sld hx hb hX hbl hbA hS (pk_in i L (by omega) rfl (by omega)) dL_law_29 ?_
    refine lv_bipush (v := nI 63) hx hb dL_law_30 (by decide) ?_
    refine lv_iand hx hb dL_law_32 ?_
    obtain ⟨j, hj, ej⟩ := pk_andE (xs (nI i).toNatClampNeg) (m := nI 63) 6 (by decide)
    rw [ej]
    refine lw_sw hcs C0 hX hbl hbA hj hl hi6 hL R0 hR hS (fun σ2 τ2 H2 locs2 R2 hR2 hS2 => ?_)
    refine lv_iinc (v := nI (i + 6)) (lv' := [(3, .int (nI (i + 6))), (0, .ref b), (1, .ref (B + 0)), (2, .ref (B + 140))]) hx hb dL_law_1415 hl (k := 3) rfl (nI_add i 6) (by decide) rfl (fun ls2 hl2 => ?_)
    refine lv_goto (tgt := 18) hx hb dL_law_1418 (by decide) ?_
    exact lw_loop hcs C0 hX hbl hbA hL kE n (i + 6) ls2 σ2 τ2 H2 locs2 (by omega) hi6 (lv_sub hl2 [1, 2, 3, 0] rfl) R2 hR2 hS2
end LGL
