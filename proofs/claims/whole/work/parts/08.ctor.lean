/-! CONSTRUCTORS: the world is the cells B .. B+N-1, in the order in which they were made. -/
def wF (B N : Nat) (E : Nat → va_E) : va_W := (List.range N).map (fun c => (B + c, E c))
section CTA
variable {B N : Nat} {E E' : Nat → va_E} {c : Nat} {e : va_E}
theorem wF_get (h : c < N) : (wF B N E)[c]? = some (B + c, E c) := by
  simp [wF, h]
theorem wF_at (h : c < N) (he : E c = e) : (wF B N E)[c]? = some (B + c, e) := by
  rw [wF_get h, he]
theorem wF_len : (wF B N E).length = N := by simp [wF]
theorem wF_lt {k : Nat} {q : Nat × va_E} (h : (wF B N E)[k]? = some q) : k < N ∧ q = (B + k, E k) := by
  have hk : k < N := by
    have := (List.getElem?_eq_some_iff.mp h).1
    rwa [wF_len] at this
  rw [wF_get hk] at h
  exact ⟨hk, (Option.some.inj h).symm⟩
theorem wF_D : va_D (lm_A B) (wF B N E) := by
  refine ⟨fun i j p q hi hj e => ?_, fun k q hk => ?_⟩
  · obtain ⟨-, rfl⟩ := wF_lt hi
    obtain ⟨-, rfl⟩ := wF_lt hj
    exact Nat.add_left_cancel e
  · obtain ⟨-, rfl⟩ := wF_lt hk
    exact Nat.le_add_right B k
theorem wF_set : (wF B N E).set c (B + c, e) = wF B N (va_up E c e) := by
  apply List.ext_getElem?
  intro k
  by_cases hk : k < N
  · rw [wF_get hk]
    by_cases hc : k = c
    · subst hc
      rw [List.getElem?_set_self (by rw [wF_len]; exact hk)]
      simp [va_up]
    · rw [List.getElem?_set_ne (Ne.symm hc), wF_get hk]
      simp [va_up, hc]
  · rw [List.getElem?_eq_none (by rw [List.length_set, wF_len]; omega), List.getElem?_eq_none (by rw [wF_len]; omega)]
theorem wF_congr (h : ∀ x, x < N → E x = E' x) : wF B N E = wF B N E' := by
  unfold wF
  apply List.map_congr_left
  intro x hx
  rw [h x (List.mem_range.mp hx)]
theorem wF_app : wF B N E ++ [(B + N, e)] = wF B (N + 1) (va_up E N e) := by
  have h1 : wF B N E = wF B N (va_up E N e) := wF_congr (fun x hx => by simp [va_up, Nat.ne_of_lt hx])
  have h2 : (va_up E N e) N = e := by simp [va_up]
  rw [h1]
  unfold wF
  rw [List.range_succ, List.map_append, List.map_cons, List.map_nil, h2]
end CTA
/-- the words that are no table's to hand on: nest mates, arrays of references -/
def lm_Y (U : State) : Prop := va_Nw (.methodLinkNest RX4 17 yX3_init "LampLogs") U ∧ va_Nw (.methodLinkNest RX4 24 yX1_init "LampLogs") U ∧ va_Nw (.methodLinkNest RX0 17 yX1_init "LampLogs") U ∧ va_Nw (.methodLinkNest RX4 50 yX2_init "LampLogs") U ∧ va_AO "LampLogs$Light" U ∧ va_AO "LampLogs$Row" U
theorem lm_Y.move {s U : State} (hW : s.WarmedH U.vm) (h : lm_Y s) : lm_Y U :=
  ⟨va_Nw.warmM hW h.1, va_Nw.warmM hW h.2.1, va_Nw.warmM hW h.2.2.1, va_Nw.warmM hW h.2.2.2.1, va_AO.moved hW.alike h.2.2.2.2.1, va_AO.moved hW.alike h.2.2.2.2.2⟩
abbrev ct_S (D : va_G) (B N : Nat) (E : Nat → va_E) (H : Heap) : Prop := va_P D vwCl (wF B N E) H ∧ H.size = B + N
def ct_W (D : va_G) (cI cZ cL cR : ClassId) (B N : Nat) (E : Nat → va_E) (U : State) : Prop := ct_S D B N E U.heap ∧ va_K D vwCl (tyl cI cZ cL cR) U ∧ lm_Y U
theorem ct_blind {D : va_G} {cI cZ cL cR : ClassId} {B N : Nat} {E : Nat → va_E} {As : List Value} : FrameBlind (va_Pc As (ct_W D cI cZ cL cR B N E)) := by
  intro a U g mk h
  obtain ⟨h0, h1, h2, h3⟩ := h
  obtain ⟨x1, x2, x3, x4, x5, x6⟩ := h3
  exact ⟨h0, h1, va_K.moved (u := U) (U := U.calling g mk a) (Vm.Alike.refl U.vm) h2, va_Nw.same (u := U) (U := U.calling g mk a) rfl rfl x1, va_Nw.same (u := U) (U := U.calling g mk a) rfl rfl x2, va_Nw.same (u := U) (U := U.calling g mk a) rfl rfl x3, va_Nw.same (u := U) (U := U.calling g mk a) rfl rfl x4, va_AO.moved (u := U) (U := U.calling g mk a) (Vm.Alike.refl U.vm) x5, va_AO.moved (u := U) (U := U.calling g mk a) (Vm.Alike.refl U.vm) x6⟩
abbrev ct_Q (D : va_G) (B N : Nat) (E : Nat → va_E) : Array Value → State → Outcome → State → Prop := va_Qv (fun (_ : Unit) => True) (fun _ t => ct_S D B N E t.heap) (lm_A B)
def ct_C (l : Launch) (y : MethodName) (ws : List Cond) (rm : Room) (D : va_G) (cI cZ cL cR : ClassId) (B : Nat) (As : List Value) (N : Nat) (E : Nat → va_E) (N' : Nat) (E' : Nat → va_E) (mc ms : Nat) : Prop := Met l y ws rm (va_Pc As (ct_W D cI cZ cL cR B N E)) (ct_Q D B N' E') mc ms (lm_A B)
def ct_Cx (D : va_G) (cI cZ cL cR : ClassId) (B : Nat) (p : Program) (s : State) (m : MethodId) (args : Array Value) (meth : Method) (c : Code) (cc : ByteArray) (nL : Nat) (own : String) : Prop :=
  p.tables.exec = Jvm.exec ∧ c.code = cc ∧ c.maxLocals = nL ∧ meth.sig.returnType = none ∧ meth.locks = false ∧ s.vm.findClass own = some m.cls ∧ (∀ w ∈ lw_u, w.before args s = true) ∧ va_K D vwCl (tyl cI cZ cL cR) s ∧ lm_Y s ∧ meth.name = "<init>" ∧ B ≤ s.heap.size
section CTB
variable {l : Launch} {D : va_G} {cI cZ cL cR : ClassId} {B N : Nat} {E E' : Nat → va_E}
theorem ct_of {y : MethodName} {rm : Room} {cc : ByteArray} {maxL N' mc ms : Nat} {own : String} {As : List Value} (hy : plainName y.cls = true) (hcls : y.cls = own) (hyn : y.name = "<init>") (hA : (lg_sl As).length ≤ maxL)
    (body : ∀ (p : Program) (e : Env) (s : State) (m : MethodId) (below : List Frame) (meth : Method) (c : Code), ct_Cx D cI cZ cL cR B p s m As.toArray meth c cc maxL own → ct_S D B N E s.heap → ∀ ls : Array Slot, lv_has ls maxL (lv_args 0 As) → W p l e rm s m As.toArray below meth c s.heap [] 0 0 (MQ below (ct_Q D B N' E') As.toArray s mc ms (lm_A B)) (F0 m 0 ls [])) : ct_C l y (Cond.code y cc maxL none :: lw_u) rm D cI cZ cL cR B As N E N' E' mc ms := by
  refine Met.ofW (cc := cc) (maxL := maxL) (ret := none) hy rfl ?_
  intro p e s m args below meth c s₁ Bd hml hv
  obtain ⟨rfl, hP, hK, hX⟩ := hv
  have hl := lv_entry As (n := maxL) hA
  rw [lg_entry_eq]
  have hin : meth.name = "<init>" := (name_of_methodNamed Bd.named Bd.method).1.trans hyn
  exact body p e s m below meth c ⟨Bd.exec, Bd.bytes, hml, Bd.returns, Bd.notSynchronized, by rw [← hcls]; exact findClass_of_methodNamed Bd.named, fun w hw => atoms_spec (ws := Cond.code y cc maxL none :: lw_u) Bd.pre w (List.mem_cons_of_mem _ hw), hK, hX, hin, by rw [hP.2]; exact Nat.le_add_right B N⟩ hP _ hl
variable {p : Program} {e : Env} {R : Room} {s : State} {m : MethodId} {args : Array Value} {below : List Frame} {meth : Method} {c : Code} {H : Heap} {locs : List Loc} {Q : State → Prop} {cc : ByteArray} {nL cells slots : Nat} {own : String} {pc : Nat} {ls : Array Slot} {rest : List Value}
theorem ct_new1 (hR : ct_S D B N E H) (hS : va_S (lm_A B) s.heap H locs) {H1 : Heap} {e0 : va_E} (z1 : H1.size = H.size + 1) (o1 : ∀ q, q < H.size → H1[q]? = H[q]?) (h1 : va_at D vwCl (B + N, e0) H1) : ct_S D B (N + 1) (va_up E N e0) H1 ∧ va_S (lm_A B) s.heap H1 locs := by
  refine ⟨⟨?_, by rw [z1, hR.2]; omega⟩, ⟨Nat.le_trans hS.1 (by omega), fun x g1 g2 => (o1 x (Nat.lt_of_lt_of_le g1 hS.1)).trans (hS.2.1 x g1 g2), hS.2.2⟩⟩
  rw [← wF_app]
  refine (hR.1.kept (fun k x hx => o1 x.1 ((hR.1 k x hx).lt))).app (fun k x hx => ?_)
  have hz : k < 1 := (List.getElem?_eq_some_iff.mp hx).1
  rw [show k = 0 by omega] at hx
  cases hx
  exact h1
theorem ct_newi (C0 : ct_Cx D cI cZ cL cR B p s m args meth c cc nL own) (hR : ct_S D B N E H) (hS : va_S (lm_A B) s.heap H locs) {n : Int32} {N' : Nat} (hn : ¬ n < 0) (hN : n.toNatClampNeg = N') (hbytes : N' * 4 ≤ 536870912) (hcells : cells + 1 ≤ R.cells) (hslots : slots + N' ≤ R.slots) (hd : decode cc pc = .ok (.newarray .int, 2))
    (kk : ∀ H1 : Heap, ct_S D B (N + 1) (va_up E N (e_int cI N' (fun _ => 0))) H1 → va_S (lm_A B) s.heap H1 locs → W p l e R s m args below meth c H1 locs (cells + 1) (slots + N') Q (F0 m (pc + 2) ls (.ref (B + N) :: rest))) : W p l e R s m args below meth c H locs cells slots Q (F0 m pc ls (.int n :: rest)) := by
  obtain ⟨hx, hb, hml, hr, hlk, hown, hts, hK, hY, hin, hBs⟩ := C0
  refine va_newaK (atype := .int) hx hb (hts _ uw_32) rfl hd rfl hn hN hbytes hcells hslots hR.2 fun H1 cA e1 z1 o1 hAr hNm => ?_
  have hc : cA = cI := Option.some.inj (hNm.symm.trans (hK.2 0 (cI, .int) rfl).2)
  subst hc
  obtain ⟨g1, g2⟩ := ct_new1 (e0 := e_int cA N' (fun _ => 0)) hR hS (by rw [z1, hR.2]) (fun q hq => o1 q (by rw [← hR.2]; exact hq)) e1
  exact kk H1 g1 g2
theorem ct_newz (C0 : ct_Cx D cI cZ cL cR B p s m args meth c cc nL own) (hR : ct_S D B N E H) (hS : va_S (lm_A B) s.heap H locs) (hw : Cond.arrayClass .boolean ∈ lw_u) {n : Int32} {N' : Nat} (hn : ¬ n < 0) (hN : n.toNatClampNeg = N') (hbytes : N' * 1 ≤ 536870912) (hcells : cells + 1 ≤ R.cells) (hslots : slots + N' ≤ R.slots) (hd : decode cc pc = .ok (.newarray .boolean, 2))
    (kk : ∀ H1 : Heap, ct_S D B (N + 1) (va_up E N (e_int cZ N' (fun _ => 0))) H1 → va_S (lm_A B) s.heap H1 locs → W p l e R s m args below meth c H1 locs (cells + 1) (slots + N') Q (F0 m (pc + 2) ls (.ref (B + N) :: rest))) : W p l e R s m args below meth c H locs cells slots Q (F0 m pc ls (.int n :: rest)) := by
  obtain ⟨hx, hb, hml, hr, hlk, hown, hts, hK, hY, hin, hBs⟩ := C0
  refine va_newaK (atype := .boolean) hx hb (hts _ hw) rfl hd rfl hn hN hbytes hcells hslots hR.2 fun H1 cA e1 z1 o1 hAr hNm => ?_
  have hc : cA = cZ := Option.some.inj (hNm.symm.trans (hK.2 1 (cZ, .boolean) rfl).2)
  subst hc
  obtain ⟨g1, g2⟩ := ct_new1 (e0 := e_int cA N' (fun _ => 0)) hR hS (by rw [z1, hR.2]) (fun q hq => o1 q (by rw [← hR.2]; exact hq)) e1
  exact kk H1 g1 g2
theorem ct_newq (C0 : ct_Cx D cI cZ cL cR B p s m args meth c cc nL own) (hR : ct_S D B N E H) (hS : va_S (lm_A B) s.heap H locs) {C : String} {index t0 : Nat} {cA0 : ClassId} (hclink : Cond.classLink own index C ∈ lw_u) (hover : va_AO C s) (ht : (tyl cI cZ cL cR)[t0]? = some (cA0, .object C)) {n : Int32} {N' : Nat} (hn : ¬ n < 0) (hN : n.toNatClampNeg = N') (hbytes : N' * 4 ≤ 536870912) (hcells : cells + 1 ≤ R.cells) (hslots : slots + N' ≤ R.slots) (hd : decode cc pc = .ok (.anewarray index, 3))
    (kk : ∀ H1 : Heap, ct_S D B (N + 1) (va_up E N (e_ref cA0 N' (fun _ => none))) H1 → va_S (lm_A B) s.heap H1 locs → W p l e R s m args below meth c H1 locs (cells + 1) (slots + N') Q (F0 m (pc + 3) ls (.ref (B + N) :: rest))) : W p l e R s m args below meth c H locs cells slots Q (F0 m pc ls (.int n :: rest)) := by
  obtain ⟨hx, hb, hml, hr, hlk, hown, hts, hK, hY, hin, hBs⟩ := C0
  subst hN
  refine W.anew hx hb hown (hts _ hclink) (va_AO.use hover) rfl hd rfl hn hbytes hcells hslots fun cA kA comp f1 f2 f3 f4 => ?_
  obtain ⟨kA', comp', k1, k2, k3, k4⟩ := (hK.2 t0 _ ht).2
  have hc : cA = cA0 := Option.some.inj (f1.symm.trans k4)
  subst hc
  rw [hR.2]
  obtain ⟨g1, g2⟩ := ct_new1 (s := s) (locs := locs) (H1 := H.push { cls := cA, slots := Array.replicate n.toNatClampNeg .null, vm := .none }) (e0 := e_ref cA n.toNatClampNeg (fun _ => none)) hR hS (by rw [Array.size_push]) (fun q hq => by rw [Array.getElem?_push, if_neg (Nat.ne_of_lt hq)]) (by
    show (H.push _)[B + N]? = some (vp_cell _ _)
    rw [vp_cell_q, ← hR.2, Array.getElem?_push_size]
    exact congrArg some (arrV_new cA n.toNatClampNeg .null))
  exact kk _ g1 g2
theorem ct_new (C0 : ct_Cx D cI cZ cL cR B p s m args meth c cc nL own) (hR : ct_S D B N E H) (hS : va_S (lm_A B) s.heap H locs) {C : String} {T : u_T} {M ci index : Nat} (hin2 : ∀ w ∈ u_ws C T M, w ∈ lw_u) (ty : Nat → FieldType) (hty : ∀ k, k < M → parseFieldDescriptor (T k).2.2.1 = some (ty k)) (hcl : Cond.classLink own index C ∈ lw_u) (hinst : Cond.instantiable C M ∈ lw_u) (hini : Cond.initialized C ∈ lw_u) (hc : vwCl[ci]? = some (C, T, M)) {fs : List Value} (hfs : ∀ j, j < M → defaultValue (ty j) = vp_V fs j) (hcells : cells + 1 ≤ R.cells) (hslots : slots + M ≤ R.slots) (hd : decode cc pc = .ok (.new index, 3))
    (kk : ∀ H1 : Heap, ct_S D B (N + 1) (va_up E N (e_obj ci fs)) H1 → va_S (lm_A B) s.heap H1 locs → W p l e R s m args below meth c H1 locs (cells + 1) (slots + M) Q (F0 m (pc + 3) ls (.ref (B + N) :: rest))) : W p l e R s m args below meth c H locs cells slots Q (F0 m pc ls rest) := by
  obtain ⟨hx, hb, hml, hr, hlk, hown, hts, hK, hY, hin, hBs⟩ := C0
  have hKn := hK.1 ci _ hc
  refine W.newcK hx hb hown (hts _ hcl) (hts _ hinst) (hts _ hini) rfl hd hcells hslots hKn.2.1 hR.2 fun H1 kC hkC e1 z1 o1 => ?_
  obtain ⟨g1, g2⟩ := ct_new1 (e0 := e_obj ci fs) hR hS (by rw [z1, hR.2]) (fun q hq => o1 q (by rw [← hR.2]; exact hq)) ⟨_, hc, (u_born ty hts hin2 hKn hkC e1 hty).to hfs⟩
  exact kk H1 g1 g2
theorem ct_get (C0 : ct_Cx D cI cZ cL cR B p s m args meth c cc nL own) (hR : ct_S D B N E H) {x ci M index : Nat} {fs : List Value} {C ref : String} {T : u_T} {v : Value} (hc : x < N) (he : E x = .inr (ci, fs)) (hcl : vwCl[ci]? = some (C, T, M)) (hin2 : ∀ w ∈ u_ws C T M, w ∈ lw_u) (k : Nat) (hk : k < M) (hlink : Cond.fieldLink own index ref (T k).2.1 (T k).2.2.1 ∈ lw_u) (href : (T k).1 = ref) (hv : fs[k]? = some v) (hd : decode cc pc = .ok (.getfield index, 3))
    (kk : W p l e R s m args below meth c H locs cells slots Q (F0 m (pc + 3) ls (v :: rest))) : W p l e R s m args below meth c H locs cells slots Q (F0 m pc ls (.ref (B + x) :: rest)) := by
  obtain ⟨hx, hb, hml, hr, hlk, hown, hts, hK, hY, hin, hBs⟩ := C0
  exact va_get hx hb hts hin2 hown hK hR.1 x (wF_at hc he) hcl k hk (hts _ hlink) (fun _ h => by rw [← href]; exact h) hv hd kk
theorem ct_set1 (hR : ct_S D B N E H) (hS : va_S (lm_A B) s.heap H locs) {x k : Nat} (hc : x < N) {H1 : Heap} {e0 : va_E} (z : H1.size = H.size) (oq : ∀ q, q ≠ B + x → H1[q]? = H[q]?) (h1 : va_at D vwCl (B + x, e0) H1) : ct_S D B N (va_up E x e0) H1 ∧ va_S (lm_A B) s.heap H1 (locs ++ [⟨B + x, k⟩]) := by
  refine ⟨⟨?_, by rw [z]; exact hR.2⟩, hS.put z oq (Nat.le_add_right B x)⟩
  rw [← wF_set]
  exact hR.1.set wF_D (wF_get hc) h1 oq
theorem ct_putF (C0 : ct_Cx D cI cZ cL cR B p s m args meth c cc nL own) (hR : ct_S D B N E H) (hS : va_S (lm_A B) s.heap H locs) {x ci M index : Nat} {fs : List Value} {C ref : String} {T : u_T} {ty : FieldType} {v : Value} (hc : x < N) (he : E x = .inr (ci, fs)) (hcl : vwCl[ci]? = some (C, T, M)) (hin2 : ∀ w ∈ u_ws C T M, w ∈ lw_u) (ty0 : Nat → FieldType) (hty : ∀ k, k < M → parseFieldDescriptor (T k).2.2.1 = some (ty0 k)) (hnm : ∀ a, a < M → ∀ b, b < M → a ≠ b → (T a).2.1 ≠ (T b).2.1) (k : Nat) (hk : k < M) (hlink : Cond.fieldLink own index ref (T k).2.1 (T k).2.2.1 ∈ lw_u) (href : (T k).1 = ref) (hfin : (T k).2.2.2 = true) (hdecl : (T k).1 = own) (ht : ty0 k = ty) (hn : narrow ty v = v) (hfit : fits ty v = true) (hl : k < fs.length) (hd : decode cc pc = .ok (.putfield index, 3))
    (kk : ∀ (H1 : Heap) (locs1 : List Loc), ct_S D B N (va_up E x (e_obj ci (fs.set k v))) H1 → va_S (lm_A B) s.heap H1 locs1 → W p l e R s m args below meth c H1 locs1 cells slots Q (F0 m (pc + 3) ls rest)) : W p l e R s m args below meth c H locs cells slots Q (F0 m pc ls (v :: .ref (B + x) :: rest)) := by
  obtain ⟨hx, hb, hml, hr, hlk, hown, hts, hK, hY, hin, hBs⟩ := C0
  have hd2 : parseFieldDescriptor (T k).2.2.1 = some ty := by rw [hty k hk, ht]
  have hap := va_apart (own := own) hts hin2 ty0 hty hnm hK hcl
  obtain ⟨r, h1, cell, q1, q2, q3, q4⟩ := hR.1 x _ (wF_at hc he)
  have hr2 : r = (C, T, M) := Option.some.inj (h1.symm.trans hcl)
  subst hr2
  obtain ⟨hSl, hfc, kC, hkC, hkind⟩ := hK.1 ci _ hcl
  obtain ⟨cf, kf, fi, f, hi, hsl⟩ := hSl k hk
  have hlay := hts _ (hin2 _ (u_in_lay hk))
  unfold u_lay at hlay
  rw [if_pos hfin] at hlay
  have hst := (u_facts hfc hkC (u_lays hts hin2 hk) hi).1
  have hcf : m.cls = cf := by
    obtain ⟨_, _, c', _, _, _, -, -, hf', -, -, -, hown2, -⟩ := Cond.laysFinal_spec hlay
    have e1 : c' = cf := by have := hi.symm.trans hf'; simp at this; exact this.1.symm
    rw [hdecl] at hown2
    rw [← e1]; exact Option.some.inj (hown.symm.trans hown2)
  have h6 := u_fits hfc hkC hkind (Or.inr hlay) hi hd2 hn hfit
  refine W.putFinK hx hb hown (hts _ hlink) (by rw [← href]; exact hi) hst hcf hin (by rw [q2]; exact h6) q1 q3 (by rw [hsl]; exact k2_hasslot (q4 k hk)) rfl rfl hd fun H' e1 e2 e3 => ?_
  rw [hsl] at e1 ⊢
  obtain ⟨g1, g2⟩ := ct_set1 (k := (D.2 ci) k) (e0 := e_obj ci (fs.set k v)) hR hS hc e2 e3 ⟨_, hcl, t_OB.to (V := updV (vp_V fs) k v) ⟨_, e1, q2, q3, t_set q4 hap hk v⟩ (fun j _ => vp_updV_set hl v j)⟩
  exact kk H' _ g1 g2
theorem ct_put (C0 : ct_Cx D cI cZ cL cR B p s m args meth c cc nL own) (hR : ct_S D B N E H) (hS : va_S (lm_A B) s.heap H locs) {x ci M index : Nat} {fs : List Value} {C ref : String} {T : u_T} {ty : FieldType} {v : Value} (hc : x < N) (he : E x = .inr (ci, fs)) (hcl : vwCl[ci]? = some (C, T, M)) (hin2 : ∀ w ∈ u_ws C T M, w ∈ lw_u) (ty0 : Nat → FieldType) (hty : ∀ k, k < M → parseFieldDescriptor (T k).2.2.1 = some (ty0 k)) (hnm : ∀ a, a < M → ∀ b, b < M → a ≠ b → (T a).2.1 ≠ (T b).2.1) (k : Nat) (hk : k < M) (hlink : Cond.fieldLink own index ref (T k).2.1 (T k).2.2.1 ∈ lw_u) (href : (T k).1 = ref) (hfin : (T k).2.2.2 = false) (ht : ty0 k = ty) (hn : narrow ty v = v) (hfit : fits ty v = true) (hl : k < fs.length) (hd : decode cc pc = .ok (.putfield index, 3))
    (kk : ∀ (H1 : Heap) (locs1 : List Loc), ct_S D B N (va_up E x (e_obj ci (fs.set k v))) H1 → va_S (lm_A B) s.heap H1 locs1 → W p l e R s m args below meth c H1 locs1 cells slots Q (F0 m (pc + 3) ls rest)) : W p l e R s m args below meth c H locs cells slots Q (F0 m pc ls (v :: .ref (B + x) :: rest)) := by
  obtain ⟨hx, hb, hml, hr, hlk, hown, hts, hK, hY, hin, hBs⟩ := C0
  have hd2 : parseFieldDescriptor (T k).2.2.1 = some ty := by rw [hty k hk, ht]
  have hap := va_apart (own := own) hts hin2 ty0 hty hnm hK hcl
  obtain ⟨r, h1, cell, q1, q2, q3, q4⟩ := hR.1 x _ (wF_at hc he)
  have hr2 : r = (C, T, M) := Option.some.inj (h1.symm.trans hcl)
  subst hr2
  obtain ⟨hSl, hfc, kC, hkC, hkind⟩ := hK.1 ci _ hcl
  obtain ⟨cf, kf, fi, f, hi, hsl⟩ := hSl k hk
  have hlay := hts _ (hin2 _ (u_in_lay hk))
  unfold u_lay at hlay
  rw [if_neg (by rw [hfin]; decide)] at hlay
  have hst := (u_facts hfc hkC (u_lays hts hin2 hk) hi).1
  have h6 := u_store hfc hkC hkind hlay hi hd2 hn hfit
  refine W.putK hx hb (f := f) ⟨hown, hts _ hlink, ⟨_, _, _, by rw [← href]; exact hi⟩, hst⟩ (by rw [q2]; exact h6) q1 q3 (by rw [hsl]; exact k2_hasslot (q4 k hk)) rfl rfl hd fun H' e1 e2 e3 => ?_
  rw [hsl] at e1 ⊢
  obtain ⟨g1, g2⟩ := ct_set1 (k := (D.2 ci) k) (e0 := e_obj ci (fs.set k v)) hR hS hc e2 e3 ⟨_, hcl, t_OB.to (V := updV (vp_V fs) k v) ⟨_, e1, q2, q3, t_set q4 hap hk v⟩ (fun j _ => vp_updV_set hl v j)⟩
  exact kk H' _ g1 g2
theorem ct_ist (C0 : ct_Cx D cI cZ cL cR B p s m args meth c cc nL own) (hR : ct_S D B N E H) (hS : va_S (lm_A B) s.heap H locs) {x n : Nat} {f : Nat → Int32} {i v : Int32} (hc : x < N) (he : E x = e_int cI n f) (hi : lm_in i n = true) (hd : decode cc pc = .ok (.iastore, 1))
    (kk : ∀ (H1 : Heap) (locs1 : List Loc), ct_S D B N (va_up E x (e_int cI n (upd f i.toNatClampNeg v))) H1 → va_S (lm_A B) s.heap H1 locs1 → W p l e R s m args below meth c H1 locs1 cells slots Q (F0 m (pc + 1) ls rest)) : W p l e R s m args below meth c H locs cells slots Q (F0 m pc ls (.int v :: .int i :: .ref (B + x) :: rest)) := by
  obtain ⟨hx, hb, hml, hr, hlk, hown, hts, hK, hY, hin, hBs⟩ := C0
  refine W.iast hx hb (hR.1 x _ (wF_at hc he)) ((hK.2 0 (cI, .int) rfl).1 n (fun j => .int (f j))) (fun q => by cases q) (by show ¬ (i < 0 ∨ (arrV _ _ _).slots.size ≤ _); rw [arrV_size]; exact lm_inT hi) rfl rfl hd fun H1 e z oq => ?_
  obtain ⟨g1, g2⟩ := ct_set1 (k := i.toNatClampNeg) (e0 := e_int cI n (upd f i.toNatClampNeg v)) hR hS hc z oq (by
    show H1[B + x]? = some (vp_cell _ _)
    rw [e, vp_cell_i, vp_cell_i, arrV_store]
    congr 2
    funext q
    by_cases hq : q = i.toNatClampNeg
    · subst hq
      simp [updV, upd]
    · simp [updV, upd, hq])
  exact kk H1 _ g1 g2
theorem ct_ast (C0 : ct_Cx D cI cZ cL cR B p s m args meth c cc nL own) (hR : ct_S D B N E H) (hS : va_S (lm_A B) s.heap H locs) {x n t0 ci y : Nat} {cA : ClassId} {r : vw_C} {vs : List Value} {f : Nat → Option Nat} {i : Int32} (hc : x < N) (he : E x = e_ref cA n f) (ht : (tyl cI cZ cL cR)[t0]? = some (cA, .object r.1)) (hcy : y < N) (hy : E y = .inr (ci, vs)) (hcl : vwCl[ci]? = some r) (hi : lm_in i n = true) (hd : decode cc pc = .ok (.aastore, 1))
    (kk : ∀ (H1 : Heap) (locs1 : List Loc), ct_S D B N (va_up E x (e_ref cA n (va_up f i.toNatClampNeg (some (B + y))))) H1 → va_S (lm_A B) s.heap H1 locs1 → W p l e R s m args below meth c H1 locs1 cells slots Q (F0 m (pc + 1) ls rest)) : W p l e R s m args below meth c H locs cells slots Q (F0 m pc ls (.ref (B + y) :: .int i :: .ref (B + x) :: rest)) := by
  obtain ⟨hx, hb, hml, hr, hlk, hown, hts, hK, hY, hin2, hBs⟩ := C0
  have hin := lm_inT hi
  have hlt : i.toNatClampNeg < n := Nat.not_le.mp fun q => hin (Or.inr q)
  have h0 : ¬ i < 0 := fun q => hin (Or.inl q)
  obtain ⟨r', hr', cellV, g1, g2, g3, -⟩ := hR.1 y _ (wF_at hcy hy)
  have hcls := (hK.1 ci r hcl).2
  obtain ⟨kA, comp, k1, k2, k3, -⟩ := (hK.2 t0 _ ht).2
  have hcomp : comp = D.1 ci := Option.some.inj (k3.symm.trans hcls.1)
  subst hcomp
  obtain ⟨kC, hkC, -⟩ := hcls.2
  refine W.aast hx hb (hR.1 x _ (wF_at hc he)) (fun q h => by cases h) (fun h => by cases h) k1 k2 rfl hkC ⟨h0, by show _ < (arrV _ _ _).slots.size; rw [arrV_size]; exact hlt⟩ g1 (fun q h => by rw [g3] at h; cases h) (by rw [g2]; exact hkC) (by rw [g2]; exact va_assign hcls) rfl rfl hd fun H1 e z oq => ?_
  obtain ⟨g1, g2⟩ := ct_set1 (k := i.toNatClampNeg) (e0 := e_ref cA n (va_up f i.toNatClampNeg (some (B + y)))) hR hS hc z oq (by
    show H1[B + x]? = some (vp_cell _ _)
    rw [e, vp_cell_q, vp_cell_q, arrV_store]
    congr 2
    funext q
    by_cases hq : q = i.toNatClampNeg
    · subst hq
      simp [updV, va_up, va_rf]
    · simp [updV, va_up, hq])
  exact kk H1 _ g1 g2
theorem ct_obj (C0 : ct_Cx D cI cZ cL cR B p s m args meth c cc nL own) {lv : List (Nat × Value)} (hl : lv_has ls nL lv) {index x : Nat} (hlink : Cond.methodLink own index objectInit ∈ lw_u) (hd : decode cc pc = .ok (.invokespecial index, 3)) (hframes : 1 ≤ R.frames) (hlocals : (rest.map fun v => v.category).sum + 12 ≤ R.locals)
    (kk : W p l e R s m args below meth c H locs cells slots Q (F0 m (pc + 3) ls rest)) : W p l e R s m args below meth c H locs cells slots Q (F0 m pc ls (.ref x :: rest)) := by
  obtain ⟨hx, hb, hml, hr, hlk, hown, hts, hK, hY, hin, hBs⟩ := C0
  exact W.objInit hx hb hown (hts _ hlink) (hts _ uw_16) (hts _ uw_17) rfl (by rw [hml]; exact hl.1) rfl hd hframes (by show 2 * 0 + _ + 12 ≤ _; omega) kk
theorem ct_ret (C0 : ct_Cx D cI cZ cL cR B p s m args meth c cc nL own) (hR : ct_S D B N E H) (hS : va_S (lm_A B) s.heap H locs) (hE : ∀ x, x < N → E x = E' x) (hd : decode cc pc = .ok (.return_, 1)) : W p l e R s m args below meth c H locs cells slots (MQ below (ct_Q D B N E') args s cells slots (lm_A B)) (F0 m pc ls []) := by
  obtain ⟨hx, hb, hml, hr, hlk, hown, hts, hK, hY, hin, hBs⟩ := C0
  have hR' : ct_S D B N E' H := ⟨by rw [← wF_congr hE]; exact hR.1, hR.2⟩
  exact W.vret hx hb hr (fun t ht _ => ⟨⟨(), rfl, trivial, by show ct_S D B N E' t.heap; rw [ht]; exact hR'⟩, hS.F ht⟩) hS.2.2 hd hlk
theorem ct_end {a : Array Value} {st0 : List Value} {mc ms N' : Nat} (hr : va_Run p l e R s m args below meth c H locs cells slots mc ms (F0 m pc ls st0) rest (ct_Q D B N' E' a) (lm_A B)) (hS : va_S (lm_A B) s.heap H locs)
    (kk : ∀ (H1 : Heap) (locs1 : List Loc), ct_S D B N' E' H1 → va_S (lm_A B) s.heap H1 locs1 → W p l e R s m args below meth c H1 locs1 (cells + mc) (slots + ms) Q (F0 m (pc + 3) ls rest)) : W p l e R s m args below meth c H locs cells slots Q (F0 m pc ls st0) := by
  refine va_callv hr hS (fun _ _ h => h) (fun _ h => h) (fun u t H1 locs1 ht hvm hp hb hz hk hS1 => ?_)
  rw [ht] at hb
  exact kk H1 locs1 hb hS1
theorem ct_pre (hR : ct_S D B N E H) (hK : va_K D vwCl (tyl cI cZ cL cR) s) (hY : lm_Y s) (As : List Value) : ∀ U : State, U.heap = H → s.WarmedH U.vm → va_Pc As (ct_W D cI cZ cL cR B N E) As.toArray U := by
  intro U hU hW
  exact ⟨rfl, by rw [hU]; exact hR, va_K.moved hW.alike hK, hY.move hW⟩
variable {y : MethodName} {rm : Room} {Qc : Array Value → State → Outcome → State → Prop} {bytes : ByteArray} {maxL index mc ms : Nat} {lv : List (Nat × Value)} {x : Nat}
theorem ct_runN {host : String} (C0 : ct_Cx D cI cZ cL cR B p s m args meth c cc nL own) (hR : ct_S D B N E H) (hM : Met l y (Cond.code y bytes maxL none :: lw_u) rm (va_Pc [.ref (B + x)] (ct_W D cI cZ cL cR B N E)) Qc mc ms (lm_A B)) (hl2 : va_Nw (.methodLinkNest own index y host) s) (hq : Cond.instanceMethod y ∈ lw_u ∧ Cond.initialized y.cls ∈ lw_u ∧ Cond.code y bytes maxL none ∈ lw_u) (hy : y.name = "<init>") (hrc : rm.cells = mc) (hrs : rm.slots = ms) (hdd : y.cls ≠ "java/lang/invoke/MethodHandle" ∧ y.cls ≠ "java/lang/invoke/VarHandle" ∧ (parseMethodDescriptor y.desc).map (fun d => d.parameters.length) = some 0) (hRm : rm.frames + 1 ≤ R.frames ∧ 8 + (maxL + 11) + rm.locals ≤ R.locals) (hl : lv_has ls nL lv) (hW : (rest.map fun v => v.category).sum ≤ 8) (hd : decode cc pc = .ok (.invokespecial index, 3)) (hf : cells + mc ≤ R.cells ∧ slots + ms ≤ R.slots) :
    va_Run p l e R s m args below meth c H locs cells slots mc ms (F0 m pc ls (.ref (B + x) :: rest)) rest (Qc [Value.ref (B + x)].toArray) (lm_A B) := by
  obtain ⟨hx, hb, hml, hr, hlk, hown, hts, hK, hY, hin, hBs⟩ := C0
  exact va_runIN (As := []) ⟨hx, hb, hml, hown, hts⟩ hM ⟨va_cnB 0 hts (lw_G hq.2.2) rfl hrc hrs hl2 (hts _ hq.2.1) hdd hRm, hy, hts _ hq.1⟩ ⟨ct_blind, ct_pre hR hK hY _⟩ rfl rfl hl.1 rfl (lv_room hW) hd hf
theorem ct_runI (C0 : ct_Cx D cI cZ cL cR B p s m args meth c cc nL own) (hR : ct_S D B N E H) (hM : Met l y (Cond.code y bytes maxL none :: lw_u) rm (va_Pc [.ref (B + x)] (ct_W D cI cZ cL cR B N E)) Qc mc ms (lm_A B)) (hl2 : Cond.methodLink own index y ∈ lw_u) (hq : Cond.instanceMethod y ∈ lw_u ∧ Cond.initialized y.cls ∈ lw_u ∧ Cond.code y bytes maxL none ∈ lw_u) (hy : y.name = "<init>") (hrc : rm.cells = mc) (hrs : rm.slots = ms) (hdd : y.cls ≠ "java/lang/invoke/MethodHandle" ∧ y.cls ≠ "java/lang/invoke/VarHandle" ∧ (parseMethodDescriptor y.desc).map (fun d => d.parameters.length) = some 0) (hRm : rm.frames + 1 ≤ R.frames ∧ 8 + (maxL + 11) + rm.locals ≤ R.locals) (hl : lv_has ls nL lv) (hW : (rest.map fun v => v.category).sum ≤ 8) (hd : decode cc pc = .ok (.invokespecial index, 3)) (hf : cells + mc ≤ R.cells ∧ slots + ms ≤ R.slots) :
    va_Run p l e R s m args below meth c H locs cells slots mc ms (F0 m pc ls (.ref (B + x) :: rest)) rest (Qc [Value.ref (B + x)].toArray) (lm_A B) := by
  obtain ⟨hx, hb, hml, hr, hlk, hown, hts, hK, hY, hin, hBs⟩ := C0
  exact va_runI (As := []) ⟨hx, hb, hml, hown, hts⟩ hM (cwI 0 hts (lw_G hq.2.2) rfl hrc hrs (hts _ hq.2.1) (hts _ hl2) (hts _ hq.1) hy hdd hRm) ⟨ct_blind, ct_pre hR hK hY _⟩ rfl rfl hl.1 rfl (lv_room hW) hd hf
end CTB
