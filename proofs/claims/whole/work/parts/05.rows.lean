/-! ROWS over the memory: context, contracts, instructions, calls. -/
abbrev lm_A (B : Nat) : Nat → Prop := fun q => B ≤ q
def lm_t1 : Nat → Int32 := fun j => ([0, 0, 1, 1, 0, 4] : List Int32).getD j 0
def lm_t2 : Nat → Int32 := fun j => ([10, 11, 12, 11, 13, 14] : List Int32).getD j 0
def lm_t3 : Nat → Int32 := fun j => ([20, 21, 24, 22, 23, 23] : List Int32).getD j 0
def lm_st (n : String) (f : Nat → Int32) (B : Nat) (U : State) : Prop := ∃ t : Nat, va_Z "LampLogs" n "[I" (.ref t) (lm_A B) U U.heap ∧ va_T .int t 6 (fun j => .int (f j)) (lm_A B) U U.heap
def lm_X (B : Nat) (U : State) : Prop := lm_st "PARENT" lm_t1 B U ∧ lm_st "SIZE_BODY" lm_t2 B U ∧ lm_st "MARK_BODY" lm_t3 B U ∧ va_Nw (.methodLinkNest RX1 54 yX4_isSeenBy "LampLogs") U ∧ va_Nw (.methodLinkNest RX1 58 yX4_bitIf "LampLogs") U ∧ va_Nw (.methodLinkNest RX3 51 yX4_isWithin "LampLogs") U
theorem lm_st.move {n : String} {f : Nat → Int32} {B : Nat} {s U : State} (hvm : s.vm.Alike U.vm) (hh : ∀ a : Nat, a < s.heap.size → ¬ lm_A B a → U.heap[a]? = s.heap[a]?) (h : lm_st n f B s) : lm_st n f B U := by
  obtain ⟨t, h1, h2⟩ := h
  exact ⟨t, (va_Z.moved hvm h1).kept hh, (va_T.moved hvm h2).kept hh⟩
theorem lm_X.move {B : Nat} {s U : State} (hW : s.WarmedH U.vm) (hh : ∀ a : Nat, a < s.heap.size → ¬ lm_A B a → U.heap[a]? = s.heap[a]?) (h : lm_X B s) : lm_X B U :=
  ⟨h.1.move hW.alike hh, h.2.1.move hW.alike hh, h.2.2.1.move hW.alike hh, va_Nw.warmM hW h.2.2.2.1, va_Nw.warmM hW h.2.2.2.2.1, va_Nw.warmM hW h.2.2.2.2.2⟩
def lm_W (D : va_G) (cI cZ cL cR : ClassId) (B : Nat) (σ τ : Mem) (U : State) : Prop := va_P D vwCl (wl cI cZ cL cR B σ τ) U.heap ∧ va_K D vwCl (tyl cI cZ cL cR) U ∧ lm_X B U
theorem lm_blind {D : va_G} {cI cZ cL cR : ClassId} {B : Nat} {σ τ : Mem} {As : List Value} : FrameBlind (va_Pc As (lm_W D cI cZ cL cR B σ τ)) := by
  intro a U g mk h
  obtain ⟨h0, h1, h2, h3⟩ := h
  obtain ⟨x1, x2, x3, x4, x5, x6⟩ := h3
  exact ⟨h0, h1, va_K.moved (u := U) (U := U.calling g mk a) (Vm.Alike.refl U.vm) h2, lm_st.move (s := U) (U := U.calling g mk a) (Vm.Alike.refl U.vm) (fun _ _ _ => rfl) x1, lm_st.move (s := U) (U := U.calling g mk a) (Vm.Alike.refl U.vm) (fun _ _ _ => rfl) x2, lm_st.move (s := U) (U := U.calling g mk a) (Vm.Alike.refl U.vm) (fun _ _ _ => rfl) x3, va_Nw.same (u := U) (U := U.calling g mk a) rfl rfl x4, va_Nw.same (u := U) (U := U.calling g mk a) rfl rfl x5, va_Nw.same (u := U) (U := U.calling g mk a) rfl rfl x6⟩
abbrev lm_QI (D : va_G) (cI cZ cL cR : ClassId) (B : Nat) (r : Int32) (σ τ : Mem) : Array Value → State → Outcome → State → Prop := va_Qi (fun (r2 : Int32) (_ : Unit) => r2 = r) (fun _ t => va_P D vwCl (wl cI cZ cL cR B σ τ) t.heap) (lm_A B)
abbrev lm_QJ (D : va_G) (cI cZ cL cR : ClassId) (B : Nat) (r : Int64) (σ τ : Mem) : Array Value → State → Outcome → State → Prop := va_Ql (fun (r2 : Int64) (_ : Unit) => r2 = r) (fun _ t => va_P D vwCl (wl cI cZ cL cR B σ τ) t.heap) (lm_A B)
abbrev lm_QV (D : va_G) (cI cZ cL cR : ClassId) (B : Nat) (σ τ : Mem) : Array Value → State → Outcome → State → Prop := va_Qv (fun (_ : Unit) => True) (fun _ t => va_P D vwCl (wl cI cZ cL cR B σ τ) t.heap) (lm_A B)
/-- a method's contract: from the memories σ τ it comes back with r, the memories being σ' τ' then -/
def lm_CI (l : Launch) (y : MethodName) (ws : List Cond) (rm : Room) (D : va_G) (cI cZ cL cR : ClassId) (B : Nat) (As : List Value) (σ τ : Mem) (r : Int32) (σ' τ' : Mem) : Prop := Met l y ws rm (va_Pc As (lm_W D cI cZ cL cR B σ τ)) (lm_QI D cI cZ cL cR B r σ' τ') 0 0 (lm_A B)
def lm_CJ (l : Launch) (y : MethodName) (ws : List Cond) (rm : Room) (D : va_G) (cI cZ cL cR : ClassId) (B : Nat) (As : List Value) (σ τ : Mem) (r : Int64) (σ' τ' : Mem) : Prop := Met l y ws rm (va_Pc As (lm_W D cI cZ cL cR B σ τ)) (lm_QJ D cI cZ cL cR B r σ' τ') 0 0 (lm_A B)
def lm_CV (l : Launch) (y : MethodName) (ws : List Cond) (rm : Room) (D : va_G) (cI cZ cL cR : ClassId) (B : Nat) (As : List Value) (σ τ : Mem) (σ' τ' : Mem) : Prop := Met l y ws rm (va_Pc As (lm_W D cI cZ cL cR B σ τ)) (lm_QV D cI cZ cL cR B σ' τ') 0 0 (lm_A B)
def lm_Cx (D : va_G) (cI cZ cL cR : ClassId) (B : Nat) (p : Program) (s : State) (m : MethodId) (args : Array Value) (meth : Method) (c : Code) (cc : ByteArray) (nL : Nat) (ret : Option FieldType) (own : String) : Prop :=
  p.tables.exec = Jvm.exec ∧ c.code = cc ∧ c.maxLocals = nL ∧ meth.sig.returnType = ret ∧ meth.locks = false ∧ s.vm.findClass own = some m.cls ∧ (∀ w ∈ lw_u, w.before args s = true) ∧ va_K D vwCl (tyl cI cZ cL cR) s ∧ lm_X B s
section LMR
variable {l : Launch} {D : va_G} {cI cZ cL cR : ClassId} {B : Nat} {σ τ σ' τ' : Mem}
theorem lm_of {y : MethodName} {rm : Room} {cc : ByteArray} {maxL : Nat} {ret : Option FieldType} {own : String} {As : List Value} {Qc : Array Value → State → Outcome → State → Prop} (hy : plainName y.cls = true) (hcls : y.cls = own) (hA : (lg_sl As).length ≤ maxL)
    (body : ∀ (p : Program) (e : Env) (s : State) (m : MethodId) (below : List Frame) (meth : Method) (c : Code), lm_Cx D cI cZ cL cR B p s m As.toArray meth c cc maxL ret own → va_P D vwCl (wl cI cZ cL cR B σ τ) s.heap → ∀ ls : Array Slot, lv_has ls maxL (lv_args 0 As) → W p l e rm s m As.toArray below meth c s.heap [] 0 0 (MQ below Qc As.toArray s 0 0 (lm_A B)) (F0 m 0 ls [])) : Met l y (Cond.code y cc maxL ret :: lw_u) rm (va_Pc As (lm_W D cI cZ cL cR B σ τ)) Qc 0 0 (lm_A B) := by
  refine Met.ofW (cc := cc) (maxL := maxL) (ret := ret) hy rfl ?_
  intro p e s m args below meth c s₁ Bd hml hv
  obtain ⟨rfl, hP, hK, hX⟩ := hv
  have hl := lv_entry As (n := maxL) hA
  rw [lg_entry_eq]
  exact body p e s m below meth c ⟨Bd.exec, Bd.bytes, hml, Bd.returns, Bd.notSynchronized, by rw [← hcls]; exact findClass_of_methodNamed Bd.named, fun w hw => atoms_spec (ws := Cond.code y cc maxL ret :: lw_u) Bd.pre w (List.mem_cons_of_mem _ hw), hK, hX⟩ hP _ hl
variable {p : Program} {e : Env} {R : Room} {s : State} {m : MethodId} {args : Array Value} {below : List Frame} {meth : Method} {c : Code} {H : Heap} {locs : List Loc} {Q : State → Prop} {cc : ByteArray} {nL : Nat} {ret : Option FieldType} {own : String} {pc : Nat} {ls : Array Slot} {rest : List Value}
theorem lm_ri {r : Int32} (C0 : lm_Cx D cI cZ cL cR B p s m args meth c cc nL (some .int) own) (hR : va_P D vwCl (wl cI cZ cL cR B σ τ) H) (hS : va_S (lm_A B) s.heap H locs) (hd : decode cc pc = .ok (.ireturn, 1)) : W p l e R s m args below meth c H locs 0 0 (MQ below (lm_QI D cI cZ cL cR B r σ τ) args s 0 0 (lm_A B)) (F0 m pc ls [.int r]) :=
  W.iret C0.1 C0.2.1 C0.2.2.2.1 (fun t ht _ => ⟨⟨r, (), rfl, rfl, by show va_P D vwCl (wl cI cZ cL cR B σ τ) t.heap; rw [ht]; exact hR⟩, hS.F ht⟩) hS.2.2 hd C0.2.2.2.2.1
theorem lm_rz {r : Int32} (C0 : lm_Cx D cI cZ cL cR B p s m args meth c cc nL (some .boolean) own) (hR : va_P D vwCl (wl cI cZ cL cR B σ τ) H) (hS : va_S (lm_A B) s.heap H locs) (hn : narrow .boolean (.int r) = .int r) (hd : decode cc pc = .ok (.ireturn, 1)) : W p l e R s m args below meth c H locs 0 0 (MQ below (lm_QI D cI cZ cL cR B r σ τ) args s 0 0 (lm_A B)) (F0 m pc ls [.int r]) :=
  W.zret C0.1 C0.2.1 C0.2.2.2.1 hn (fun t ht _ => ⟨⟨r, (), rfl, rfl, by show va_P D vwCl (wl cI cZ cL cR B σ τ) t.heap; rw [ht]; exact hR⟩, hS.F ht⟩) hS.2.2 hd C0.2.2.2.2.1
theorem lm_rl {r : Int64} (C0 : lm_Cx D cI cZ cL cR B p s m args meth c cc nL (some .long) own) (hR : va_P D vwCl (wl cI cZ cL cR B σ τ) H) (hS : va_S (lm_A B) s.heap H locs) (hd : decode cc pc = .ok (.lreturn, 1)) : W p l e R s m args below meth c H locs 0 0 (MQ below (lm_QJ D cI cZ cL cR B r σ τ) args s 0 0 (lm_A B)) (F0 m pc ls [.long r]) :=
  W.lret C0.1 C0.2.1 C0.2.2.2.1 (fun t ht _ => ⟨⟨r, (), rfl, rfl, by show va_P D vwCl (wl cI cZ cL cR B σ τ) t.heap; rw [ht]; exact hR⟩, hS.F ht⟩) hS.2.2 hd C0.2.2.2.2.1
theorem lm_rv (C0 : lm_Cx D cI cZ cL cR B p s m args meth c cc nL none own) (hR : va_P D vwCl (wl cI cZ cL cR B σ τ) H) (hS : va_S (lm_A B) s.heap H locs) (hd : decode cc pc = .ok (.return_, 1)) : W p l e R s m args below meth c H locs 0 0 (MQ below (lm_QV D cI cZ cL cR B σ τ) args s 0 0 (lm_A B)) (F0 m pc ls []) :=
  W.vret C0.1 C0.2.1 C0.2.2.2.1 (fun t ht _ => ⟨⟨(), rfl, trivial, by show va_P D vwCl (wl cI cZ cL cR B σ τ) t.heap; rw [ht]; exact hR⟩, hS.F ht⟩) hS.2.2 hd C0.2.2.2.2.1
theorem lm_get (C0 : lm_Cx D cI cZ cL cR B p s m args meth c cc nL ret own) (hR : va_P D vwCl (wl cI cZ cL cR B σ τ) H) {x ci N index : Nat} {fs : List Value} {C ref : String} {T : u_T} {v : Value} (hc : x < 153) (he : cellA cI cZ cL cR B σ τ x = .inr (ci, fs)) (hcl : vwCl[ci]? = some (C, T, N)) (hin : ∀ w ∈ u_ws C T N, w ∈ lw_u) (k : Nat) (hk : k < N) (hlink : Cond.fieldLink own index ref (T k).2.1 (T k).2.2.1 ∈ lw_u) (href : (T k).1 = ref) (hv : fs[k]? = some v) (hd : decode cc pc = .ok (.getfield index, 3))
    (kk : W p l e R s m args below meth c H locs 0 0 Q (F0 m (pc + 3) ls (v :: rest))) : W p l e R s m args below meth c H locs 0 0 Q (F0 m pc ls (.ref (B + x) :: rest)) := by
  obtain ⟨hx, hb, hml, hr, hlk, hown, hts, hK, hX⟩ := C0
  exact va_get hx hb hts hin hown hK hR x (wl_at hc he) hcl k hk (hts _ hlink) (fun _ h => by rw [← href]; exact h) hv hd kk
theorem lm_put (C0 : lm_Cx D cI cZ cL cR B p s m args meth c cc nL ret own) (hR : va_P D vwCl (wl cI cZ cL cR B σ τ) H) (hS : va_S (lm_A B) s.heap H locs) {x ci N index : Nat} {fs : List Value} {C ref : String} {T : u_T} {ty : FieldType} {v : Int32} (hc : x < 153) (he : cellA cI cZ cL cR B σ τ x = .inr (ci, fs)) (hcl : vwCl[ci]? = some (C, T, N)) (hin : ∀ w ∈ u_ws C T N, w ∈ lw_u) (ty0 : Nat → FieldType) (hty : ∀ k, k < N → parseFieldDescriptor (T k).2.2.1 = some (ty0 k)) (hnm : ∀ a, a < N → ∀ b, b < N → a ≠ b → (T a).2.1 ≠ (T b).2.1) (k : Nat) (hk : k < N) (hlink : Cond.fieldLink own index ref (T k).2.1 (T k).2.2.1 ∈ lw_u) (href : (T k).1 = ref) (hfin : (T k).2.2.2 = false) (ht : ty0 k = ty) (hn : narrow ty (.int v) = .int v) (hfit : fits ty (.int v) = true) (hl : k < fs.length)
    (hE : cellA cI cZ cL cR B σ' τ' x = .inr (ci, fs.set k (.int v))) (hO : ∀ z, z ≠ x → cellA cI cZ cL cR B σ' τ' z = cellA cI cZ cL cR B σ τ z) (hd : decode cc pc = .ok (.putfield index, 3))
    (kk : ∀ (H1 : Heap) (locs1 : List Loc), va_P D vwCl (wl cI cZ cL cR B σ' τ') H1 → va_S (lm_A B) s.heap H1 locs1 → W p l e R s m args below meth c H1 locs1 0 0 Q (F0 m (pc + 3) ls rest)) : W p l e R s m args below meth c H locs 0 0 Q (F0 m pc ls (.int v :: .ref (B + x) :: rest)) := by
  obtain ⟨hx, hb, hml, hr, hlk, hown, hts, hK, hX⟩ := C0
  refine va_put hx hb hts hin ty0 hty hnm hown hK hR wl_D hS x (wl_at hc he) hcl k hk (hts _ hlink) (fun _ h => by rw [← href]; exact h) hfin (by rw [hty k hk, ht]) hn hfit hl hd (fun H1 locs1 hP1 _ hS1 => ?_)
  rw [wl_set hE hO] at hP1
  exact kk H1 locs1 hP1 hS1
theorem lm_ild (C0 : lm_Cx D cI cZ cL cR B p s m args meth c cc nL ret own) (hR : va_P D vwCl (wl cI cZ cL cR B σ τ) H) {x n : Nat} {f : Nat → Int32} {i : Int32} (hc : x < 153) (he : cellA cI cZ cL cR B σ τ x = e_int cI n f) (hi : lm_in i n = true) (hd : decode cc pc = .ok (.iaload, 1))
    (kk : W p l e R s m args below meth c H locs 0 0 Q (F0 m (pc + 1) ls (.int (f i.toNatClampNeg) :: rest))) : W p l e R s m args below meth c H locs 0 0 Q (F0 m pc ls (.int i :: .ref (B + x) :: rest)) := by
  obtain ⟨hx, hb, hml, hr, hlk, hown, hts, hK, hX⟩ := C0
  exact va_iald hx hb hK hR x 0 (wl_at hc he) rfl (lm_inT hi) hd kk
theorem lm_ist (C0 : lm_Cx D cI cZ cL cR B p s m args meth c cc nL ret own) (hR : va_P D vwCl (wl cI cZ cL cR B σ τ) H) (hS : va_S (lm_A B) s.heap H locs) {x n : Nat} {f : Nat → Int32} {i v : Int32} (hc : x < 153) (he : cellA cI cZ cL cR B σ τ x = e_int cI n f) (hi : lm_in i n = true)
    (hE : cellA cI cZ cL cR B σ' τ' x = e_int cI n (upd f i.toNatClampNeg v)) (hO : ∀ z, z ≠ x → cellA cI cZ cL cR B σ' τ' z = cellA cI cZ cL cR B σ τ z) (hd : decode cc pc = .ok (.iastore, 1))
    (kk : ∀ (H1 : Heap) (locs1 : List Loc), va_P D vwCl (wl cI cZ cL cR B σ' τ') H1 → va_S (lm_A B) s.heap H1 locs1 → W p l e R s m args below meth c H1 locs1 0 0 Q (F0 m (pc + 1) ls rest)) : W p l e R s m args below meth c H locs 0 0 Q (F0 m pc ls (.int v :: .int i :: .ref (B + x) :: rest)) := by
  obtain ⟨hx, hb, hml, hr, hlk, hown, hts, hK, hX⟩ := C0
  refine va_iast hx hb hK hR wl_D hS x 0 (wl_at hc he) rfl (lm_inT hi) hd (fun H1 locs1 hP1 _ hS1 => ?_)
  rw [wl_set hE hO] at hP1
  exact kk H1 locs1 hP1 hS1
theorem lm_zld (C0 : lm_Cx D cI cZ cL cR B p s m args meth c cc nL ret own) (hR : va_P D vwCl (wl cI cZ cL cR B σ τ) H) {x n : Nat} {f : Nat → Int32} {i : Int32} (hc : x < 153) (he : cellA cI cZ cL cR B σ τ x = e_int cZ n f) (hi : lm_in i n = true) (hd : decode cc pc = .ok (.baload, 1))
    (kk : W p l e R s m args below meth c H locs 0 0 Q (F0 m (pc + 1) ls (.int (f i.toNatClampNeg) :: rest))) : W p l e R s m args below meth c H locs 0 0 Q (F0 m pc ls (.int i :: .ref (B + x) :: rest)) := by
  obtain ⟨hx, hb, hml, hr, hlk, hown, hts, hK, hX⟩ := C0
  exact va_zald hx hb hK hR x 1 (wl_at hc he) rfl (lm_inT hi) hd kk
theorem lm_zst (C0 : lm_Cx D cI cZ cL cR B p s m args meth c cc nL ret own) (hR : va_P D vwCl (wl cI cZ cL cR B σ τ) H) (hS : va_S (lm_A B) s.heap H locs) {x n : Nat} {f : Nat → Int32} {i v : Int32} (hc : x < 153) (he : cellA cI cZ cL cR B σ τ x = e_int cZ n f) (hi : lm_in i n = true) (hv : vp_nar .boolean v = v)
    (hE : cellA cI cZ cL cR B σ' τ' x = e_int cZ n (upd f i.toNatClampNeg v)) (hO : ∀ z, z ≠ x → cellA cI cZ cL cR B σ' τ' z = cellA cI cZ cL cR B σ τ z) (hd : decode cc pc = .ok (.bastore, 1))
    (kk : ∀ (H1 : Heap) (locs1 : List Loc), va_P D vwCl (wl cI cZ cL cR B σ' τ') H1 → va_S (lm_A B) s.heap H1 locs1 → W p l e R s m args below meth c H1 locs1 0 0 Q (F0 m (pc + 1) ls rest)) : W p l e R s m args below meth c H locs 0 0 Q (F0 m pc ls (.int v :: .int i :: .ref (B + x) :: rest)) := by
  obtain ⟨hx, hb, hml, hr, hlk, hown, hts, hK, hX⟩ := C0
  refine va_zast hx hb hK hR wl_D hS x 1 (wl_at hc he) rfl (lm_inT hi) hd (fun H1 locs1 hP1 _ hS1 => ?_)
  rw [hv, wl_set hE hO] at hP1
  exact kk H1 locs1 hP1 hS1
theorem lm_ald (C0 : lm_Cx D cI cZ cL cR B p s m args meth c cc nL ret own) (hR : va_P D vwCl (wl cI cZ cL cR B σ τ) H) {x n t0 : Nat} {cA : ClassId} {C : String} {f : Nat → Option Nat} {i : Int32} (hc : x < 153) (he : cellA cI cZ cL cR B σ τ x = e_ref cA n f) (ht : (tyl cI cZ cL cR)[t0]? = some (cA, .object C)) (hi : lm_in i n = true) {v : Nat} (hv : f i.toNatClampNeg = some v) (hd : decode cc pc = .ok (.aaload, 1))
    (kk : W p l e R s m args below meth c H locs 0 0 Q (F0 m (pc + 1) ls (.ref v :: rest))) : W p l e R s m args below meth c H locs 0 0 Q (F0 m pc ls (.int i :: .ref (B + x) :: rest)) := by
  obtain ⟨hx, hb, hml, hr, hlk, hown, hts, hK, hX⟩ := C0
  refine va_aldq hx hb hK hR x t0 (wl_at hc he) ht (lm_inT hi) hd ?_
  rw [hv]
  exact kk
theorem lm_endi {a : Array Value} {st0 : List Value} {r : Int32} (hr : va_Run p l e R s m args below meth c H locs 0 0 0 0 (F0 m pc ls st0) rest (lm_QI D cI cZ cL cR B r σ' τ' a) (lm_A B)) (hS : va_S (lm_A B) s.heap H locs)
    (kk : ∀ (H1 : Heap) (locs1 : List Loc), va_P D vwCl (wl cI cZ cL cR B σ' τ') H1 → va_S (lm_A B) s.heap H1 locs1 → W p l e R s m args below meth c H1 locs1 0 0 Q (F0 m (pc + 3) ls (.int r :: rest))) : W p l e R s m args below meth c H locs 0 0 Q (F0 m pc ls st0) := by
  refine va_calli hr hS (fun _ _ h => h) (fun _ h => h) (fun r2 u t H1 locs1 ht hvm hp hb hz hk hS1 => ?_)
  subst hp
  rw [ht] at hb
  exact kk H1 locs1 hb hS1
theorem lm_endj {a : Array Value} {st0 : List Value} {r : Int64} (hr : va_Run p l e R s m args below meth c H locs 0 0 0 0 (F0 m pc ls st0) rest (lm_QJ D cI cZ cL cR B r σ' τ' a) (lm_A B)) (hS : va_S (lm_A B) s.heap H locs)
    (kk : ∀ (H1 : Heap) (locs1 : List Loc), va_P D vwCl (wl cI cZ cL cR B σ' τ') H1 → va_S (lm_A B) s.heap H1 locs1 → W p l e R s m args below meth c H1 locs1 0 0 Q (F0 m (pc + 3) ls (.long r :: rest))) : W p l e R s m args below meth c H locs 0 0 Q (F0 m pc ls st0) := by
  refine va_calll hr hS (fun _ _ h => h) (fun _ h => h) (fun r2 u t H1 locs1 ht hvm hp hb hz hk hS1 => ?_)
  subst hp
  rw [ht] at hb
  exact kk H1 locs1 hb hS1
theorem lm_endv {a : Array Value} {st0 : List Value} (hr : va_Run p l e R s m args below meth c H locs 0 0 0 0 (F0 m pc ls st0) rest (lm_QV D cI cZ cL cR B σ' τ' a) (lm_A B)) (hS : va_S (lm_A B) s.heap H locs)
    (kk : ∀ (H1 : Heap) (locs1 : List Loc), va_P D vwCl (wl cI cZ cL cR B σ' τ') H1 → va_S (lm_A B) s.heap H1 locs1 → W p l e R s m args below meth c H1 locs1 0 0 Q (F0 m (pc + 3) ls rest)) : W p l e R s m args below meth c H locs 0 0 Q (F0 m pc ls st0) := by
  refine va_callv hr hS (fun _ _ h => h) (fun _ h => h) (fun u t H1 locs1 ht hvm hp hb hz hk hS1 => ?_)
  rw [ht] at hb
  exact kk H1 locs1 hb hS1
theorem lm_pre (C0 : lm_Cx D cI cZ cL cR B p s m args meth c cc nL ret own) (hR : va_P D vwCl (wl cI cZ cL cR B σ τ) H) (hS : va_S (lm_A B) s.heap H locs) (As : List Value) : ∀ U : State, U.heap = H → s.WarmedH U.vm → va_Pc As (lm_W D cI cZ cL cR B σ τ) As.toArray U := by
  obtain ⟨hx, hb, hml, hr, hlk, hown, hts, hK, hX⟩ := C0
  intro U hU hW
  refine ⟨rfl, by rw [hU]; exact hR, va_K.moved hW.alike hK, hX.move hW (fun a h1 h2 => ?_)⟩
  rw [hU]
  exact hS.2.1 a h1 h2
variable {y : MethodName} {ws : List Cond} {rm : Room} {Qc : Array Value → State → Outcome → State → Prop} {bytes : ByteArray} {maxL n index : Nat} {ret2 : Option FieldType} {As st0 : List Value} {lv : List (Nat × Value)}
theorem lm_runV {x ci N : Nat} {fs : List Value} {C : String} {T : u_T} (C0 : lm_Cx D cI cZ cL cR B p s m args meth c cc nL ret own) (hR : va_P D vwCl (wl cI cZ cL cR B σ τ) H) (hS : va_S (lm_A B) s.heap H locs) (hM : Met l y ws rm (va_Pc (.ref (B + x) :: As) (lm_W D cI cZ cL cR B σ τ)) Qc 0 0 (lm_A B)) (cw : CallW R s args own C index y bytes maxL ret2 ws rm 0 0 n) (hc : x < 153) (he : cellA cI cZ cL cR B σ τ x = .inr (ci, fs)) (hcl : vwCl[ci]? = some (C, T, N)) (hn : As.length = n) (hl : lv_has ls nL lv) (hst : st0 = As.reverse ++ .ref (B + x) :: rest) (hW : (rest.map fun v => v.category).sum ≤ 8) (hd : decode cc pc = .ok (.invokevirtual index, 3)) :
    va_Run p l e R s m args below meth c H locs 0 0 0 0 (F0 m pc ls st0) rest (Qc (Value.ref (B + x) :: As).toArray) (lm_A B) :=
  va_runV ⟨C0.1, C0.2.1, C0.2.2.1, C0.2.2.2.2.2.1, C0.2.2.2.2.2.2.1⟩ hM cw ⟨lm_blind, va_recv C0.2.2.2.2.2.2.2.1 hR hcl (wl_at hc he), lm_pre C0 hR hS _⟩ rfl hn hl.1 hst (lv_room hW) hd ⟨Nat.zero_le _, Nat.zero_le _⟩
theorem lm_runS (C0 : lm_Cx D cI cZ cL cR B p s m args meth c cc nL ret own) (hR : va_P D vwCl (wl cI cZ cL cR B σ τ) H) (hS : va_S (lm_A B) s.heap H locs) (hM : Met l y ws rm (va_Pc As (lm_W D cI cZ cL cR B σ τ)) Qc 0 0 (lm_A B)) (cw : CallB R s args own index y bytes maxL ret2 ws rm 0 0 n ∧ (Cond.static y).before args s = true) (hn : As.length = n) (hl : lv_has ls nL lv) (hst : st0 = As.reverse ++ rest) (hW : (rest.map fun v => v.category).sum ≤ 8) (hd : decode cc pc = .ok (.invokestatic index, 3)) :
    va_Run p l e R s m args below meth c H locs 0 0 0 0 (F0 m pc ls st0) rest (Qc As.toArray) (lm_A B) :=
  va_runS ⟨C0.1, C0.2.1, C0.2.2.1, C0.2.2.2.2.2.1, C0.2.2.2.2.2.2.1⟩ hM cw ⟨lm_blind, lm_pre C0 hR hS _⟩ rfl hn hl.1 hst (lv_room hW) hd ⟨Nat.zero_le _, Nat.zero_le _⟩
theorem lm_runSN {host : String} (C0 : lm_Cx D cI cZ cL cR B p s m args meth c cc nL ret own) (hR : va_P D vwCl (wl cI cZ cL cR B σ τ) H) (hS : va_S (lm_A B) s.heap H locs) (hM : Met l y ws rm (va_Pc As (lm_W D cI cZ cL cR B σ τ)) Qc 0 0 (lm_A B)) (cw : va_CN R s args own index y host bytes maxL ret2 ws rm 0 0 n ∧ (Cond.static y).before args s = true ∧ True) (hn : As.length = n) (hl : lv_has ls nL lv) (hst : st0 = As.reverse ++ rest) (hW : (rest.map fun v => v.category).sum ≤ 8) (hd : decode cc pc = .ok (.invokestatic index, 3)) :
    va_Run p l e R s m args below meth c H locs 0 0 0 0 (F0 m pc ls st0) rest (Qc As.toArray) (lm_A B) :=
  va_runSN ⟨C0.1, C0.2.1, C0.2.2.1, C0.2.2.2.2.2.1, C0.2.2.2.2.2.2.1⟩ hM cw ⟨lm_blind, lm_pre C0 hR hS _⟩ rfl hn hl.1 hst (lv_room hW) hd ⟨Nat.zero_le _, Nat.zero_le _⟩
end LMR

section LMC
variable {R : Room} {s : State} {args : Array Value} {own host : String} {index maxL : Nat} {y : MethodName} {bytes : ByteArray} {ret : Option FieldType} {rm : Room}
theorem lw_cV (n : Nat) (ht : ∀ w ∈ lw_u, w.before args s = true) (h1 : Cond.methodLink own index y ∈ lw_u) (hq : Cond.instanceMethod y ∈ lw_u ∧ Cond.selects y.cls y y ∈ lw_u ∧ Cond.initialized y.cls ∈ lw_u ∧ Cond.code y bytes maxL ret ∈ lw_u) (hrc : rm.cells = 0) (hrs : rm.slots = 0) (hd : y.cls ≠ "java/lang/invoke/MethodHandle" ∧ y.cls ≠ "java/lang/invoke/VarHandle" ∧ (parseMethodDescriptor y.desc).map (fun d => d.parameters.length) = some n) (hR : rm.frames + 1 ≤ R.frames ∧ 8 + (maxL + 11) + rm.locals ≤ R.locals) :
    CallW R s args own y.cls index y bytes maxL ret (Cond.code y bytes maxL ret :: lw_u) rm 0 0 n :=
  ⟨callB_of n ht (lw_G hq.2.2.2) rfl hrc hrs (ht _ hq.2.2.1) (ht _ h1) hd hR, ht _ hq.1, ht _ hq.2.1⟩
theorem lw_cS (n : Nat) (ht : ∀ w ∈ lw_u, w.before args s = true) (h1 : Cond.methodLink own index y ∈ lw_u) (hq : Cond.static y ∈ lw_u ∧ Cond.initialized y.cls ∈ lw_u ∧ Cond.code y bytes maxL ret ∈ lw_u) (hrc : rm.cells = 0) (hrs : rm.slots = 0) (hd : y.cls ≠ "java/lang/invoke/MethodHandle" ∧ y.cls ≠ "java/lang/invoke/VarHandle" ∧ (parseMethodDescriptor y.desc).map (fun d => d.parameters.length) = some n) (hR : rm.frames + 1 ≤ R.frames ∧ 8 + (maxL + 11) + rm.locals ≤ R.locals) :
    CallB R s args own index y bytes maxL ret (Cond.code y bytes maxL ret :: lw_u) rm 0 0 n ∧ (Cond.static y).before args s = true :=
  ⟨callB_of n ht (lw_G hq.2.2) rfl hrc hrs (ht _ hq.2.1) (ht _ h1) hd hR, ht _ hq.1⟩
theorem lw_cN (n : Nat) (ht : ∀ w ∈ lw_u, w.before args s = true) (hl : va_Nw (.methodLinkNest own index y host) s) (hq : Cond.static y ∈ lw_u ∧ Cond.initialized y.cls ∈ lw_u ∧ Cond.code y bytes maxL ret ∈ lw_u) (hrc : rm.cells = 0) (hrs : rm.slots = 0) (hd : y.cls ≠ "java/lang/invoke/MethodHandle" ∧ y.cls ≠ "java/lang/invoke/VarHandle" ∧ (parseMethodDescriptor y.desc).map (fun d => d.parameters.length) = some n) (hR : rm.frames + 1 ≤ R.frames ∧ 8 + (maxL + 11) + rm.locals ≤ R.locals) :
    va_CN R s args own index y host bytes maxL ret (Cond.code y bytes maxL ret :: lw_u) rm 0 0 n ∧ (Cond.static y).before args s = true ∧ True :=
  ⟨va_cnB n ht (lw_G hq.2.2) rfl hrc hrs hl (ht _ hq.2.1) hd hR, ht _ hq.1, trivial⟩
end LMC
