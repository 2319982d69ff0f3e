section LMR4
variable {l : Launch} {D : va_G} {cI cZ cL cR : ClassId} {B : Nat} {σ τ σ' τ' : Mem}
variable {p : Program} {e : Env} {R : Room} {s : State} {m : MethodId} {args : Array Value} {below : List Frame} {meth : Method} {c : Code} {H : Heap} {locs : List Loc} {cc : ByteArray} {nL : Nat} {own : String} {pc : Nat} {ls : Array Slot}
theorem lm_riP {v r : Int32} (C0 : lm_Cx D cI cZ cL cR B p s m args meth c cc nL (some .int) own) (hR : va_P D vwCl (wl cI cZ cL cR B σ τ) H) (hS : va_S (lm_A B) s.heap H locs) (hf : some v = some r) (hd : decode cc pc = .ok (.ireturn, 1)) : W p l e R s m args below meth c H locs 0 0 (MQ below (lm_QI D cI cZ cL cR B r σ τ) args s 0 0 (lm_A B)) (F0 m pc ls [.int v]) := by
  cases hf
  exact lm_ri C0 hR hS hd
theorem lm_riC {v r : Int32} (C0 : lm_Cx D cI cZ cL cR B p s m args meth c cc nL (some .int) own) (hR : va_P D vwCl (wl cI cZ cL cR B σ τ) H) (hS : va_S (lm_A B) s.heap H locs) (hf : some (v, σ) = some (r, σ')) (hd : decode cc pc = .ok (.ireturn, 1)) : W p l e R s m args below meth c H locs 0 0 (MQ below (lm_QI D cI cZ cL cR B r σ' τ) args s 0 0 (lm_A B)) (F0 m pc ls [.int v]) := by
  cases hf
  exact lm_ri C0 hR hS hd
theorem lm_riM {v r : Int32} (C0 : lm_Cx D cI cZ cL cR B p s m args meth c cc nL (some .int) own) (hR : va_P D vwCl (wl cI cZ cL cR B σ τ) H) (hS : va_S (lm_A B) s.heap H locs) (hf : some (v, τ) = some (r, τ')) (hd : decode cc pc = .ok (.ireturn, 1)) : W p l e R s m args below meth c H locs 0 0 (MQ below (lm_QI D cI cZ cL cR B r σ τ') args s 0 0 (lm_A B)) (F0 m pc ls [.int v]) := by
  cases hf
  exact lm_ri C0 hR hS hd
theorem lm_rzP {v r : Int32} (C0 : lm_Cx D cI cZ cL cR B p s m args meth c cc nL (some .boolean) own) (hR : va_P D vwCl (wl cI cZ cL cR B σ τ) H) (hS : va_S (lm_A B) s.heap H locs) (hf : some v = some r) (hn : narrow .boolean (.int v) = .int v) (hd : decode cc pc = .ok (.ireturn, 1)) : W p l e R s m args below meth c H locs 0 0 (MQ below (lm_QI D cI cZ cL cR B r σ τ) args s 0 0 (lm_A B)) (F0 m pc ls [.int v]) := by
  cases hf
  exact lm_rz C0 hR hS hn hd
theorem lm_rzC {v r : Int32} (C0 : lm_Cx D cI cZ cL cR B p s m args meth c cc nL (some .boolean) own) (hR : va_P D vwCl (wl cI cZ cL cR B σ τ) H) (hS : va_S (lm_A B) s.heap H locs) (hf : some (v, σ) = some (r, σ')) (hn : narrow .boolean (.int v) = .int v) (hd : decode cc pc = .ok (.ireturn, 1)) : W p l e R s m args below meth c H locs 0 0 (MQ below (lm_QI D cI cZ cL cR B r σ' τ) args s 0 0 (lm_A B)) (F0 m pc ls [.int v]) := by
  cases hf
  exact lm_rz C0 hR hS hn hd
theorem lm_rzM {v r : Int32} (C0 : lm_Cx D cI cZ cL cR B p s m args meth c cc nL (some .boolean) own) (hR : va_P D vwCl (wl cI cZ cL cR B σ τ) H) (hS : va_S (lm_A B) s.heap H locs) (hf : some (v, τ) = some (r, τ')) (hn : narrow .boolean (.int v) = .int v) (hd : decode cc pc = .ok (.ireturn, 1)) : W p l e R s m args below meth c H locs 0 0 (MQ below (lm_QI D cI cZ cL cR B r σ τ') args s 0 0 (lm_A B)) (F0 m pc ls [.int v]) := by
  cases hf
  exact lm_rz C0 hR hS hn hd
theorem lm_rlP {v r : Int64} (C0 : lm_Cx D cI cZ cL cR B p s m args meth c cc nL (some .long) own) (hR : va_P D vwCl (wl cI cZ cL cR B σ τ) H) (hS : va_S (lm_A B) s.heap H locs) (hf : some v = some r) (hd : decode cc pc = .ok (.lreturn, 1)) : W p l e R s m args below meth c H locs 0 0 (MQ below (lm_QJ D cI cZ cL cR B r σ τ) args s 0 0 (lm_A B)) (F0 m pc ls [.long v]) := by
  cases hf
  exact lm_rl C0 hR hS hd
theorem lm_rlC {v r : Int64} (C0 : lm_Cx D cI cZ cL cR B p s m args meth c cc nL (some .long) own) (hR : va_P D vwCl (wl cI cZ cL cR B σ τ) H) (hS : va_S (lm_A B) s.heap H locs) (hf : some (v, σ) = some (r, σ')) (hd : decode cc pc = .ok (.lreturn, 1)) : W p l e R s m args below meth c H locs 0 0 (MQ below (lm_QJ D cI cZ cL cR B r σ' τ) args s 0 0 (lm_A B)) (F0 m pc ls [.long v]) := by
  cases hf
  exact lm_rl C0 hR hS hd
theorem lm_rlM {v r : Int64} (C0 : lm_Cx D cI cZ cL cR B p s m args meth c cc nL (some .long) own) (hR : va_P D vwCl (wl cI cZ cL cR B σ τ) H) (hS : va_S (lm_A B) s.heap H locs) (hf : some (v, τ) = some (r, τ')) (hd : decode cc pc = .ok (.lreturn, 1)) : W p l e R s m args below meth c H locs 0 0 (MQ below (lm_QJ D cI cZ cL cR B r σ τ') args s 0 0 (lm_A B)) (F0 m pc ls [.long v]) := by
  cases hf
  exact lm_rl C0 hR hS hd
theorem lm_rvC (C0 : lm_Cx D cI cZ cL cR B p s m args meth c cc nL none own) (hR : va_P D vwCl (wl cI cZ cL cR B σ τ) H) (hS : va_S (lm_A B) s.heap H locs) (hf : some σ = some σ') (hd : decode cc pc = .ok (.return_, 1)) : W p l e R s m args below meth c H locs 0 0 (MQ below (lm_QV D cI cZ cL cR B σ' τ) args s 0 0 (lm_A B)) (F0 m pc ls []) := by
  cases hf
  exact lm_rv C0 hR hS hd
theorem lm_rvM (C0 : lm_Cx D cI cZ cL cR B p s m args meth c cc nL none own) (hR : va_P D vwCl (wl cI cZ cL cR B σ τ) H) (hS : va_S (lm_A B) s.heap H locs) (hf : some τ = some τ') (hd : decode cc pc = .ok (.return_, 1)) : W p l e R s m args below meth c H locs 0 0 (MQ below (lm_QV D cI cZ cL cR B σ τ') args s 0 0 (lm_A B)) (F0 m pc ls []) := by
  cases hf
  exact lm_rv C0 hR hS hd
end LMR4
