/-! THE LAW'S ROWS -/
section LGR
variable {l : Launch} {D : va_G} {cI cZ cL cR : ClassId} {B : Nat} {σ τ σ' τ' : Mem}
variable {p : Program} {e : Env} {R : Room} {s : State} {m : MethodId} {args : Array Value} {below : List Frame} {meth : Method} {c : Code} {H : Heap} {locs : List Loc} {Q : State → Prop} {cc : ByteArray} {nL cells slots : Nat} {ret : Option FieldType} {own : String} {pc : Nat} {ls : Array Slot} {rest : List Value}
theorem lg_endi {a : Array Value} {st0 : List Value} {r : Int32} (hr : va_Run p l e R s m args below meth c H locs cells slots 0 0 (F0 m pc ls st0) rest (lm_QI D cI cZ cL cR B r σ' τ' a) (lm_A B)) (hS : va_S (lm_A B) s.heap H locs)
    (kk : ∀ (H1 : Heap) (locs1 : List Loc), va_P D vwCl (wl cI cZ cL cR B σ' τ') H1 → va_S (lm_A B) s.heap H1 locs1 → W p l e R s m args below meth c H1 locs1 cells slots Q (F0 m (pc + 3) ls (.int r :: rest))) : W p l e R s m args below meth c H locs cells slots Q (F0 m pc ls st0) := by
  refine va_calli hr hS (fun _ _ h => h) (fun _ h => h) (fun r2 u t H1 locs1 ht hvm hp hb hz hk hS1 => ?_)
  subst hp
  rw [ht] at hb
  exact kk H1 locs1 hb hS1
theorem lg_endj {a : Array Value} {st0 : List Value} {r : Int64} (hr : va_Run p l e R s m args below meth c H locs cells slots 0 0 (F0 m pc ls st0) rest (lm_QJ D cI cZ cL cR B r σ' τ' a) (lm_A B)) (hS : va_S (lm_A B) s.heap H locs)
    (kk : ∀ (H1 : Heap) (locs1 : List Loc), va_P D vwCl (wl cI cZ cL cR B σ' τ') H1 → va_S (lm_A B) s.heap H1 locs1 → W p l e R s m args below meth c H1 locs1 cells slots Q (F0 m (pc + 3) ls (.long r :: rest))) : W p l e R s m args below meth c H locs cells slots Q (F0 m pc ls st0) := by
  refine va_calll hr hS (fun _ _ h => h) (fun _ h => h) (fun r2 u t H1 locs1 ht hvm hp hb hz hk hS1 => ?_)
  subst hp
  rw [ht] at hb
  exact kk H1 locs1 hb hS1
variable {y : MethodName} {ws : List Cond} {rm : Room} {Qc : Array Value → State → Outcome → State → Prop} {bytes : ByteArray} {maxL n index : Nat} {ret2 : Option FieldType} {As st0 : List Value} {lv : List (Nat × Value)}
theorem lg_runV (hcs : cells ≤ R.cells ∧ slots ≤ R.slots) {x ci N : Nat} {fs : List Value} {C : String} {T : u_T} (C0 : lm_Cx D cI cZ cL cR B p s m args meth c cc nL ret own) (hR : va_P D vwCl (wl cI cZ cL cR B σ τ) H) (hS : va_S (lm_A B) s.heap H locs) (hM : Met l y ws rm (va_Pc (.ref (B + x) :: As) (lm_W D cI cZ cL cR B σ τ)) Qc 0 0 (lm_A B)) (cw : CallW R s args own C index y bytes maxL ret2 ws rm 0 0 n) (hc : x < 153) (he : cellA cI cZ cL cR B σ τ x = .inr (ci, fs)) (hcl : vwCl[ci]? = some (C, T, N)) (hn : As.length = n) (hl : lv_has ls nL lv) (hst : st0 = As.reverse ++ .ref (B + x) :: rest) (hW : (rest.map fun v => v.category).sum ≤ 8) (hd : decode cc pc = .ok (.invokevirtual index, 3)) :
    va_Run p l e R s m args below meth c H locs cells slots 0 0 (F0 m pc ls st0) rest (Qc (Value.ref (B + x) :: As).toArray) (lm_A B) :=
  va_runV ⟨C0.1, C0.2.1, C0.2.2.1, C0.2.2.2.2.2.1, C0.2.2.2.2.2.2.1⟩ hM cw ⟨lm_blind, va_recv C0.2.2.2.2.2.2.2.1 hR hcl (wl_at hc he), lm_pre C0 hR hS _⟩ rfl hn hl.1 hst (lv_room hW) hd hcs
theorem vin {i L : Nat} (k : Nat) {v : Int32} (hv : v = nI k) (h : i + k < L) (hL : L < 2 ^ 31) : vp_in (nI i + v) L := by
  rw [hv, nI_add]
  exact pk_in (i + k) L h rfl hL
end LGR
