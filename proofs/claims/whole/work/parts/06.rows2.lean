def lm_fu : Nat := 1000
def lm_cp (sp dp n : Int32) (n0 n1 : Nat) : Bool := decide (¬ sp < 0 ∧ ¬ dp < 0 ∧ ¬ n < 0 ∧ sp.toNatClampNeg + n.toNatClampNeg ≤ n0 ∧ dp.toNatClampNeg + n.toNatClampNeg ≤ n1)
section LMR2
variable {cI cZ cL cR : ClassId} {B : Nat} {σ τ σ' τ' : Mem} {k : Nat} {v : Int32}
theorem cell_Lu {c : Nat} (h : isL c) : cellA cI cZ cL cR B (up σ c k v) τ c = e_light B (upd (σ c) k v) c := by
  rw [cell_L h]; unfold up; rw [upA_eq]
theorem cell_L1u {c : Nat} (h : isL c) : cellA cI cZ cL cR B (up σ (c + 1) k v) τ (c + 1) = e_int cI 6 (upd (σ (c + 1)) k v) := by
  rw [cell_L1 h]; unfold up; rw [upA_eq]
theorem cell_L2u {c : Nat} (h : isL c) : cellA cI cZ cL cR B (up σ (c + 2) k v) τ (c + 2) = e_int cI 6 (upd (σ (c + 2)) k v) := by
  rw [cell_L2 h]; unfold up; rw [upA_eq]
theorem cell_L3u {c : Nat} (h : isL c) : cellA cI cZ cL cR B (up σ (c + 3) k v) τ (c + 3) = e_int cI 6 (upd (σ (c + 3)) k v) := by
  rw [cell_L3 h]; unfold up; rw [upA_eq]
theorem cell_Ru {c : Nat} (h : isR c) : cellA cI cZ cL cR B (up σ c k v) τ c = e_row B (upd (σ c) k v) c := by
  rw [cell_R h]; unfold up; rw [upA_eq]
theorem cell_R1u {c : Nat} (h : isR c) : cellA cI cZ cL cR B (up σ (c + 1) k v) τ (c + 1) = e_int cI 40 (upd (σ (c + 1)) k v) := by
  rw [cell_R1 h]; unfold up; rw [upA_eq]
theorem cell_R1v {c : Nat} {f : Nat → Int32} (h : isR c) : cellA cI cZ cL cR B (upA σ (c + 1) f) τ (c + 1) = e_int cI 40 f := by
  rw [cell_R1 h, upA_eq]
theorem cell_Mu {c : Nat} (h : isM c) : cellA cI cZ cL cR B σ (up τ c k v) c = e_int cI 24 (upd (τ c) k v) := by
  rw [cell_M h]; unfold up; rw [upA_eq]
theorem cell_0 : cellA cI cZ cL cR B σ τ 0 = e_main B (σ 0) := rfl
theorem cell_1 : cellA cI cZ cL cR B σ τ 1 = e_ref cR 8 (fun i => some (B + (116 + 2 * i))) := rfl
theorem cell_2 : cellA cI cZ cL cR B σ τ 2 = e_tape B (σ 2) := rfl
theorem cell_3 : cellA cI cZ cL cR B σ τ 3 = e_int cI 120 (σ 3) := rfl
theorem cell_16 : cellA cI cZ cL cR B σ τ 16 = e_acts B (σ 16) := rfl
theorem cell_17 : cellA cI cZ cL cR B σ τ 17 = e_ref cL 24 (fun i => some (B + (18 + 4 * i))) := rfl
theorem cell_114 : cellA cI cZ cL cR B σ τ 114 = e_ref cL 2 (fun i => some (B + (132 + 4 * i))) := rfl
theorem cell_115 : cellA cI cZ cL cR B σ τ 115 = e_int cI 16 (σ 115) := rfl
theorem cell_140 : cellA cI cZ cL cR B σ τ 140 = e_model B (τ 140) := rfl
theorem cell_141 : cellA cI cZ cL cR B σ τ 141 = e_int cI 8 (τ 141) := rfl
theorem cell_142 : cellA cI cZ cL cR B σ τ 142 = e_int cI 8 (τ 142) := rfl
theorem cell_143 : cellA cI cZ cL cR B σ τ 143 = e_int cI 320 (τ 143) := rfl
theorem cell_144 : cellA cI cZ cL cR B σ τ 144 = e_int cI 24 (τ 144) := rfl
theorem cell_145 : cellA cI cZ cL cR B σ τ 145 = e_int cI 24 (τ 145) := rfl
theorem cell_146 : cellA cI cZ cL cR B σ τ 146 = e_int cI 24 (τ 146) := rfl
theorem cell_147 : cellA cI cZ cL cR B σ τ 147 = e_int cI 576 (τ 147) := rfl
theorem cell_148 : cellA cI cZ cL cR B σ τ 148 = e_int cI 120 (τ 148) := rfl
theorem cell_149 : cellA cI cZ cL cR B σ τ 149 = e_int cI 16 (τ 149) := rfl
theorem cell_150 : cellA cI cZ cL cR B σ τ 150 = e_int cZ 2 (τ 150) := rfl
theorem cell_151 : cellA cI cZ cL cR B σ τ 151 = e_int cI 48 (τ 151) := rfl
theorem cell_152 : cellA cI cZ cL cR B σ τ 152 = e_int cI 16 (τ 152) := rfl
theorem cell_0u : cellA cI cZ cL cR B (up σ 0 k v) τ 0 = e_main B (upd (σ 0) k v) := by rw [cell_0]; unfold up; rw [upA_eq]
theorem cell_2u : cellA cI cZ cL cR B (up σ 2 k v) τ 2 = e_tape B (upd (σ 2) k v) := by rw [cell_2]; unfold up; rw [upA_eq]
theorem cell_3u : cellA cI cZ cL cR B (up σ 3 k v) τ 3 = e_int cI 120 (upd (σ 3) k v) := by rw [cell_3]; unfold up; rw [upA_eq]
theorem cell_16u : cellA cI cZ cL cR B (up σ 16 k v) τ 16 = e_acts B (upd (σ 16) k v) := by rw [cell_16]; unfold up; rw [upA_eq]
theorem cell_115u : cellA cI cZ cL cR B (up σ 115 k v) τ 115 = e_int cI 16 (upd (σ 115) k v) := by rw [cell_115]; unfold up; rw [upA_eq]
theorem cell_140u : cellA cI cZ cL cR B σ (up τ 140 k v) 140 = e_model B (upd (τ 140) k v) := by rw [cell_140]; unfold up; rw [upA_eq]
theorem cell_141u : cellA cI cZ cL cR B σ (up τ 141 k v) 141 = e_int cI 8 (upd (τ 141) k v) := by rw [cell_141]; unfold up; rw [upA_eq]
theorem cell_142u : cellA cI cZ cL cR B σ (up τ 142 k v) 142 = e_int cI 8 (upd (τ 142) k v) := by rw [cell_142]; unfold up; rw [upA_eq]
theorem cell_143u : cellA cI cZ cL cR B σ (up τ 143 k v) 143 = e_int cI 320 (upd (τ 143) k v) := by rw [cell_143]; unfold up; rw [upA_eq]
theorem cell_144u : cellA cI cZ cL cR B σ (up τ 144 k v) 144 = e_int cI 24 (upd (τ 144) k v) := by rw [cell_144]; unfold up; rw [upA_eq]
theorem cell_145u : cellA cI cZ cL cR B σ (up τ 145 k v) 145 = e_int cI 24 (upd (τ 145) k v) := by rw [cell_145]; unfold up; rw [upA_eq]
theorem cell_146u : cellA cI cZ cL cR B σ (up τ 146 k v) 146 = e_int cI 24 (upd (τ 146) k v) := by rw [cell_146]; unfold up; rw [upA_eq]
theorem cell_147u : cellA cI cZ cL cR B σ (up τ 147 k v) 147 = e_int cI 576 (upd (τ 147) k v) := by rw [cell_147]; unfold up; rw [upA_eq]
theorem cell_148u : cellA cI cZ cL cR B σ (up τ 148 k v) 148 = e_int cI 120 (upd (τ 148) k v) := by rw [cell_148]; unfold up; rw [upA_eq]
theorem cell_149u : cellA cI cZ cL cR B σ (up τ 149 k v) 149 = e_int cI 16 (upd (τ 149) k v) := by rw [cell_149]; unfold up; rw [upA_eq]
theorem cell_150u : cellA cI cZ cL cR B σ (up τ 150 k v) 150 = e_int cZ 2 (upd (τ 150) k v) := by rw [cell_150]; unfold up; rw [upA_eq]
theorem cell_151u : cellA cI cZ cL cR B σ (up τ 151 k v) 151 = e_int cI 48 (upd (τ 151) k v) := by rw [cell_151]; unfold up; rw [upA_eq]
theorem cell_152u : cellA cI cZ cL cR B σ (up τ 152 k v) 152 = e_int cI 16 (upd (τ 152) k v) := by rw [cell_152]; unfold up; rw [upA_eq]
end LMR2
section LMR3
variable {l : Launch} {D : va_G} {cI cZ cL cR : ClassId} {B : Nat} {σ τ σ' τ' : Mem}
variable {p : Program} {e : Env} {R : Room} {s : State} {m : MethodId} {args : Array Value} {below : List Frame} {meth : Method} {c : Code} {H : Heap} {locs : List Loc} {Q : State → Prop} {cc : ByteArray} {nL : Nat} {ret : Option FieldType} {own : String} {pc : Nat} {ls : Array Slot} {rest : List Value}
theorem lm_topi {x y : Int32} (h : y = x) (k : W p l e R s m args below meth c H locs 0 0 Q (F0 m pc ls (.int y :: rest))) : W p l e R s m args below meth c H locs 0 0 Q (F0 m pc ls (.int x :: rest)) := by
  subst h
  exact k
theorem lm_topl {x y : Int64} (h : y = x) (k : W p l e R s m args below meth c H locs 0 0 Q (F0 m pc ls (.long y :: rest))) : W p l e R s m args below meth c H locs 0 0 Q (F0 m pc ls (.long x :: rest)) := by
  subst h
  exact k
theorem lm_putC (C0 : lm_Cx D cI cZ cL cR B p s m args meth c cc nL ret own) (hR : va_P D vwCl (wl cI cZ cL cR B σ τ) H) (hS : va_S (lm_A B) s.heap H locs) {x ci N index : Nat} {fs : List Value} {C ref : String} {T : u_T} {ty : FieldType} {v : Int32} (hc : x < 153) (he : cellA cI cZ cL cR B σ τ x = .inr (ci, fs)) (hcl : vwCl[ci]? = some (C, T, N)) (hin : ∀ w ∈ u_ws C T N, w ∈ lw_u) (ty0 : Nat → FieldType) (hty : ∀ k, k < N → parseFieldDescriptor (T k).2.2.1 = some (ty0 k)) (hnm : ∀ a, a < N → ∀ b, b < N → a ≠ b → (T a).2.1 ≠ (T b).2.1) (k : Nat) (hk : k < N) (hlink : Cond.fieldLink own index ref (T k).2.1 (T k).2.2.1 ∈ lw_u) (href : (T k).1 = ref) (hfin : (T k).2.2.2 = false) (ht : ty0 k = ty) (hn : narrow ty (.int v) = .int v) (hfit : fits ty (.int v) = true) (hl : k < fs.length)
    (h1 : σ' = up σ x k v) (hE : cellA cI cZ cL cR B (up σ x k v) τ x = .inr (ci, fs.set k (.int v))) (hd : decode cc pc = .ok (.putfield index, 3))
    (kk : ∀ (H1 : Heap) (locs1 : List Loc), va_P D vwCl (wl cI cZ cL cR B σ' τ) H1 → va_S (lm_A B) s.heap H1 locs1 → W p l e R s m args below meth c H1 locs1 0 0 Q (F0 m (pc + 3) ls rest)) : W p l e R s m args below meth c H locs 0 0 Q (F0 m pc ls (.int v :: .ref (B + x) :: rest)) := by
  subst h1
  exact lm_put C0 hR hS hc he hcl hin ty0 hty hnm k hk hlink href hfin ht hn hfit hl hE cellA_oC hd kk
theorem lm_putM (C0 : lm_Cx D cI cZ cL cR B p s m args meth c cc nL ret own) (hR : va_P D vwCl (wl cI cZ cL cR B σ τ) H) (hS : va_S (lm_A B) s.heap H locs) {x ci N index : Nat} {fs : List Value} {C ref : String} {T : u_T} {ty : FieldType} {v : Int32} (hc : x < 153) (he : cellA cI cZ cL cR B σ τ x = .inr (ci, fs)) (hcl : vwCl[ci]? = some (C, T, N)) (hin : ∀ w ∈ u_ws C T N, w ∈ lw_u) (ty0 : Nat → FieldType) (hty : ∀ k, k < N → parseFieldDescriptor (T k).2.2.1 = some (ty0 k)) (hnm : ∀ a, a < N → ∀ b, b < N → a ≠ b → (T a).2.1 ≠ (T b).2.1) (k : Nat) (hk : k < N) (hlink : Cond.fieldLink own index ref (T k).2.1 (T k).2.2.1 ∈ lw_u) (href : (T k).1 = ref) (hfin : (T k).2.2.2 = false) (ht : ty0 k = ty) (hn : narrow ty (.int v) = .int v) (hfit : fits ty (.int v) = true) (hl : k < fs.length)
    (h1 : τ' = up τ x k v) (hE : cellA cI cZ cL cR B σ (up τ x k v) x = .inr (ci, fs.set k (.int v))) (hd : decode cc pc = .ok (.putfield index, 3))
    (kk : ∀ (H1 : Heap) (locs1 : List Loc), va_P D vwCl (wl cI cZ cL cR B σ τ') H1 → va_S (lm_A B) s.heap H1 locs1 → W p l e R s m args below meth c H1 locs1 0 0 Q (F0 m (pc + 3) ls rest)) : W p l e R s m args below meth c H locs 0 0 Q (F0 m pc ls (.int v :: .ref (B + x) :: rest)) := by
  subst h1
  exact lm_put C0 hR hS hc he hcl hin ty0 hty hnm k hk hlink href hfin ht hn hfit hl hE cellA_oM hd kk
theorem lm_istC (C0 : lm_Cx D cI cZ cL cR B p s m args meth c cc nL ret own) (hR : va_P D vwCl (wl cI cZ cL cR B σ τ) H) (hS : va_S (lm_A B) s.heap H locs) {x n : Nat} {i v : Int32} (hc : x < 153) (he : cellA cI cZ cL cR B σ τ x = e_int cI n (σ x)) (hi : lm_in i n = true)
    (h1 : σ' = up σ x i.toNatClampNeg v) (hE : cellA cI cZ cL cR B (up σ x i.toNatClampNeg v) τ x = e_int cI n (upd (σ x) i.toNatClampNeg v)) (hd : decode cc pc = .ok (.iastore, 1))
    (kk : ∀ (H1 : Heap) (locs1 : List Loc), va_P D vwCl (wl cI cZ cL cR B σ' τ) H1 → va_S (lm_A B) s.heap H1 locs1 → W p l e R s m args below meth c H1 locs1 0 0 Q (F0 m (pc + 1) ls rest)) : W p l e R s m args below meth c H locs 0 0 Q (F0 m pc ls (.int v :: .int i :: .ref (B + x) :: rest)) := by
  subst h1
  exact lm_ist C0 hR hS hc he hi hE cellA_oC hd kk
theorem lm_istM (C0 : lm_Cx D cI cZ cL cR B p s m args meth c cc nL ret own) (hR : va_P D vwCl (wl cI cZ cL cR B σ τ) H) (hS : va_S (lm_A B) s.heap H locs) {x n : Nat} {i v : Int32} (hc : x < 153) (he : cellA cI cZ cL cR B σ τ x = e_int cI n (τ x)) (hi : lm_in i n = true)
    (h1 : τ' = up τ x i.toNatClampNeg v) (hE : cellA cI cZ cL cR B σ (up τ x i.toNatClampNeg v) x = e_int cI n (upd (τ x) i.toNatClampNeg v)) (hd : decode cc pc = .ok (.iastore, 1))
    (kk : ∀ (H1 : Heap) (locs1 : List Loc), va_P D vwCl (wl cI cZ cL cR B σ τ') H1 → va_S (lm_A B) s.heap H1 locs1 → W p l e R s m args below meth c H1 locs1 0 0 Q (F0 m (pc + 1) ls rest)) : W p l e R s m args below meth c H locs 0 0 Q (F0 m pc ls (.int v :: .int i :: .ref (B + x) :: rest)) := by
  subst h1
  exact lm_ist C0 hR hS hc he hi hE cellA_oM hd kk
theorem lm_zstM (C0 : lm_Cx D cI cZ cL cR B p s m args meth c cc nL ret own) (hR : va_P D vwCl (wl cI cZ cL cR B σ τ) H) (hS : va_S (lm_A B) s.heap H locs) {x n : Nat} {i v : Int32} (hc : x < 153) (he : cellA cI cZ cL cR B σ τ x = e_int cZ n (τ x)) (hi : lm_in i n = true) (hv : vp_nar .boolean v = v)
    (h1 : τ' = up τ x i.toNatClampNeg v) (hE : cellA cI cZ cL cR B σ (up τ x i.toNatClampNeg v) x = e_int cZ n (upd (τ x) i.toNatClampNeg v)) (hd : decode cc pc = .ok (.bastore, 1))
    (kk : ∀ (H1 : Heap) (locs1 : List Loc), va_P D vwCl (wl cI cZ cL cR B σ τ') H1 → va_S (lm_A B) s.heap H1 locs1 → W p l e R s m args below meth c H1 locs1 0 0 Q (F0 m (pc + 1) ls rest)) : W p l e R s m args below meth c H locs 0 0 Q (F0 m pc ls (.int v :: .int i :: .ref (B + x) :: rest)) := by
  subst h1
  exact lm_zst C0 hR hS hc he hi hv hE cellA_oM hd kk
theorem lm_copy {lv : List (Nat × Value)} {index : Nat} (C0 : lm_Cx D cI cZ cL cR B p s m args meth c cc nL ret own) (hR : va_P D vwCl (wl cI cZ cL cR B σ τ) H) (hS : va_S (lm_A B) s.heap H locs) (hl : lv_has ls nL lv) (hlink : (Cond.methodLink own index arraycopyName).before args s = true) (hnat : (Cond.native arraycopyName).before args s = true) (hstat : (Cond.static arraycopyName).before args s = true) (hini : (Cond.initialized "java/lang/System").before args s = true)
    {x0 x1 n0 n1 : Nat} {f g : Nat → Int32} (hc0 : x0 < 153) (he0 : cellA cI cZ cL cR B σ τ x0 = e_int cI n0 f) (hc1 : x1 < 153) (he1 : cellA cI cZ cL cR B σ τ x1 = e_int cI n1 g) {sp dp n : Int32} (h : lm_cp sp dp n n0 n1 = true) (h1 : σ' = upA σ x1 (va_cpy f g sp.toNatClampNeg dp.toNatClampNeg n.toNatClampNeg)) (hE : cellA cI cZ cL cR B (upA σ x1 (va_cpy f g sp.toNatClampNeg dp.toNatClampNeg n.toNatClampNeg)) τ x1 = e_int cI n1 (va_cpy f g sp.toNatClampNeg dp.toNatClampNeg n.toNatClampNeg)) (hframes : 1 ≤ R.frames) (hlocals : (rest.map fun v => v.category).sum + (nativeFrameWords "java/lang/System" "arraycopy" 5 + 11) ≤ R.locals) (hd : decode cc pc = .ok (.invokestatic index, 3))
    (kk : ∀ (H1 : Heap) (locs1 : List Loc), va_P D vwCl (wl cI cZ cL cR B σ' τ) H1 → va_S (lm_A B) s.heap H1 locs1 → W p l e R s m args below meth c H1 locs1 0 0 Q (F0 m (pc + 3) ls rest)) : W p l e R s m args below meth c H locs 0 0 Q (F0 m pc ls (.int n :: .int dp :: .ref (B + x1) :: .int sp :: .ref (B + x0) :: rest)) := by
  obtain ⟨hx, hb, hml, hr, hlk, hown, hts, hK, hX⟩ := C0
  obtain ⟨g1, g2, g3, g4, g5⟩ := (of_decide_eq_true h : ¬ sp < 0 ∧ ¬ dp < 0 ∧ ¬ n < 0 ∧ sp.toNatClampNeg + n.toNatClampNeg ≤ n0 ∧ dp.toNatClampNeg + n.toNatClampNeg ≤ n1)
  subst h1
  refine va_copyi hx hb (hml.trans hl.1.symm) hown hlink hnat hstat hini hK hR wl_D hS x0 x1 0 0 (wl_at hc0 he0) (wl_at hc1 he1) rfl rfl rfl g1 g2 g3 g4 g5 (fun _ _ => rfl) hframes hlocals hd (fun H1 locs1 hP1 _ hS1 => ?_)
  rw [wl_set hE cellA_oC] at hP1
  exact kk H1 locs1 hP1 hS1
end LMR3
