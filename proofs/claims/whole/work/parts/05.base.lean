-- ===== the words that every contract asks for: all good words of the tables =====
def TB : List Cond := lw_tbl.filter goodWord
theorem tbI {w : Cond} (i : Nat) (h : tables_1[i]? = some w) (hg : goodWord w = true) : w ∈ TB := List.mem_filter.mpr ⟨List.mem_append_right _ (List.mem_of_getElem? h), hg⟩
theorem tbS {y : MethodName} (i : Nat) {k : Nat} (h : lw_privs[i]? = some (y, k)) : Cond.selects y.cls y y ∈ TB := by
  refine List.mem_filter.mpr ⟨List.mem_append_left _ (List.mem_map.mpr ⟨(y, k), List.mem_of_getElem? h, rfl⟩), ?_⟩
  rfl
theorem tbG {w : Cond} (h : w ∈ TB) : (w.onTables && w.keeps) = true ∨ ∃ ty, w = .arrayClass ty := good_of_word (List.mem_filter.mp h).2
theorem tbL {ws : List Cond} (h : ∀ w ∈ ws, w ∈ TB) {c0 : Cond} : GoodIn (c0 :: TB) ws := fun w hw => ⟨List.mem_cons_of_mem _ (h w hw), tbG (h w hw)⟩
/-- what a virtual call needs of the tables -/
def mlV (own : String) (idx : Nat) (C : String) (y : MethodName) (b : ByteArray) (n : Nat) (r : Option FieldType) (np : Nat) : Prop :=
  ((∀ w ∈ wsV own idx C y (.code y b n r :: TB), w ∈ TB) ∧ y.cls = C ∧ y.cls ≠ "java/lang/invoke/MethodHandle" ∧ y.cls ≠ "java/lang/invoke/VarHandle" ∧ (parseMethodDescriptor y.desc).map (fun d => d.parameters.length) = some np)
def mlS (own : String) (idx : Nat) (y : MethodName) (b : ByteArray) (n : Nat) (r : Option FieldType) (np : Nat) : Prop :=
  ((∀ w ∈ va_wsS own idx y (.code y b n r :: TB), w ∈ TB) ∧ y.cls ≠ "java/lang/invoke/MethodHandle" ∧ y.cls ≠ "java/lang/invoke/VarHandle" ∧ (parseMethodDescriptor y.desc).map (fun d => d.parameters.length) = some np)
theorem mlV_mk {own : String} {idx : Nat} {C : String} {y : MethodName} {b : ByteArray} {n : Nat} {r : Option FieldType} {np : Nat} (h1 : Cond.methodLink own idx y ∈ TB) (h2 : Cond.instanceMethod y ∈ TB) (h3 : Cond.selects C y y ∈ TB) (h4 : Cond.initialized C ∈ TB) (h5 : Cond.code y b n r ∈ TB)
    (hd : y.cls = C ∧ y.cls ≠ "java/lang/invoke/MethodHandle" ∧ y.cls ≠ "java/lang/invoke/VarHandle" ∧ (parseMethodDescriptor y.desc).map (fun d => d.parameters.length) = some np) : mlV own idx C y b n r np := by
  refine ⟨fun w hw => ?_, hd⟩
  simp only [wsV, List.cons_append, List.nil_append, List.mem_cons] at hw
  rcases hw with rfl | rfl | rfl | rfl | rfl | hw
  · exact h1
  · exact h2
  · exact h3
  · exact h4
  · exact h5
  · exact hw
theorem mlS_mk {own : String} {idx : Nat} {y : MethodName} {b : ByteArray} {n : Nat} {r : Option FieldType} {np : Nat} (h1 : Cond.methodLink own idx y ∈ TB) (h2 : Cond.static y ∈ TB) (h4 : Cond.initialized y.cls ∈ TB) (h5 : Cond.code y b n r ∈ TB)
    (hd : y.cls ≠ "java/lang/invoke/MethodHandle" ∧ y.cls ≠ "java/lang/invoke/VarHandle" ∧ (parseMethodDescriptor y.desc).map (fun d => d.parameters.length) = some np) : mlS own idx y b n r np := by
  refine ⟨fun w hw => ?_, hd⟩
  simp only [va_wsS, List.cons_append, List.nil_append, List.mem_cons] at hw
  rcases hw with rfl | rfl | rfl | rfl | hw
  · exact h1
  · exact h2
  · exact h4
  · exact h5
  · exact hw
-- ===== a field by its link =====
def fld (own : String) (index ci k : Nat) : Prop := ∃ (C : String) (T : u_T) (N : Nat), vwCl[ci]? = some (C, T, N) ∧ (∀ w ∈ u_ws C T N, w ∈ TB) ∧ k < N ∧ Cond.fieldLink own index (T k).1 (T k).2.1 (T k).2.2.1 ∈ TB
def fldP (own : String) (index ci k : Nat) (ty : FieldType) : Prop := ∃ (C : String) (T : u_T) (N : Nat), vwCl[ci]? = some (C, T, N) ∧ (∀ w ∈ u_ws C T N, w ∈ TB) ∧ k < N ∧ Cond.fieldLink own index (T k).1 (T k).2.1 (T k).2.2.1 ∈ TB ∧ (T k).2.2.2 = false ∧ parseFieldDescriptor (T k).2.2.1 = some ty ∧ (∃ ty0 : Nat → FieldType, ∀ k, k < N → parseFieldDescriptor (T k).2.2.1 = some (ty0 k)) ∧ (∀ a, a < N → ∀ b, b < N → a ≠ b → (T a).2.1 ≠ (T b).2.1)
theorem fldP.get {own : String} {index ci k : Nat} {ty : FieldType} (h : fldP own index ci k ty) : fld own index ci k := by
  obtain ⟨C, T, N, h1, h2, h3, h4, -⟩ := h
  exact ⟨C, T, N, h1, h2, h3, h4⟩
-- ===== the state's updates =====
def us (g : Nat → Nat → Int32) (j : Nat) (x : Int32) : Nat → Nat → Int32 := fun b => cond (Nat.beq b 0) (fun i => cond (Nat.beq i j) x (g 0 i)) (g b)
def up (g : Nat → Nat → Int32) (a k : Nat) (x : Int32) : Nat → Nat → Int32 := fun b => cond (Nat.beq b a) (upd (g a) k x) (g b)
def usL (g : Nat → Nat → Int64) (j : Nat) (x : Int64) : Nat → Nat → Int64 := fun b => cond (Nat.beq b 0) (fun i => cond (Nat.beq i j) x (g 0 i)) (g b)
def upL (g : Nat → Nat → Int64) (a k : Nat) (x : Int64) : Nat → Nat → Int64 := fun b => cond (Nat.beq b a) (vp_updL (g a) k x) (g b)
def uo (G : Nat → Nat → Nat → Int32) (o : Nat) (g : Nat → Nat → Int32) : Nat → Nat → Nat → Int32 := fun b => cond (Nat.beq b o) g (G b)
-- ===== the world in hand =====
abbrev ty4 (cI cC cZ cJ : ClassId) : List (ClassId × FieldType) := [(cI, .int), (cC, .char), (cZ, .boolean), (cJ, .long)]
def Wd (D : va_G) (tys : List (ClassId × FieldType)) (A : Nat → Prop) (s : State) (ws : va_W) (H : Heap) (locs : List Loc) : Prop := va_K D vwCl tys s ∧ va_P D vwCl ws H ∧ va_D A ws ∧ va_S A s.heap H locs ∧ ∀ q, s.heap.size ≤ q → A q
def Pre (D : va_G) (tys : List (ClassId × FieldType)) (ws : va_W) (sz : Nat) (U : State) : Prop := U.heap.size = sz ∧ va_P D vwCl ws U.heap ∧ va_K D vwCl tys U ∧ va_D (fun _ => True) ws
def Bk (D : va_G) (tys : List (ClassId × FieldType)) (A : Nat → Prop) {S : Type} (wf : S → va_W) (u : S) (t : State) : Prop := va_P D vwCl (wf u) t.heap ∧ va_K D vwCl tys t ∧ va_D A (wf u)
/-- the contract of a method with an int answer (int, boolean, char), of one without: it makes no cells -/
def MetI (l : Launch) (y : MethodName) (b : ByteArray) (n : Nat) (rt : FieldType) (rm : Room) (D : va_G) (tys : List (ClassId × FieldType)) (ws : va_W) (as : List Value) {S : Type} (wf : S → va_W) (post : Int32 → S → Prop) : Prop :=
  ∀ sz, Met l y (.code y b n (some rt) :: TB) rm (va_Pc as (Pre D tys ws sz)) (va_Qi post (Bk D tys (va_A ws sz) wf) (va_A ws sz)) 0 0 (va_A ws sz)
def MetV (l : Launch) (y : MethodName) (b : ByteArray) (n : Nat) (rm : Room) (D : va_G) (tys : List (ClassId × FieldType)) (ws : va_W) (as : List Value) {S : Type} (wf : S → va_W) (post : S → Prop) : Prop :=
  ∀ sz, Met l y (.code y b n none :: TB) rm (va_Pc as (Pre D tys ws sz)) (va_Qv post (Bk D tys (va_A ws sz) wf) (va_A ws sz)) 0 0 (va_A ws sz)
abbrev QI (below : List Frame) (D : va_G) (tys : List (ClassId × FieldType)) (A : Nat → Prop) (args : Array Value) (s : State) {S : Type} (wf : S → va_W) (post : Int32 → S → Prop) : State → Prop := MQ below (va_Qi post (Bk D tys A wf) A) args s 0 0 A
abbrev QV (below : List Frame) (D : va_G) (tys : List (ClassId × FieldType)) (A : Nat → Prop) (args : Array Value) (s : State) {S : Type} (wf : S → va_W) (post : S → Prop) : State → Prop := MQ below (va_Qv post (Bk D tys A wf) A) args s 0 0 A
section MK
variable {l : Launch} {y : MethodName} {b : ByteArray} {n : Nat} {rt : FieldType} {rm : Room} {D : va_G} {tys : List (ClassId × FieldType)} {ws : va_W} {as : List Value} {S : Type} {wf : S → va_W}
theorem mkI {post : Int32 → S → Prop} (hy : plainName y.cls = true) (hn : (lg_sl as).length ≤ n)
    (body : ∀ (p : Program) (e : Env) (s : State) (m : MethodId) (args : Array Value) (below : List Frame) (meth : Method) (c : Code) (A : Nat → Prop) (ls : Array Slot), CallFix p m c b n s args (.code y b n (some rt) :: TB) y.cls → meth.sig.returnType = some rt → meth.locks = false → Wd D tys A s ws s.heap [] → lv_has ls n (lv_args 0 as) →
      W p l e rm s m args below meth c s.heap [] 0 0 (QI below D tys A args s wf post) (F0 m 0 ls [])) : MetI l y b n rt rm D tys ws as wf post := by
  intro sz
  refine Met.ofW (cc := b) (maxL := n) (ret := some rt) hy rfl ?_
  intro p e s m args below meth c s₁ B hml hv
  obtain ⟨rfl, hsz, hP, hK, hD0⟩ := hv
  have hts := atoms_spec (ws := .code y b n (some rt) :: TB) B.pre
  have hown : s.vm.findClass y.cls = some m.cls := findClass_of_methodNamed B.named
  subst hsz
  rw [lg_entry_eq]
  exact body p e s m _ below meth c _ _ ⟨B.exec, B.bytes, hml, hown, hts⟩ B.returns B.notSynchronized ⟨hK, hP, hD0.self, va_S.rf, fun q h => Or.inr h⟩ (lv_entry as hn)
theorem mkV {post : S → Prop} (hy : plainName y.cls = true) (hn : (lg_sl as).length ≤ n)
    (body : ∀ (p : Program) (e : Env) (s : State) (m : MethodId) (args : Array Value) (below : List Frame) (meth : Method) (c : Code) (A : Nat → Prop) (ls : Array Slot), CallFix p m c b n s args (.code y b n none :: TB) y.cls → meth.sig.returnType = none → meth.locks = false → Wd D tys A s ws s.heap [] → lv_has ls n (lv_args 0 as) →
      W p l e rm s m args below meth c s.heap [] 0 0 (QV below D tys A args s wf post) (F0 m 0 ls [])) : MetV l y b n rm D tys ws as wf post := by
  intro sz
  refine Met.ofW (cc := b) (maxL := n) (ret := none) hy rfl ?_
  intro p e s m args below meth c s₁ B hml hv
  obtain ⟨rfl, hsz, hP, hK, hD0⟩ := hv
  have hts := atoms_spec (ws := .code y b n none :: TB) B.pre
  have hown : s.vm.findClass y.cls = some m.cls := findClass_of_methodNamed B.named
  subst hsz
  rw [lg_entry_eq]
  exact body p e s m _ below meth c _ _ ⟨B.exec, B.bytes, hml, hown, hts⟩ B.returns B.notSynchronized ⟨hK, hP, hD0.self, va_S.rf, fun q h => Or.inr h⟩ (lv_entry as hn)
end MK
section RW
variable {p : Program} {l : Launch} {e : Env} {R : Room} {s : State} {m : MethodId} {args : Array Value} {below : List Frame} {meth : Method} {c : Code} {H : Heap} {locs : List Loc} {cells slots : Nat} {Q : State → Prop}
variable {cc : ByteArray} {pc nL : Nat} {ls : Array Slot} {rest : List Value} {D : va_G} {A : Nat → Prop} {a : Nat} {tys : List (ClassId × FieldType)} {ws : va_W} {c0 : Cond} {own : String}
theorem rtI {S : Type} {wf : S → va_W} {post : Int32 → S → Prop} {rt : FieldType} {v : Int32} (u : S) (hC : CallFix p m c cc nL s args (c0 :: TB) own) (hr : meth.sig.returnType = some rt) (hlk : meth.locks = false) (hw : Wd D tys A s (wf u) H locs) (hn : narrow rt (.int v) = .int v) (hp : post v u) (hd : decode cc pc = .ok (.ireturn, 1)) :
    W p l e R s m args below meth c H locs 0 0 (QI below D tys A args s wf post) (F0 m pc ls [.int v]) := by
  obtain ⟨hK, hP, hD, hS, -⟩ := hw
  exact W.zret hC.1 hC.2.1 hr hn (fun t ht hW => ⟨⟨v, u, rfl, hp, by rw [ht]; exact hP, va_K.moved hW.alike hK, hD⟩, hS.F ht⟩) hS.2.2 hd hlk
theorem rtV {S : Type} {wf : S → va_W} {post : S → Prop} (u : S) (hC : CallFix p m c cc nL s args (c0 :: TB) own) (hr : meth.sig.returnType = none) (hlk : meth.locks = false) (hw : Wd D tys A s (wf u) H locs) (hp : post u) (hd : decode cc pc = .ok (.return_, 1)) :
    W p l e R s m args below meth c H locs 0 0 (QV below D tys A args s wf post) (F0 m pc ls []) := by
  obtain ⟨hK, hP, hD, hS, -⟩ := hw
  exact W.vret hC.1 hC.2.1 hr (fun t ht hW => ⟨⟨u, rfl, hp, by rw [ht]; exact hP, va_K.moved hW.alike hK, hD⟩, hS.F ht⟩) hS.2.2 hd hlk
theorem gt {index ci k : Nat} (hf : fld own index ci k) (q0 : Nat) {fs : List Value} {v : Value} (hC : CallFix p m c cc nL s args (c0 :: TB) own) (hw : Wd D tys A s ws H locs) (he : ws[q0]? = some (a, .inr (ci, fs))) (hv : fs[k]? = some v) (hd : decode cc pc = .ok (.getfield index, 3))
    (kk : W p l e R s m args below meth c H locs cells slots Q (F0 m (pc + 3) ls (v :: rest))) : W p l e R s m args below meth c H locs cells slots Q (F0 m pc ls (.ref a :: rest)) := by
  obtain ⟨C, T, N, h1, h2, h3, h4⟩ := hf
  exact va_get hC.1 hC.2.1 hC.2.2.2.2 (fun w h => List.mem_cons_of_mem _ (h2 w h)) hC.2.2.2.1 hw.1 hw.2.1 q0 he h1 k h3 (hC.2.2.2.2 _ (List.mem_cons_of_mem _ h4)) (fun _ h9 => h9) hv hd kk
theorem pt {index ci k : Nat} {ty : FieldType} (hf : fldP own index ci k ty) (q0 : Nat) {fs : List Value} {v : Value} {ws' : va_W} (hC : CallFix p m c cc nL s args (c0 :: TB) own) (hw : Wd D tys A s ws H locs) (he : ws[q0]? = some (a, .inr (ci, fs))) (hn : narrow ty v = v) (hfit : fits ty v = true) (hl : k < fs.length) (hset : ws.set q0 (a, .inr (ci, fs.set k v)) = ws') (hd : decode cc pc = .ok (.putfield index, 3))
    (kk : ∀ (H : Heap) (locs : List Loc), Wd D tys A s ws' H locs → W p l e R s m args below meth c H locs cells slots Q (F0 m (pc + 3) ls rest)) : W p l e R s m args below meth c H locs cells slots Q (F0 m pc ls (v :: .ref a :: rest)) := by
  obtain ⟨C, T, N, h1, h2, h3, h4, h5, h6, ⟨ty0, h7⟩, h8⟩ := hf
  subst hset
  exact va_put hC.1 hC.2.1 hC.2.2.2.2 (fun w h => List.mem_cons_of_mem _ (h2 w h)) ty0 h7 h8 hC.2.2.2.1 hw.1 hw.2.1 hw.2.2.1 hw.2.2.2.1 q0 he h1 k h3 (hC.2.2.2.2 _ (List.mem_cons_of_mem _ h4)) (fun _ h9 => h9) h5 h6 hn hfit hl hd (fun H1 locs1 a1 a2 a3 => kk H1 locs1 ⟨hw.1, a1, a2, a3, hw.2.2.2.2⟩)
theorem ldI (q0 t0 : Nat) {cA : ClassId} {n : Nat} {f : Nat → Int32} {i : Int32} (hC : CallFix p m c cc nL s args (c0 :: TB) own) (hw : Wd D tys A s ws H locs) (ha : ws[q0]? = some (a, .inl (cA, n, .inl f))) (ht : tys[t0]? = some (cA, .int)) (hin : vp_in i n) (hd : decode cc pc = .ok (.iaload, 1))
    (kk : W p l e R s m args below meth c H locs cells slots Q (F0 m (pc + 1) ls (.int (f i.toNatClampNeg) :: rest))) : W p l e R s m args below meth c H locs cells slots Q (F0 m pc ls (.int i :: .ref a :: rest)) :=
  va_iald hC.1 hC.2.1 hw.1 hw.2.1 q0 t0 ha ht hin hd kk
theorem ldC (q0 t0 : Nat) {cA : ClassId} {n : Nat} {f : Nat → Int32} {i : Int32} (hC : CallFix p m c cc nL s args (c0 :: TB) own) (hw : Wd D tys A s ws H locs) (ha : ws[q0]? = some (a, .inl (cA, n, .inl f))) (ht : tys[t0]? = some (cA, .char)) (hin : vp_in i n) (hd : decode cc pc = .ok (.caload, 1))
    (kk : W p l e R s m args below meth c H locs cells slots Q (F0 m (pc + 1) ls (.int (f i.toNatClampNeg) :: rest))) : W p l e R s m args below meth c H locs cells slots Q (F0 m pc ls (.int i :: .ref a :: rest)) :=
  va_cald hC.1 hC.2.1 hw.1 hw.2.1 q0 t0 ha ht hin hd kk
theorem ldZ (q0 t0 : Nat) {cA : ClassId} {n : Nat} {f : Nat → Int32} {i : Int32} (hC : CallFix p m c cc nL s args (c0 :: TB) own) (hw : Wd D tys A s ws H locs) (ha : ws[q0]? = some (a, .inl (cA, n, .inl f))) (ht : tys[t0]? = some (cA, .boolean)) (hin : vp_in i n) (hd : decode cc pc = .ok (.baload, 1))
    (kk : W p l e R s m args below meth c H locs cells slots Q (F0 m (pc + 1) ls (.int (f i.toNatClampNeg) :: rest))) : W p l e R s m args below meth c H locs cells slots Q (F0 m pc ls (.int i :: .ref a :: rest)) :=
  va_zald hC.1 hC.2.1 hw.1 hw.2.1 q0 t0 ha ht hin hd kk
theorem ldJ (q0 t0 : Nat) {cA : ClassId} {n : Nat} {f : Nat → Int64} {i : Int32} (hC : CallFix p m c cc nL s args (c0 :: TB) own) (hw : Wd D tys A s ws H locs) (ha : ws[q0]? = some (a, .inl (cA, n, .inr (.inl f)))) (ht : tys[t0]? = some (cA, .long)) (hin : vp_in i n) (hd : decode cc pc = .ok (.laload, 1))
    (kk : W p l e R s m args below meth c H locs cells slots Q (F0 m (pc + 1) ls (.long (f i.toNatClampNeg) :: rest))) : W p l e R s m args below meth c H locs cells slots Q (F0 m pc ls (.int i :: .ref a :: rest)) :=
  va_lald hC.1 hC.2.1 hw.1 hw.2.1 q0 t0 ha ht hin hd kk
theorem stI (q0 t0 : Nat) {cA : ClassId} {n : Nat} {f : Nat → Int32} {i x : Int32} {ws' : va_W} (hC : CallFix p m c cc nL s args (c0 :: TB) own) (hw : Wd D tys A s ws H locs) (ha : ws[q0]? = some (a, .inl (cA, n, .inl f))) (ht : tys[t0]? = some (cA, .int)) (hin : vp_in i n) (hset : ws.set q0 (a, .inl (cA, n, .inl (upd f i.toNatClampNeg x))) = ws') (hd : decode cc pc = .ok (.iastore, 1))
    (kk : ∀ (H : Heap) (locs : List Loc), Wd D tys A s ws' H locs → W p l e R s m args below meth c H locs cells slots Q (F0 m (pc + 1) ls rest)) : W p l e R s m args below meth c H locs cells slots Q (F0 m pc ls (.int x :: .int i :: .ref a :: rest)) := by
  subst hset
  exact va_iast hC.1 hC.2.1 hw.1 hw.2.1 hw.2.2.1 hw.2.2.2.1 q0 t0 ha ht hin hd (fun H1 locs1 a1 a2 a3 => kk H1 locs1 ⟨hw.1, a1, a2, a3, hw.2.2.2.2⟩)
theorem stC (q0 t0 : Nat) {cA : ClassId} {n : Nat} {f : Nat → Int32} {i x : Int32} {ws' : va_W} (hC : CallFix p m c cc nL s args (c0 :: TB) own) (hw : Wd D tys A s ws H locs) (ha : ws[q0]? = some (a, .inl (cA, n, .inl f))) (ht : tys[t0]? = some (cA, .char)) (hin : vp_in i n) (hset : ws.set q0 (a, .inl (cA, n, .inl (upd f i.toNatClampNeg (vp_nar .char x)))) = ws') (hd : decode cc pc = .ok (.castore, 1))
    (kk : ∀ (H : Heap) (locs : List Loc), Wd D tys A s ws' H locs → W p l e R s m args below meth c H locs cells slots Q (F0 m (pc + 1) ls rest)) : W p l e R s m args below meth c H locs cells slots Q (F0 m pc ls (.int x :: .int i :: .ref a :: rest)) := by
  subst hset
  exact va_cast hC.1 hC.2.1 hw.1 hw.2.1 hw.2.2.1 hw.2.2.2.1 q0 t0 ha ht hin hd (fun H1 locs1 a1 a2 a3 => kk H1 locs1 ⟨hw.1, a1, a2, a3, hw.2.2.2.2⟩)
theorem stZ (q0 t0 : Nat) {cA : ClassId} {n : Nat} {f : Nat → Int32} {i x : Int32} {ws' : va_W} (hC : CallFix p m c cc nL s args (c0 :: TB) own) (hw : Wd D tys A s ws H locs) (ha : ws[q0]? = some (a, .inl (cA, n, .inl f))) (ht : tys[t0]? = some (cA, .boolean)) (hin : vp_in i n) (hset : ws.set q0 (a, .inl (cA, n, .inl (upd f i.toNatClampNeg (vp_nar .boolean x)))) = ws') (hd : decode cc pc = .ok (.bastore, 1))
    (kk : ∀ (H : Heap) (locs : List Loc), Wd D tys A s ws' H locs → W p l e R s m args below meth c H locs cells slots Q (F0 m (pc + 1) ls rest)) : W p l e R s m args below meth c H locs cells slots Q (F0 m pc ls (.int x :: .int i :: .ref a :: rest)) := by
  subst hset
  exact va_zast hC.1 hC.2.1 hw.1 hw.2.1 hw.2.2.1 hw.2.2.2.1 q0 t0 ha ht hin hd (fun H1 locs1 a1 a2 a3 => kk H1 locs1 ⟨hw.1, a1, a2, a3, hw.2.2.2.2⟩)
theorem stJ (q0 t0 : Nat) {cA : ClassId} {n : Nat} {f : Nat → Int64} {i : Int32} {x : Int64} {ws' : va_W} (hC : CallFix p m c cc nL s args (c0 :: TB) own) (hw : Wd D tys A s ws H locs) (ha : ws[q0]? = some (a, .inl (cA, n, .inr (.inl f)))) (ht : tys[t0]? = some (cA, .long)) (hin : vp_in i n) (hset : ws.set q0 (a, .inl (cA, n, .inr (.inl (vp_updL f i.toNatClampNeg x)))) = ws') (hd : decode cc pc = .ok (.lastore, 1))
    (kk : ∀ (H : Heap) (locs : List Loc), Wd D tys A s ws' H locs → W p l e R s m args below meth c H locs cells slots Q (F0 m (pc + 1) ls rest)) : W p l e R s m args below meth c H locs cells slots Q (F0 m pc ls (.long x :: .int i :: .ref a :: rest)) := by
  subst hset
  exact va_last hC.1 hC.2.1 hw.1 hw.2.1 hw.2.2.1 hw.2.2.2.1 q0 t0 ha ht hin hd (fun H1 locs1 a1 a2 a3 => kk H1 locs1 ⟨hw.1, a1, a2, a3, hw.2.2.2.2⟩)
theorem aln (q0 t0 : Nat) {cA : ClassId} {x : vp_A} {ty : FieldType} {v : Int32} (hC : CallFix p m c cc nL s args (c0 :: TB) own) (hw : Wd D tys A s ws H locs) (ha : ws[q0]? = some (a, .inl (cA, x))) (ht : tys[t0]? = some (cA, ty)) (hv : Int32.ofNat x.1 = v) (hd : decode cc pc = .ok (.arraylength, 1))
    (kk : W p l e R s m args below meth c H locs cells slots Q (F0 m (pc + 1) ls (.int v :: rest))) : W p l e R s m args below meth c H locs cells slots Q (F0 m pc ls (.ref a :: rest)) :=
  va_alen hC.1 hC.2.1 hw.1 hw.2.1 q0 t0 ha ht hv hd kk
-- ===== calls: the callee's world is a part of the caller's, wc at the places isC, the rest wr at isR; behind it the caller's world is wn =====
theorem preW {as : List Value} {wc : va_W} {U : State} (hw : Wd D tys A s ws H locs) (isC : List Nat) (hn : va_nd isC = true) (hc : isC.map (fun i => ws[i]?) = wc.map some) (hU : U.heap = H) (hW : s.WarmedH U.vm) : va_Pc as (Pre D tys wc H.size) as.toArray U := by
  obtain ⟨hK, hP, hD, hS, hA⟩ := hw
  refine ⟨rfl, by rw [hU], ?_, va_K.moved hW.alike hK, (hD.sub isC hn hc).weaken (fun _ _ _ _ => trivial)⟩
  rw [hU]
  refine hP.sub isC ?_
  have : ∀ (l : List Nat) (w : va_W), l.map (fun i => ws[i]?) = w.map some → l.filterMap (fun i => ws[i]?) = w := by
    intro l
    induction l with
    | nil => intro w h; cases w with
      | nil => rfl
      | cons a b => cases h
    | cons x l ih => intro w h; cases w with
      | nil => cases h
      | cons a b =>
        rw [List.map_cons, List.map_cons] at h
        injection h with h1 h2
        rw [List.filterMap_cons, h1]
        exact congrArg _ (ih b h2)
  exact this _ _ hc
theorem blindW {as : List Value} {wc : va_W} {sz : Nat} : FrameBlind (va_Pc as (Pre D tys wc sz)) := fun a U g mk q => by
  obtain ⟨q0, q1, qP, qK, qD⟩ := q
  exact ⟨q0, q1, qP, va_K.moved (u := U) (U := U.calling g mk a) (Vm.Alike.refl U.vm) qK, qD⟩
theorem joinW {S : Type} {wf wn : S → va_W} {wc wr : va_W} {H1 : Heap} {locs1 : List Loc} {t : State} {u : S} (hw : Wd D tys A s ws H locs) (isC isR isN : List Nat) (hc : isC.map (fun i => ws[i]?) = wc.map some) (hr : isR.map (fun i => ws[i]?) = wr.map some) (hn : va_nd isR = true) (hdis : ∀ i ∈ isR, i ∉ isC) (hnN : va_nd isN = true) (hN : ∀ u, isN.map (fun i => (wr ++ wf u)[i]?) = (wn u).map some)
    (ht : t.heap = H1) (hk : ∀ q : Nat, q < H.size → ¬ va_A wc H.size q → H1[q]? = H[q]?) (hB : Bk D tys (va_A wc H.size) wf u t) (hS1 : va_S A s.heap H1 locs1) : Wd D tys A s (wn u) H1 locs1 := by
  obtain ⟨hK, hP, hD, hS, hA⟩ := hw
  obtain ⟨b1, b2, b3⟩ := hB
  rw [ht] at b1
  have hF := va_free hD hS hA isC hc
  obtain ⟨j1, j2⟩ := va_join hP hD isC isR hc hr hn hdis hk hF b1 b3
  have hh : isN.filterMap (fun i => (wr ++ wf u)[i]?) = wn u := by
    have hx := hN u
    have : ∀ (l : List Nat) (w : va_W), l.map (fun i => (wr ++ wf u)[i]?) = w.map some → l.filterMap (fun i => (wr ++ wf u)[i]?) = w := by
      intro l
      induction l with
      | nil => intro w h; cases w with
        | nil => rfl
        | cons a b => cases h
      | cons x l ih => intro w h; cases w with
        | nil => cases h
        | cons a b =>
          rw [List.map_cons, List.map_cons] at h
          injection h with h1 h2
          rw [List.filterMap_cons, h1]
          exact congrArg _ (ih b h2)
    exact this _ _ hx
  exact ⟨hK, j1.sub isN hh, j2.sub isN hnN (hN u), hS1, hA⟩
variable {S : Type} {wf wn : S → va_W} {wc wr : va_W} {index : Nat} {y : MethodName} {b : ByteArray} {n np ci : Nat} {rt : FieldType} {rm : Room} {As : List Value} {C : String} {T : u_T} {N q0 : Nat} {fs : List Value}
theorem cVI {post : Int32 → S → Prop} (hk : mlV own index C y b n (some rt) np) (hC : CallFix p m c cc nL s args (c0 :: TB) own) (hw : Wd D tys A s ws H locs) (hM : MetI l y b n rt rm D tys wc (.ref a :: As) wf post) (isC isR isN : List Nat)
    (hc : isC.map (fun i => ws[i]?) = wc.map some) (hr : isR.map (fun i => ws[i]?) = wr.map some) (hnC : va_nd isC = true) (hn : va_nd isR = true) (hdis : ∀ i ∈ isR, i ∉ isC) (hnN : va_nd isN = true) (hN : ∀ u, isN.map (fun i => (wr ++ wf u)[i]?) = (wn u).map some)
    (hrc : rm.cells = 0) (hrs : rm.slots = 0) (hR : rm.frames + 1 ≤ R.frames ∧ 8 + (n + 11) + rm.locals ≤ R.locals) (hcl : vwCl[ci]? = some (C, T, N)) (he : ws[q0]? = some (a, .inr (ci, fs))) (hnp : As.length = np) (hl : ls.size = nL) (hst : (rest.map fun v => v.category).sum ≤ 8) (hd : decode cc pc = .ok (.invokevirtual index, 3)) (hf : cells ≤ R.cells ∧ slots ≤ R.slots) {st : List Value} (hst0 : st = As.reverse ++ .ref a :: rest)
    (kk : ∀ (r : Int32) (u : S) (H1 : Heap) (locs1 : List Loc), post r u → Wd D tys A s (wn u) H1 locs1 → W p l e R s m args below meth c H1 locs1 cells slots Q (F0 m (pc + 3) ls (.int r :: rest))) : W p l e R s m args below meth c H locs cells slots Q (F0 m pc ls st) := by
  have hFc := va_free hw.2.2.1 hw.2.2.2.1 hw.2.2.2.2 isC hc
  subst hst0
  refine va_calli (va_runV (As := As) (rest := rest) hC (hM H.size) (cwV np hC.2.2.2.2 (tbL hk.1) rfl hrc hrs hk.2 hR) ⟨blindW, va_recv hw.1 hw.2.1 hcl he, fun U hU hW => preW hw isC hnC hc hU hW⟩ rfl hnp hl rfl (lv_room hst) hd hf) hw.2.2.2.1 (fun q _ h => hFc q h) hFc (fun r u t H1 locs1 ht hvm hp hB hz hk hS1 => ?_)
  exact kk r u H1 locs1 hp (joinW hw isC isR isN hc hr hn hdis hnN hN ht hk hB hS1)
theorem cVV {post : S → Prop} (hk : mlV own index C y b n none np) (hC : CallFix p m c cc nL s args (c0 :: TB) own) (hw : Wd D tys A s ws H locs) (hM : MetV l y b n rm D tys wc (.ref a :: As) wf post) (isC isR isN : List Nat)
    (hc : isC.map (fun i => ws[i]?) = wc.map some) (hr : isR.map (fun i => ws[i]?) = wr.map some) (hnC : va_nd isC = true) (hn : va_nd isR = true) (hdis : ∀ i ∈ isR, i ∉ isC) (hnN : va_nd isN = true) (hN : ∀ u, isN.map (fun i => (wr ++ wf u)[i]?) = (wn u).map some)
    (hrc : rm.cells = 0) (hrs : rm.slots = 0) (hR : rm.frames + 1 ≤ R.frames ∧ 8 + (n + 11) + rm.locals ≤ R.locals) (hcl : vwCl[ci]? = some (C, T, N)) (he : ws[q0]? = some (a, .inr (ci, fs))) (hnp : As.length = np) (hl : ls.size = nL) (hst : (rest.map fun v => v.category).sum ≤ 8) (hd : decode cc pc = .ok (.invokevirtual index, 3)) (hf : cells ≤ R.cells ∧ slots ≤ R.slots) {st : List Value} (hst0 : st = As.reverse ++ .ref a :: rest)
    (kk : ∀ (u : S) (H1 : Heap) (locs1 : List Loc), post u → Wd D tys A s (wn u) H1 locs1 → W p l e R s m args below meth c H1 locs1 cells slots Q (F0 m (pc + 3) ls rest)) : W p l e R s m args below meth c H locs cells slots Q (F0 m pc ls st) := by
  have hFc := va_free hw.2.2.1 hw.2.2.2.1 hw.2.2.2.2 isC hc
  subst hst0
  refine va_callv (va_runV (As := As) (rest := rest) hC (hM H.size) (cwV np hC.2.2.2.2 (tbL hk.1) rfl hrc hrs hk.2 hR) ⟨blindW, va_recv hw.1 hw.2.1 hcl he, fun U hU hW => preW hw isC hnC hc hU hW⟩ rfl hnp hl rfl (lv_room hst) hd hf) hw.2.2.2.1 (fun q _ h => hFc q h) hFc (fun u t H1 locs1 ht hvm hp hB hz hk hS1 => ?_)
  exact kk u H1 locs1 hp (joinW hw isC isR isN hc hr hn hdis hnN hN ht hk hB hS1)
theorem rng (ws : va_W) : (List.range ws.length).map (fun i => ws[i]?) = ws.map some := by
  apply List.ext_getElem?
  intro i
  by_cases h : i < ws.length
  · simp [h]
  · simp [h]
theorem rng_nd (n : Nat) : va_nd (List.range n) = true := by
  have : ∀ l : List Nat, l.Nodup → va_nd l = true := by
    intro l
    induction l with
    | nil => intro _; rfl
    | cons a l ih => intro h; rw [List.nodup_cons] at h; simp [va_nd, h.1, ih h.2]
  exact this _ List.nodup_range
/-- the callee's world is the caller's -/
theorem cVIw {post : Int32 → S → Prop} (hk : mlV own index C y b n (some rt) np) (hC : CallFix p m c cc nL s args (c0 :: TB) own) (hw : Wd D tys A s ws H locs) (hM : MetI l y b n rt rm D tys ws (.ref a :: As) wf post)
    (hrc : rm.cells = 0) (hrs : rm.slots = 0) (hR : rm.frames + 1 ≤ R.frames ∧ 8 + (n + 11) + rm.locals ≤ R.locals) (hcl : vwCl[ci]? = some (C, T, N)) (he : ws[q0]? = some (a, .inr (ci, fs))) (hnp : As.length = np) (hl : ls.size = nL) (hst : (rest.map fun v => v.category).sum ≤ 8) (hd : decode cc pc = .ok (.invokevirtual index, 3)) (hf : cells ≤ R.cells ∧ slots ≤ R.slots) {st : List Value} (hst0 : st = As.reverse ++ .ref a :: rest)
    (kk : ∀ (r : Int32) (u : S) (H1 : Heap) (locs1 : List Loc), post r u → Wd D tys A s (wf u) H1 locs1 → W p l e R s m args below meth c H1 locs1 cells slots Q (F0 m (pc + 3) ls (.int r :: rest))) : W p l e R s m args below meth c H locs cells slots Q (F0 m pc ls st) := by
  have hc := rng ws
  have hFc := va_free hw.2.2.1 hw.2.2.2.1 hw.2.2.2.2 _ hc
  subst hst0
  refine va_calli (va_runV (As := As) (rest := rest) hC (hM H.size) (cwV np hC.2.2.2.2 (tbL hk.1) rfl hrc hrs hk.2 hR) ⟨blindW, va_recv hw.1 hw.2.1 hcl he, fun U hU hW => preW hw _ (rng_nd _) hc hU hW⟩ rfl hnp hl rfl (lv_room hst) hd hf) hw.2.2.2.1 (fun q _ h => hFc q h) hFc (fun r u t H1 locs1 ht hvm hp hB hz hk hS1 => ?_)
  obtain ⟨hK, hP, hD, hS, hA⟩ := hw
  obtain ⟨b1, b2, b3⟩ := hB
  rw [ht] at b1
  exact kk r u H1 locs1 hp ⟨hK, b1, b3.weaken (fun _ q _ h => hFc q.1 h), hS1, hA⟩
theorem cVVw {post : S → Prop} (hk : mlV own index C y b n none np) (hC : CallFix p m c cc nL s args (c0 :: TB) own) (hw : Wd D tys A s ws H locs) (hM : MetV l y b n rm D tys ws (.ref a :: As) wf post)
    (hrc : rm.cells = 0) (hrs : rm.slots = 0) (hR : rm.frames + 1 ≤ R.frames ∧ 8 + (n + 11) + rm.locals ≤ R.locals) (hcl : vwCl[ci]? = some (C, T, N)) (he : ws[q0]? = some (a, .inr (ci, fs))) (hnp : As.length = np) (hl : ls.size = nL) (hst : (rest.map fun v => v.category).sum ≤ 8) (hd : decode cc pc = .ok (.invokevirtual index, 3)) (hf : cells ≤ R.cells ∧ slots ≤ R.slots) {st : List Value} (hst0 : st = As.reverse ++ .ref a :: rest)
    (kk : ∀ (u : S) (H1 : Heap) (locs1 : List Loc), post u → Wd D tys A s (wf u) H1 locs1 → W p l e R s m args below meth c H1 locs1 cells slots Q (F0 m (pc + 3) ls rest)) : W p l e R s m args below meth c H locs cells slots Q (F0 m pc ls st) := by
  have hc := rng ws
  have hFc := va_free hw.2.2.1 hw.2.2.2.1 hw.2.2.2.2 _ hc
  subst hst0
  refine va_callv (va_runV (As := As) (rest := rest) hC (hM H.size) (cwV np hC.2.2.2.2 (tbL hk.1) rfl hrc hrs hk.2 hR) ⟨blindW, va_recv hw.1 hw.2.1 hcl he, fun U hU hW => preW hw _ (rng_nd _) hc hU hW⟩ rfl hnp hl rfl (lv_room hst) hd hf) hw.2.2.2.1 (fun q _ h => hFc q h) hFc (fun u t H1 locs1 ht hvm hp hB hz hk hS1 => ?_)
  obtain ⟨hK, hP, hD, hS, hA⟩ := hw
  obtain ⟨b1, b2, b3⟩ := hB
  rw [ht] at b1
  exact kk u H1 locs1 hp ⟨hK, b1, b3.weaken (fun _ q _ h => hFc q.1 h), hS1, hA⟩
/-- a static method without a world -/
def MetS (l : Launch) (y : MethodName) (b : ByteArray) (n : Nat) (rt : FieldType) (rm : Room) (as : List Value) (post : Int32 → Prop) : Prop :=
  Met l y (.code y b n (some rt) :: TB) rm (va_Pc as (fun _ => True)) (vp_Si post) 0 0 (fun _ => False)
theorem mkS {post : Int32 → Prop} {as : List Value} (hy : plainName y.cls = true) (hn : (lg_sl as).length ≤ n)
    (body : ∀ (p : Program) (e : Env) (s : State) (m : MethodId) (args : Array Value) (below : List Frame) (meth : Method) (c : Code) (ls : Array Slot), CallFix p m c b n s args (.code y b n (some rt) :: TB) y.cls → meth.sig.returnType = some rt → meth.locks = false → lv_has ls n (lv_args 0 as) →
      W p l e rm s m args below meth c s.heap [] 0 0 (MQ below (vp_Si post) args s 0 0 (fun _ => False)) (F0 m 0 ls [])) : MetS l y b n rt rm as post := by
  refine Met.ofW (cc := b) (maxL := n) (ret := some rt) hy rfl ?_
  intro p e s m args below meth c s₁ B hml hv
  obtain ⟨rfl, -⟩ := hv
  have hts := atoms_spec (ws := .code y b n (some rt) :: TB) B.pre
  have hown : s.vm.findClass y.cls = some m.cls := findClass_of_methodNamed B.named
  rw [lg_entry_eq]
  exact body p e s m _ below meth c _ ⟨B.exec, B.bytes, hml, hown, hts⟩ B.returns B.notSynchronized (lv_entry as hn)
theorem rtS {post : Int32 → Prop} {v : Int32} (hC : CallFix p m c cc nL s args (c0 :: TB) own) (hr : meth.sig.returnType = some rt) (hlk : meth.locks = false) (hn : narrow rt (.int v) = .int v) (hp : post v) (hd : decode cc pc = .ok (.ireturn, 1)) :
    W p l e R s m args below meth c s.heap [] 0 0 (MQ below (vp_Si post) args s 0 0 (fun _ => False)) (F0 m pc ls [.int v]) :=
  W.zret hC.1 hC.2.1 hr hn (fun t ht hW => ⟨v, rfl, hp, ht⟩) (fun q h => by cases h) hd hlk
theorem cSI {post : Int32 → Prop} (hk : mlS own index y b n (some rt) np) (hC : CallFix p m c cc nL s args (c0 :: TB) own) (hM : MetS l y b n rt rm As post)
    (hrc : rm.cells = 0) (hrs : rm.slots = 0) (hR : rm.frames + 1 ≤ R.frames ∧ 8 + (n + 11) + rm.locals ≤ R.locals) (hnp : As.length = np) (hl : ls.size = nL) (hst : (rest.map fun v => v.category).sum ≤ 8) (hd : decode cc pc = .ok (.invokestatic index, 3)) (hf : cells ≤ R.cells ∧ slots ≤ R.slots) {st : List Value} (hst0 : st = As.reverse ++ rest)
    (kk : ∀ (r : Int32), post r → W p l e R s m args below meth c H locs cells slots Q (F0 m (pc + 3) ls (.int r :: rest))) : W p l e R s m args below meth c H locs cells slots Q (F0 m pc ls st) := by
  subst hst0
  have hr := va_runS (e := e) (p := p) (below := below) (meth := meth) (locs := locs) (g := F0 m pc ls (As.reverse ++ rest)) (As := As) (rest := rest) (H := H) (cells := cells) (slots := slots) hC hM (va_cwS np hC.2.2.2.2 (tbL hk.1) rfl hrc hrs hk.2 hR) ⟨fun a U g mk q => q, fun U hU hW => ⟨rfl, trivial⟩⟩ rfl hnp hl rfl (lv_room hst) hd hf
  intro T hT X
  obtain ⟨v, st₀, t, T', L, h0, X', hL, e1, e2, ⟨r, hv, hp, hh⟩, st⟩ := hr T hT X
  cases hv
  have hL0 : L = [] := by
    cases L with
    | nil => rfl
    | cons q L => exact absurd (hL q List.mem_cons_self) (fun h => h)
  subst hL0
  rw [List.append_nil] at X'
  obtain ⟨t2, a1, b1⟩ := kk r hp T' (by rw [e1, hh, h0]) X'
  exact ⟨t2, st t2 a1, b1⟩
end RW
