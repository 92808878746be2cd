-- ===== the statics that the class reads: the operators, their switch table, their texts; String constants; what a throw reads =====
def SMAP : List Int32 := [9, 1, 2, 3, 4, 5, 6, 7, 8, 10, 11, 12, 14, 15, 13, 16, 17, 24, 25, 26, 27, 28, 29, 30, 31, 0, 18, 19, 20, 21, 22, 23]
def FEWL : List Int32 := [0, 1, 2, 0, 2, 1, 1, 1, 2, 1, 1, 2, 2, 2, 0, 1, 2, 2, 2, 2, 2, 2, 2, 2, 2, 2, 2, 2, 3, 1, 1, 0]
def MOSTL : List Int32 := [4, 1, 3, 1000000, 2, 1000000, 1000000, 1000000, 2, 1, 1, 2, 2, 2, 4, 1, 2, 2, 2, 2, 2, 2, 2, 2, 2, 2, 2, 2, 3, 1, 1, 0]
def STL : List (List Int32) := [[], [113, 117, 111, 116, 101], [105, 102], [100, 111], [115, 101, 116], [119, 104, 105, 108, 101], [102, 110], [99, 97, 116, 99, 104], [116, 104, 114, 111, 119], [99, 97, 114], [99, 100, 114], [99, 111, 110, 115], [114, 99, 97], [114, 99, 100], [108, 105, 115, 116], [97, 116, 111, 109], [101, 113], [43], [45], [42], [47], [60], [97, 110, 100], [111, 114], [120, 111, 114], [115, 104], [118, 101, 99], [114, 101, 102], [112, 117, 116], [108, 101, 110], [112, 114, 105, 110, 116], [103, 101, 116], [116], [105, 116], [113, 117, 111, 116, 101], [110, 105, 108], [32, 46, 32]]
def MSGL : List (Nat × String) := [(74, "no such character"), (83, "this can't be read"), (112, "no output"), (121, "number out of range"), (128, "the input is full"), (143, "no such symbol"), (151, "the value has no number"), (175, "no such count"), (180, "the form is ill-formed"), (184, "too many steps, calls or words"), (187, "no value, or no catch"), (189, "a value of another kind is needed"), (193, "out of range, or divided by 0"), (198, "no such index")]
def NGs (U : State) : Prop := va_Nw (.declares ⟨"java/lang/RuntimeException", "<init>", "(Ljava/lang/String;)V"⟩) U ∧ va_Nw (.declares ⟨"java/lang/Exception", "<init>", "(Ljava/lang/String;)V"⟩) U ∧ va_Nw (.declares ⟨"java/lang/Throwable", "<init>", "(Ljava/lang/String;)V"⟩) U ∧ va_Nw (.castable "java/lang/IllegalArgumentException" "java/lang/IllegalArgumentException") U ∧ va_Nw (.castable "java/lang/IllegalStateException" "java/lang/IllegalStateException") U ∧ va_Nw (.castable "java/util/NoSuchElementException" "java/util/NoSuchElementException") U ∧ va_Nw (.castable "java/lang/UnsupportedOperationException" "java/lang/UnsupportedOperationException") U ∧ va_Nw (.castable "java/lang/ArithmeticException" "java/lang/ArithmeticException") U ∧ va_Nw (.castable "java/lang/IndexOutOfBoundsException" "java/lang/IndexOutOfBoundsException") U
theorem NGs.warm {s U : State} (hW : s.WarmedH U.vm) (h : NGs s) : NGs U := by
  obtain ⟨a0, a1, a2, a3, a4, a5, a6, a7, a8⟩ := h
  exact ⟨a0.warmD hW, a1.warmD hW, a2.warmD hW, a3.warmC hW, a4.warmC hW, a5.warmC hW, a6.warmC hW, a7.warmC hW, a8.warmC hW⟩
theorem NGs.same {u U : State} (hv : u.vm = U.vm) (h : NGs u) : NGs U := by
  obtain ⟨a0, a1, a2, a3, a4, a5, a6, a7, a8⟩ := h
  exact ⟨a0.same rfl hv, a1.same rfl hv, a2.same rfl hv, a3.same rfl hv, a4.same rfl hv, a5.same rfl hv, a6.same rfl hv, a7.same rfl hv, a8.same rfl hv⟩
/-- ea 0: the operators' addresses; ea 1: 0 the list of all, 1 the switch table; ea 2, ea 3: String constants and their bytes; ea 4: messages, by their pool entry -/
def EnT (ea : Nat → Nat → Nat) (A : Nat → Prop) (U : State) (H : Heap) : Prop :=
  va_Z RX3 "ALL" "[LTagMachine$Operator;" (.ref (ea 1 0)) A U H ∧
  va_T (.object RX3) (ea 1 0) 32 (fun j => .ref (ea 0 j)) A U H ∧
  va_Z RX3 "CALL" "LTagMachine$Operator;" (.ref (ea 0 0)) A U H ∧
  va_Z RX0 "$SwitchMap$TagMachine$Operator" "[I" (.ref (ea 1 1)) A U H ∧
  va_T .int (ea 1 1) 32 (fun j => .int (SMAP.getD j 0)) A U H ∧
  va_Z "java/lang/String" "COMPACT_STRINGS" "Z" (.int 1) A U H ∧
  (∀ i, i < 32 → va_O RX3 (ea 0 i) A U H ∧ va_OF "java/lang/Enum" "ordinal" "I" (.int (nI i)) (ea 0 i) A U H ∧ va_OF RX3 "fewest" "I" (.int (FEWL.getD i 0)) (ea 0 i) A U H ∧ va_OF RX3 "most" "I" (.int (MOSTL.getD i 0)) (ea 0 i) A U H ∧ va_OF RX3 "text" "Ljava/lang/String;" (.ref (ea 2 i)) (ea 0 i) A U H) ∧
  (∀ i, i < 37 → va_O "java/lang/String" (ea 2 i) A U H ∧ va_OF "java/lang/String" "coder" "B" (.int 0) (ea 2 i) A U H ∧ va_OF "java/lang/String" "value" "[B" (.ref (ea 3 i)) (ea 2 i) A U H ∧ va_T .byte (ea 3 i) (STL.getD i []).length (fun j => .int ((STL.getD i []).getD j 0)) A U H) ∧
  (vk_R RX9 23 "t" (ea 2 32) U ∧ vk_R RX9 35 "it" (ea 2 33) U ∧ vk_R RX9 37 "quote" (ea 2 34) U ∧ vk_R RX4 51 "nil" (ea 2 35) U ∧ vk_R RX4 95 " . " (ea 2 36) U ∧ (∀ q ∈ MSGL, vk_R RX11 q.1 q.2 (ea 4 q.1) U) ∧ va_Nw (.methodLinkNest RX6 105 yX11_isInRange RX11) U ∧ va_Nw (.methodLinkNest RX7 286 yX11_isInRange RX11) U ∧ NGs U) ∧
  (vx_Zq Bundle.tN "UNASSIGNED_STACK" Bundle.steD A U H ∧ vx_Zq Bundle.tN "SUPPRESSED_SENTINEL" Bundle.listD A U H ∧ va_Zq "jdk/internal/util/Preconditions" "SIOOBE_FORMATTER" "Ljava/util/function/BiFunction;" A U H)
theorem EnT.step {ea : Nat → Nat → Nat} {A B : Nat → Prop} {s U : State} {H : Heap} {locs : List Loc} (h : EnT ea A s s.heap) (hS : va_S A s.heap H locs) (hU : U.heap = H) (hW : s.WarmedH U.vm) (hAB : ∀ q, B q → A q) : EnT ea B U U.heap := by
  obtain ⟨h1, h2, h3, h4, h5, h6, h7, h8, ⟨r1, r2, r3, r4, r5, r6, n1, n2, n3⟩, x1, x2, x3⟩ := h
  have hv := hW.alike
  rw [hU]
  exact ⟨((h1.moved hv).kept hS.2.1).narrow hAB, ((h2.moved hv).kept hS.2.1).narrow hAB, ((h3.moved hv).kept hS.2.1).narrow hAB, ((h4.moved hv).kept hS.2.1).narrow hAB, ((h5.moved hv).kept hS.2.1).narrow hAB, ((h6.moved hv).kept hS.2.1).narrow hAB,
    fun i hi => ⟨(((h7 i hi).1.moved hv).kept hS.2.1).narrow hAB, (((h7 i hi).2.1.moved hv).kept hS.2.1).narrow hAB, (((h7 i hi).2.2.1.moved hv).kept hS.2.1).narrow hAB, (((h7 i hi).2.2.2.1.moved hv).kept hS.2.1).narrow hAB, (((h7 i hi).2.2.2.2.moved hv).kept hS.2.1).narrow hAB⟩,
    fun i hi => ⟨(((h8 i hi).1.moved hv).kept hS.2.1).narrow hAB, (((h8 i hi).2.1.moved hv).kept hS.2.1).narrow hAB, (((h8 i hi).2.2.1.moved hv).kept hS.2.1).narrow hAB, (((h8 i hi).2.2.2.moved hv).kept hS.2.1).narrow hAB⟩,
    ⟨r1.warm hW, r2.warm hW, r3.warm hW, r4.warm hW, r5.warm hW, fun q hq => (r6 q hq).warm hW, n1.warmM hW, n2.warmM hW, n3.warm hW⟩, ((x1.moved hv).kept hS.2.1).narrow hAB, ((x2.moved hv).kept hS.2.1).narrow hAB, ((x3.moved hv).kept hS.2.1).narrow hAB⟩
theorem EnT.blind {ea : Nat → Nat → Nat} {A : Nat → Prop} {U : State} {g : JFrame} {mk : MethodId} {a : Array Value} (h : EnT ea A U U.heap) : EnT ea A (U.calling g mk a) (U.calling g mk a).heap := by
  obtain ⟨h1, h2, h3, h4, h5, h6, h7, h8, ⟨r1, r2, r3, r4, r5, r6, n1, n2, n3⟩, x1, x2, x3⟩ := h
  have hv : U.vm.Alike (U.calling g mk a).vm := Vm.Alike.refl U.vm
  exact ⟨h1.moved hv, h2.moved hv, h3.moved hv, h4.moved hv, h5.moved hv, h6.moved hv,
    fun i hi => ⟨(h7 i hi).1.moved hv, (h7 i hi).2.1.moved hv, (h7 i hi).2.2.1.moved hv, (h7 i hi).2.2.2.1.moved hv, (h7 i hi).2.2.2.2.moved hv⟩,
    fun i hi => ⟨(h8 i hi).1.moved hv, (h8 i hi).2.1.moved hv, (h8 i hi).2.2.1.moved hv, (h8 i hi).2.2.2.moved hv⟩,
    ⟨r1.same rfl, r2.same rfl, r3.same rfl, r4.same rfl, r5.same rfl, fun q hq => (r6 q hq).same rfl, n1.same rfl rfl, n2.same rfl rfl, n3.same rfl⟩, x1.moved hv, x2.moved hv, x3.moved hv⟩
-- ===== contracts with these statics beside the world =====
def PreE (ea : Nat → Nat → Nat) (D : va_G) (tys : List (ClassId × FieldType)) (ws : va_W) (sz : Nat) (U : State) : Prop := Pre D tys ws sz U ∧ EnT ea (va_A ws sz) U U.heap
def MetIE (ea : Nat → Nat → Nat) (l : Launch) (y : MethodName) (b : ByteArray) (n : Nat) (rt : FieldType) (rm : Room) (D : va_G) (tys : List (ClassId × FieldType)) (ws : va_W) (as : List Value) {S : Type} (wf : S → va_W) (post : Int32 → S → Prop) : Prop :=
  ∀ sz, Met l y (.code y b n (some rt) :: TB) rm (va_Pc as (PreE ea D tys ws sz)) (va_Qi post (Bk D tys (va_A ws sz) wf) (va_A ws sz)) 0 0 (va_A ws sz)
def MetVE (ea : Nat → Nat → Nat) (l : Launch) (y : MethodName) (b : ByteArray) (n : Nat) (rm : Room) (D : va_G) (tys : List (ClassId × FieldType)) (ws : va_W) (as : List Value) {S : Type} (wf : S → va_W) (post : S → Prop) : Prop :=
  ∀ sz, Met l y (.code y b n none :: TB) rm (va_Pc as (PreE ea D tys ws sz)) (va_Qv post (Bk D tys (va_A ws sz) wf) (va_A ws sz)) 0 0 (va_A ws sz)
/-- the answer is an operator, by its place -/
def MetRE (ea : Nat → Nat → Nat) (l : Launch) (y : MethodName) (b : ByteArray) (n : Nat) (rt : FieldType) (rm : Room) (D : va_G) (tys : List (ClassId × FieldType)) (as : List Value) (post : Nat → Prop) : Prop :=
  ∀ sz, Met l y (.code y b n (some rt) :: TB) rm (va_Pc as (PreE ea D tys [] sz)) (va_Qr post (fun (u a : Nat) (t : State) => a = ea 0 u) (va_A [] sz)) 0 0 (va_A [] sz)
section MKE
variable {ea : Nat → Nat → Nat} {l : Launch} {y : MethodName} {b : ByteArray} {n : Nat} {rt : FieldType} {rm : Room} {D : va_G} {tys : List (ClassId × FieldType)} {ws : va_W} {as : List Value} {S : Type} {wf : S → va_W}
theorem mkIE {post : Int32 → S → Prop} (hy : plainName y.cls = true) (hn : (lg_sl as).length ≤ n)
    (body : ∀ (p : Program) (e : Env) (s : State) (m : MethodId) (args : Array Value) (below : List Frame) (meth : Method) (c : Code) (A : Nat → Prop) (ls : Array Slot), CallFix p m c b n s args (.code y b n (some rt) :: TB) y.cls → meth.sig.returnType = some rt → meth.locks = false → Wd D tys A s ws s.heap [] → EnT ea A s s.heap → lv_has ls n (lv_args 0 as) →
      W p l e rm s m args below meth c s.heap [] 0 0 (QI below D tys A args s wf post) (F0 m 0 ls [])) : MetIE ea l y b n rt rm D tys ws as wf post := by
  intro sz
  refine Met.ofW (cc := b) (maxL := n) (ret := some rt) hy rfl ?_
  intro p e s m args below meth c s₁ B hml hv
  obtain ⟨rfl, ⟨hsz, hP, hK, hD0⟩, hE⟩ := hv
  have hts := atoms_spec (ws := .code y b n (some rt) :: TB) B.pre
  have hown : s.vm.findClass y.cls = some m.cls := findClass_of_methodNamed B.named
  subst hsz
  rw [lg_entry_eq]
  exact body p e s m _ below meth c _ _ ⟨B.exec, B.bytes, hml, hown, hts⟩ B.returns B.notSynchronized ⟨hK, hP, hD0.self, va_S.rf, fun q h => Or.inr h⟩ hE (lv_entry as hn)
theorem mkVE {post : S → Prop} (hy : plainName y.cls = true) (hn : (lg_sl as).length ≤ n)
    (body : ∀ (p : Program) (e : Env) (s : State) (m : MethodId) (args : Array Value) (below : List Frame) (meth : Method) (c : Code) (A : Nat → Prop) (ls : Array Slot), CallFix p m c b n s args (.code y b n none :: TB) y.cls → meth.sig.returnType = none → meth.locks = false → Wd D tys A s ws s.heap [] → EnT ea A s s.heap → lv_has ls n (lv_args 0 as) →
      W p l e rm s m args below meth c s.heap [] 0 0 (QV below D tys A args s wf post) (F0 m 0 ls [])) : MetVE ea l y b n rm D tys ws as wf post := by
  intro sz
  refine Met.ofW (cc := b) (maxL := n) (ret := none) hy rfl ?_
  intro p e s m args below meth c s₁ B hml hv
  obtain ⟨rfl, ⟨hsz, hP, hK, hD0⟩, hE⟩ := hv
  have hts := atoms_spec (ws := .code y b n none :: TB) B.pre
  have hown : s.vm.findClass y.cls = some m.cls := findClass_of_methodNamed B.named
  subst hsz
  rw [lg_entry_eq]
  exact body p e s m _ below meth c _ _ ⟨B.exec, B.bytes, hml, hown, hts⟩ B.returns B.notSynchronized ⟨hK, hP, hD0.self, va_S.rf, fun q h => Or.inr h⟩ hE (lv_entry as hn)
theorem mkRE {post : Nat → Prop} (hy : plainName y.cls = true) (hn : (lg_sl as).length ≤ n)
    (body : ∀ (p : Program) (e : Env) (s : State) (m : MethodId) (args : Array Value) (below : List Frame) (meth : Method) (c : Code) (A : Nat → Prop) (ls : Array Slot), CallFix p m c b n s args (.code y b n (some rt) :: TB) y.cls → meth.sig.returnType = some rt → meth.locks = false → Wd D tys A s [] s.heap [] → EnT ea A s s.heap → lv_has ls n (lv_args 0 as) →
      W p l e rm s m args below meth c s.heap [] 0 0 (MQ below (va_Qr post (fun (u a : Nat) (t : State) => a = ea 0 u) A) args s 0 0 A) (F0 m 0 ls [])) : MetRE ea l y b n rt rm D tys as post := by
  intro sz
  refine Met.ofW (cc := b) (maxL := n) (ret := some rt) hy rfl ?_
  intro p e s m args below meth c s₁ B hml hv
  obtain ⟨rfl, ⟨hsz, hP, hK, hD0⟩, hE⟩ := hv
  have hts := atoms_spec (ws := .code y b n (some rt) :: TB) B.pre
  have hown : s.vm.findClass y.cls = some m.cls := findClass_of_methodNamed B.named
  subst hsz
  rw [lg_entry_eq]
  exact body p e s m _ below meth c _ _ ⟨B.exec, B.bytes, hml, hown, hts⟩ B.returns B.notSynchronized ⟨hK, hP, hD0.self, va_S.rf, fun q h => Or.inr h⟩ hE (lv_entry as hn)
end MKE
section RWE
variable {ea : Nat → Nat → Nat} {p : Program} {l : Launch} {e : Env} {R : Room} {s : State} {m : MethodId} {args : Array Value} {below : List Frame} {meth : Method} {c : Code} {H : Heap} {locs : List Loc} {cells slots : Nat} {Q : State → Prop}
variable {cc : ByteArray} {pc nL : Nat} {ls : Array Slot} {rest : List Value} {D : va_G} {A : Nat → Prop} {a : Nat} {tys : List (ClassId × FieldType)} {ws : va_W} {c0 : Cond} {own : String}
theorem blindE {as : List Value} {wc : va_W} {sz : Nat} : FrameBlind (va_Pc as (PreE ea D tys wc sz)) := fun a U g mk q => by
  obtain ⟨q0, ⟨q1, qP, qK, qD⟩, qE⟩ := q
  exact ⟨q0, ⟨q1, qP, va_K.moved (u := U) (U := U.calling g mk a) (Vm.Alike.refl U.vm) qK, qD⟩, qE.blind⟩
theorem preE {as : List Value} {wc : va_W} {U : State} (hw : Wd D tys A s ws H locs) (hE : EnT ea A s s.heap) (isC : List Nat) (hn : va_nd isC = true) (hc : isC.map (fun i => ws[i]?) = wc.map some) (hU : U.heap = H) (hW : s.WarmedH U.vm) : va_Pc as (PreE ea D tys wc H.size) as.toArray U :=
  ⟨rfl, (preW (as := as) hw isC hn hc hU hW).2, hE.step hw.2.2.2.1 hU hW (va_free hw.2.2.1 hw.2.2.2.1 hw.2.2.2.2 isC hc)⟩
variable {S : Type} {wf wn : S → va_W} {wc wr : va_W} {index : Nat} {y : MethodName} {b : ByteArray} {n np ci : Nat} {rt : FieldType} {rm : Room} {As : List Value} {C : String} {T : u_T} {N q0 : Nat} {fs : List Value}
theorem cVIe {post : Int32 → S → Prop} (hk : mlV own index C y b n (some rt) np) (hC : CallFix p m c cc nL s args (c0 :: TB) own) (hw : Wd D tys A s ws H locs) (hE : EnT ea A s s.heap) (hM : MetIE ea l y b n rt rm D tys wc (.ref a :: As) wf post) (isC isR isN : List Nat)
    (hc : isC.map (fun i => ws[i]?) = wc.map some) (hr : isR.map (fun i => ws[i]?) = wr.map some) (hnC : va_nd isC = true) (hn : va_nd isR = true) (hdis : ∀ i ∈ isR, i ∉ isC) (hnN : va_nd isN = true) (hN : ∀ u, isN.map (fun i => (wr ++ wf u)[i]?) = (wn u).map some)
    (hrc : rm.cells = 0) (hrs : rm.slots = 0) (hR : rm.frames + 1 ≤ R.frames ∧ 8 + (n + 11) + rm.locals ≤ R.locals) (hrecv : ∃ cell : Cell, H[a]? = some cell ∧ cell.vm.isStatics = false ∧ s.vm.findClass C = some cell.cls) (hnp : As.length = np) (hl : ls.size = nL) (hst : (rest.map fun v => v.category).sum ≤ 8) (hd : decode cc pc = .ok (.invokevirtual index, 3)) (hf : cells ≤ R.cells ∧ slots ≤ R.slots) {st : List Value} (hst0 : st = As.reverse ++ .ref a :: rest)
    (kk : ∀ (r : Int32) (u : S) (H1 : Heap) (locs1 : List Loc), post r u → Wd D tys A s (wn u) H1 locs1 → W p l e R s m args below meth c H1 locs1 cells slots Q (F0 m (pc + 3) ls (.int r :: rest))) : W p l e R s m args below meth c H locs cells slots Q (F0 m pc ls st) := by
  have hFc := va_free hw.2.2.1 hw.2.2.2.1 hw.2.2.2.2 isC hc
  subst hst0
  refine va_calli (va_runV (As := As) (rest := rest) hC (hM H.size) (cwV np hC.2.2.2.2 (tbL hk.1) rfl hrc hrs hk.2 hR) ⟨blindE, hrecv, fun U hU hW => preE hw hE isC hnC hc hU hW⟩ rfl hnp hl rfl (lv_room hst) hd hf) hw.2.2.2.1 (fun q _ h => hFc q h) hFc (fun r u t H1 locs1 ht hvm hp hB hz hk hS1 => ?_)
  exact kk r u H1 locs1 hp (joinW hw isC isR isN hc hr hn hdis hnN hN ht hk hB hS1)
theorem cVVe {post : S → Prop} (hk : mlV own index C y b n none np) (hC : CallFix p m c cc nL s args (c0 :: TB) own) (hw : Wd D tys A s ws H locs) (hE : EnT ea A s s.heap) (hM : MetVE ea l y b n rm D tys wc (.ref a :: As) wf post) (isC isR isN : List Nat)
    (hc : isC.map (fun i => ws[i]?) = wc.map some) (hr : isR.map (fun i => ws[i]?) = wr.map some) (hnC : va_nd isC = true) (hn : va_nd isR = true) (hdis : ∀ i ∈ isR, i ∉ isC) (hnN : va_nd isN = true) (hN : ∀ u, isN.map (fun i => (wr ++ wf u)[i]?) = (wn u).map some)
    (hrc : rm.cells = 0) (hrs : rm.slots = 0) (hR : rm.frames + 1 ≤ R.frames ∧ 8 + (n + 11) + rm.locals ≤ R.locals) (hrecv : ∃ cell : Cell, H[a]? = some cell ∧ cell.vm.isStatics = false ∧ s.vm.findClass C = some cell.cls) (hnp : As.length = np) (hl : ls.size = nL) (hst : (rest.map fun v => v.category).sum ≤ 8) (hd : decode cc pc = .ok (.invokevirtual index, 3)) (hf : cells ≤ R.cells ∧ slots ≤ R.slots) {st : List Value} (hst0 : st = As.reverse ++ .ref a :: rest)
    (kk : ∀ (u : S) (H1 : Heap) (locs1 : List Loc), post u → Wd D tys A s (wn u) H1 locs1 → W p l e R s m args below meth c H1 locs1 cells slots Q (F0 m (pc + 3) ls rest)) : W p l e R s m args below meth c H locs cells slots Q (F0 m pc ls st) := by
  have hFc := va_free hw.2.2.1 hw.2.2.2.1 hw.2.2.2.2 isC hc
  subst hst0
  refine va_callv (va_runV (As := As) (rest := rest) hC (hM H.size) (cwV np hC.2.2.2.2 (tbL hk.1) rfl hrc hrs hk.2 hR) ⟨blindE, hrecv, fun U hU hW => preE hw hE isC hnC hc hU hW⟩ rfl hnp hl rfl (lv_room hst) hd hf) hw.2.2.2.1 (fun q _ h => hFc q h) hFc (fun u t H1 locs1 ht hvm hp hB hz hk hS1 => ?_)
  exact kk u H1 locs1 hp (joinW hw isC isR isN hc hr hn hdis hnN hN ht hk hB hS1)
/-- the callee's world is the caller's -/
theorem cVIwe {post : Int32 → S → Prop} (hk : mlV own index C y b n (some rt) np) (hC : CallFix p m c cc nL s args (c0 :: TB) own) (hw : Wd D tys A s ws H locs) (hE : EnT ea A s s.heap) (hM : MetIE ea l y b n rt rm D tys ws (.ref a :: As) wf post)
    (hrc : rm.cells = 0) (hrs : rm.slots = 0) (hR : rm.frames + 1 ≤ R.frames ∧ 8 + (n + 11) + rm.locals ≤ R.locals) (hrecv : ∃ cell : Cell, H[a]? = some cell ∧ cell.vm.isStatics = false ∧ s.vm.findClass C = some cell.cls) (hnp : As.length = np) (hl : ls.size = nL) (hst : (rest.map fun v => v.category).sum ≤ 8) (hd : decode cc pc = .ok (.invokevirtual index, 3)) (hf : cells ≤ R.cells ∧ slots ≤ R.slots) {st : List Value} (hst0 : st = As.reverse ++ .ref a :: rest)
    (kk : ∀ (r : Int32) (u : S) (H1 : Heap) (locs1 : List Loc), post r u → Wd D tys A s (wf u) H1 locs1 → W p l e R s m args below meth c H1 locs1 cells slots Q (F0 m (pc + 3) ls (.int r :: rest))) : W p l e R s m args below meth c H locs cells slots Q (F0 m pc ls st) := by
  have hc := rng ws
  have hFc := va_free hw.2.2.1 hw.2.2.2.1 hw.2.2.2.2 _ hc
  subst hst0
  refine va_calli (va_runV (As := As) (rest := rest) hC (hM H.size) (cwV np hC.2.2.2.2 (tbL hk.1) rfl hrc hrs hk.2 hR) ⟨blindE, hrecv, fun U hU hW => preE hw hE _ (rng_nd _) hc hU hW⟩ rfl hnp hl rfl (lv_room hst) hd hf) hw.2.2.2.1 (fun q _ h => hFc q h) hFc (fun r u t H1 locs1 ht hvm hp hB hz hk hS1 => ?_)
  obtain ⟨hK, hP, hD, hS, hA⟩ := hw
  obtain ⟨b1, b2, b3⟩ := hB
  rw [ht] at b1
  exact kk r u H1 locs1 hp ⟨hK, b1, b3.weaken (fun _ q _ h => hFc q.1 h), hS1, hA⟩
theorem cVVwe {post : S → Prop} (hk : mlV own index C y b n none np) (hC : CallFix p m c cc nL s args (c0 :: TB) own) (hw : Wd D tys A s ws H locs) (hE : EnT ea A s s.heap) (hM : MetVE ea l y b n rm D tys ws (.ref a :: As) wf post)
    (hrc : rm.cells = 0) (hrs : rm.slots = 0) (hR : rm.frames + 1 ≤ R.frames ∧ 8 + (n + 11) + rm.locals ≤ R.locals) (hrecv : ∃ cell : Cell, H[a]? = some cell ∧ cell.vm.isStatics = false ∧ s.vm.findClass C = some cell.cls) (hnp : As.length = np) (hl : ls.size = nL) (hst : (rest.map fun v => v.category).sum ≤ 8) (hd : decode cc pc = .ok (.invokevirtual index, 3)) (hf : cells ≤ R.cells ∧ slots ≤ R.slots) {st : List Value} (hst0 : st = As.reverse ++ .ref a :: rest)
    (kk : ∀ (u : S) (H1 : Heap) (locs1 : List Loc), post u → Wd D tys A s (wf u) H1 locs1 → W p l e R s m args below meth c H1 locs1 cells slots Q (F0 m (pc + 3) ls rest)) : W p l e R s m args below meth c H locs cells slots Q (F0 m pc ls st) := by
  have hc := rng ws
  have hFc := va_free hw.2.2.1 hw.2.2.2.1 hw.2.2.2.2 _ hc
  subst hst0
  refine va_callv (va_runV (As := As) (rest := rest) hC (hM H.size) (cwV np hC.2.2.2.2 (tbL hk.1) rfl hrc hrs hk.2 hR) ⟨blindE, hrecv, fun U hU hW => preE hw hE _ (rng_nd _) hc hU hW⟩ rfl hnp hl rfl (lv_room hst) hd hf) hw.2.2.2.1 (fun q _ h => hFc q h) hFc (fun u t H1 locs1 ht hvm hp hB hz hk hS1 => ?_)
  obtain ⟨hK, hP, hD, hS, hA⟩ := hw
  obtain ⟨b1, b2, b3⟩ := hB
  rw [ht] at b1
  exact kk u H1 locs1 hp ⟨hK, b1, b3.weaken (fun _ q _ h => hFc q.1 h), hS1, hA⟩
/-- an instance method without cells of its own (a String's, an operator's): its world is empty -/
theorem cVI0 {post : Int32 → Unit → Prop} (hk : mlV own index C y b n (some rt) np) (hC : CallFix p m c cc nL s args (c0 :: TB) own) (hw : Wd D tys A s ws H locs) (hE : EnT ea A s s.heap) (hM : MetIE ea l y b n rt rm D tys [] (.ref a :: As) (fun _ : Unit => []) post)
    (hrc : rm.cells = 0) (hrs : rm.slots = 0) (hR : rm.frames + 1 ≤ R.frames ∧ 8 + (n + 11) + rm.locals ≤ R.locals) (hrecv : ∃ cell : Cell, H[a]? = some cell ∧ cell.vm.isStatics = false ∧ s.vm.findClass C = some cell.cls) (hnp : As.length = np) (hl : ls.size = nL) (hst : (rest.map fun v => v.category).sum ≤ 8) (hd : decode cc pc = .ok (.invokevirtual index, 3)) (hf : cells ≤ R.cells ∧ slots ≤ R.slots) {st : List Value} (hst0 : st = As.reverse ++ .ref a :: rest)
    (kk : ∀ (r : Int32) (H1 : Heap) (locs1 : List Loc), post r () → Wd D tys A s ws H1 locs1 → W p l e R s m args below meth c H1 locs1 cells slots Q (F0 m (pc + 3) ls (.int r :: rest))) : W p l e R s m args below meth c H locs cells slots Q (F0 m pc ls st) :=
  cVIe (wf := fun _ : Unit => []) (wn := fun _ : Unit => ws) (wc := []) (wr := ws) hk hC hw hE hM [] (List.range ws.length) (List.range ws.length) rfl (rng ws) rfl (rng_nd _) (fun i _ h => by cases h) (rng_nd _) (fun _ => by rw [List.append_nil]; exact rng ws) hrc hrs hR hrecv hnp hl hst hd hf hst0 (fun r _ H1 locs1 h1 h2 => kk r H1 locs1 h1 h2)
theorem preE0 {as : List Value} {U : State} (hw : Wd D tys A s ws H locs) (hE : EnT ea A s s.heap) (hU : U.heap = H) (hW : s.WarmedH U.vm) : va_Pc as (PreE ea D tys [] H.size) as.toArray U := preE hw hE [] rfl rfl hU hW
/-- static, with a world -/
theorem cSIe {post : Int32 → S → Prop} (hk : mlS own index y b n (some rt) np) (hC : CallFix p m c cc nL s args (c0 :: TB) own) (hw : Wd D tys A s ws H locs) (hE : EnT ea A s s.heap) (hM : MetIE ea l y b n rt rm D tys wc As wf post) (isC isR isN : List Nat)
    (hc : isC.map (fun i => ws[i]?) = wc.map some) (hr : isR.map (fun i => ws[i]?) = wr.map some) (hnC : va_nd isC = true) (hn : va_nd isR = true) (hdis : ∀ i ∈ isR, i ∉ isC) (hnN : va_nd isN = true) (hN : ∀ u, isN.map (fun i => (wr ++ wf u)[i]?) = (wn u).map some)
    (hrc : rm.cells = 0) (hrs : rm.slots = 0) (hR : rm.frames + 1 ≤ R.frames ∧ 8 + (n + 11) + rm.locals ≤ R.locals) (hnp : As.length = np) (hl : ls.size = nL) (hst : (rest.map fun v => v.category).sum ≤ 8) (hd : decode cc pc = .ok (.invokestatic index, 3)) (hf : cells ≤ R.cells ∧ slots ≤ R.slots) {st : List Value} (hst0 : st = As.reverse ++ rest)
    (kk : ∀ (r : Int32) (u : S) (H1 : Heap) (locs1 : List Loc), post r u → Wd D tys A s (wn u) H1 locs1 → W p l e R s m args below meth c H1 locs1 cells slots Q (F0 m (pc + 3) ls (.int r :: rest))) : W p l e R s m args below meth c H locs cells slots Q (F0 m pc ls st) := by
  have hFc := va_free hw.2.2.1 hw.2.2.2.1 hw.2.2.2.2 isC hc
  subst hst0
  refine va_calli (va_runS (As := As) (rest := rest) hC (hM H.size) (va_cwS np hC.2.2.2.2 (tbL hk.1) rfl hrc hrs hk.2 hR) ⟨blindE, fun U hU hW => preE hw hE isC hnC hc hU hW⟩ rfl hnp hl rfl (lv_room hst) hd hf) hw.2.2.2.1 (fun q _ h => hFc q h) hFc (fun r u t H1 locs1 ht hvm hp hB hz hk hS1 => ?_)
  exact kk r u H1 locs1 hp (joinW hw isC isR isN hc hr hn hdis hnN hN ht hk hB hS1)
theorem cSI0 {post : Int32 → Unit → Prop} (hk : mlS own index y b n (some rt) np) (hC : CallFix p m c cc nL s args (c0 :: TB) own) (hw : Wd D tys A s ws H locs) (hE : EnT ea A s s.heap) (hM : MetIE ea l y b n rt rm D tys [] As (fun _ : Unit => []) post)
    (hrc : rm.cells = 0) (hrs : rm.slots = 0) (hR : rm.frames + 1 ≤ R.frames ∧ 8 + (n + 11) + rm.locals ≤ R.locals) (hnp : As.length = np) (hl : ls.size = nL) (hst : (rest.map fun v => v.category).sum ≤ 8) (hd : decode cc pc = .ok (.invokestatic index, 3)) (hf : cells ≤ R.cells ∧ slots ≤ R.slots) {st : List Value} (hst0 : st = As.reverse ++ rest)
    (kk : ∀ (r : Int32) (H1 : Heap) (locs1 : List Loc), post r () → Wd D tys A s ws H1 locs1 → W p l e R s m args below meth c H1 locs1 cells slots Q (F0 m (pc + 3) ls (.int r :: rest))) : W p l e R s m args below meth c H locs cells slots Q (F0 m pc ls st) :=
  cSIe (wf := fun _ : Unit => []) (wn := fun _ : Unit => ws) (wc := []) (wr := ws) hk hC hw hE hM [] (List.range ws.length) (List.range ws.length) rfl (rng ws) rfl (rng_nd _) (fun i _ h => by cases h) (rng_nd _) (fun _ => by rw [List.append_nil]; exact rng ws) hrc hrs hR hnp hl hst hd hf hst0 (fun r _ H1 locs1 h1 h2 => kk r H1 locs1 h1 h2)
theorem cSVe {post : S → Prop} (hk : mlS own index y b n none np) (hC : CallFix p m c cc nL s args (c0 :: TB) own) (hw : Wd D tys A s ws H locs) (hE : EnT ea A s s.heap) (hM : MetVE ea l y b n rm D tys wc As wf post) (isC isR isN : List Nat)
    (hc : isC.map (fun i => ws[i]?) = wc.map some) (hr : isR.map (fun i => ws[i]?) = wr.map some) (hnC : va_nd isC = true) (hn : va_nd isR = true) (hdis : ∀ i ∈ isR, i ∉ isC) (hnN : va_nd isN = true) (hN : ∀ u, isN.map (fun i => (wr ++ wf u)[i]?) = (wn u).map some)
    (hrc : rm.cells = 0) (hrs : rm.slots = 0) (hR : rm.frames + 1 ≤ R.frames ∧ 8 + (n + 11) + rm.locals ≤ R.locals) (hnp : As.length = np) (hl : ls.size = nL) (hst : (rest.map fun v => v.category).sum ≤ 8) (hd : decode cc pc = .ok (.invokestatic index, 3)) (hf : cells ≤ R.cells ∧ slots ≤ R.slots) {st : List Value} (hst0 : st = As.reverse ++ rest)
    (kk : ∀ (u : S) (H1 : Heap) (locs1 : List Loc), post u → Wd D tys A s (wn u) H1 locs1 → W p l e R s m args below meth c H1 locs1 cells slots Q (F0 m (pc + 3) ls rest)) : W p l e R s m args below meth c H locs cells slots Q (F0 m pc ls st) := by
  have hFc := va_free hw.2.2.1 hw.2.2.2.1 hw.2.2.2.2 isC hc
  subst hst0
  refine va_callv (va_runS (As := As) (rest := rest) hC (hM H.size) (va_cwS np hC.2.2.2.2 (tbL hk.1) rfl hrc hrs hk.2 hR) ⟨blindE, fun U hU hW => preE hw hE isC hnC hc hU hW⟩ rfl hnp hl rfl (lv_room hst) hd hf) hw.2.2.2.1 (fun q _ h => hFc q h) hFc (fun u t H1 locs1 ht hvm hp hB hz hk hS1 => ?_)
  exact kk u H1 locs1 hp (joinW hw isC isR isN hc hr hn hdis hnN hN ht hk hB hS1)
theorem cSV0 {post : Unit → Prop} (hk : mlS own index y b n none np) (hC : CallFix p m c cc nL s args (c0 :: TB) own) (hw : Wd D tys A s ws H locs) (hE : EnT ea A s s.heap) (hM : MetVE ea l y b n rm D tys [] As (fun _ : Unit => []) post)
    (hrc : rm.cells = 0) (hrs : rm.slots = 0) (hR : rm.frames + 1 ≤ R.frames ∧ 8 + (n + 11) + rm.locals ≤ R.locals) (hnp : As.length = np) (hl : ls.size = nL) (hst : (rest.map fun v => v.category).sum ≤ 8) (hd : decode cc pc = .ok (.invokestatic index, 3)) (hf : cells ≤ R.cells ∧ slots ≤ R.slots) {st : List Value} (hst0 : st = As.reverse ++ rest)
    (kk : ∀ (H1 : Heap) (locs1 : List Loc), post () → Wd D tys A s ws H1 locs1 → W p l e R s m args below meth c H1 locs1 cells slots Q (F0 m (pc + 3) ls rest)) : W p l e R s m args below meth c H locs cells slots Q (F0 m pc ls st) :=
  cSVe (wf := fun _ : Unit => []) (wn := fun _ : Unit => ws) (wc := []) (wr := ws) hk hC hw hE hM [] (List.range ws.length) (List.range ws.length) rfl (rng ws) rfl (rng_nd _) (fun i _ h => by cases h) (rng_nd _) (fun _ => by rw [List.append_nil]; exact rng ws) hrc hrs hR hnp hl hst hd hf hst0 (fun _ H1 locs1 h1 h2 => kk H1 locs1 h1 h2)
theorem keepW {H1 : Heap} {locs1 : List Loc} (hw : Wd D tys A s ws H locs) (hz : H.size ≤ H1.size) (hk : ∀ q : Nat, q < H.size → ¬ va_A [] H.size q → H1[q]? = H[q]?) (hS1 : va_S A s.heap H1 locs1) : Wd D tys A s ws H1 locs1 := by
  obtain ⟨hK, hP, hD, hS, hA⟩ := hw
  refine ⟨hK, hP.kept (fun k q hq => hk q.1 (hP k q hq).lt (fun h => ?_)), hD, hS1, hA⟩
  rcases h with ⟨k9, e9, h⟩ | h
  · cases h
  · exact absurd (hP k q hq).lt (by omega)
/-- a static call that answers an operator -/
theorem cSR {post : Nat → Prop} (hk : mlS own index y b n (some rt) np) (hC : CallFix p m c cc nL s args (c0 :: TB) own) (hw : Wd D tys A s ws H locs) (hE : EnT ea A s s.heap) (hM : MetRE ea l y b n rt rm D tys As post)
    (hrc : rm.cells = 0) (hrs : rm.slots = 0) (hR : rm.frames + 1 ≤ R.frames ∧ 8 + (n + 11) + rm.locals ≤ R.locals) (hnp : As.length = np) (hl : ls.size = nL) (hst : (rest.map fun v => v.category).sum ≤ 8) (hd : decode cc pc = .ok (.invokestatic index, 3)) (hf : cells ≤ R.cells ∧ slots ≤ R.slots) {st : List Value} (hst0 : st = As.reverse ++ rest)
    (kk : ∀ (r : Nat) (H1 : Heap) (locs1 : List Loc), post r → Wd D tys A s ws H1 locs1 → W p l e R s m args below meth c H1 locs1 cells slots Q (F0 m (pc + 3) ls (.ref (ea 0 r) :: rest))) : W p l e R s m args below meth c H locs cells slots Q (F0 m pc ls st) := by
  have hFc := va_free (wc := []) hw.2.2.1 hw.2.2.2.1 hw.2.2.2.2 [] rfl
  subst hst0
  refine va_callr (va_runS (As := As) (rest := rest) hC (hM H.size) (va_cwS np hC.2.2.2.2 (tbL hk.1) rfl hrc hrs hk.2 hR) ⟨blindE, fun U hU hW => preE0 hw hE hU hW⟩ rfl hnp hl rfl (lv_room hst) hd hf) hw.2.2.2.1 (fun q _ h => hFc q h) hFc (fun u ra t H1 locs1 ht hvm hp hB hz hk hS1 => ?_)
  subst hB
  exact kk u H1 locs1 hp (keepW hw hz hk hS1)
theorem rtR {post : Nat → Prop} (i : Nat) (hC : CallFix p m c cc nL s args (c0 :: TB) own) (hr : meth.sig.returnType = some (.object C)) (hlk : meth.locks = false) (hw : Wd D tys A s ws H locs) (hp : post i) (hd : decode cc pc = .ok (.areturn, 1)) :
    W p l e R s m args below meth c H locs 0 0 (MQ below (va_Qr post (fun (u a : Nat) (t : State) => a = ea 0 u) A) args s 0 0 A) (F0 m pc ls [.ref (ea 0 i)]) := by
  obtain ⟨hK, hP, hD, hS, -⟩ := hw
  exact W.aret hC.1 hC.2.1 hr (Or.inl ⟨_, rfl⟩) (Or.inr ⟨_, rfl⟩) (fun t ht hW => ⟨⟨i, _, rfl, hp, rfl⟩, hS.F ht⟩) hS.2.2 hd hlk
/-- a field of a constant object -/
theorem gtO {o nm d : String} {index q : Nat} {v : Value} (hl : Cond.fieldLink own index o nm d ∈ TB) (hC : CallFix p m c cc nL s args (c0 :: TB) own) (hw : Wd D tys A s ws H locs) (hE : va_OF o nm d v q A s s.heap) (hd : decode cc pc = .ok (.getfield index, 3))
    (kk : W p l e R s m args below meth c H locs cells slots Q (F0 m (pc + 3) ls (v :: rest))) : W p l e R s m args below meth c H locs cells slots Q (F0 m pc ls (.ref q :: rest)) :=
  vk_getf hC.1 hC.2.1 hE hw.2.2.2.1 hC.2.2.2.1 (hC.2.2.2.2 _ (List.mem_cons_of_mem _ hl)) (fun _ h9 => h9) hd kk
theorem gts {o nm d : String} {index : Nat} {v : Value} (hl : Cond.fieldLink own index o nm d ∈ TB) (hC : CallFix p m c cc nL s args (c0 :: TB) own) (hw : Wd D tys A s ws H locs) (hZ : va_Z o nm d v A s s.heap) (hd : decode cc pc = .ok (.getstatic index, 3))
    (kk : W p l e R s m args below meth c H locs cells slots Q (F0 m (pc + 3) ls (v :: rest))) : W p l e R s m args below meth c H locs cells slots Q (F0 m pc ls rest) :=
  va_gets hC.1 hC.2.1 hZ hw.2.2.2.1 hC.2.2.2.1 (hC.2.2.2.2 _ (List.mem_cons_of_mem _ hl)) (fun _ h9 => h9) hd kk
theorem recvW (hw : Wd D tys A s ws H locs) (hc : vwCl[ci]? = some (C, T, N)) (q0 : Nat) (he : ws[q0]? = some (a, .inr (ci, fs))) : ∃ cell : Cell, H[a]? = some cell ∧ cell.vm.isStatics = false ∧ s.vm.findClass C = some cell.cls := va_recv hw.1 hw.2.1 hc he
/-- a private static method of the nest's host -/
theorem cSIn {post : Int32 → Prop} {host : String} (hln : va_Nw (.methodLinkNest own index y host) s) (h2 : Cond.static y ∈ TB) (h4 : Cond.initialized y.cls ∈ TB) (h5 : Cond.code y b n (some rt) ∈ TB) (hd9 : y.cls ≠ "java/lang/invoke/MethodHandle" ∧ y.cls ≠ "java/lang/invoke/VarHandle" ∧ (parseMethodDescriptor y.desc).map (fun d => d.parameters.length) = some np) (hC : CallFix p m c cc nL s args (c0 :: TB) own) (hM : MetS l y b n rt rm As post)
    (hrc : rm.cells = 0) (hrs : rm.slots = 0) (hR : rm.frames + 1 ≤ R.frames ∧ 8 + (n + 11) + rm.locals ≤ R.locals) (hnp : As.length = np) (hl : ls.size = nL) (hst : (rest.map fun v => v.category).sum ≤ 8) (hd : decode cc pc = .ok (.invokestatic index, 3)) (hf : cells ≤ R.cells ∧ slots ≤ R.slots) {st : List Value} (hst0 : st = As.reverse ++ rest)
    (kk : ∀ (r : Int32), post r → W p l e R s m args below meth c H locs cells slots Q (F0 m (pc + 3) ls (.int r :: rest))) : W p l e R s m args below meth c H locs cells slots Q (F0 m pc ls st) := by
  subst hst0
  have hT : ∀ w ∈ TB, w.before args s = true := fun w h => hC.2.2.2.2 w (List.mem_cons_of_mem _ h)
  have hr := va_runSN (e := e) (p := p) (below := below) (meth := meth) (locs := locs) (g := F0 m pc ls (As.reverse ++ rest)) (As := As) (rest := rest) (H := H) (cells := cells) (slots := slots) hC hM ⟨va_cnB np hC.2.2.2.2 (tbL (fun w hw => by rcases List.mem_cons.mp hw with rfl | hw; exact h5; exact hw)) rfl hrc hrs hln (hT _ h4) hd9 hR, hT _ h2, trivial⟩ ⟨fun a U g mk q => q, fun U hU hW => ⟨rfl, trivial⟩⟩ rfl hnp hl rfl (lv_room hst) hd hf
  intro T hT X
  obtain ⟨v, st₀, t, T', L, h0, X', hL, e1, e2, ⟨r, hv, hp, hh⟩, st⟩ := hr T hT X
  cases hv
  have hL0 : L = [] := by
    cases L with
    | nil => rfl
    | cons q L => exact absurd (hL q List.mem_cons_self) (fun h => h)
  subst hL0
  rw [List.append_nil] at X'
  obtain ⟨t2, a1, b1⟩ := kk r hp T' (by rw [e1, hh, h0]) X'
  exact ⟨t2, st t2 a1, b1⟩
/-- an operator's ordinal -/
theorem cOrdG {i : Nat} {x : MethodName} (hk : ∀ w ∈ va_wsU own index RX3 "java/lang/Enum" x y (.code y b n (some rt) :: TB), w ∈ TB) (hyx : y = ⟨"java/lang/Enum", x.name, x.desc⟩) (hd9 : (parseMethodDescriptor x.desc).map (fun d => d.parameters.length) = some 0) (hC : CallFix p m c cc nL s args (c0 :: TB) own) (hw : Wd D tys A s ws H locs) (hE : EnT ea A s s.heap) (hi : i < 32) (hM : MetIE ea l y b n rt rm D tys [] [.ref (ea 0 i)] (fun _ : Unit => ([] : va_W)) (fun (r : Int32) (_ : Unit) => r = nI i))
    (hrc : rm.cells = 0) (hrs : rm.slots = 0) (hR : rm.frames + 1 ≤ R.frames ∧ 8 + (n + 11) + rm.locals ≤ R.locals) (hl : ls.size = nL) (hst : (rest.map fun v => v.category).sum ≤ 8) (hd : decode cc pc = .ok (.invokevirtual index, 3)) (hf : cells ≤ R.cells ∧ slots ≤ R.slots)
    (kk : ∀ (H1 : Heap) (locs1 : List Loc), Wd D tys A s ws H1 locs1 → W p l e R s m args below meth c H1 locs1 cells slots Q (F0 m (pc + 3) ls (.int (nI i) :: rest))) : W p l e R s m args below meth c H locs cells slots Q (F0 m pc ls (.ref (ea 0 i) :: rest)) := by
  have hFc := va_free (wc := []) hw.2.2.1 hw.2.2.2.1 hw.2.2.2.2 [] rfl
  refine va_calli (va_runU (x := x) (C := RX3) (owner := "java/lang/Enum") (As := []) (rest := rest) hC (hM H.size) (va_cwU 0 hC.2.2.2.2 (tbL hk) rfl hrc hrs hyx ⟨by decide, by decide, hd9⟩ hR) ⟨blindE, va_Orecv (hE.2.2.2.2.2.2.1 _ hi).1 hw.2.2.2.1, fun U hU hW => preE0 hw hE hU hW⟩ rfl rfl hl rfl (lv_room hst) hd hf) hw.2.2.2.1 (fun q _ h => hFc q h) hFc (fun r u t H1 locs1 ht hvm hp hB hz hk hS1 => ?_)
  subst hp
  exact kk H1 locs1 (keepW hw hz hk hS1)
end RWE
theorem ordW {own : String} {idx : Nat} {x y : MethodName} {b : ByteArray} {n : Nat} {r : Option FieldType} (h1 : Cond.methodLink own idx x ∈ TB) (h2 : Cond.sameMethod x.cls "java/lang/Enum" x.name x.desc ∈ TB) (h3 : Cond.selects RX3 x y ∈ TB) (h4 : Cond.instanceMethod y ∈ TB) (h5 : Cond.initialized y.cls ∈ TB) (h6 : Cond.code y b n r ∈ TB) : ∀ w ∈ va_wsU own idx RX3 "java/lang/Enum" x y (.code y b n r :: TB), w ∈ TB := by
  intro w hw
  simp only [va_wsU, List.cons_append, List.nil_append, List.mem_cons] at hw
  rcases hw with rfl | rfl | rfl | rfl | rfl | rfl | hw
  · exact h1
  · exact h2
  · exact h3
  · exact h4
  · exact h5
  · exact h6
  · exact hw
def mx (g : Nat → Nat → Int32) (e : Nat) (f : Nat → Int32) : Nat → Nat → Int32 := fun b => cond (Nat.beq b e) f (g b)
