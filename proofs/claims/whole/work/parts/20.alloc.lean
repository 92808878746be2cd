-- ===== methods that make cells: constructors =====
def MetVA (ea : Nat → Nat → Nat) (l : Launch) (y : MethodName) (b : ByteArray) (n : Nat) (rm : Room) (D : va_G) (tys : List (ClassId × FieldType)) (ws : va_W) (as : List Value) {S : Type} (wf : S → va_W) (post : S → Prop) (mc ms : Nat) : Prop :=
  ∀ sz, Met l y (.code y b n none :: TB) rm (va_Pc as (PreE ea D tys ws sz)) (va_Qv post (Bk D tys (va_A ws sz) wf) (va_A ws sz)) mc ms (va_A ws sz)
abbrev QA (below : List Frame) (D : va_G) (tys : List (ClassId × FieldType)) (A : Nat → Prop) (args : Array Value) (s : State) {S : Type} (wf : S → va_W) (post : S → Prop) (mc ms : Nat) : State → Prop := MQ below (va_Qv post (Bk D tys A wf) A) args s mc ms A
theorem mkVA {ea : Nat → Nat → Nat} {l : Launch} {y : MethodName} {b : ByteArray} {n : Nat} {rm : Room} {D : va_G} {tys : List (ClassId × FieldType)} {ws : va_W} {as : List Value} {S : Type} {wf : S → va_W} {post : S → Prop} {mc ms : Nat} (hy : plainName y.cls = true) (hy1 : y.name = "<init>") (hn : (lg_sl as).length ≤ n)
    (body : ∀ (p : Program) (e : Env) (s : State) (m : MethodId) (args : Array Value) (below : List Frame) (meth : Method) (c : Code) (A : Nat → Prop) (ls : Array Slot), CallFix p m c b n s args (.code y b n none :: TB) y.cls → meth.sig.returnType = none → meth.locks = false → meth.name = "<init>" → Wd D tys A s ws s.heap [] → EnT ea A s s.heap → lv_has ls n (lv_args 0 as) →
      W p l e rm s m args below meth c s.heap [] 0 0 (QA below D tys A args s wf post mc ms) (F0 m 0 ls [])) : MetVA ea l y b n rm D tys ws as wf post mc ms := by
  intro sz
  refine Met.ofW (cc := b) (maxL := n) (ret := none) hy rfl ?_
  intro p e s m args below meth c s₁ B hml hv
  obtain ⟨rfl, ⟨hsz, hP, hK, hD0⟩, hE⟩ := hv
  have hts := atoms_spec (ws := .code y b n none :: TB) B.pre
  have hown : s.vm.findClass y.cls = some m.cls := findClass_of_methodNamed B.named
  subst hsz
  rw [lg_entry_eq]
  exact body p e s m _ below meth c _ _ ⟨B.exec, B.bytes, hml, hown, hts⟩ B.returns B.notSynchronized ((name_of_methodNamed B.named B.method).1.trans hy1) ⟨hK, hP, hD0.self, va_S.rf, fun q h => Or.inr h⟩ hE (lv_entry as hn)
section AL
variable {ea : Nat → Nat → Nat} {p : Program} {l : Launch} {e : Env} {R : Room} {s : State} {m : MethodId} {args : Array Value} {below : List Frame} {meth : Method} {c : Code} {H : Heap} {locs : List Loc} {cells slots : Nat} {Q : State → Prop}
variable {cc : ByteArray} {pc nL : Nat} {ls : Array Slot} {rest : List Value} {D : va_G} {A : Nat → Prop} {a : Nat} {tys : List (ClassId × FieldType)} {ws ws' : va_W} {c0 : Cond} {own : String}
theorem subW (hw : Wd D tys A s ws H locs) (is : List Nat) (hn : va_nd is = true) (hs : is.map (fun i => ws[i]?) = ws'.map some) : Wd D tys A s ws' H locs := by
  obtain ⟨hK, hP, hD, hS, hA⟩ := hw
  refine ⟨hK, ?_, hD.sub is hn hs, hS, hA⟩
  refine hP.sub is ?_
  have : ∀ (l : List Nat) (w : va_W), l.map (fun i => ws[i]?) = w.map some → l.filterMap (fun i => ws[i]?) = w := by
    intro l
    induction l with
    | nil => intro w h; cases w with
      | nil => rfl
      | cons a b => cases h
    | cons x l ih => intro w h; cases w with
      | nil => cases h
      | cons a b =>
        rw [List.map_cons, List.map_cons] at h
        injection h with h1 h2
        rw [List.filterMap_cons, h1]
        exact congrArg _ (ih b h2)
  exact this _ _ hs
theorem rtVA {S : Type} {wf : S → va_W} {post : S → Prop} {mc ms : Nat} (u : S) (hC : CallFix p m c cc nL s args (c0 :: TB) own) (hr : meth.sig.returnType = none) (hlk : meth.locks = false) (hw : Wd D tys A s (wf u) H locs) (hp : post u) (hc : cells ≤ mc) (hs : slots ≤ ms) (hd : decode cc pc = .ok (.return_, 1)) :
    W p l e R s m args below meth c H locs cells slots (QA below D tys A args s wf post mc ms) (F0 m pc ls []) := by
  obtain ⟨hK, hP, hD, hS, -⟩ := hw
  exact W.widen hc hs (W.vret hC.1 hC.2.1 hr (fun t ht hW => ⟨⟨u, rfl, hp, by rw [ht]; exact hP, va_K.moved hW.alike hK, hD⟩, hS.F ht⟩) hS.2.2 hd hlk)
theorem nwA {atype : ArrayType} {ty : FieldType} {cA0 : ClassId} {a0 : vp_A} {n : Int32} {N' : Nat} (t0 : Nat) (harr : Cond.arrayClass ty ∈ TB) (hty : newarray.typeOf atype = ty) (hra : ∀ c : ClassId, va_RA s c ty → s.vm.findClass ("[" ++ ty.toString) = some c) (hC : CallFix p m c cc nL s args (c0 :: TB) own) (hw : Wd D tys A s ws H locs) (ht : tys[t0]? = some (cA0, ty)) (ha : ∀ cA : ClassId, vp_cell cA a0 = arrV cA N' (fun _ => defaultValue ty)) (hn : ¬ n < 0) (hN : n.toNatClampNeg = N') (hbytes : N' * componentBytes ty ≤ 536870912) (hcells : cells + 1 ≤ R.cells) (hslots : slots + N' ≤ R.slots) (hd : decode cc pc = .ok (.newarray atype, 2))
    (kk : ∀ (q : Nat) (H1 : Heap), Wd D tys A s (ws ++ [(q, .inl (cA0, a0))]) H1 locs → W p l e R s m args below meth c H1 locs (cells + 1) (slots + N') Q (F0 m (pc + 2) ls (.ref q :: rest))) : W p l e R s m args below meth c H locs cells slots Q (F0 m pc ls (.int n :: rest)) := by
  refine va_newa hC.1 hC.2.1 (by rw [hty]; exact hC.2.2.2.2 _ (List.mem_cons_of_mem _ harr)) hty hw.1 hw.2.1 hw.2.2.1 hw.2.2.2.1 hw.2.2.2.2 ha hn hN hbytes hcells hslots hd (fun q cA H1 hK' hP' hD' hS' => ?_)
  have h1 := hra _ (hK'.2 tys.length (cA, ty) (by rw [List.getElem?_append_right (Nat.le_refl _), Nat.sub_self]; rfl)).2
  have h2 := hra _ (hw.1.2 t0 (cA0, ty) ht).2
  have h3 : cA = cA0 := Option.some.inj (h1.symm.trans h2)
  subst h3
  exact kk q H1 ⟨hw.1, hP', hD', hS', hw.2.2.2.2⟩
theorem nwO {C : String} {T : u_T} {N ci index : Nat} {fs : List Value} (hcl : Cond.classLink own index C ∈ TB) (hi : Cond.instantiable C N ∈ TB) (hini : Cond.initialized C ∈ TB) (hin : ∀ w ∈ u_ws C T N, w ∈ TB) (ty : Nat → FieldType) (hty : ∀ k, k < N → parseFieldDescriptor (T k).2.2.1 = some (ty k)) (hc : vwCl[ci]? = some (C, T, N)) (hfs : ∀ j, j < N → defaultValue (ty j) = vp_V fs j) (hC : CallFix p m c cc nL s args (c0 :: TB) own) (hw : Wd D tys A s ws H locs) (hcells : cells + 1 ≤ R.cells) (hslots : slots + N ≤ R.slots) (hd : decode cc pc = .ok (.new index, 3))
    (kk : ∀ (q : Nat) (H1 : Heap), Wd D tys A s (ws ++ [(q, .inr (ci, fs))]) H1 locs → W p l e R s m args below meth c H1 locs (cells + 1) (slots + N) Q (F0 m (pc + 3) ls (.ref q :: rest))) : W p l e R s m args below meth c H locs cells slots Q (F0 m pc ls rest) :=
  va_new hC.1 hC.2.1 hC.2.2.2.2 (fun w h => List.mem_cons_of_mem _ (hin w h)) ty hty hC.2.2.2.1 (hC.2.2.2.2 _ (List.mem_cons_of_mem _ hcl)) (hC.2.2.2.2 _ (List.mem_cons_of_mem _ hi)) (hC.2.2.2.2 _ (List.mem_cons_of_mem _ hini)) hw.1 hw.2.1 hw.2.2.1 hw.2.2.2.1 hw.2.2.2.2 hc hfs hcells hslots hd (fun q H1 hP' hD' hS' => kk q H1 ⟨hw.1, hP', hD', hS', hw.2.2.2.2⟩)
/-- a final field, in its constructor -/
def fldF (own : String) (index ci k : Nat) (ty : FieldType) : Prop := ∃ (C : String) (T : u_T) (N : Nat), vwCl[ci]? = some (C, T, N) ∧ (∀ w ∈ u_ws C T N, w ∈ TB) ∧ k < N ∧ Cond.fieldLink own index (T k).1 (T k).2.1 (T k).2.2.1 ∈ TB ∧ (T k).2.2.2 = true ∧ (T k).1 = own ∧ parseFieldDescriptor (T k).2.2.1 = some ty ∧ (∃ ty0 : Nat → FieldType, ∀ k, k < N → parseFieldDescriptor (T k).2.2.1 = some (ty0 k)) ∧ (∀ a, a < N → ∀ b, b < N → a ≠ b → (T a).2.1 ≠ (T b).2.1)
theorem ptF {index ci k : Nat} {ty : FieldType} (hf : fldF own index ci k ty) (hinit : meth.name = "<init>") (q0 : Nat) {fs : List Value} {v : Value} (hC : CallFix p m c cc nL s args (c0 :: TB) own) (hw : Wd D tys A s ws H locs) (he : ws[q0]? = some (a, .inr (ci, fs))) (hn : narrow ty v = v) (hfit : fits ty v = true) (hl : k < fs.length) (hset : ws.set q0 (a, .inr (ci, fs.set k v)) = ws') (hd : decode cc pc = .ok (.putfield index, 3))
    (kk : ∀ (H : Heap) (locs : List Loc), Wd D tys A s ws' H locs → W p l e R s m args below meth c H locs cells slots Q (F0 m (pc + 3) ls rest)) : W p l e R s m args below meth c H locs cells slots Q (F0 m pc ls (v :: .ref a :: rest)) := by
  obtain ⟨C, T, N, h1, h2, h3, h4, h5, h55, h6, ⟨ty0, h7⟩, h8⟩ := hf
  subst hset
  exact va_putF hC.1 hC.2.1 hC.2.2.2.2 (fun w h => List.mem_cons_of_mem _ (h2 w h)) ty0 h7 h8 hC.2.2.2.1 hw.1 hw.2.1 hw.2.2.1 hw.2.2.2.1 q0 he h1 k h3 (hC.2.2.2.2 _ (List.mem_cons_of_mem _ h4)) (fun _ h9 => h9) h5 hinit h55 h6 hn hfit hl hd (fun H1 locs1 a1 a2 a3 => kk H1 locs1 ⟨hw.1, a1, a2, a3, hw.2.2.2.2⟩)
theorem oiC : Cond.code objectInit ⟨#[0xb1]⟩ 1 none ∈ TB := tbI 37 (by decide +kernel) rfl
theorem oiI : Cond.instanceMethod objectInit ∈ TB := tbI 36 (by decide +kernel) rfl
theorem objI {idx : Nat} (hlk : Cond.methodLink own idx objectInit ∈ TB) (hC : CallFix p m c cc nL s args (c0 :: TB) own) (hl : ls.size = nL) (hd : decode cc pc = .ok (.invokespecial idx, 3)) (hframes : 1 ≤ R.frames) (hlocals : (rest.map fun v => v.category).sum + 12 ≤ R.locals)
    (kk : W p l e R s m args below meth c H locs cells slots Q (F0 m (pc + 3) ls rest)) : W p l e R s m args below meth c H locs cells slots Q (F0 m pc ls (.ref a :: rest)) := by
  refine W.objInit hC.1 hC.2.1 hC.2.2.2.1 (hC.2.2.2.2 _ (List.mem_cons_of_mem _ hlk)) (hC.2.2.2.2 _ (List.mem_cons_of_mem _ oiI)) (hC.2.2.2.2 _ (List.mem_cons_of_mem _ oiC)) rfl (by rw [hC.2.2.1]; exact hl) rfl hd hframes ?_ ?_
  · have h0 : (F0 m pc ls (.ref a :: rest)).monitorRoom = 0 := rfl
    rw [h0]; omega
  · exact kk
def mlI (own : String) (idx : Nat) (y : MethodName) (b : ByteArray) (n : Nat) (np : Nat) : Prop :=
  Cond.methodLink own idx y ∈ TB ∧ Cond.instanceMethod y ∈ TB ∧ Cond.initialized y.cls ∈ TB ∧ Cond.code y b n none ∈ TB ∧ y.name = "<init>" ∧ y.cls ≠ "java/lang/invoke/MethodHandle" ∧ y.cls ≠ "java/lang/invoke/VarHandle" ∧ (parseMethodDescriptor y.desc).map (fun d => d.parameters.length) = some np
variable {S : Type} {wf wn : S → va_W} {wc wr : va_W} {index : Nat} {y : MethodName} {b : ByteArray} {n np mc ms : Nat} {rm : Room} {As : List Value}
theorem cIV {post : S → Prop} (hk : mlI own index y b n np) (hC : CallFix p m c cc nL s args (c0 :: TB) own) (hw : Wd D tys A s ws H locs) (hE : EnT ea A s s.heap) (hM : MetVA ea l y b n rm D tys wc (.ref a :: As) wf post mc ms) (isC isR : List Nat)
    (hc : isC.map (fun i => ws[i]?) = wc.map some) (hr : isR.map (fun i => ws[i]?) = wr.map some) (hnC : va_nd isC = true) (hn : va_nd isR = true) (hdis : ∀ i ∈ isR, i ∉ isC)
    (hrc : rm.cells = mc) (hrs : rm.slots = ms) (hR : rm.frames + 1 ≤ R.frames ∧ 8 + (n + 11) + rm.locals ≤ R.locals) (hnp : As.length = np) (hl : ls.size = nL) (hst : (rest.map fun v => v.category).sum ≤ 8) (hd : decode cc pc = .ok (.invokespecial index, 3)) (hf : cells + mc ≤ R.cells ∧ slots + ms ≤ R.slots) {st : List Value} (hst0 : st = As.reverse ++ .ref a :: rest)
    (kk : ∀ (u : S) (H1 : Heap) (locs1 : List Loc), post u → Wd D tys A s (wr ++ wf u) H1 locs1 → W p l e R s m args below meth c H1 locs1 (cells + mc) (slots + ms) Q (F0 m (pc + 3) ls rest)) : W p l e R s m args below meth c H locs cells slots Q (F0 m pc ls st) := by
  have hFc := va_free hw.2.2.1 hw.2.2.2.1 hw.2.2.2.2 isC hc
  obtain ⟨k1, k2, k3, k4, k5, k6, k7, k8⟩ := hk
  have hT : ∀ w ∈ TB, w.before args s = true := fun w h => hC.2.2.2.2 w (List.mem_cons_of_mem _ h)
  subst hst0
  refine va_callv (va_runI (As := As) (rest := rest) hC (hM H.size) (cwI np hC.2.2.2.2 (tbL (fun w hw => by rcases List.mem_cons.mp hw with rfl | hw; exact k4; exact hw)) rfl hrc hrs (hT _ k3) (hT _ k1) (hT _ k2) k5 ⟨k6, k7, k8⟩ hR) ⟨blindE, fun U hU hW => preE hw hE isC hnC hc hU hW⟩ rfl hnp hl rfl (lv_room hst) hd hf) hw.2.2.2.1 (fun q _ h => hFc q h) hFc (fun u t H1 locs1 ht hvm hp hB hz hk hS1 => ?_)
  obtain ⟨b1, b2, b3⟩ := hB
  rw [ht] at b1
  obtain ⟨j1, j2⟩ := va_join hw.2.1 hw.2.2.1 isC isR hc hr hn hdis hk hFc b1 b3
  exact kk u H1 locs1 hp ⟨hw.1, j1, j2, hS1, hw.2.2.2.2⟩
end AL
