-- ===== the law's helpers: methods with a table of their own =====
theorem Met.ofWH {l : Launch} {y : MethodName} {ws ws' : List Cond} {rm : Room} {Pc : Array Value → State → Prop} {Qc : Array Value → State → Outcome → State → Prop} {mc ms : Nat} {free : Addr → Prop} {cc : ByteArray} {maxL : Nat} {ret : Option FieldType} {hh : List (Nat × Nat × Nat × Nat)}
    (hy : plainName y.cls = true) (hw : ws = Cond.codeWith y cc maxL ret hh :: ws')
    (body : ∀ p e s m args below meth c s₁, BodyLoose p l y (headSpec ws rm) cc maxL ret e s m args below meth c s₁ → c.maxLocals = maxL → c.exceptionTable.toList = tableOf hh → Pc args s →
      W p l e (headSpec ws rm).room s m args below meth c s.heap [] 0 0 (MQ below Qc args s mc ms free) (entryFrame m args maxL)) : Met l y ws rm Pc Qc mc ms free := by
  refine MetFree.of_bodyS (code := cc) (maxLocals := maxL) (ret := ret) hy ?_ ?_
  · intro args s m h hn
    obtain ⟨m9, meth, c, hn9, h1, h2, h3, h4, -, h5, h6, -⟩ := Cond.codeWith_spec (atoms_spec (ws := ws) h _ (by rw [hw]; exact List.mem_cons_self))
    cases hn.symm.trans hn9
    exact ⟨meth, c, h1, h2, h3, h4, h5, h6⟩
  · intro p e s m args below meth c s₁ B hml hP _
    have hh0 : s₁.heap = s.heap := by rw [B.state]; rfl
    obtain ⟨t, a1, o, b1, b2, b3⟩ := body p e s m args below meth c s₁ B hml (vx_table (x := y) B (atoms_spec (ws := ws) B.pre _ (by rw [hw]; exact List.mem_cons_self))) hP s₁ hh0 (Stand.of_body B)
    exact ⟨t, o, a1, b1, b2, ⟨b3.1, b3.2⟩⟩
def MetH (ea : Nat → Nat → Nat) (l : Launch) (y : MethodName) (b : ByteArray) (n : Nat) (hh : List (Nat × Nat × Nat × Nat)) (rm : Room) (D : va_G) (tys : List (ClassId × FieldType)) (ws : va_W) (as : List Value) {S : Type} (wf : S → va_W) (post : Int32 → S → Prop) : Prop :=
  ∀ sz, Met l y (.codeWith y b n (some .int) hh :: TB) rm (va_Pc as (fun U => PreE ea D tys ws sz U ∧ NCs U)) (va_Qi post (Bk D tys (va_A ws sz) wf) (va_A ws sz)) 1 6 (va_A ws sz)
abbrev QH (below : List Frame) (D : va_G) (tys : List (ClassId × FieldType)) (A : Nat → Prop) (args : Array Value) (s : State) {S : Type} (wf : S → va_W) (post : Int32 → S → Prop) : State → Prop := MQ below (va_Qi post (Bk D tys A wf) A) args s 1 6 A
theorem mkH {ea : Nat → Nat → Nat} {l : Launch} {y : MethodName} {b : ByteArray} {n : Nat} {hh : List (Nat × Nat × Nat × Nat)} {rm : Room} {D : va_G} {tys : List (ClassId × FieldType)} {ws : va_W} {as : List Value} {S : Type} {wf : S → va_W} {post : Int32 → S → Prop} (hy : plainName y.cls = true) (hn : (lg_sl as).length ≤ n)
    (body : ∀ (p : Program) (e : Env) (s : State) (m : MethodId) (args : Array Value) (below : List Frame) (meth : Method) (c : Code) (A : Nat → Prop) (ls : Array Slot), CallFix p m c b n s args (.codeWith y b n (some .int) hh :: TB) y.cls → meth.sig.returnType = some .int → meth.locks = false → c.exceptionTable.toList = tableOf hh → Wd D tys A s ws s.heap [] → EnT ea A s s.heap → NCs s → lv_has ls n (lv_args 0 as) →
      W p l e rm s m args below meth c s.heap [] 0 0 (QH below D tys A args s wf post) (F0 m 0 ls [])) : MetH ea l y b n hh rm D tys ws as wf post := by
  intro sz
  refine Met.ofWH (cc := b) (maxL := n) (ret := some .int) (hh := hh) hy rfl ?_
  intro p e s m args below meth c s₁ B hml htab hv
  obtain ⟨rfl, ⟨⟨hsz, hP, hK, hD0⟩, hE⟩, hN⟩ := hv
  have hts := atoms_spec (ws := .codeWith y b n (some .int) hh :: TB) B.pre
  have hown : s.vm.findClass y.cls = some m.cls := findClass_of_methodNamed B.named
  subst hsz
  rw [lg_entry_eq]
  exact body p e s m _ below meth c _ _ ⟨B.exec, B.bytes, hml, hown, hts⟩ B.returns B.notSynchronized htab ⟨hK, hP, hD0.self, va_S.rf, fun q h => Or.inr h⟩ hE hN (lv_entry as hn)
def mlH (own : String) (idx : Nat) (y : MethodName) (b : ByteArray) (n : Nat) (hh : List (Nat × Nat × Nat × Nat)) (np : Nat) : Prop :=
  ((∀ w ∈ va_wsS own idx y (.codeWith y b n (some .int) hh :: TB), w ∈ TB) ∧ y.cls ≠ "java/lang/invoke/MethodHandle" ∧ y.cls ≠ "java/lang/invoke/VarHandle" ∧ (parseMethodDescriptor y.desc).map (fun d => d.parameters.length) = some np)
theorem mlH_mk {own : String} {idx : Nat} {y : MethodName} {b : ByteArray} {n : Nat} {hh : List (Nat × Nat × Nat × Nat)} {np : Nat} (h1 : Cond.methodLink own idx y ∈ TB) (h2 : Cond.static y ∈ TB) (h4 : Cond.initialized y.cls ∈ TB) (h5 : Cond.codeWith y b n (some .int) hh ∈ TB)
    (hd : y.cls ≠ "java/lang/invoke/MethodHandle" ∧ y.cls ≠ "java/lang/invoke/VarHandle" ∧ (parseMethodDescriptor y.desc).map (fun d => d.parameters.length) = some np) : mlH own idx y b n hh np := by
  refine ⟨fun w hw => ?_, hd⟩
  simp only [va_wsS, List.cons_append, List.nil_append, List.mem_cons] at hw
  rcases hw with rfl | rfl | rfl | rfl | hw
  · exact h1
  · exact h2
  · exact h4
  · exact h5
  · exact hw
theorem NCs.moved {s U : State} (h : s.vm.Alike U.vm) (hN : NCs s) : NCs U := fun E hE F hF hne => (hN E hE F hF hne).moved h
section LAWR
variable {ea : Nat → Nat → Nat} {p : Program} {l : Launch} {e : Env} {R : Room} {s : State} {m : MethodId} {args : Array Value} {below : List Frame} {meth : Method} {c : Code} {H : Heap} {locs : List Loc} {cells slots : Nat} {Q : State → Prop}
variable {cc : ByteArray} {pc nL : Nat} {ls : Array Slot} {rest : List Value} {D : va_G} {A : Nat → Prop} {a : Nat} {tys : List (ClassId × FieldType)} {ws : va_W} {c0 : Cond} {own : String} {S : Type} {wf wn : S → va_W} {wc wr : va_W} {index : Nat} {y : MethodName} {b : ByteArray} {n np ci : Nat} {rt : FieldType} {rm : Room} {As : List Value} {C : String} {T : u_T} {N q0 : Nat} {fs : List Value}
theorem rtH {post : Int32 → S → Prop} {v : Int32} (u : S) (hC : CallFix p m c cc nL s args (c0 :: TB) own) (hr : meth.sig.returnType = some .int) (hlk : meth.locks = false) (hw : Wd D tys A s (wf u) H locs) (hp : post v u) (hc : cells ≤ 1) (hs : slots ≤ 6) (hd : decode cc pc = .ok (.ireturn, 1)) :
    W p l e R s m args below meth c H locs cells slots (QH below D tys A args s wf post) (F0 m pc ls [.int v]) := by
  obtain ⟨hK, hP, hD, hS, -⟩ := hw
  exact W.widen hc hs (W.zret hC.1 hC.2.1 hr rfl (fun t ht hW => ⟨⟨v, u, rfl, hp, by rw [ht]; exact hP, va_K.moved hW.alike hK, hD⟩, hS.F ht⟩) hS.2.2 hd hlk)
/-- a call that may throw -/
theorem cVX {post : Int32 → S → Prop} {px : String → S → Prop} (hk : mlV own index C y b n (some rt) np) (hC : CallFix p m c cc nL s args (c0 :: TB) own) (hw : Wd D tys A s ws H locs) (hE : EnT ea A s s.heap) (hM : MetIX ea l y b n rt rm D tys wc (.ref a :: As) wf post px) (isC isR isN : List Nat)
    (hc : isC.map (fun i => ws[i]?) = wc.map some) (hr : isR.map (fun i => ws[i]?) = wr.map some) (hnC : va_nd isC = true) (hn : va_nd isR = true) (hdis : ∀ i ∈ isR, i ∉ isC) (hnN : va_nd isN = true) (hN : ∀ u, isN.map (fun i => (wr ++ wf u)[i]?) = (wn u).map some)
    (hrc : rm.cells = 1) (hrs : rm.slots = 6) (hR : rm.frames + 1 ≤ R.frames ∧ 8 + (n + 11) + rm.locals ≤ R.locals) (hcl : vwCl[ci]? = some (C, T, N)) (he : ws[q0]? = some (a, .inr (ci, fs))) (hnp : As.length = np) (hl : ls.size = nL) (hst : (rest.map fun v => v.category).sum ≤ 8) (hd : decode cc pc = .ok (.invokevirtual index, 3)) (hf : cells + 1 ≤ R.cells ∧ slots + 6 ≤ R.slots) {st : List Value} (hst0 : st = As.reverse ++ .ref a :: rest)
    (kx : ∀ (E : String) (ce : Cell) (q9 : Addr) (u : S) (H1 : Heap) (locs1 : List Loc), px E u → Wd D tys A s (wn u) H1 locs1 → H1[q9]? = some ce → ce.vm = .none → s.vm.findClass E = some ce.cls → vx_W p l e R s m args below meth c H1 locs1 (cells + 1) (slots + 6) Q (F0 m pc ls rest) q9)
    (kk : ∀ (r : Int32) (u : S) (H1 : Heap) (locs1 : List Loc), post r u → Wd D tys A s (wn u) H1 locs1 → W p l e R s m args below meth c H1 locs1 (cells + 1) (slots + 6) Q (F0 m (pc + 3) ls (.int r :: rest))) : W p l e R s m args below meth c H locs cells slots Q (F0 m pc ls st) := by
  have hFc := va_free hw.2.2.1 hw.2.2.2.1 hw.2.2.2.2 isC hc
  subst hst0
  refine vx_calli (vx_runV (As := As) (rest := rest) hC (hM H.size) (cwV np hC.2.2.2.2 (tbL hk.1) rfl hrc hrs hk.2 hR) ⟨blindE, va_recv hw.1 hw.2.1 hcl he, fun U hU hW => preE hw hE isC hnC hc hU hW⟩ rfl hnp hl rfl (lv_room hst) hd hf) hw.2.2.2.1 (fun q _ h => hFc q h) hFc (fun q _ h => hFc q h) (fun E ce q9 u t H1 locs1 ht hal _ hB hz hk hS1 hcell hv hcl9 => ?_) (fun r u t H1 locs1 ht hvm hp hB hz hk hS1 => ?_)
  · exact kx E ce q9 u H1 locs1 hB.1 (joinW hw isC isR isN hc hr hn hdis hnN hN ht hk hB.2 hS1) hcell hv hcl9
  · exact kk r u H1 locs1 hp (joinW hw isC isR isN hc hr hn hdis hnN hN ht hk hB hS1)
/-- a static call of a helper with a table -/
theorem cSH {post : Int32 → S → Prop} {hh : List (Nat × Nat × Nat × Nat)} (hk : mlH own index y b n hh np) (hC : CallFix p m c cc nL s args (c0 :: TB) own) (hw : Wd D tys A s ws H locs) (hE : EnT ea A s s.heap) (hNC : NCs s) (hM : MetH ea l y b n hh rm D tys wc As wf post) (isC isR isN : List Nat)
    (hc : isC.map (fun i => ws[i]?) = wc.map some) (hr : isR.map (fun i => ws[i]?) = wr.map some) (hnC : va_nd isC = true) (hn : va_nd isR = true) (hdis : ∀ i ∈ isR, i ∉ isC) (hnN : va_nd isN = true) (hN : ∀ u, isN.map (fun i => (wr ++ wf u)[i]?) = (wn u).map some)
    (hrc : rm.cells = 1) (hrs : rm.slots = 6) (hR : rm.frames + 1 ≤ R.frames ∧ 8 + (n + 11) + rm.locals ≤ R.locals) (hnp : As.length = np) (hl : ls.size = nL) (hst : (rest.map fun v => v.category).sum ≤ 8) (hd : decode cc pc = .ok (.invokestatic index, 3)) (hf : cells + 1 ≤ R.cells ∧ slots + 6 ≤ R.slots) {st : List Value} (hst0 : st = As.reverse ++ rest)
    (kk : ∀ (r : Int32) (u : S) (H1 : Heap) (locs1 : List Loc), post r u → Wd D tys A s (wn u) H1 locs1 → W p l e R s m args below meth c H1 locs1 (cells + 1) (slots + 6) Q (F0 m (pc + 3) ls (.int r :: rest))) : W p l e R s m args below meth c H locs cells slots Q (F0 m pc ls st) := by
  have hFc := va_free hw.2.2.1 hw.2.2.2.1 hw.2.2.2.2 isC hc
  subst hst0
  refine va_calli (vx_runSW (As := As) (rest := rest) hC (hM H.size) (vx_cwSW np hC.2.2.2.2 (tbL hk.1) rfl hrc hrs hk.2 hR) ⟨fun a U g mk q => ⟨(blindE a U g mk ⟨q.1, q.2.1⟩).1, (blindE a U g mk ⟨q.1, q.2.1⟩).2, q.2.2.moved (Vm.Alike.refl U.vm)⟩, fun U hU hW => ⟨rfl, (preE (as := As) hw hE isC hnC hc hU hW).2, hNC.moved hW.alike⟩⟩ rfl hnp hl rfl (lv_room hst) hd hf) hw.2.2.2.1 (fun q _ h => hFc q h) hFc (fun r u t H1 locs1 ht hvm hp hB hz hk hS1 => ?_)
  exact kk r u H1 locs1 hp (joinW hw isC isR isN hc hr hn hdis hnN hN ht hk hB hS1)
/-- a static call that reads the script -/
theorem cSP {post : Int32 → Prop} {B : State → Prop} (hk : mlS own index y b n (some rt) np) (hC : CallFix p m c cc nL s args (c0 :: TB) own) (hM : Met l y (.code y b n (some rt) :: TB) rm (va_Pc As B) (vp_Si post) 0 0 (fun _ => False)) (hB0 : FrameBlind (va_Pc As B)) (hB1 : ∀ U : State, U.heap = H → s.WarmedH U.vm → B U)
    (hrc : rm.cells = 0) (hrs : rm.slots = 0) (hR : rm.frames + 1 ≤ R.frames ∧ 8 + (n + 11) + rm.locals ≤ R.locals) (hnp : As.length = np) (hl : ls.size = nL) (hst : (rest.map fun v => v.category).sum ≤ 8) (hd : decode cc pc = .ok (.invokestatic index, 3)) (hf : cells ≤ R.cells ∧ slots ≤ R.slots) {st : List Value} (hst0 : st = As.reverse ++ rest)
    (kk : ∀ (r : Int32), post r → W p l e R s m args below meth c H locs cells slots Q (F0 m (pc + 3) ls (.int r :: rest))) : W p l e R s m args below meth c H locs cells slots Q (F0 m pc ls st) := by
  subst hst0
  have hr := va_runS (e := e) (p := p) (below := below) (meth := meth) (locs := locs) (g := F0 m pc ls (As.reverse ++ rest)) (As := As) (rest := rest) (H := H) (cells := cells) (slots := slots) hC hM (va_cwS np hC.2.2.2.2 (tbL hk.1) rfl hrc hrs hk.2 hR) ⟨hB0, fun U hU hW => ⟨rfl, hB1 U hU hW⟩⟩ rfl hnp hl rfl (lv_room hst) hd hf
  intro T hT X
  obtain ⟨v, st₀, t, T', L, h0, X', hL, e1, e2, ⟨r, hv, hp, hh⟩, st⟩ := hr T hT X
  cases hv
  have hL0 : L = [] := by
    cases L with
    | nil => rfl
    | cons q L => exact absurd (hL q List.mem_cons_self) (fun h => h)
  subst hL0
  rw [List.append_nil] at X'
  obtain ⟨t2, a1, b1⟩ := kk r hp T' (by rw [e1, hh, h0]) X'
  exact ⟨t2, st t2 a1, b1⟩
end LAWR
def cell0 (L : Nat) (xs : Nat → Int32) : Int32 := if L = 0 then 0 else xs 0
theorem m_L_cell (l : Launch) (b L : Nat) (xs : Nat → Int32) (hL : L ≤ 129) : Met l yL_cell (.code yL_cell cL_cell 2 (some .int) :: TB) { frames := 0, cells := 0, slots := 0, locals := 0 } (va_Pc [.ref b, .int 0] (fun U => va_X b L xs U U.heap ∧ b < U.heap.size)) (vp_Si (fun r => r = cell0 L xs)) 0 0 (fun _ => False) := by
  refine Met.ofW (cc := cL_cell) (maxL := 2) (ret := some .int) (by decide) rfl ?_
  intro p e s m args below meth c s₁ B hml hv
  obtain ⟨rfl, hX, hbl⟩ := hv
  have hts := atoms_spec (ws := .code yL_cell cL_cell 2 (some .int) :: TB) B.pre
  have hown : s.vm.findClass yL_cell.cls = some m.cls := findClass_of_methodNamed B.named
  rw [lg_entry_eq]
  have hC : CallFix p m c cL_cell 2 s [Value.ref b, Value.int 0].toArray (.code yL_cell cL_cell 2 (some .int) :: TB) yL_cell.cls := ⟨B.exec, B.bytes, hml, hown, hts⟩
  have hx := hC.1
  have hb := hC.2.1
  have hl := lv_entry ([.ref b, .int 0]) (n := 2) (Nat.le_of_ble_eq_true rfl)
  generalize (lg_sl ([.ref b, .int 0]) ++ List.replicate (2 - (lg_sl ([.ref b, .int 0])).length) Slot.unset).toArray = ls at hl ⊢
  have hl : lv_has ls 2 [(0, .ref b), (1, .int 0)] := hl
  have hS : va_S (fun _ => False) s.heap s.heap [] := va_S.rf
  refine lv_iload_n hx hb dL_cell_0 rfl (lv_at hl 1 rfl) ?_
  refine lv_aload_n hx hb dL_cell_1 rfl (lv_at hl 0 rfl) ?_
  refine va_slen hx hb hX hbl (fun h => h) hS dL_cell_2 ?_
  refine lv_icmp_ge (tgt := 12) hx hb dL_cell_3 (by decide) (fun h0 => ?_) (fun h0 => ?_)
  · refine lv_iconst (v := 0) hx hb dL_cell_12 (by decide) ?_
    refine rtS (rt := .int) hC B.returns B.notSynchronized rfl ?_ dL_cell_13
    rcases Nat.eq_zero_or_pos L with h | h
    · rw [h]; rfl
    · exact absurd h0 (Int32.not_le.mpr (by
        have := nI_lt (a := 0) (b := L) h (by omega)
        exact this))
  · have hp : 0 < L := Nat.pos_of_ne_zero (fun h => h0 (by rw [h]; exact Int32.le_refl _))
    refine lv_aload_n hx hb dL_cell_6 rfl (lv_at hl 0 rfl) ?_
    refine lv_iload_n hx hb dL_cell_7 rfl (lv_at hl 1 rfl) ?_
    refine va_sld hx hb hX hbl (fun h => h) hS (vp_in_nI hp (by omega)) dL_cell_8 ?_
    refine lv_goto (tgt := 13) hx hb dL_cell_9 (by decide) ?_
    refine rtS (rt := .int) hC B.returns B.notSynchronized rfl ?_ dL_cell_13
    show xs 0 = _
    rw [cell0, if_neg (by omega)]
