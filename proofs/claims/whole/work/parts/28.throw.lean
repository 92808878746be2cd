theorem tbF {L : List Cond} (h : ∀ w ∈ L.filter goodWord, w ∈ lw_tbl) : ∀ w ∈ L.filter goodWord, w ∈ TB := fun w hw => List.mem_filter.mpr ⟨h w hw, (List.mem_filter.mp hw).2⟩
-- ===== methods of TagMachine that may throw =====
abbrev XCT (D : va_G) (tys : List (ClassId × FieldType)) (A : Nat → Prop) {S : Type} (wf : S → va_W) (px : String → S → Prop) : String → State → State → Prop := vx_X (fun _ : S => True) (fun E u t => px E u ∧ Bk D tys A wf u t) A
def MetIX (ea : Nat → Nat → Nat) (l : Launch) (y : MethodName) (b : ByteArray) (n : Nat) (rt : FieldType) (rm : Room) (D : va_G) (tys : List (ClassId × FieldType)) (ws : va_W) (as : List Value) {S : Type} (wf : S → va_W) (post : Int32 → S → Prop) (px : String → S → Prop) : Prop :=
  ∀ sz, vx_Met l y (.code y b n (some rt) :: TB) rm (va_Pc as (PreE ea D tys ws sz)) (va_Qi post (Bk D tys (va_A ws sz) wf) (va_A ws sz)) (XCT D tys (va_A ws sz) wf px) 1 6 (va_A ws sz)
def MetVX (ea : Nat → Nat → Nat) (l : Launch) (y : MethodName) (b : ByteArray) (n : Nat) (rm : Room) (D : va_G) (tys : List (ClassId × FieldType)) (ws : va_W) (as : List Value) {S : Type} (wf : S → va_W) (post : S → Prop) (px : String → S → Prop) : Prop :=
  ∀ sz, vx_Met l y (.code y b n none :: TB) rm (va_Pc as (PreE ea D tys ws sz)) (va_Qv post (Bk D tys (va_A ws sz) wf) (va_A ws sz)) (XCT D tys (va_A ws sz) wf px) 1 6 (va_A ws sz)
abbrev QIX (below : List Frame) (D : va_G) (tys : List (ClassId × FieldType)) (A : Nat → Prop) (args : Array Value) (s : State) {S : Type} (wf : S → va_W) (post : Int32 → S → Prop) (px : String → S → Prop) : State → Prop := vx_MQ below (va_Qi post (Bk D tys A wf) A) (XCT D tys A wf px) args s 1 6 A
abbrev QVX (below : List Frame) (D : va_G) (tys : List (ClassId × FieldType)) (A : Nat → Prop) (args : Array Value) (s : State) {S : Type} (wf : S → va_W) (post : S → Prop) (px : String → S → Prop) : State → Prop := vx_MQ below (va_Qv post (Bk D tys A wf) A) (XCT D tys A wf px) args s 1 6 A
section MKX
variable {ea : Nat → Nat → Nat} {l : Launch} {y : MethodName} {b : ByteArray} {n : Nat} {rt : FieldType} {rm : Room} {D : va_G} {tys : List (ClassId × FieldType)} {ws : va_W} {as : List Value} {S : Type} {wf : S → va_W}
theorem mkIX {post : Int32 → S → Prop} {px : String → S → Prop} (hy : plainName y.cls = true) (hn : (lg_sl as).length ≤ n)
    (body : ∀ (p : Program) (e : Env) (s : State) (m : MethodId) (args : Array Value) (below : List Frame) (meth : Method) (c : Code) (A : Nat → Prop) (ls : Array Slot), CallFix p m c b n s args (.code y b n (some rt) :: TB) y.cls → meth.sig.returnType = some rt → meth.locks = false → (∀ x ∈ c.exceptionTable.toList, False) → Wd D tys A s ws s.heap [] → EnT ea A s s.heap → lv_has ls n (lv_args 0 as) →
      W p l e rm s m args below meth c s.heap [] 0 0 (QIX below D tys A args s wf post px) (F0 m 0 ls [])) : MetIX ea l y b n rt rm D tys ws as wf post px := by
  intro sz
  refine vx_ofW (cc := b) (maxL := n) (ret := some rt) hy rfl ?_
  intro p e s m args below meth c s₁ B hml htab hv
  obtain ⟨rfl, ⟨hsz, hP, hK, hD0⟩, hE⟩ := hv
  have hts := atoms_spec (ws := .code y b n (some rt) :: TB) B.pre
  have hown : s.vm.findClass y.cls = some m.cls := findClass_of_methodNamed B.named
  subst hsz
  rw [lg_entry_eq]
  exact body p e s m _ below meth c _ _ ⟨B.exec, B.bytes, hml, hown, hts⟩ B.returns B.notSynchronized htab ⟨hK, hP, hD0.self, va_S.rf, fun q h => Or.inr h⟩ hE (lv_entry as hn)
theorem mkVX {post : S → Prop} {px : String → S → Prop} (hy : plainName y.cls = true) (hn : (lg_sl as).length ≤ n)
    (body : ∀ (p : Program) (e : Env) (s : State) (m : MethodId) (args : Array Value) (below : List Frame) (meth : Method) (c : Code) (A : Nat → Prop) (ls : Array Slot), CallFix p m c b n s args (.code y b n none :: TB) y.cls → meth.sig.returnType = none → meth.locks = false → (∀ x ∈ c.exceptionTable.toList, False) → Wd D tys A s ws s.heap [] → EnT ea A s s.heap → lv_has ls n (lv_args 0 as) →
      W p l e rm s m args below meth c s.heap [] 0 0 (QVX below D tys A args s wf post px) (F0 m 0 ls [])) : MetVX ea l y b n rm D tys ws as wf post px := by
  intro sz
  refine vx_ofW (cc := b) (maxL := n) (ret := none) hy rfl ?_
  intro p e s m args below meth c s₁ B hml htab hv
  obtain ⟨rfl, ⟨hsz, hP, hK, hD0⟩, hE⟩ := hv
  have hts := atoms_spec (ws := .code y b n none :: TB) B.pre
  have hown : s.vm.findClass y.cls = some m.cls := findClass_of_methodNamed B.named
  subst hsz
  rw [lg_entry_eq]
  exact body p e s m _ below meth c _ _ ⟨B.exec, B.bytes, hml, hown, hts⟩ B.returns B.notSynchronized htab ⟨hK, hP, hD0.self, va_S.rf, fun q h => Or.inr h⟩ hE (lv_entry as hn)
end MKX
section RWX
variable {ea : Nat → Nat → Nat} {p : Program} {l : Launch} {e : Env} {R : Room} {s : State} {m : MethodId} {args : Array Value} {below : List Frame} {meth : Method} {c : Code} {H : Heap} {locs : List Loc} {cells slots : Nat} {Q : State → Prop}
variable {cc : ByteArray} {pc nL : Nat} {ls : Array Slot} {rest : List Value} {D : va_G} {A : Nat → Prop} {a : Nat} {tys : List (ClassId × FieldType)} {ws : va_W} {c0 : Cond} {own : String} {S : Type} {wf : S → va_W} {px : String → S → Prop}
theorem rtIX {post : Int32 → S → Prop} {rt : FieldType} {v : Int32} (u : S) (hC : CallFix p m c cc nL s args (c0 :: TB) own) (hr : meth.sig.returnType = some rt) (hlk : meth.locks = false) (hw : Wd D tys A s (wf u) H locs) (hn : narrow rt (.int v) = .int v) (hp : post v u) (hc : cells ≤ 1) (hs : slots ≤ 6) (hd : decode cc pc = .ok (.ireturn, 1)) :
    W p l e R s m args below meth c H locs cells slots (QIX below D tys A args s wf post px) (F0 m pc ls [.int v]) := by
  obtain ⟨hK, hP, hD, hS, -⟩ := hw
  exact vx_ret (W.widen hc hs (W.zret hC.1 hC.2.1 hr hn (fun t ht hW => ⟨⟨v, u, rfl, hp, by rw [ht]; exact hP, va_K.moved hW.alike hK, hD⟩, hS.F ht⟩) hS.2.2 hd hlk))
theorem rtVX {post : S → Prop} (u : S) (hC : CallFix p m c cc nL s args (c0 :: TB) own) (hr : meth.sig.returnType = none) (hlk : meth.locks = false) (hw : Wd D tys A s (wf u) H locs) (hp : post u) (hc : cells ≤ 1) (hs : slots ≤ 6) (hd : decode cc pc = .ok (.return_, 1)) :
    W p l e R s m args below meth c H locs cells slots (QVX below D tys A args s wf post px) (F0 m pc ls []) := by
  obtain ⟨hK, hP, hD, hS, -⟩ := hw
  exact vx_ret (W.widen hc hs (W.vret hC.1 hC.2.1 hr (fun t ht hW => ⟨⟨u, rfl, hp, by rw [ht]; exact hP, va_K.moved hW.alike hK, hD⟩, hS.F ht⟩) hS.2.2 hd hlk))
/-- what a throw asks of the tables: class, message and constructor by their pool entries -/
def thrO (own : String) (ik ic : Nat) (cls : String) (B : List Cond) : Prop :=
  Cond.classLink own ik cls ∈ TB ∧ Cond.initialized cls ∈ TB ∧ (∀ w ∈ (vx_atS own ic cls ["java/lang/RuntimeException", "java/lang/Exception"]).filter goodWord, w ∈ TB) ∧ (∀ w ∈ (vx_atS own ic cls ["java/lang/RuntimeException", "java/lang/Exception"]).filter (fun w => !goodWord w), w ∈ B) ∧
  (∀ w ∈ Cond.classLink own ik cls :: Cond.initialized cls :: vx_atS own ic cls ["java/lang/RuntimeException", "java/lang/Exception"], vx_ot w = true) ∧ Bundle.fit cls = true
abbrev NGB (cls : String) : List Cond := [.declares ⟨"java/lang/RuntimeException", "<init>", "(Ljava/lang/String;)V"⟩, .declares ⟨"java/lang/Exception", "<init>", "(Ljava/lang/String;)V"⟩, .declares ⟨"java/lang/Throwable", "<init>", "(Ljava/lang/String;)V"⟩, .castable cls cls]
theorem NGs.at {cls : String} (h : NGs s) (hc : va_Nw (.castable cls cls) s) : ∀ w ∈ NGB cls, w.before args s = true :=
  vx_c (va_Nw.use rfl h.1) (vx_c (va_Nw.use rfl h.2.1) (vx_c (va_Nw.use rfl h.2.2.1) (vx_c (va_Nw.use rfl hc) vx_n)))
theorem thX {Qc : Array Value → State → Outcome → State → Prop} {cls text : String} {ik is ic : Nat} {sa : Nat} (u : S) (hT : thrO own ik ic cls (NGB cls)) (hlt : l.stackTraces = false) (hC : CallFix p m c cc nL s args (c0 :: TB) own) (hlk : meth.locks = false) (htab : ∀ x ∈ c.exceptionTable.toList, False) (hw : Wd D tys A s (wf u) H locs) (hE : EnT ea A s s.heap) (hcast : va_Nw (.castable cls cls) s) (hstr : vk_R own is text sa s) (hl : ls.size = nL)
    (d0 : decode cc pc = .ok (.new ik, 3)) (d3 : decode cc (pc + 3) = .ok (.dup, 1)) (d4 : decode cc (pc + 4) = .ok (.ldc is, 2)) (d6 : decode cc (pc + 6) = .ok (.invokespecial ic, 3)) (d9 : decode cc (pc + 9) = .ok (.athrow, 1))
    (hRf : 5 < R.frames) (hRl : (rest.map fun v => v.category).sum + 82 ≤ R.locals) (hRc : 1 ≤ R.cells) (hRs : 6 ≤ R.slots) (hp : px cls u) :
    W p l e R s m args below meth c H locs 0 0 (vx_MQ below Qc (XCT D tys A wf px) args s 1 6 A) (F0 m pc ls rest) := by
  obtain ⟨t1, t2, t3, t4, t5, t6⟩ := hT
  obtain ⟨hK, hP, hD, hS, hA⟩ := hw
  have hTB : ∀ w ∈ TB, w.before args s = true := fun w h => hC.2.2.2.2 w (List.mem_cons_of_mem _ h)
  refine vx_throwS (names := ["java/lang/RuntimeException", "java/lang/Exception"]) hC.1 hC.2.1 hlt hC.2.2.2.1 t6 (by decide) (hTB _ t1) (hTB _ t2) hstr (vx_hat (fun w h => hTB _ (t3 w h)) t4 (NGs.at hE.2.2.2.2.2.2.2.2.1.2.2.2.2.2.2.2.2 hcast)) t5 hE.2.2.2.2.2.2.2.2.2.1 hE.2.2.2.2.2.2.2.2.2.2.1 hS (by rw [hC.2.2.1]; exact hl) d0 d3 d4 d6 d9 (fun x hx => (htab x hx).elim) hRf (by simpa using hRl) (by omega) (by omega) hlk (fun t hal hz hk => ?_) hS.2.2 (Nat.le_refl _) (Nat.le_refl _)
  refine ⟨u, trivial, ⟨hp, hP.kept (fun k q hq => hk q.1 (hP k q hq).lt), va_K.moved hal hK, hD⟩, Nat.le_trans hS.1 hz, fun q h1 h2 => ?_⟩
  rw [hk q (Nat.lt_of_lt_of_le h1 hS.1)]
  exact hS.2.1 q h1 h2
theorem cSX {post : Int32 → S → Prop} {pR : Prop} {xR : String → Prop} {index : Nat} {y : MethodName} {b : ByteArray} {n np : Nat} {rm : Room} {As : List Value} (u : S) (hk : mlS own index y b n none np) (hC : CallFix p m c cc nL s args (c0 :: TB) own) (hlk : meth.locks = false) (htab : ∀ x ∈ c.exceptionTable.toList, False) (hw : Wd D tys A s (wf u) H locs) (hE : EnT ea A s s.heap) (hM : MetVX ea l y b n rm D tys [] As (fun _ : Unit => ([] : va_W)) (fun _ : Unit => pR) (fun E (_ : Unit) => xR E))
    (hrc : rm.cells = 1) (hrs : rm.slots = 6) (hR : rm.frames + 1 ≤ R.frames ∧ 8 + (n + 11) + rm.locals ≤ R.locals) (hnp : As.length = np) (hl : ls.size = nL) (hst : (rest.map fun v => v.category).sum ≤ 8) (hd : decode cc pc = .ok (.invokestatic index, 3)) (hf : 0 + 1 ≤ R.cells ∧ 0 + 6 ≤ R.slots) {st : List Value} (hst0 : st = As.reverse ++ rest) (hx : ∀ E, xR E → px E u)
    (kk : ∀ (H1 : Heap) (locs1 : List Loc), pR → Wd D tys A s (wf u) H1 locs1 → W p l e R s m args below meth c H1 locs1 (0 + 1) (0 + 6) (QIX below D tys A args s wf post px) (F0 m (pc + 3) ls rest)) : W p l e R s m args below meth c H locs 0 0 (QIX below D tys A args s wf post px) (F0 m pc ls st) := by
  have hFc := va_free (wc := []) hw.2.2.1 hw.2.2.2.1 hw.2.2.2.2 [] rfl
  subst hst0
  refine vx_callv (vx_runS (As := As) (rest := rest) hC (hM H.size) (va_cwS np hC.2.2.2.2 (tbL hk.1) rfl hrc hrs hk.2 hR) ⟨blindE, fun U hU hW => preE0 hw hE hU hW⟩ rfl hnp hl rfl (lv_room hst) hd hf) hw.2.2.2.1 (fun q _ h => hFc q h) hFc (fun q _ h => hFc q h) (fun E ce q9 v t H1 locs1 ht hal _ hB hz hk hS1 hcell hv hcl => ?_) (fun v t H1 locs1 ht hvm hp hB hz hk hS1 => ?_)
  · have hw1 := keepW hw hz hk hS1
    obtain ⟨hK, hP, hD, hS, hA⟩ := hw1
    refine vx_out (fun x hx => (htab x hx).elim) hlk hcell hv hcl (fun t' ht' hal' => ⟨u, trivial, ⟨hx E hB.1, by rw [ht']; exact hP, va_K.moved hal' hK, hD⟩, hS.F ht'⟩) hS.2.2 (Nat.le_refl _) (Nat.le_refl _)
  · exact kk H1 locs1 hp (keepW hw hz hk hS1)
end RWX
