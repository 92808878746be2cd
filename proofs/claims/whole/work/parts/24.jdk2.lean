def V_J1_inflate_03870_3 (L : Nat) (post : St → Prop) : Nat → Nat → Int32 → Int32 → Int32 → Int32 → St → Prop
  | 0, _, _, _, _, _, _ => False
  | n + 1, x0, x1, x3, x4, x5, g => ((x4 ≤ x5 → post g) ∧ (¬ x4 ≤ x5 → ∀ x_2 : Int32, x_2 = x3 + (1 : Int32) → ∀ x_3 : Int32, x_3 = x1 + (1 : Int32) → (x0 < 37 ∧ vp_in x1 (STL.getD x0 []).length ∧ (vp_in x3 L ∧ ∀ g_4 : St, g_4 = up g 0 x3.toNatClampNeg (vp_nar .char ((((((STL.getD x0 []).getD x1.toNatClampNeg 0) &&& (255 : Int32))).toUInt32 % 65536).toInt32)) → ∀ x_5 : Int32, x_5 = x5 + (1 : Int32) → V_J1_inflate_03870_3 L post n x0 x_3 x_2 x4 x_5 g_4))))
def V_J1_inflate_03870 (L : Nat) (n : Nat) (x0 : Nat) (x1 : Int32) (x3 : Int32) (x4 : Int32) (g : St) (post : St → Prop) : Prop := ∀ x_6 : Int32, x_6 = (0 : Int32) → V_J1_inflate_03870_3 L post n x0 x1 x3 x4 x_6 g
abbrev RM_J1_inflate_03870 : Room := { frames := 0, cells := 0, slots := 0, locals := 0 }
set_option maxHeartbeats 4000000 in
set_option maxRecDepth 100000 in
theorem m_J1_inflate_03870 (l : Launch) (D : va_G) (cI cC cZ cJ : ClassId) (nm : Nat) (L : Nat) (ea : Nat → Nat → Nat) (n : Nat) (x0 : Nat) (x1 : Int32) (x3 : Int32) (x4 : Int32) (g : St) {post : St → Prop} (h : V_J1_inflate_03870 L n x0 x1 x3 x4 g post) : MetVE ea l yJ1_inflate_03870 cJ1_inflate_03870 6 RM_J1_inflate_03870 D (ty4 cI cC cZ cJ) (wCh nm cC L g) [.ref (ea 3 x0), .int x1, .ref (nm), .int x3, .int x4] (fun u : St => (wCh nm cC L u)) post := by
  refine mkVE (by decide) (Nat.le_of_ble_eq_true rfl) ?_
  intro p e s m args below meth c A ls hC hr hlk hw hE hl
  have hx := hC.1
  have hb := hC.2.1
  have hl : lv_has ls 6 [(0, .ref (ea 3 x0)), (1, .int x1), (2, .ref (nm)), (3, .int x3), (4, .int x4)] := hl
  have w_3 : ∀ (n : Nat) (x0 : Nat) (x1 : Int32) (x3 : Int32) (x4 : Int32) (x5 : Int32) (g : St) (H : Heap) (locs : List Loc) (ls : Array Slot), V_J1_inflate_03870_3 L post n x0 x1 x3 x4 x5 g → Wd D (ty4 cI cC cZ cJ) A s (wCh nm cC L g) H locs → lv_has ls 6 [(0, .ref (ea 3 x0)), (1, .int x1), (2, .ref (nm)), (3, .int x3), (4, .int x4), (5, .int x5)] → W p l e RM_J1_inflate_03870 s m args below meth c H locs 0 0 (QV below D (ty4 cI cC cZ cJ) A args s (fun u : St => (wCh nm cC L u)) post) (F0 m 3 ls []) := by
    intro n
    induction n with
    | zero =>
      intro x0 x1 x3 x4 x5 g H locs ls h
      exact False.elim h
    | succ n ih =>
      intro x0 x1 x3 x4 x5 g H locs ls h hw hl
      rw [V_J1_inflate_03870_3] at h
      refine lv_iload hx hb dJ1_inflate_03870_3 (lv_at hl 5 rfl) ?_
      refine lv_iload hx hb dJ1_inflate_03870_5 (lv_at hl 4 rfl) ?_
      refine lv_icmp_ge (tgt := 33) hx hb dJ1_inflate_03870_7 (by decide) (fun c_1 => ?_) (fun c_1 => ?_)
      · have h := h.1 c_1
        exact rtV (wf := (fun u : St => (wCh nm cC L u))) g hC hr hlk hw h dJ1_inflate_03870_33
      · have h := h.2 c_1
        refine lv_aload_n hx hb dJ1_inflate_03870_10 rfl (lv_at hl 2 rfl) ?_
        refine lv_iload_n hx hb dJ1_inflate_03870_11 rfl (lv_at hl 3 rfl) ?_
        obtain ⟨x_2, ex_2⟩ : ∃ y : Int32, y = x3 + (1 : Int32) := ⟨_, rfl⟩
        have h := h x_2 ex_2
        refine lv_iinc (v := x_2) (lv' := [(3, .int x_2), (0, .ref (ea 3 x0)), (1, .int x1), (2, .ref (nm)), (4, .int x4), (5, .int x5)]) hx hb dJ1_inflate_03870_12 hl (k := 3) rfl (by rw [ex_2]; rfl) (by decide) rfl (fun ls hl => ?_)
        refine lv_aload_n hx hb dJ1_inflate_03870_15 rfl (lv_at hl 1 rfl) ?_
        refine lv_iload_n hx hb dJ1_inflate_03870_16 rfl (lv_at hl 2 rfl) ?_
        obtain ⟨x_3, ex_3⟩ : ∃ y : Int32, y = x1 + (1 : Int32) := ⟨_, rfl⟩
        have h := h x_3 ex_3
        refine lv_iinc (v := x_3) (lv' := [(1, .int x_3), (3, .int x_2), (0, .ref (ea 3 x0)), (2, .ref (nm)), (4, .int x4), (5, .int x5)]) hx hb dJ1_inflate_03870_17 hl (k := 2) rfl (by rw [ex_3]; rfl) (by decide) rfl (fun ls hl => ?_)
        refine va_tb hx hb (hE.2.2.2.2.2.2.2.1 _ h.1).2.2.2 hw.2.2.2.1 h.2.1 rfl dJ1_inflate_03870_20 ?_
        have h := h.2.2
        refine lv_sipush (v := (255 : Int32)) hx hb dJ1_inflate_03870_21 (by decide) ?_
        refine lv_iand hx hb dJ1_inflate_03870_24 ?_
        refine lv_i2c hx hb dJ1_inflate_03870_25 rfl ?_
        refine swCh_0 h.1 hC hw dJ1_inflate_03870_26 (fun H locs g_4 eg_4 hw => ?_)
        have h := h.2 g_4 eg_4
        obtain ⟨x_5, ex_5⟩ : ∃ y : Int32, y = x5 + (1 : Int32) := ⟨_, rfl⟩
        have h := h x_5 ex_5
        refine lv_iinc (v := x_5) (lv' := [(5, .int x_5), (1, .int x_3), (3, .int x_2), (0, .ref (ea 3 x0)), (2, .ref (nm)), (4, .int x4)]) hx hb dJ1_inflate_03870_27 hl (k := 5) rfl (by rw [ex_5]; rfl) (by decide) rfl (fun ls hl => ?_)
        refine lv_goto (tgt := 3) hx hb dJ1_inflate_03870_30 (by decide) ?_
        exact ih x0 x_3 x_2 x4 x_5 g_4 _ _ _ h hw (lv_sub hl [3, 1, 4, 2, 5, 0] rfl)
  unfold V_J1_inflate_03870 at h
  refine lv_iconst (v := (0 : Int32)) hx hb dJ1_inflate_03870_0 (by decide) ?_
  refine lv_topi (fun x_6 ex_6 => ?_)
  have h := h x_6 ex_6
  refine lv_istore (lv' := [(5, .int x_6), (0, .ref (ea 3 x0)), (1, .int x1), (2, .ref (nm)), (3, .int x3), (4, .int x4)]) hx hb dJ1_inflate_03870_1 hl (by decide) rfl (fun ls hl => ?_)
  exact w_3 n x0 x1 x3 x4 x_6 g _ _ _ h hw (lv_sub hl [1, 2, 3, 4, 5, 0] rfl)
-- ===== a method that answers a new cell =====
def MetRA (ea : Nat → Nat → Nat) (l : Launch) (y : MethodName) (b : ByteArray) (n : Nat) (rt : FieldType) (rm : Room) (D : va_G) (tys : List (ClassId × FieldType)) (as : List Value) {S : Type} (wf : S → Nat → va_W) (post : S → Prop) (mc ms : Nat) : Prop :=
  ∀ sz, Met l y (.code y b n (some rt) :: TB) rm (va_Pc as (PreE ea D tys [] sz)) (va_Qr post (fun u a t => Bk D tys (va_A [] sz) (wf u) a t) (va_A [] sz)) mc ms (va_A [] sz)
theorem mkRA {ea : Nat → Nat → Nat} {l : Launch} {y : MethodName} {b : ByteArray} {n : Nat} {rt : FieldType} {rm : Room} {D : va_G} {tys : List (ClassId × FieldType)} {as : List Value} {S : Type} {wf : S → Nat → va_W} {post : S → Prop} {mc ms : Nat} (hy : plainName y.cls = true) (hn : (lg_sl as).length ≤ n)
    (body : ∀ (p : Program) (e : Env) (s : State) (m : MethodId) (args : Array Value) (below : List Frame) (meth : Method) (c : Code) (A : Nat → Prop) (ls : Array Slot), CallFix p m c b n s args (.code y b n (some rt) :: TB) y.cls → meth.sig.returnType = some rt → meth.locks = false → Wd D tys A s [] s.heap [] → EnT ea A s s.heap → lv_has ls n (lv_args 0 as) →
      W p l e rm s m args below meth c s.heap [] 0 0 (MQ below (va_Qr post (fun u a t => Bk D tys A (wf u) a t) A) args s mc ms A) (F0 m 0 ls [])) : MetRA ea l y b n rt rm D tys as wf post mc ms := by
  intro sz
  refine Met.ofW (cc := b) (maxL := n) (ret := some rt) hy rfl ?_
  intro p e s m args below meth c s₁ B hml hv
  obtain ⟨rfl, ⟨hsz, hP, hK, hD0⟩, hE⟩ := hv
  have hts := atoms_spec (ws := .code y b n (some rt) :: TB) B.pre
  have hown : s.vm.findClass y.cls = some m.cls := findClass_of_methodNamed B.named
  subst hsz
  rw [lg_entry_eq]
  exact body p e s m _ below meth c _ _ ⟨B.exec, B.bytes, hml, hown, hts⟩ B.returns B.notSynchronized ⟨hK, hP, hD0.self, va_S.rf, fun q h => Or.inr h⟩ hE (lv_entry as hn)
section RA
variable {ea : Nat → Nat → Nat} {p : Program} {l : Launch} {e : Env} {R : Room} {s : State} {m : MethodId} {args : Array Value} {below : List Frame} {meth : Method} {c : Code} {H : Heap} {locs : List Loc} {cells slots : Nat} {Q : State → Prop}
variable {cc : ByteArray} {pc nL : Nat} {ls : Array Slot} {rest : List Value} {D : va_G} {A : Nat → Prop} {a : Nat} {tys : List (ClassId × FieldType)} {ws : va_W} {c0 : Cond} {own : String}
variable {S : Type} {wf : S → Nat → va_W} {post : S → Prop} {index : Nat} {y : MethodName} {b : ByteArray} {n np mc ms : Nat} {rt : FieldType} {rm : Room} {As : List Value} {C : String}
theorem rtRA {ty : FieldType} (u : S) (hC : CallFix p m c cc nL s args (c0 :: TB) own) (hr : meth.sig.returnType = some (.array ty)) (hlk : meth.locks = false) (hw : Wd D tys A s (wf u a) H locs) (hp : post u) (hc : cells ≤ mc) (hs : slots ≤ ms) (hd : decode cc pc = .ok (.areturn, 1)) :
    W p l e R s m args below meth c H locs cells slots (MQ below (va_Qr post (fun u a t => Bk D tys A (wf u) a t) A) args s mc ms A) (F0 m pc ls [.ref a]) := by
  obtain ⟨hK, hP, hD, hS, -⟩ := hw
  exact W.widen hc hs (W.aret hC.1 hC.2.1 hr (Or.inr ⟨_, rfl⟩) (Or.inr ⟨_, rfl⟩) (fun t ht hW => ⟨⟨u, a, rfl, hp, by rw [ht]; exact hP, va_K.moved hW.alike hK, hD⟩, hS.F ht⟩) hS.2.2 hd hlk)
theorem joinR {H1 : Heap} {locs1 : List Loc} {t : State} {w1 : va_W} (hw : Wd D tys A s ws H locs) (ht : t.heap = H1) (hz : H.size ≤ H1.size) (hk : ∀ q : Nat, q < H.size → ¬ va_A [] H.size q → H1[q]? = H[q]?) (hB : va_P D vwCl w1 t.heap ∧ va_K D vwCl tys t ∧ va_D (va_A [] H.size) w1) (hS1 : va_S A s.heap H1 locs1) : Wd D tys A s (ws ++ w1) H1 locs1 := by
  obtain ⟨b1, b2, b3⟩ := hB
  rw [ht] at b1
  have hFc := va_free (wc := []) hw.2.2.1 hw.2.2.2.1 hw.2.2.2.2 [] rfl
  obtain ⟨j1, j2⟩ := va_join (wr := ws) hw.2.1 hw.2.2.1 [] (List.range ws.length) rfl (rng ws) (rng_nd _) (fun i _ h => by cases h) hk hFc b1 b3
  exact ⟨hw.1, j1, j2, hS1, hw.2.2.2.2⟩
theorem cSRA (hk : mlS own index y b n (some rt) np) (hC : CallFix p m c cc nL s args (c0 :: TB) own) (hw : Wd D tys A s ws H locs) (hE : EnT ea A s s.heap) (hM : MetRA ea l y b n rt rm D tys As wf post mc ms)
    (hrc : rm.cells = mc) (hrs : rm.slots = ms) (hR : rm.frames + 1 ≤ R.frames ∧ 8 + (n + 11) + rm.locals ≤ R.locals) (hnp : As.length = np) (hl : ls.size = nL) (hst : (rest.map fun v => v.category).sum ≤ 8) (hd : decode cc pc = .ok (.invokestatic index, 3)) (hf : cells + mc ≤ R.cells ∧ slots + ms ≤ R.slots) {st : List Value} (hst0 : st = As.reverse ++ rest)
    (kk : ∀ (u : S) (q : Nat) (H1 : Heap) (locs1 : List Loc), post u → Wd D tys A s (ws ++ wf u q) H1 locs1 → W p l e R s m args below meth c H1 locs1 (cells + mc) (slots + ms) Q (F0 m (pc + 3) ls (.ref q :: rest))) : W p l e R s m args below meth c H locs cells slots Q (F0 m pc ls st) := by
  have hFc := va_free (wc := []) hw.2.2.1 hw.2.2.2.1 hw.2.2.2.2 [] rfl
  subst hst0
  refine va_callr (va_runS (As := As) (rest := rest) hC (hM H.size) (va_cwS np hC.2.2.2.2 (tbL hk.1) rfl hrc hrs hk.2 hR) ⟨blindE, fun U hU hW => preE0 hw hE hU hW⟩ rfl hnp hl rfl (lv_room hst) hd hf) hw.2.2.2.1 (fun q _ h => hFc q h) hFc (fun u ra t H1 locs1 ht hvm hp hB hz hk hS1 => ?_)
  exact kk u ra H1 locs1 hp (joinR hw ht hz hk hB hS1)
theorem cVRA (hk : mlV own index C y b n (some rt) np) (hC : CallFix p m c cc nL s args (c0 :: TB) own) (hw : Wd D tys A s ws H locs) (hE : EnT ea A s s.heap) (hM : MetRA ea l y b n rt rm D tys (.ref a :: As) wf post mc ms)
    (hrc : rm.cells = mc) (hrs : rm.slots = ms) (hR : rm.frames + 1 ≤ R.frames ∧ 8 + (n + 11) + rm.locals ≤ R.locals) (hrecv : ∃ cell : Cell, H[a]? = some cell ∧ cell.vm.isStatics = false ∧ s.vm.findClass C = some cell.cls) (hnp : As.length = np) (hl : ls.size = nL) (hst : (rest.map fun v => v.category).sum ≤ 8) (hd : decode cc pc = .ok (.invokevirtual index, 3)) (hf : cells + mc ≤ R.cells ∧ slots + ms ≤ R.slots) {st : List Value} (hst0 : st = As.reverse ++ .ref a :: rest)
    (kk : ∀ (u : S) (q : Nat) (H1 : Heap) (locs1 : List Loc), post u → Wd D tys A s (ws ++ wf u q) H1 locs1 → W p l e R s m args below meth c H1 locs1 (cells + mc) (slots + ms) Q (F0 m (pc + 3) ls (.ref q :: rest))) : W p l e R s m args below meth c H locs cells slots Q (F0 m pc ls st) := by
  have hFc := va_free (wc := []) hw.2.2.1 hw.2.2.2.1 hw.2.2.2.2 [] rfl
  subst hst0
  refine va_callr (va_runV (As := As) (rest := rest) hC (hM H.size) (cwV np hC.2.2.2.2 (tbL hk.1) rfl hrc hrs hk.2 hR) ⟨blindE, hrecv, fun U hU hW => preE0 hw hE hU hW⟩ rfl hnp hl rfl (lv_room hst) hd hf) hw.2.2.2.1 (fun q _ h => hFc q h) hFc (fun u ra t H1 locs1 ht hvm hp hB hz hk hS1 => ?_)
  exact kk u ra H1 locs1 hp (joinR hw ht hz hk hB hS1)
end RA
/-- a String constant's chars, as its bytes are put into a new row -/
def V_toChars (n i : Nat) (post : (Nat → Int32) → Prop) : Prop := i < 37 ∧ V_J1_inflate_03870 (STL.getD i []).length n i 0 0 (Int32.ofNat (STL.getD i []).length) (fun _ _ => 0) (fun g => post (g 0))
theorem stl_len : ∀ i, i < 37 → (STL.getD i []).length ≤ 5 := by decide
set_option maxHeartbeats 4000000 in
set_option maxRecDepth 100000 in
theorem m_J1_toChars_9d188 (ea : Nat → Nat → Nat) (l : Launch) (D : va_G) (cI cC cZ cJ : ClassId) (n i : Nat) {post : (Nat → Int32) → Prop} (h : V_toChars n i post) : MetRA ea l yJ1_toChars_9d188 cJ1_toChars_9d188 2 (.array .char) { frames := RM_J1_inflate_03870.frames + 1, cells := 1, slots := 5, locals := 19 + 6 + RM_J1_inflate_03870.locals } D (ty4 cI cC cZ cJ) [.ref (ea 3 i)] (fun (f : Nat → Int32) (a : Nat) => [(a, .inl (cC, (STL.getD i []).length, .inl f))]) post 1 5 := by
  obtain ⟨hi, h⟩ := h
  have hL := stl_len i hi
  refine mkRA (by decide) (Nat.le_of_ble_eq_true rfl) ?_
  intro p e s m args below meth c A ls hC hr hlk hw hE hl
  have hx := hC.1
  have hb := hC.2.1
  have hl : lv_has ls 2 [(0, .ref (ea 3 i))] := hl
  refine lv_aload_n hx hb dJ1_toChars_9d188_0 rfl (lv_at hl 0 rfl) ?_
  refine va_tlen (v := nI (STL.getD i []).length) hx hb (hE.2.2.2.2.2.2.2.1 _ hi).2.2.2 hw.2.2.2.1 rfl dJ1_toChars_9d188_1 ?_
  refine nwA (a0 := ((STL.getD i []).length, .inl (fun _ => 0))) (N' := (STL.getD i []).length) 1 kachar rfl (fun _ h => h) hC hw rfl (fun _ => rfl) (nI_pos (by omega)) (nI_clamp (by omega)) (show (STL.getD i []).length * 2 ≤ 536870912 by omega) (Nat.le_of_ble_eq_true rfl) (show 0 + (STL.getD i []).length ≤ 5 by omega) dJ1_toChars_9d188_2 (fun q H hw => ?_)
  have hw : Wd D (ty4 cI cC cZ cJ) A s (wCh q cC (STL.getD i []).length (fun _ _ => 0)) _ _ := hw
  refine lv_astore_n (lv' := [(1, .ref q), (0, .ref (ea 3 i))]) hx hb dJ1_toChars_9d188_4 rfl hl (by decide) rfl (fun ls hl => ?_)
  refine lv_aload_n hx hb dJ1_toChars_9d188_5 rfl (lv_at hl 1 rfl) ?_
  refine lv_iconst (v := (0 : Int32)) hx hb dJ1_toChars_9d188_6 (by decide) ?_
  refine lv_aload_n hx hb dJ1_toChars_9d188_7 rfl (lv_at hl 0 rfl) ?_
  refine lv_iconst (v := (0 : Int32)) hx hb dJ1_toChars_9d188_8 (by decide) ?_
  refine lv_aload_n hx hb dJ1_toChars_9d188_9 rfl (lv_at hl 1 rfl) ?_
  refine va_tlen (v := nI (STL.getD i []).length) hx hb (hE.2.2.2.2.2.2.2.1 _ hi).2.2.2 hw.2.2.2.1 rfl dJ1_toChars_9d188_10 ?_
  refine cSVe (wn := fun u => wCh q cC (STL.getD i []).length u) (wr := []) ksJ1_13 hC hw hE (m_J1_inflate_03870 l D cI cC cZ cJ q (STL.getD i []).length ea n i 0 0 (Int32.ofNat (STL.getD i []).length) (fun _ _ => 0) h) [0] [] [0] rfl rfl rfl rfl (by decide) rfl (fun _ => rfl) rfl rfl ⟨by decide, by decide⟩ rfl hl.1 (Nat.le_of_ble_eq_true rfl) dJ1_toChars_9d188_11 ⟨Nat.le_of_ble_eq_true rfl, show 0 + (STL.getD i []).length ≤ 5 by omega⟩ rfl ?_
  intro u H locs h hw
  refine lv_aload_n hx hb dJ1_toChars_9d188_14 rfl (lv_at hl 0 rfl) ?_
  exact rtRA (wf := (fun (f : Nat → Int32) (a : Nat) => [(a, .inl (cC, (STL.getD i []).length, .inl f))])) (u 0) hC hr hlk hw h (Nat.le_refl _) (show 0 + (STL.getD i []).length ≤ 5 by omega) dJ1_toChars_9d188_15
set_option maxHeartbeats 4000000 in
set_option maxRecDepth 100000 in
theorem m_J0_toCharArray_70df3 (ea : Nat → Nat → Nat) (l : Launch) (D : va_G) (cI cC cZ cJ : ClassId) (n i : Nat) {post : (Nat → Int32) → Prop} (h : V_toChars n i post) : MetRA ea l yJ0_toCharArray_70df3 cJ0_toCharArray_70df3 1 (.array .char) { frames := RM_J1_inflate_03870.frames + 2, cells := 1, slots := 5, locals := 19 + 2 + (19 + 6 + RM_J1_inflate_03870.locals) } D (ty4 cI cC cZ cJ) [.ref (ea 2 i)] (fun (f : Nat → Int32) (a : Nat) => [(a, .inl (cC, (STL.getD i []).length, .inl f))]) post 1 5 := by
  have hi := h.1
  refine mkRA (by decide) (Nat.le_of_ble_eq_true rfl) ?_
  intro p e s m args below meth c A ls hC hr hlk hw hE hl
  have hx := hC.1
  have hb := hC.2.1
  have hl : lv_has ls 1 [(0, .ref (ea 2 i))] := hl
  refine lv_aload_n hx hb dJ0_toCharArray_70df3_0 rfl (lv_at hl 0 rfl) ?_
  refine cVI0 kmJ0_492 hC hw hE (m_J0_isLatin1_aae02 l D cI cC cZ cJ ea i (post := fun r => r = 1) ⟨fun h => absurd h (by decide), fun _ => ⟨hi, fun h => absurd rfl h, fun _ => rfl⟩⟩) rfl rfl ⟨by decide, by decide⟩ (va_Orecv (hE.2.2.2.2.2.2.2.1 _ hi).1 hw.2.2.2.1) rfl hl.1 (Nat.le_of_ble_eq_true rfl) dJ0_toCharArray_70df3_1 ⟨Nat.zero_le _, Nat.zero_le _⟩ rfl ?_
  intro r H locs hr1 hw
  refine lv_if_eq (tgt := 17) hx hb dJ0_toCharArray_70df3_4 (by decide) (fun c1 => ?_) (fun c1 => ?_)
  · exact absurd (hr1.symm.trans c1) (by decide)
  refine lv_aload_n hx hb dJ0_toCharArray_70df3_7 rfl (lv_at hl 0 rfl) ?_
  refine gtO koJ0_9 hC hw (hE.2.2.2.2.2.2.2.1 _ hi).2.2.1 dJ0_toCharArray_70df3_8 ?_
  refine cSRA ksJ0_299 hC hw hE (m_J1_toChars_9d188 ea l D cI cC cZ cJ n i h) rfl rfl ⟨by decide, by decide⟩ rfl hl.1 (Nat.le_of_ble_eq_true rfl) dJ0_toCharArray_70df3_11 ⟨Nat.le_of_ble_eq_true rfl, Nat.le_of_ble_eq_true rfl⟩ rfl ?_
  intro u q H locs h hw
  refine lv_goto (tgt := 24) hx hb dJ0_toCharArray_70df3_14 (by decide) ?_
  exact rtRA (wf := (fun (f : Nat → Int32) (a : Nat) => [(a, .inl (cC, (STL.getD i []).length, .inl f))])) u hC hr hlk hw h (Nat.le_refl _) (Nat.le_refl _) dJ0_toCharArray_70df3_24
