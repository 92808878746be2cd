theorem code_J1_inflate_03870 : Cond.code yJ1_inflate_03870 cJ1_inflate_03870 6 none ∈ TB := tbI 60 (by decide +kernel) rfl
theorem code_J1_toChars_9d188 : Cond.code yJ1_toChars_9d188 cJ1_toChars_9d188 2 (some (.array .char)) ∈ TB := tbI 57 (by decide +kernel) rfl
theorem ksJ0_299 : mlS RJ0 299 yJ1_toChars_9d188 cJ1_toChars_9d188 2 (some (.array .char)) 1 := mlS_mk (tbI 55 (by decide +kernel) rfl) (tbI 56 (by decide +kernel) rfl) (tbI 4 (by decide +kernel) rfl) code_J1_toChars_9d188 (by decide +kernel)
theorem ksJ1_13 : mlS RJ1 13 yJ1_inflate_03870 cJ1_inflate_03870 6 none 5 := mlS_mk (tbI 58 (by decide +kernel) rfl) (tbI 59 (by decide +kernel) rfl) (tbI 4 (by decide +kernel) rfl) code_J1_inflate_03870 (by decide +kernel)
def wCh (nm : Nat) (cC : ClassId) (L : Nat) (g : St) : va_W := [(nm, .inl (cC, L, .inl (g 0)))]
section WCHS
variable {p : Program} {l : Launch} {e : Env} {R : Room} {s : State} {m : MethodId} {args : Array Value} {below : List Frame} {meth : Method} {c : Code} {H : Heap} {locs : List Loc} {cells slots : Nat} {Q : State → Prop} {cc : ByteArray} {pc nL : Nat} {ls : Array Slot} {rest : List Value} {D : va_G} {A : Nat → Prop} {c0 : Cond} {own : String} {ad : Nat → Nat} {cI cC cZ cJ : ClassId}
theorem swCh_0 {nm L : Nat} {g : St} {i x : Int32} (hin : vp_in i L) (hC : CallFix p m c cc nL s args (c0 :: TB) own) (hw : Wd D (ty4 cI cC cZ cJ) A s (wCh nm cC L g) H locs) (hd : decode cc pc = .ok (.castore, 1)) (kk : ∀ (H : Heap) (locs : List Loc) (g1 : St), g1 = up g 0 i.toNatClampNeg (vp_nar .char x) → Wd D (ty4 cI cC cZ cJ) A s (wCh nm cC L g1) H locs → W p l e R s m args below meth c H locs cells slots Q (F0 m (pc + 1) ls rest)) : W p l e R s m args below meth c H locs cells slots Q (F0 m pc ls (.int x :: .int i :: .ref nm :: rest)) :=
  stC (ws' := wCh nm cC L (up g 0 i.toNatClampNeg (vp_nar .char x))) 0 1 hC hw rfl rfl hin rfl hd (fun H1 locs1 hw1 => kk H1 locs1 _ rfl hw1)
end WCHS
