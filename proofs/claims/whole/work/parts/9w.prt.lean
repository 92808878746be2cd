-- ===== printing: what is written =====
def add1 (out : List Nat) (c : Nat) : List Nat := if out.length < 200 then out ++ [c] else out
def ads (out cs : List Nat) : List Nat := cs.foldl add1 out
theorem add1_full {out : List Nat} {c : Nat} (h : 200 ≤ out.length) : add1 out c = out := if_neg (by omega)
theorem add1_le {out : List Nat} {c : Nat} : out.length ≤ (add1 out c).length := by unfold add1; split <;> simp
theorem add1_lt {out : List Nat} {c : Nat} (h : out.length < 200) : (add1 out c).length = out.length + 1 := by unfold add1; rw [if_pos h]; simp
theorem ads_full : ∀ (cs : List Nat) {out : List Nat}, 200 ≤ out.length → ads out cs = out
  | [], _, _ => rfl
  | c :: cs, out, h => by
    show ads (add1 out c) cs = out
    rw [add1_full h]; exact ads_full cs h
theorem ads_le : ∀ (cs out : List Nat), out.length ≤ (ads out cs).length
  | [], _ => Nat.le_refl _
  | c :: cs, out => Nat.le_trans (add1_le (c := c)) (ads_le cs (add1 out c))
theorem ads_app : ∀ (a c out : List Nat), ads out (a ++ c) = ads (ads out a) c := fun a c out => List.foldl_append
def OKo (out : List Nat) : Prop := out.length ≤ 200 ∧ ∀ a ∈ out, a < 65536
theorem add1_ok {out : List Nat} {c : Nat} (h : OKo out) (hc : c < 65536) : OKo (add1 out c) := by
  unfold add1
  split
  · refine ⟨by rw [List.length_append]; show out.length + 1 ≤ 200; omega, fun a ha => ?_⟩
    rcases List.mem_append.mp ha with e | e
    · exact h.2 a e
    · rw [List.mem_singleton.mp e]; exact hc
  · exact h
theorem ads_ok : ∀ (cs : List Nat) {out : List Nat}, OKo out → (∀ c ∈ cs, c < 65536) → OKo (ads out cs)
  | [], _, h, _ => h
  | c :: cs, _, h, hc => ads_ok cs (add1_ok h (hc c (by simp))) (fun d hd => hc d (by simp [hd]))
section SHW
variable (pr : Va → Va × Va) (vl : Va → List Va) (tx : Va → List Nat)
/-- the rest of a list -/
def lop (f : Va → List Nat → List Nat) : Nat → Va → List Nat → List Nat
  | 0, _, out => out
  | m + 1, v, out => if vkd v = 1 then add1 out 41 else if 200 ≤ out.length then out else if vkd v = 4 then lop f m (pr v).2 (f (pr v).1 (add1 out 32)) else add1 (f v (ads out [32, 46, 32])) 41
def vlp (f : Va → List Nat → List Nat) : Bool → List Va → List Nat → List Nat
  | _, [], out => add1 out 93
  | b, v :: l, out => if 200 ≤ out.length then out else vlp f false l (f v (if b then out else add1 out 32))
/-- a value is written; e: how deep lists and vectors may still be -/
def shw : Nat → Va → List Nat → List Nat
  | 0, v, out => if vkd v = 4 ∨ vkd v = 5 then add1 out 42 else ads out (tx v)
  | e + 1, v, out => if vkd v = 4 then lop pr (fun w o => shw e w o) 200 (pr v).2 (shw e (pr v).1 (add1 out 40)) else if vkd v = 5 then vlp (fun w o => shw e w o) true (vl v) (add1 out 91) else ads out (tx v)
/-- what is still to be written of a list or vector: the state as the reference has it -/
def ctn (e : Nat) (v : Va) (j : Int) (out : List Nat) : List Nat :=
  if vkd v = 4 then (if j = 0 then lop pr (shw pr vl tx e) 200 (pr v).2 (shw pr vl tx e (pr v).1 out) else if 0 < j then lop pr (shw pr vl tx e) 200 (pr v).2 out else add1 out 41)
  else vlp (shw pr vl tx e) (decide (j = 0)) ((vl v).drop j.toNat) out
def rst : List (Va × Int) → List Nat → List Nat
  | [], out => add1 out 10
  | (v, j) :: S, out => rst S (ctn pr vl tx (7 - S.length) v j out)
end SHW
section SHL
variable {pr : Va → Va × Va} {vl : Va → List Va} {tx : Va → List Nat}
theorem lop_full {f : Va → List Nat → List Nat} : ∀ (m : Nat) {v : Va} {out : List Nat}, 200 ≤ out.length → lop pr f m v out = out
  | 0, _, _, _ => rfl
  | m + 1, v, out, h => by
    show (if vkd v = 1 then add1 out 41 else if 200 ≤ out.length then out else _) = out
    split
    · exact add1_full h
    · first | rfl | exact if_pos h
theorem vlp_full {f : Va → List Nat → List Nat} {b : Bool} {l : List Va} {out : List Nat} (h : 200 ≤ out.length) : vlp f b l out = out := by
  cases l with
  | nil => exact add1_full h
  | cons v l => exact if_pos h
theorem shw_full : ∀ (e : Nat) {v : Va} {out : List Nat}, 200 ≤ out.length → shw pr vl tx e v out = out
  | 0, v, out, h => by
    show (if vkd v = 4 ∨ vkd v = 5 then add1 out 42 else ads out (tx v)) = out
    split
    · exact add1_full h
    · exact ads_full _ h
  | e + 1, v, out, h => by
    show (if vkd v = 4 then lop pr (fun w o => shw pr vl tx e w o) 200 (pr v).2 (shw pr vl tx e (pr v).1 (add1 out 40)) else if vkd v = 5 then vlp (fun w o => shw pr vl tx e w o) true (vl v) (add1 out 91) else ads out (tx v)) = out
    rw [add1_full h, add1_full h, shw_full e h]
    split
    · exact lop_full 200 h
    · split
      · exact vlp_full h
      · exact ads_full _ h
theorem ctn_full {e : Nat} {v : Va} {j : Int} {out : List Nat} (h : 200 ≤ out.length) : ctn pr vl tx e v j out = out := by
  unfold ctn
  rw [shw_full e h]
  split
  · split
    · exact lop_full 200 h
    · split
      · exact lop_full 200 h
      · exact add1_full h
  · exact vlp_full h
theorem rst_full : ∀ (S : List (Va × Int)) {out : List Nat}, 200 ≤ out.length → rst pr vl tx S out = out
  | [], _, h => add1_full h
  | (v, j) :: S, out, h => by
    show rst pr vl tx S (ctn pr vl tx (7 - S.length) v j out) = out
    rw [ctn_full h]; exact rst_full S h
theorem lop_le {f : Va → List Nat → List Nat} (hf : ∀ v out, out.length ≤ (f v out).length) : ∀ (m : Nat) (v : Va) (out : List Nat), out.length ≤ (lop pr f m v out).length
  | 0, _, _ => Nat.le_refl _
  | m + 1, v, out => by
    show _ ≤ (if vkd v = 1 then add1 out 41 else if 200 ≤ out.length then out else if vkd v = 4 then lop pr f m (pr v).2 (f (pr v).1 (add1 out 32)) else add1 (f v (ads out [32, 46, 32])) 41).length
    split
    · exact add1_le
    · split
      · exact Nat.le_refl _
      · split
        · exact Nat.le_trans (Nat.le_trans add1_le (hf _ _)) (lop_le hf m _ _)
        · exact Nat.le_trans (Nat.le_trans (ads_le _ _) (hf _ _)) add1_le
theorem vlp_le {f : Va → List Nat → List Nat} (hf : ∀ v out, out.length ≤ (f v out).length) : ∀ (l : List Va) (b : Bool) (out : List Nat), out.length ≤ (vlp f b l out).length
  | [], _, _ => add1_le
  | v :: l, b, out => by
    show _ ≤ (if 200 ≤ out.length then out else vlp f false l (f v (if b then out else add1 out 32))).length
    split
    · exact Nat.le_refl _
    · refine Nat.le_trans (Nat.le_trans ?_ (hf _ _)) (vlp_le hf l false _)
      split
      · exact Nat.le_refl _
      · exact add1_le
theorem shw_le : ∀ (e : Nat) (v : Va) (out : List Nat), out.length ≤ (shw pr vl tx e v out).length
  | 0, v, out => by
    show _ ≤ (if vkd v = 4 ∨ vkd v = 5 then add1 out 42 else ads out (tx v)).length
    split
    · exact add1_le
    · exact ads_le _ _
  | e + 1, v, out => by
    show _ ≤ (if vkd v = 4 then lop pr (fun w o => shw pr vl tx e w o) 200 (pr v).2 (shw pr vl tx e (pr v).1 (add1 out 40)) else if vkd v = 5 then vlp (fun w o => shw pr vl tx e w o) true (vl v) (add1 out 91) else ads out (tx v)).length
    split
    · exact Nat.le_trans (Nat.le_trans add1_le (shw_le e _ _)) (lop_le (fun v out => shw_le e v out) 200 _ _)
    · split
      · exact Nat.le_trans add1_le (vlp_le (fun v out => shw_le e v out) _ _ _)
      · exact ads_le _ _
/-- how many rounds are allowed does not matter -/
theorem lop_more {f : Va → List Nat → List Nat} (hf : ∀ v out, out.length ≤ (f v out).length) : ∀ (m : Nat) (v : Va) (out : List Nat), 200 ≤ out.length + m → lop pr f m v out = lop pr f (m + 1) v out
  | 0, v, out, h => by rw [lop_full 1 (by omega)]; rfl
  | m + 1, v, out, h => by
    show (if vkd v = 1 then add1 out 41 else if 200 ≤ out.length then out else if vkd v = 4 then lop pr f m (pr v).2 (f (pr v).1 (add1 out 32)) else add1 (f v (ads out [32, 46, 32])) 41) = (if vkd v = 1 then add1 out 41 else if 200 ≤ out.length then out else if vkd v = 4 then lop pr f (m + 1) (pr v).2 (f (pr v).1 (add1 out 32)) else add1 (f v (ads out [32, 46, 32])) 41)
    by_cases hlt : 200 ≤ out.length
    · rw [if_pos hlt, if_pos hlt]
    · have := hf (pr v).1 (add1 out 32)
      rw [add1_lt (by omega)] at this
      rw [lop_more hf m _ _ (by omega)]
theorem lop_eq {f : Va → List Nat → List Nat} (hf : ∀ v out, out.length ≤ (f v out).length) (v : Va) (out : List Nat) : lop pr f 200 v out = if vkd v = 1 then add1 out 41 else if 200 ≤ out.length then out else if vkd v = 4 then lop pr f 200 (pr v).2 (f (pr v).1 (add1 out 32)) else add1 (f v (ads out [32, 46, 32])) 41 := by
  show (if vkd v = 1 then add1 out 41 else if 200 ≤ out.length then out else if vkd v = 4 then lop pr f 199 (pr v).2 (f (pr v).1 (add1 out 32)) else add1 (f v (ads out [32, 46, 32])) 41) = _
  by_cases hlt : 200 ≤ out.length
  · rw [if_pos hlt, if_pos hlt]
  · have := hf (pr v).1 (add1 out 32)
    rw [add1_lt (by omega)] at this
    rw [lop_more hf 199 _ _ (by omega)]
theorem lop_ok {f : Va → List Nat → List Nat} (hf : ∀ v out, OKo out → OKo (f v out)) : ∀ (m : Nat) (v : Va) (out : List Nat), OKo out → OKo (lop pr f m v out)
  | 0, _, _, h => h
  | m + 1, v, out, h => by
    show OKo (if vkd v = 1 then add1 out 41 else if 200 ≤ out.length then out else if vkd v = 4 then lop pr f m (pr v).2 (f (pr v).1 (add1 out 32)) else add1 (f v (ads out [32, 46, 32])) 41)
    split
    · exact add1_ok h (by decide)
    · split
      · exact h
      · split
        · exact lop_ok hf m _ _ (hf _ _ (add1_ok h (by decide)))
        · exact add1_ok (hf _ _ (ads_ok _ h (by decide))) (by decide)
theorem vlp_ok {f : Va → List Nat → List Nat} (hf : ∀ v out, OKo out → OKo (f v out)) : ∀ (l : List Va) (b : Bool) (out : List Nat), OKo out → OKo (vlp f b l out)
  | [], _, _, h => add1_ok h (by decide)
  | v :: l, b, out, h => by
    show OKo (if 200 ≤ out.length then out else vlp f false l (f v (if b then out else add1 out 32)))
    split
    · exact h
    · refine vlp_ok hf l false _ (hf _ _ ?_)
      split
      · exact h
      · exact add1_ok h (by decide)
theorem shw_ok (ht : ∀ v, ∀ c ∈ tx v, c < 65536) : ∀ (e : Nat) (v : Va) (out : List Nat), OKo out → OKo (shw pr vl tx e v out)
  | 0, v, out, h => by
    show OKo (if vkd v = 4 ∨ vkd v = 5 then add1 out 42 else ads out (tx v))
    split
    · exact add1_ok h (by decide)
    · exact ads_ok _ h (ht v)
  | e + 1, v, out, h => by
    show OKo (if vkd v = 4 then lop pr (fun w o => shw pr vl tx e w o) 200 (pr v).2 (shw pr vl tx e (pr v).1 (add1 out 40)) else if vkd v = 5 then vlp (fun w o => shw pr vl tx e w o) true (vl v) (add1 out 91) else ads out (tx v))
    split
    · exact lop_ok (fun v out h => shw_ok ht e v out h) 200 _ _ (shw_ok ht e _ _ (add1_ok h (by decide)))
    · split
      · exact vlp_ok (fun v out h => shw_ok ht e v out h) _ _ _ (add1_ok h (by decide))
      · exact ads_ok _ h (ht v)
end SHL
/-- a number's figures -/
def dg (a : Nat) : Nat → List Nat
  | 0 => []
  | j + 1 => (48 + a / 10 ^ j % 10) :: dg a j
def f25 (a : Nat) : Nat → List Nat
  | 0 => dg a 1
  | j + 1 => if 10 ^ (j + 1) ≤ a then dg a (j + 2) else f25 a j
def fgs (n : Int) : List Nat := (if n < 0 then [45] else []) ++ f25 n.natAbs 4
theorem dg_ok (a : Nat) : ∀ j, ∀ c ∈ dg a j, c < 128
  | 0, c, h => by cases h
  | j + 1, c, h => by
    rcases List.mem_cons.mp h with e | e
    · have := Nat.mod_lt (a / 10 ^ j) (show 0 < 10 by decide)
      omega
    · exact dg_ok a j c e
theorem f25_ok (a : Nat) : ∀ j, ∀ c ∈ f25 a j, c < 128
  | 0, c, h => dg_ok a 1 c h
  | j + 1, c, h => by
    have h : c ∈ (if 10 ^ (j + 1) ≤ a then dg a (j + 2) else f25 a j) := h
    split at h
    · exact dg_ok a _ c h
    · exact f25_ok a j c h
/-- a name's letters, out of its number -/
def dgt (m : Nat) : Nat → List Nat
  | 0 => []
  | j + 1 => (if m / 128 ^ j % 128 = 0 then [] else [m / 128 ^ j % 128]) ++ dgt m j
theorem dgt_0 : ∀ j, dgt 0 j = []
  | 0 => rfl
  | j + 1 => by
    show (if 0 / 128 ^ j % 128 = 0 then [] else [0 / 128 ^ j % 128]) ++ dgt 0 j = []
    rw [Nat.zero_div, Nat.zero_mod, if_pos rfl, dgt_0 j]; rfl
theorem dgt_snoc (a c : Nat) (hc : 0 < c) (hc2 : c < 128) : ∀ j, dgt (a * 128 + c) (j + 1) = dgt a j ++ [c]
  | 0 => by
    show (if (a * 128 + c) / 128 ^ 0 % 128 = 0 then [] else [(a * 128 + c) / 128 ^ 0 % 128]) ++ [] = [c]
    have : (a * 128 + c) / 128 ^ 0 % 128 = c := by rw [Nat.pow_zero, Nat.div_one]; omega
    rw [this, if_neg (by omega)]; rfl
  | j + 1 => by
    show (if (a * 128 + c) / 128 ^ (j + 1) % 128 = 0 then [] else [(a * 128 + c) / 128 ^ (j + 1) % 128]) ++ dgt (a * 128 + c) (j + 1) = ((if a / 128 ^ j % 128 = 0 then [] else [a / 128 ^ j % 128]) ++ dgt a j) ++ [c]
    have : (a * 128 + c) / 128 ^ (j + 1) = a / 128 ^ j := by
      rw [Nat.pow_succ, Nat.mul_comm (128 ^ j) 128, ← Nat.div_div_eq_div_mul]
      congr 1
      omega
    rw [this, dgt_snoc a c hc hc2 j, List.append_assoc]
theorem dgt_fold : ∀ (l : List Nat) (a j : Nat), (∀ c ∈ l, 0 < c ∧ c < 128) → dgt (l.foldl (fun a c => a * 128 + c) a) (j + l.length) = dgt a j ++ l
  | [], a, j, _ => by rw [List.append_nil]; rfl
  | c :: l, a, j, h => by
    obtain ⟨h1, h2⟩ := h c (by simp)
    show dgt (l.foldl (fun a c => a * 128 + c) (a * 128 + c)) (j + (l.length + 1)) = _
    rw [show j + (l.length + 1) = j + 1 + l.length by omega, dgt_fold l (a * 128 + c) (j + 1) (fun d hd => h d (by simp [hd])), dgt_snoc a c h1 h2 j, List.append_assoc]; rfl
theorem dgt_nm {l : List Nat} (h : ∀ c ∈ l, 0 < c ∧ c < 128) (h5 : l.length ≤ 5) : dgt (nmL l) 5 = l := by
  have := dgt_fold l 0 (5 - l.length) h
  rw [show 5 - l.length + l.length = 5 by omega, dgt_0] at this
  exact this
/-- an atom's text -/
def txt (sy : Nat) (nam : Nat → List Nat) : Va → List Nat
  | none => [110, 105, 108]
  | some (.inl n) => fgs n
  | some (.inr (.inl s)) => if s < sy then nam s else []
  | some (.inr (.inr (.inl _))) => []
  | some (.inr (.inr (.inr (.inl _)))) => []
  | some (.inr (.inr (.inr (.inr (.inl _))))) => []
  | some (.inr (.inr (.inr (.inr (.inr _))))) => [35]
theorem txt_ok {sy : Nat} {nam : Nat → List Nat} (h : NamOK sy nam) (v : Va) : ∀ c ∈ txt sy nam v, c < 128 := by
  intro c hc
  rcases v with _ | v | v | ⟨v, v2⟩ | v | v | v
  · have hc : c ∈ [110, 105, 108] := hc
    simp at hc; omega
  · rcases List.mem_append.mp hc with e | e
    · split at e
      · simp at e; omega
      · cases e
    · exact f25_ok _ _ c e
  · have hc : c ∈ (if v < sy then nam v else []) := hc
    split at hc
    · rename_i hs
      exact ((h.2.2.2.2.2 v hs).2 c hc).2
    · cases hc
  · cases hc
  · cases hc
  · cases hc
  · have hc : c ∈ [35] := hc
    simp at hc; omega
/-- a cell's two values, a vector's values -/
def prp (rc : Nat → Va × Va) (hp : Nat → Option Ob) : Va → Va × Va
  | some (.inr (.inr (.inl (i, _)))) => rc i
  | some (.inr (.inr (.inr (.inl s)))) => match hp s with | some (.inl p) => p | _ => (none, none)
  | _ => (none, none)
def vel (hp : Nat → Option Ob) : Va → List Va
  | some (.inr (.inr (.inr (.inr (.inl s))))) => match hp s with | some (.inr (.inl l)) => l | _ => []
  | _ => []
theorem prp_cel {K : Nat → Nat → Prop} {C : Nat → Prop} {rc : Nat → Va × Va} {hp : Nat → Option Ob} {a : Va} (hv : VV K C hp a) (hk : vkd a = 4) : cel rc hp a (prp rc hp a) := by
  rcases a with _ | v | v | ⟨v, v2⟩ | v | v | v
  · exact absurd hk (show ¬ 1 = 4 by decide)
  · exact absurd hk (show ¬ 2 = 4 by decide)
  · exact absurd hk (show ¬ 3 = 4 by decide)
  · exact Or.inl ⟨v, v2, rfl, rfl⟩
  · obtain ⟨-, p, d, h⟩ := hv
    refine Or.inr ⟨v, rfl, ?_⟩
    show hp v = some (ocel (match hp v with | some (.inl p) => p | _ => (none, none)).1 (match hp v with | some (.inl p) => p | _ => (none, none)).2)
    rw [h]
  · exact absurd hk (show ¬ 5 = 4 by decide)
  · exact absurd hk (show ¬ 6 = 4 by decide)
theorem vel_vec {hp : Nat → Option Ob} {s : Nat} {l : List Va} (h : hp s = some (ovec l)) : vel hp (vvec s) = l := by
  show (match hp s with | some (.inr (.inl l)) => l | _ => []) = l
  rw [h]
/-- a letter out of the reference's number of a name -/
theorem let_at {m j : Nat} (hj : j ≤ 4) (hm : m < 2 ^ 40) : ((lN m) >>> ((nI (7 * j)).toInt64 &&& 63)).toInt32 &&& 127 = nI (m / 128 ^ j % 128) := by
  have hsh : ((lN m) >>> ((nI (7 * j)).toInt64 &&& 63)).toBitVec = (lN m).toBitVec.sshiftRight (7 * j) := by
    rw [Int64.toBitVec_shiftRight]
    have hcs : j = 0 ∨ j = 1 ∨ j = 2 ∨ j = 3 ∨ j = 4 := by omega
    rcases hcs with rfl | rfl | rfl | rfl | rfl <;> rfl
  apply Int32.toBitVec_inj.mp
  rw [Int32.toBitVec_and, Int64.toBitVec_toInt32, hsh]
  apply BitVec.eq_of_toNat_eq
  have h1 : (lN m).toBitVec = BitVec.ofNat 64 m := rfl
  have hms : (BitVec.ofNat 64 m).msb = false := by
    rw [BitVec.msb_eq_false_iff_two_mul_lt, BitVec.toNat_ofNat]; omega
  rw [h1, BitVec.sshiftRight_eq_of_msb_false hms, BitVec.signExtend_eq_setWidth_of_le _ (by decide), BitVec.toNat_and, BitVec.toNat_setWidth, BitVec.toNat_ushiftRight, BitVec.toNat_ofNat]
  have e127 : (127 : Int32).toBitVec.toNat = 2 ^ 7 - 1 := rfl
  rw [e127, Nat.and_two_pow_sub_one_eq_mod, Nat.shiftRight_eq_div_pow, Nat.mod_eq_of_lt (show m < 2 ^ 64 by omega), show (2 : Nat) ^ (7 * j) = 128 ^ j by rw [Nat.pow_mul]]
  have hq : (nI (m / 128 ^ j % 128)).toBitVec.toNat = m / 128 ^ j % 128 := by
    show (BitVec.ofNat 32 (m / 128 ^ j % 128)).toNat = _
    rw [BitVec.toNat_ofNat]
    have := Nat.mod_lt (m / 128 ^ j) (show 0 < 128 by decide)
    exact Nat.mod_eq_of_lt (by omega)
  rw [hq]
  omega
