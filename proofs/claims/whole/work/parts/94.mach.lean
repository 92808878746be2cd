-- ===== the machine in the middle =====
/-- a frame: what it means, its form's cell, the parts to come, its state, its own frame of symbols, where the code behind it begins, its values (the newest first) -/
abbrev Fr : Type := Nat × Nat × List Nat × Nat × Nat × Nat × List Va
/-- what is fixed in a run: size, symbols, read cells, kept cells, code; names; which cells are kept and which are code; entries; code; the cells as they were at first -/
abbrev Cx : Type := (Nat × Nat × Nat × Nat × Nat) × (Nat → List Nat) × (Nat → Nat → Prop) × (Nat → Prop) × (Nat → Nat) × (Nat → Int32) × (Nat → Va × Va)
def Cx.z (x : Cx) : Nat := x.1.1
def Cx.sy (x : Cx) : Nat := x.1.2.1
def Cx.rn (x : Cx) : Nat := x.1.2.2.1
def Cx.ft (x : Cx) : Nat := x.1.2.2.2.1
def Cx.tp (x : Cx) : Nat := x.1.2.2.2.2
def Cx.nam (x : Cx) : Nat → List Nat := x.2.1
def Cx.K (x : Cx) : Nat → Nat → Prop := x.2.2.1
def Cx.C (x : Cx) : Nat → Prop := x.2.2.2.1
def Cx.ent (x : Cx) : Nat → Nat := x.2.2.2.2.1
def Cx.c (x : Cx) : Nat → Int32 := x.2.2.2.2.2.1
def Cx.r0 (x : Cx) : Nat → Va × Va := x.2.2.2.2.2.2
abbrev xE (x : Cx) : Nat → List (List Nat) → Va → Nat → Nat → Prop := AtE x.r0 x.nam x.K x.C x.c x.ent
/-- jumps, one after the other -/
def Chn (x : Cx) : Nat → Nat → Nat → Prop
  | 0, p, q => p = q
  | n + 1, p, q => p = q ∨ (p + 1 < x.tp ∧ x.c p = 8 ∧ ∃ r, x.c (p + 1) = nI r ∧ r < 1536 ∧ Chn x n r q)
def allv : List Fr → List Va
  | [] => []
  | (_, _, _, _, _, _, vs) :: K => vs ++ allv K
/-- the values as the class has them: the tags lie elsewhere -/
def cvl : List Fr → List Va
  | [] => []
  | (op, _, _, _, _, _, vs) :: K => (if op = 7 then [] else vs) ++ cvl K
def ncal : List Fr → Nat
  | [] => 0
  | (op, _, _, _, _, _, _) :: K => (if op = 33 then 1 else 0) + ncal K
def ccl : List Fr → List Gw
  | [] => []
  | (op, _, _, _, e, q, _) :: K => (if op = 33 then [some (.inl (vnum (q : Int))), some (.inr e)] else []) ++ ccl K
def cat : List Fr → List Gw
  | [] => []
  | (op, _, _, st, _, q, vs) :: K => (if op = 7 ∧ st = 1 then some (.inl (vnum (q : Int))) :: some (.inl (vnum ((2 * ncal K : Nat) : Int))) :: some (.inl (vnum ((cvl K).length : Int))) :: vs.map (fun v => some (.inl v)) else []) ++ cat K
def fe : List Fr → Nat
  | [] => 0
  | (op, _, _, _, e, _, _) :: K => if op = 33 then e else fe K
def envs : List Fr → List Nat
  | [] => []
  | (op, _, _, _, e, _, _) :: K => (if op = 33 then [e] else []) ++ envs K
def hdl : List Nat → Va
  | [] => vnil
  | i :: _ => vrd i 0
def LsC (x : Cx) (l : List Nat) : Prop := Lst x.r0 (hdl l) l ∧ ∀ y ∈ l, x.C y
/-- the code of what a frame has still to do, from p on; D: how deep its parts may be -/
def FrK (x : Cx) (D p : Nat) (sc : List (List Nat)) (i : Nat) (rest : List Nat) (st q : Nat) (vs : List Va) : Nat → Prop
  | 0 => vs.length + rest.length ≤ 4 ∧ ∃ pe, AtL x.r0 (xE x D sc) rest p pe ∧ x.c pe = 16 ∧ x.c (pe + 1) = nI (vs.length + rest.length) ∧ q = pe + 2
  | 1 => False
  | 2 => vs = [] ∧ ∃ b e p2, rest = b :: e ∧ e.length ≤ 1 ∧ x.c p = 9 ∧ x.c (p + 1) = nI (p2 + 2) ∧ xE x D sc (x.r0 b).1 (p + 2) p2 ∧ x.c p2 = 8 ∧ x.c (p2 + 1) = nI q ∧ AtB x.r0 x.c (xE x D sc) e (p2 + 2) q
  | 3 => vs = [] ∧ AtR x.r0 x.c (xE x D sc) rest p q
  | 4 => vs = [] ∧ rest = [] ∧ ∃ a b s, x.C i ∧ Lst x.r0 (x.r0 i).2 [a, b] ∧ x.C a ∧ (x.r0 a).1 = vsym s ∧ s < 40 ∧ q = p + 2 ∧ (∀ pl, loc sc s = some pl → x.c p = 6 ∧ x.c (p + 1) = nI pl) ∧ (loc sc s = none → x.c p = 4 ∧ x.c (p + 1) = nI s)
  | 5 => vs = [] ∧ ∃ a b p0 pa p2, x.C i ∧ Lst x.r0 (x.r0 i).2 (a :: b) ∧ (∀ y ∈ a :: b, x.C y) ∧ xE x D sc (x.r0 a).1 p0 pa ∧ x.c pa = 9 ∧ x.c (pa + 1) = nI (p2 + 3) ∧ AtB x.r0 x.c (xE x D sc) b (pa + 2) p2 ∧ x.c p2 = 7 ∧ x.c (p2 + 1) = 8 ∧ x.c (p2 + 2) = nI p0 ∧ x.c (p2 + 3) = 2 ∧ x.c (p2 + 4) = 1 ∧ q = p2 + 5 ∧ ((st = 0 ∧ p = pa) ∨ (st = 1 ∧ AtR x.r0 x.c (xE x D sc) rest p p2))
  | 6 => False
  | 7 => ∃ p2, x.c p2 = 13 ∧ q = p2 + 1 ∧ ((st = 0 ∧ vs = [] ∧ x.c p = 12 ∧ x.c (p + 1) = nI q ∧ AtB x.r0 x.c (xE x D sc) rest (p + 2) p2) ∨ (st = 1 ∧ (∃ t, vs = [t]) ∧ AtR x.r0 x.c (xE x D sc) rest p p2))
  | 8 => vs.length + rest.length = 1 ∧ ∃ pe, AtL x.r0 (xE x D sc) rest p pe ∧ x.c pe = 14 ∧ q = pe + 1
  | op => (op = 33 ∧ vs = [] ∧ D ≤ 12 ∧ ∃ pe, AtR x.r0 x.c (xE x D sc) rest p pe ∧ x.c pe = 11 ∧ pe < x.tp) ∨ (op < 32 ∧ FEWL.getD op 0 ≤ nI (vs.length + 1 + rest.length) ∧ nI (vs.length + 1 + rest.length) ≤ MOSTL.getD op 0 ∧ vs.length + 1 + rest.length ≤ 4 ∧ ∃ pe, AtL x.r0 (xE x D sc) rest p pe ∧ x.c pe = 15 ∧ x.c (pe + 1) = nI op ∧ x.c (pe + 2) = nI (vs.length + 1 + rest.length) ∧ q = pe + 3)
/-- frames that wait for a value, the code behind it beginning at p; d: how deep that value's form may be -/
def Cn (x : Cx) (hp : Nat → Option Ob) : List Fr → Nat → Nat → List (List Nat) → Prop
  | [], p, d, sc => sc = [] ∧ d ≤ 13 ∧ ∃ p1, Chn x (13 - d) p p1 ∧ p1 < x.tp ∧ x.c p1 = 0
  | (op, i, rest, st, e, q, vs) :: K, p, d, sc => (∀ v ∈ vs, VV x.K x.C hp v) ∧ LsC x rest ∧ st ≤ 1 ∧ q < x.tp ∧ ∃ D p1, d ≤ D ∧ D + sc.length ≤ 13 ∧ Chn x (13 - d) p p1 ∧ p1 < x.tp ∧ FrK x D p1 sc i rest st q vs op ∧ (op = 33 → EnvR x.r0 x.C hp e sc ∧ ∃ sc1, Cn x hp K q 2 sc1) ∧ (op ≠ 33 → Cn x hp K q (D + 1) sc)
/-- all that is fixed is well -/
def XOK (x : Cx) : Prop := 40 ≤ x.z ∧ x.z ≤ 167 ∧ NamOK x.sy x.nam ∧ (∀ i, x.C i → i < x.rn ∧ (∀ s, (x.r0 i).1 = vsym s → s < x.sy) ∧ ¬ made (x.r0 i).1 ∧ ¬ made (x.r0 i).2) ∧ (∀ i y, x.K i y → i < x.rn ∧ y < 1000) ∧ x.rn ≤ 900 ∧ x.tp ≤ 1400
/-- the world is well -/
def PW (x : Cx) (sv : Nat → Option Va) (rc : Nat → Va × Va) (hp : Nat → Option Ob) (out : List Nat) (inp : List Int) : Prop :=
  (∀ s v, s < x.sy → sv s = some v → VV x.K x.C hp v) ∧ (∀ i y, x.K i y → ¬ x.C i → VV x.K x.C hp (rc i).1 ∧ VV x.K x.C hp (rc i).2) ∧ (∀ i, x.C i → rc i = x.r0 i) ∧ (∀ i, i < x.rn → vok (rc i).1 ∧ vok (rc i).2) ∧ (∀ i, i < x.rn → (made (rc i).1 → ∃ y, x.K i y) ∧ (made (rc i).2 → ∃ y, x.K i y)) ∧ (∀ s o, hp s = some o → s < 168 ∧ ObR x.r0 x.nam x.K x.C x.c x.tp x.ent hp o) ∧ usum hp 168 ≤ x.z ∧ (out.length ≤ 200 ∧ ∀ a ∈ out, a < 65536) ∧ (inp.length ≤ 8 ∧ ∀ a ∈ inp, -32768 ≤ a ∧ a ≤ 32767)
/-- a state of the machine: what it does (0 asks, 1 has a value, e + 2 the fault e), where the code is, the form or the value; frames; the world: symbols, read cells, heap, output, input, counters -/
abbrev As : Type := (Nat × Nat × Va) × List Fr × (Nat → Option Va) × (Nat → Va × Va) × (Nat → Option Ob) × List Nat × List Int × (Nat → Int32)
/-- counters: steps, deepest -/
def CtK (m : Nat) (Kf : List Fr) (cn : Nat → Int32) : Prop := ∃ st dp, cn 2 = nI st ∧ cn 3 = nI dp ∧ st ≤ 1000 ∧ dp ≤ 30 ∧ (allv Kf).length + m ≤ st ∧ ncal Kf ≤ dp
def PA (x : Cx) : As → Prop
  | ((0, p, v), Kf, sv, rc, hp, out, inp, cn) => PW x sv rc hp out inp ∧ CtK 0 Kf cn ∧ vok v ∧ (∀ s, v = vsym s → s < x.sy) ∧ ∃ D sc q, xE x D sc v p q ∧ q < x.tp ∧ D + sc.length ≤ 13 ∧ Cn x hp Kf q D sc
  | ((1, p, v), Kf, sv, rc, hp, out, inp, cn) => PW x sv rc hp out inp ∧ CtK 1 Kf cn ∧ VV x.K x.C hp v ∧ ∃ sc, Cn x hp Kf p 1 sc
  | ((e + 2, _, _), _, sv, rc, hp, out, inp, _) => PW x sv rc hp out inp ∧ 0 < e ∧ e ≤ 6
section CR
variable (x : Cx) (G0 : SG) (φ : Nat → Nat) (b lo hi : Nat) (sv : Nat → Option Va) (rc : Nat → Va × Va) (hp : Nat → Option Ob) (out : List Nat) (inp : List Int) (cn : Nat → Int32)
/-- the class has this world -/
def CWd (G : SG) : Prop := SymC (G 1) x.sy x.nam sv φ ∧ RdC (G 2) rc x.rn x.rn x.ft φ x.K lo hi ∧ HpC (G 2 1) hp φ x.ent b (usum hp 168) ∧ G 2 0 8 = nI (usum hp 168) ∧ G 2 0 5 = nI b ∧ (b = 2048 ∨ b = 2048 + x.z) ∧ G 2 0 0 = nI x.z ∧ QuR 200 (G 6) (out.map nI) ∧ QuR 8 (G 5) (inp.map iI) ∧ G 2 0 10 = cn 0 ∧ G 2 0 9 = cn 1 ∧ G 4 0 4 = cn 2 ∧ G 4 0 5 = cn 3 ∧ (∀ o, o = 0 ∨ o = 3 ∨ o = 7 ∨ o = 8 → G o = G0 o) ∧ G 4 0 6 = G0 4 0 6 ∧ G 4 0 7 = G0 4 0 7
/-- the class within a run -/
def CG (LV LC LK : List Gw) (p : Nat) (G : SG) : Prop := CWd x G0 φ b lo hi sv rc hp out inp cn G ∧ StkR (G 9) (LV.map (gw φ)) ∧ StkR (G 10) (LC.map (gw φ)) ∧ StkR (G 11) (LK.map (gw φ)) ∧ G 4 0 0 = nI p ∧ G 4 0 1 = 0 ∧ G 4 0 2 = 0
/-- the class at a fault -/
def CE (e : Nat) (G : SG) : Prop := CWd x G0 φ b lo hi sv rc hp out inp cn G ∧ G 4 0 2 = nI e ∧ ∃ h9 h10 h11, G 9 0 0 = nI h9 ∧ G 10 0 0 = nI h10 ∧ G 11 0 0 = nI h11 ∧ h9 < 2000 ∧ h10 < 2000 ∧ h11 < 2000
end CR
abbrev gv (v : Va) : Gw := some (.inl v)
def CR (x : Cx) (G0 : SG) : As → SG → Prop
  | ((0, p, _), Kf, sv, rc, hp, out, inp, cn), G => ∃ φ b lo hi, CG x G0 φ b lo hi sv rc hp out inp cn ((cvl Kf).map gv) (ccl Kf) (cat Kf) p G
  | ((1, p, v), Kf, sv, rc, hp, out, inp, cn), G => ∃ φ b lo hi, CG x G0 φ b lo hi sv rc hp out inp cn (gv v :: (cvl Kf).map gv) (ccl Kf) (cat Kf) p G
  | ((e + 2, _, _), _, sv, rc, hp, out, inp, cn), G => ∃ φ b lo hi, CE x G0 φ b lo hi sv rc hp out inp cn e G
section MR
variable (x : Cx) (cv cf : Int32) (sv : Nat → Option Va) (rc : Nat → Va × Va) (hp : Nat → Option Ob) (out : List Nat) (inp : List Int) (cn : Nat → Int32)
/-- the reference has this world -/
def MW (g : St) (k : StL) : Prop := g 0 1 = nI x.z ∧ (∀ i, i < 31 → k 2 i = lN (nmL (OPTX.getD (i + 1) [])) ∧ g 4 i = FEWL.getD (i + 1) 0 ∧ g 5 i = (if MOSTL.getD (i + 1) 0 = 1000000 then 9999 else MOSTL.getD (i + 1) 0)) ∧ SymM (g 0 2) (g 1) (g 2) (g 3) (k 1) x.sy x.nam sv ∧ RdM g rc x.rn ∧ HpM g hp ∧ g 0 4 = nI (usum hp 168) ∧ g 0 7 = 0 ∧ g 0 8 = 0 ∧ (g 0 24 = nI out.length ∧ ∀ i, i < out.length → g 23 i = nI (out.getD i 0)) ∧ (g 0 25 = nI inp.length ∧ ∀ i, i < inp.length → g 24 i = iI (inp.getD i 0)) ∧ g 0 5 = cn 0 ∧ g 0 6 = cn 1 ∧ g 0 19 = cn 2 ∧ g 0 21 = cn 3 ∧ g 0 22 = cv ∧ g 0 23 = cf ∧ g 0 0 = 0
end MR
/-- the reference's frames -/
def FrM (g : St) : List Fr → Prop
  | [] => True
  | (op, i, rest, st, e, q, vs) :: K => g 15 K.length = nI (opR op) ∧ (op = 4 ∨ op = 5 → g 16 K.length = enc (vrd i 0)) ∧ g 17 K.length = enc (hdl rest) ∧ g 18 K.length = nI st ∧ g 19 K.length = nI (fe ((op, i, rest, st, e, q, vs) :: K)) ∧ g 20 K.length = nI (allv K).length ∧ FrM g K
def VlM (g : St) (l : List Va) : Prop := ∀ i, i < l.length → g 21 i = enc (l.getD (l.length - 1 - i) none)
def MK (Kf : List Fr) (g : St) : Prop := g 0 12 = nI Kf.length ∧ g 0 13 = nI (allv Kf).length ∧ g 0 20 = nI (ncal Kf) ∧ FrM g Kf ∧ VlM g (allv Kf) ∧ g 0 18 = 0
def MR (x : Cx) (cv cf : Int32) : As → St → StL → Prop
  | ((0, _, v), Kf, sv, rc, hp, out, inp, cn), g, k => MW x cv cf sv rc hp out inp cn g k ∧ MK Kf g ∧ g 0 14 = enc v ∧ g 0 15 = nI (fe Kf) ∧ g 0 17 = 0
  | ((1, _, v), Kf, sv, rc, hp, out, inp, cn), g, k => MW x cv cf sv rc hp out inp cn g k ∧ MK Kf g ∧ g 0 16 = enc v ∧ g 0 17 = 1
  | ((e + 2, _, _), _, sv, rc, hp, out, inp, cn), g, k => MW x cv cf sv rc hp out inp cn g k ∧ g 0 18 = nI e
/-- both sides go from A to A1 -/
def StC (x : Cx) (G0 : SG) (N : Nat) (A A1 : As) : Prop := ∀ (G : SG) (post : Int32 → SG → Prop) (n i : Nat), CR x G0 A G → 20000 ≤ n → i + 40 ≤ 1000000 → (∀ (G1 : SG) (n1 i1 : Nat), CR x G0 A1 G1 → n ≤ n1 + 40 → i1 ≤ i + 40 → V_X7_run_32 N post n1 (nI i1) G1) → V_X7_run_32 N post n (nI i) G
def StM (x : Cx) (cv cf : Int32) (A A1 : As) : Prop := ∀ (g : St) (k : StL) (post : Int32 → St → StL → Prop) (n : Nat), MR x cv cf A g k → 20000 ≤ n → (∀ (g1 : St) (k1 : StL), MR x cv cf A1 g1 k1 → V_X12_run_69 post n g1 k1) → V_X12_run_69 post (n + 1) g k
/-- how much is still to do -/
def mu : As → Nat
  | ((0, _, _), Kf, _, _, _, _, _, cn) => 3 * (1001 - (cn 2).toNatClampNeg) + Kf.length + 1
  | ((1, _, _), Kf, _, _, _, _, _, cn) => 3 * (1001 - (cn 2).toNatClampNeg) + Kf.length + 2
  | _ => 0
def Stq (x : Cx) (G0 : SG) (N : Nat) (cv cf : Int32) (A : As) : Prop := ∃ A1, PA x A1 ∧ mu A1 < mu A ∧ StC x G0 N A A1 ∧ StM x cv cf A A1
