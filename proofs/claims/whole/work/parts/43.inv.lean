-- ===== what holds between two calls =====
/-- a name as the reference keeps it -/
def nmL (l : List Nat) : Nat := l.foldl (fun a c => a * 128 + c) 0
def OPTX : List (List Nat) := [[], [113, 117, 111, 116, 101], [105, 102], [100, 111], [115, 101, 116], [119, 104, 105, 108, 101], [102, 110], [99, 97, 116, 99, 104], [116, 104, 114, 111, 119], [99, 97, 114], [99, 100, 114], [99, 111, 110, 115], [114, 99, 97], [114, 99, 100], [108, 105, 115, 116], [97, 116, 111, 109], [101, 113], [43], [45], [42], [47], [60], [97, 110, 100], [111, 114], [120, 111, 114], [115, 104], [118, 101, 99], [114, 101, 102], [112, 117, 116], [108, 101, 110], [112, 114, 105, 110, 116], [103, 101, 116]]
/-- what a name means at the head of a list: its number in the class; 0 for none -/
def opx (l : List Nat) : Nat := ((List.range 32).find? (fun i => decide (0 < i) && decide (OPTX.getD i [] = l))).getD 0
/-- the same in the reference -/
def opR (n : Nat) : Nat := if n = 0 then 31 else n - 1
def made : Va → Prop
  | none => False | some (.inl _) => False | some (.inr (.inl _)) => False | some (.inr (.inr (.inl _))) => False | some (.inr (.inr (.inr _))) => True
def SymM (n : Int32) (ops has val : Nat → Int32) (nms : Nat → Int64) (sy : Nat) (nam : Nat → List Nat) (sv : Nat → Option Va) : Prop :=
  n = nI sy ∧ (∀ s, s < sy → nms s = lN (nmL (nam s)) ∧ ops s = nI (opR (opx (nam s))) ∧ (sv s = none → has s = 0) ∧ (∀ v, sv s = some v → has s = 1 ∧ val s = enc v)) ∧ ∀ s, sy ≤ s → s < 40 → has s = 0 ∧ nms s = 0
def SymC (g : St) (sy : Nat) (nam : Nat → List Nat) (sv : Nat → Option Va) (φ : Nat → Nat) : Prop :=
  g 0 0 = nI sy ∧ (∀ s, s < sy → g 2 s = nI (nam s).length ∧ g 3 s = nI (opx (nam s)) ∧ (sv s = none → g 4 s = 0) ∧ (∀ v, sv s = some v → g 4 s = cw φ v) ∧ ∀ i, i < (nam s).length → g 1 (5 * s + i) = nI ((nam s).getD i 0)) ∧ ∀ s, sy ≤ s → s < 40 → g 4 s = 0 ∧ g 2 s = 0
def NamOK (sy : Nat) (nam : Nat → List Nat) : Prop :=
  3 ≤ sy ∧ sy ≤ 40 ∧ nam 0 = [116] ∧ nam 1 = [105, 116] ∧ nam 2 = [113, 117, 111, 116, 101] ∧ ∀ s, s < sy → (nam s).length ≤ 5 ∧ ∀ c ∈ nam s, 0 < c ∧ c < 128
/-- a proper list of read cells -/
def Lst (rc : Nat → Va × Va) : Va → List Nat → Prop
  | v, [] => v = vnil
  | v, i :: l => (∃ c, v = vrd i c) ∧ Lst rc (rc i).2 l
/-- a value that a program may hold: a read cell that is kept and no part of a program; an object of its kind -/
def VV (K : Nat → Nat → Prop) (C : Nat → Prop) (hp : Nat → Option Ob) : Va → Prop
  | none => True
  | some (.inl n) => -32768 ≤ n ∧ n ≤ 32767
  | some (.inr (.inl s)) => s < 40
  | some (.inr (.inr (.inl (i, c)))) => K i c ∧ ¬ C i ∧ i < 1100 ∧ c < 1024
  | some (.inr (.inr (.inr (.inl s)))) => s < 168 ∧ ∃ a d, hp s = some (ocel a d)
  | some (.inr (.inr (.inr (.inr (.inl s))))) => s < 168 ∧ ∃ l, hp s = some (ovec l)
  | some (.inr (.inr (.inr (.inr (.inr s))))) => s < 168 ∧ ∃ r e, hp s = some (oclo r e)
theorem VV.ok {K : Nat → Nat → Prop} {C : Nat → Prop} {hp : Nat → Option Ob} {v : Va} (h : VV K C hp v) : vok v := by
  rcases v with _ | v | v | ⟨v, v2⟩ | v | v | v <;> simp [VV, vok] at h ⊢ <;> first | exact h | exact h.2.2 | exact h.1 | trivial
/-- where a symbol stands in the frames around -/
def loc : List (List Nat) → Nat → Option Nat
  | [], _ => none
  | ps :: sc, s => match ps.findIdx? (fun x => x == s) with
    | some i => some i
    | none => (loc sc s).map (fun q => q + 4)
section CODE
variable (rc : Nat → Va × Va) (nam : Nat → List Nat) (K : Nat → Nat → Prop) (C : Nat → Prop) (c : Nat → Int32)
/-- a list's parts, each evaluated; F: one of them -/
def AtL (F : Va → Nat → Nat → Prop) : List Nat → Nat → Nat → Prop
  | [], p, q => p = q
  | i :: l, p, q => ∃ r, F (rc i).1 p r ∧ AtL F l r q
def AtR (F : Va → Nat → Nat → Prop) : List Nat → Nat → Nat → Prop
  | [], p, q => p = q
  | i :: l, p, q => c p = 7 ∧ ∃ r, F (rc i).1 (p + 1) r ∧ AtR F l r q
def AtB (F : Va → Nat → Nat → Prop) : List Nat → Nat → Nat → Prop
  | [], p, q => c p = 2 ∧ c (p + 1) = 1 ∧ q = p + 2
  | i :: l, p, q => ∃ r, F (rc i).1 p r ∧ AtR rc c F l r q
/-- a list of different symbols in cells of a program -/
def Par (q : Va) (ps : List Nat) : Prop := ∃ l, Lst rc q l ∧ (∀ i ∈ l, C i) ∧ l.map (fun i => (rc i).1) = ps.map vsym ∧ ps.length ≤ 4
/-- the head's meaning -/
def opV : Va → Nat
  | some (.inr (.inl s)) => opx (nam s)
  | _ => 0
/-- the code behind the step, by what the head means: i is the list's cell, l the cells of its parts -/
def AtO (ent : Nat → Nat) (F : List (List Nat) → Va → Nat → Nat → Prop) (sc : List (List Nat)) (i : Nat) (l : List Nat) (p q : Nat) : Nat → Prop
  | 0 => ∃ p1, l.length ≤ 4 ∧ AtL rc (F sc) (i :: l) (p + 1) p1 ∧ c p1 = 16 ∧ c (p1 + 1) = nI l.length ∧ q = p1 + 2
  | 1 => ∃ a, l = [a] ∧ c (p + 1) = 2 ∧ c (p + 2) = cw (fun _ => 0) (rc a).1 ∧ q = p + 3 ∧ VV K C (fun _ => none) (rc a).1
  | 2 => ∃ a b e p1 p2, l = a :: b :: e ∧ e.length ≤ 1 ∧ F sc (rc a).1 (p + 1) p1 ∧ c p1 = 9 ∧ c (p1 + 1) = nI (p2 + 2) ∧ F sc (rc b).1 (p1 + 2) p2 ∧ c p2 = 8 ∧ c (p2 + 1) = nI q ∧ AtB rc c (F sc) e (p2 + 2) q
  | 3 => AtB rc c (F sc) l (p + 1) q
  | 4 => ∃ a b s p1, l = [a, b] ∧ (rc a).1 = vsym s ∧ s < 40 ∧ F sc (rc b).1 (p + 1) p1 ∧ q = p1 + 2 ∧ (∀ pl, loc sc s = some pl → c p1 = 6 ∧ c (p1 + 1) = nI pl) ∧ (loc sc s = none → c p1 = 4 ∧ c (p1 + 1) = nI s)
  | 5 => ∃ a b p1 p2, l = a :: b ∧ F sc (rc a).1 (p + 1) p1 ∧ c p1 = 9 ∧ c (p1 + 1) = nI (p2 + 3) ∧ AtB rc c (F sc) b (p1 + 2) p2 ∧ c p2 = 7 ∧ c (p2 + 1) = 8 ∧ c (p2 + 2) = nI (p + 1) ∧ c (p2 + 3) = 2 ∧ c (p2 + 4) = 1 ∧ q = p2 + 5
  | 6 => ∃ a b ps p1, l = a :: b ∧ Par rc C (rc a).1 ps ∧ c (p + 1) = 10 ∧ c (p + 2) = nI q ∧ ent a = p + 3 ∧ c (p + 3) = nI ps.length ∧ AtB rc c (F (ps :: sc)) b (p + 4) p1 ∧ c p1 = 11 ∧ q = p1 + 1
  | 7 => ∃ a b p1 p2, l = a :: b ∧ F sc (rc a).1 (p + 1) p1 ∧ c p1 = 12 ∧ c (p1 + 1) = nI q ∧ AtB rc c (F sc) b (p1 + 2) p2 ∧ c p2 = 13 ∧ q = p2 + 1
  | 8 => ∃ p1, l.length = 2 ∧ AtL rc (F sc) l (p + 1) p1 ∧ c p1 = 14 ∧ q = p1 + 1
  | op => ∃ p1, FEWL.getD op 0 ≤ nI l.length ∧ nI l.length ≤ MOSTL.getD op 0 ∧ l.length ≤ 4 ∧ AtL rc (F sc) l (p + 1) p1 ∧ c p1 = 15 ∧ c (p1 + 1) = nI op ∧ c (p1 + 2) = nI l.length ∧ q = p1 + 3
/-- the code from p on to q is that of the form v, within frames that have the symbols sc -/
def AtE (ent : Nat → Nat) : Nat → List (List Nat) → Va → Nat → Nat → Prop
  | 0, _, _, _, _ => False
  | d + 1, sc, v, p, q => c p = 1 ∧ match v with
    | some (.inr (.inl s)) => q = p + 3 ∧ s < 40 ∧ (∀ pl, loc sc s = some pl → c (p + 1) = 5 ∧ c (p + 2) = nI pl) ∧ (loc sc s = none → c (p + 1) = 3 ∧ c (p + 2) = nI s)
    | some (.inr (.inr (.inl (i, _)))) => C i ∧ ∃ l, Lst rc (rc i).2 l ∧ (∀ x ∈ l, C x) ∧ AtO rc K C c ent (AtE ent d) sc i l p q (opV nam (rc i).1)
    | v => c (p + 1) = 2 ∧ c (p + 2) = cw (fun _ => 0) v ∧ q = p + 3 ∧ ¬ made v ∧ vok v
end CODE
/-- the frames around a body have its symbols -/
def EnvR (rc : Nat → Va × Va) (C : Nat → Prop) (hp : Nat → Option Ob) : Nat → List (List Nat) → Prop
  | e, [] => e = 0
  | e, ps :: sc => ∃ s p q l, e = s + 1 ∧ s < 168 ∧ hp s = some (ofrm p q l) ∧ Par rc C q ps ∧ l.length = ps.length ∧ EnvR rc C hp p sc
/-- a closure's body has its code, and its frame the symbols that the code was made for -/
def CloR (rc : Nat → Va × Va) (nam : Nat → List Nat) (K : Nat → Nat → Prop) (C : Nat → Prop) (c : Nat → Int32) (tp : Nat) (ent : Nat → Nat) (hp : Nat → Option Ob) (r e : Nat) : Prop :=
  ∃ d sc ps b p1, C r ∧ Par rc C (rc r).1 ps ∧ Lst rc (rc r).2 b ∧ (∀ x ∈ b, C x) ∧ c (ent r) = nI ps.length ∧ AtB rc c (AtE rc nam K C c ent d (ps :: sc)) b (ent r + 1) p1 ∧ c p1 = 11 ∧ p1 < tp ∧ EnvR rc C hp e sc ∧ sc.length + d ≤ 12 ∧ d ≤ 12
def ObR (rc : Nat → Va × Va) (nam : Nat → List Nat) (K : Nat → Nat → Prop) (C : Nat → Prop) (c : Nat → Int32) (tp : Nat) (ent : Nat → Nat) (hp : Nat → Option Ob) : Ob → Prop
  | .inl (a, d) => VV K C hp a ∧ VV K C hp d
  | .inr (.inl l) => l.length ≤ 7 ∧ ∀ v ∈ l, VV K C hp v
  | .inr (.inr (.inl (r, e))) => CloR rc nam K C c tp ent hp r e
  | .inr (.inr (.inr (p, q, l))) => l.length ≤ 4 ∧ (∀ v ∈ l, VV K C hp v) ∧ ∃ ps sc, Par rc C q ps ∧ l.length = ps.length ∧ EnvR rc C hp p sc ∧ sc.length ≤ 12
/-- all objects: in the reference's rows, in the class's words from b to b + u, apart from each other -/
def HpM (g : St) (hp : Nat → Option Ob) : Prop := ∀ s, s < 168 → (hp s = none → g 8 s = 0) ∧ ∀ o, hp s = some o → g 8 s = nI (osort o) ∧ g 9 s = nI (olen o) ∧ ∀ i, i < (ofs o).length → g 10 (8 * s + i) = (ofs o).getD i 0
def HpC (m : Nat → Int32) (hp : Nat → Option Ob) (φ ent : Nat → Nat) (b u : Nat) : Prop :=
  (∀ s o, hp s = some o → s < 168 ∧ b ≤ φ s ∧ φ s + olen o ≤ b + u ∧ ∀ i, i < olen o → m (φ s + i) = (ows φ ent o).getD i 0) ∧
  ∀ s o s1 o1, hp s = some o → hp s1 = some o1 → s ≠ s1 → φ s + olen o ≤ φ s1 ∨ φ s1 + olen o1 ≤ φ s
/-- the words of all objects in the slots below n -/
def usum (hp : Nat → Option Ob) : Nat → Nat
  | 0 => 0
  | n + 1 => usum hp n + (match hp n with | some o => olen o | none => 0)
/-- the read cells: in the reference's rows; those kept in the class's words -/
def RdM (g : St) (rc : Nat → Va × Va) (rn : Nat) : Prop := g 0 3 = nI rn ∧ ∀ i, i < rn → g 6 i = enc (rc i).1 ∧ g 7 i = enc (rc i).2 ∧ vok (rc i).1 ∧ vok (rc i).2
def RdC (h : St) (rc : Nat → Va × Va) (rn fs ft : Nat) (φ : Nat → Nat) (K : Nat → Nat → Prop) (lo hi : Nat) : Prop :=
  h 0 1 = nI (2 * (ft + (rn - fs))) ∧ h 0 2 = nI (2 * ft) ∧ h 0 3 = nI lo ∧ h 0 4 = nI hi ∧ lo ≤ 2048 ∧ hi ≤ 2 * ft ∧ fs ≤ rn ∧ ft ≤ fs ∧
  (∀ i x, K i x → i < fs ∧ x < ft) ∧ (∀ i x y, K i x → K i y → x = y) ∧ (∀ i k x, K i x → K k x → i = k) ∧ (∀ x, x < ft → ∃ i, K i x) ∧
  (∀ i x, (K i x ∨ (fs ≤ i ∧ i < rn ∧ x = ft + (i - fs))) → h 1 (2 * x) = cw φ (rc i).1 ∧ h 1 (2 * x + 1) = cw φ (rc i).2) ∧
  (∀ i, i < rn → (made (rc i).1 → ∃ x, K i x ∧ lo ≤ 2 * x ∧ 2 * x < hi) ∧ (made (rc i).2 → ∃ x, K i x ∧ lo ≤ 2 * x + 1 ∧ 2 * x + 1 < hi))
-- reading
def atm (sy : Nat) : Va → Prop
  | none => True | some (.inl n) => -32768 ≤ n ∧ n ≤ 32767 | some (.inr (.inl s)) => s < sy | some (.inr (.inr _)) => False
def Inc (rc : Nat → Va × Va) (F : Va → Nat → Nat → Prop) : List Nat → Nat → Nat → Prop
  | [], lo, hi => lo = hi
  | i :: l, lo, hi => F (rc i).1 lo i ∧ Inc rc F l (i + 1) hi
/-- what was read: the cells from lo to hi, so deep at most -/
def RdV (rc : Nat → Va × Va) (sy : Nat) : Nat → Va → Nat → Nat → Prop
  | 0, v, lo, hi => atm sy v ∧ lo = hi
  | d + 1, v, lo, hi => (atm sy v ∧ lo = hi) ∨ (∃ l, l ≠ [] ∧ Lst rc v l ∧ Inc rc (RdV rc sy d) l lo hi) ∨ (∃ n c, v = vrd (n + 1) c ∧ (rc (n + 1)).1 = vsym 2 ∧ Lst rc (rc (n + 1)).2 [n] ∧ RdV rc sy d (rc n).1 lo n ∧ n + 2 = hi)
def hdv (o : Nat → Nat) : List Nat → Va
  | [] => vnil
  | i :: _ => vrd i (o i)
def tlv (o : Nat → Nat) : List Nat → Va
  | [] => vnil
  | [i] => vrd i (o i)
  | _ :: j :: l => tlv o (j :: l)
/-- the open lists, the innermost first: each with its cells -/
def LvR (rc : Nat → Va × Va) (sy fs : Nat) (o : Nat → Nat) : List (Bool × List Nat) → Nat → Prop
  | [], hi => fs = hi
  | (q, l) :: r, hi => ∃ lo, Lst rc (hdv o l) l ∧ Inc rc (RdV rc sy (11 - r.length)) l lo hi ∧ (q = true → l = []) ∧ LvR rc sy fs o r lo
/-- where a read cell lies -/
def NewO (rc : Nat → Va × Va) (fs rn : Nat) (o : Nat → Nat) : Prop := ∀ i, fs ≤ i → i < rn → (∀ x c, (rc i).1 = vrd x c → c = o x) ∧ ∀ x c, (rc i).2 = vrd x c → c = o x
def LvO (rc : Nat → Va × Va) (sy fs : Nat) (o : Nat → Nat) (lv : List (Bool × List Nat)) (hi : Nat) : Prop := LvR rc sy fs o lv hi ∧ NewO rc fs hi o
def LvC (h2 h3 h4 : Nat → Int32) (φ o : Nat → Nat) : List (Bool × List Nat) → Prop
  | [] => True
  | (q, l) :: r => h2 r.length = (if q then 1 else 0) ∧ h3 r.length = cw φ (hdv o l) ∧ h4 r.length = cw φ (tlv o l) ∧ LvC h2 h3 h4 φ o r
def LvM (g12 g13 g14 : Nat → Int32) (o : Nat → Nat) : List (Bool × List Nat) → Prop
  | [] => True
  | (q, l) :: r => g12 r.length = (if q then 1 else 0) ∧ g13 r.length = enc (hdv o l) ∧ (l ≠ [] → g14 r.length = enc (tlv o l)) ∧ LvM g12 g13 g14 o r
def isDg (x : Nat) : Bool := decide (48 ≤ x) && decide (x ≤ 57)
/-- the letters of an atom that was begun -/
def dgs : List Nat → Bool
  | [] => true
  | x :: l => (isDg x || x == 45) && l.all isDg
def amt (l : List Nat) : Nat := l.foldl (fun a x => if isDg x && decide (a < 100000) then 10 * a + (x - 48) else a) 0
def isAc (x : Nat) : Bool := (decide (97 ≤ x) && decide (x ≤ 122)) || isDg x || x == 43 || x == 45 || x == 42 || x == 47 || x == 60
def AtC (h : St) (at1 : List Nat) : Prop := h 0 0 = nI at1.length ∧ ∀ i, i < at1.length → h 1 i = nI (at1.getD i 0)
def AtM (g : St) (k : StL) (at1 : List Nat) : Prop := g 0 8 = nI (min 6 at1.length) ∧
  (at1 ≠ [] → k 0 0 = lN (nmL (at1.take 6)) ∧ g 0 9 = (if dgs at1 then 1 else 0) ∧ g 0 10 = (if at1.head? = some 45 then 1 else 0) ∧ g 0 11 = nI (amt at1))
/-- outside there is no quote -/
def outF : List (Bool × List Nat) → Prop
  | [] => True
  | [(q, _)] => q = false
  | _ :: x :: r => outF (x :: r)
def nqs : List (Bool × List Nat) → Nat
  | [] => 0
  | (q, _) :: r => (if q then 2 else 1) + nqs r
def PRd (h3 g : St) (k : StL) (rc : Nat → Va × Va) (sy rn fs ft : Nat) (φ : Nat → Nat) (lv : List (Bool × List Nat)) (at1 : List Nat) (bt j : Nat) : Prop :=
  h3 0 1 = nI lv.length ∧ g 0 7 = nI lv.length ∧ lv.length ≤ 12 ∧ (LvC (h3 2) (h3 3) (h3 4) φ (fun i => ft + (i - fs)) lv ∧ LvM (g 12) (g 13) (g 14) (fun i => ft + (i - fs)) lv) ∧ LvO rc sy fs (fun i => ft + (i - fs)) lv rn ∧ (AtC h3 at1 ∧ AtM g k at1 ∧ at1.length ≤ 64 ∧ ∀ x ∈ at1, isAc x = true) ∧ ((lv = [] → at1 = []) ∧ outF lv) ∧
  rn + nqs lv + (if at1 = [] then 0 else 1) ≤ 2 * j ∧ bt + (rn - fs) + nqs lv + (if at1 = [] then 0 else 1) ≤ 2 * j ∧ at1.length ≤ j
def PIO (G : SG) (g : St) (out : List Nat) (inp : List Int) : Prop :=
  g 0 24 = nI out.length ∧ (∀ i, i < out.length → g 23 i = nI (out.getD i 0)) ∧ QuR 200 (G 6) (out.map nI) ∧ (∀ x ∈ out, x < 65536) ∧
  g 0 25 = nI inp.length ∧ (∀ i, i < inp.length → g 24 i = iI (inp.getD i 0)) ∧ QuR 8 (G 5) (inp.map iI) ∧ ∀ x ∈ inp, -32768 ≤ x ∧ x ≤ 32767
def PCnt (G : SG) (g : St) : Prop := g 0 5 = G 2 0 10 ∧ g 0 6 = G 2 0 9 ∧ g 0 19 = G 4 0 4 ∧ g 0 21 = G 4 0 5 ∧ g 0 22 = G 4 0 6 ∧ g 0 23 = G 4 0 7 ∧ g 0 12 = 0 ∧ g 0 13 = 0
/-- what never changes -/
def PCon (G : SG) (g : St) (k : StL) (z : Nat) : Prop := g 0 1 = nI z ∧ G 2 0 0 = nI z ∧ 40 ≤ z ∧ z ≤ 167 ∧ (∀ i, i < 31 → k 2 i = lN (nmL (OPTX.getD (i + 1) [])) ∧ g 4 i = FEWL.getD (i + 1) 0 ∧ g 5 i = (if MOSTL.getD (i + 1) 0 = 1000000 then 9999 else MOSTL.getD (i + 1) 0))
/-- heap, read cells, symbols, code: all that a run needs -/
def PHp (G : SG) (g : St) (k : StL) (z sy : Nat) (nam : Nat → List Nat) (sv : Nat → Option Va) (rc : Nat → Va × Va) (rn fs ft : Nat) (K : Nat → Nat → Prop) (C : Nat → Prop) (lo hi : Nat) (hp : Nat → Option Ob) (φ : Nat → Nat) (b u : Nat) (ent : Nat → Nat) (tp : Nat) : Prop :=
  SymM (g 0 2) (g 1) (g 2) (g 3) (k 1) sy nam sv ∧ SymC (G 1) sy nam sv φ ∧ NamOK sy nam ∧ (∀ s v, s < sy → sv s = some v → VV K C hp v) ∧
  RdM g rc rn ∧ RdC (G 2) rc rn fs ft φ K lo hi ∧ (∀ i x, K i x → ¬ C i → VV K C hp (rc i).1 ∧ VV K C hp (rc i).2) ∧ (∀ i, C i → i < fs ∧ (∀ s, (rc i).1 = vsym s → s < sy) ∧ ¬ made (rc i).1 ∧ ¬ made (rc i).2) ∧
  HpM g hp ∧ HpC (G 2 1) hp φ ent b u ∧ usum hp 168 = u ∧ (∀ s o, hp s = some o → ObR rc nam K C (G 7 1) tp ent hp o) ∧
  g 0 4 = nI u ∧ G 2 0 8 = nI u ∧ u ≤ z ∧ G 2 0 5 = nI b ∧ (b = 2048 ∨ b = 2048 + z) ∧ G 7 0 0 = nI tp
def Inv (j N : Nat) (G : SG) (g : St) (k : StL) (_ : Nat → Int64) : Prop :=
  ∃ (z sy : Nat) (nam : Nat → List Nat) (sv : Nat → Option Va) (rc : Nat → Va × Va) (rn fs ft : Nat) (K : Nat → Nat → Prop) (C : Nat → Prop) (lo hi : Nat) (hp : Nat → Option Ob) (φ : Nat → Nat) (b u : Nat) (ent : Nat → Nat) (tp : Nat) (out : List Nat) (inp : List Int) (lv : List (Bool × List Nat)) (at1 : List Nat) (bt : Nat),
    N = 2048 + 2 * z ∧ j ≤ 64 ∧ G 0 0 0 = nI j ∧ PCon G g k z ∧ PHp G g k z sy nam sv rc rn fs ft K C lo hi hp φ b u ent tp ∧ PRd (G 3) g k rc sy rn fs ft φ lv at1 bt j ∧ tp ≤ 8 * bt ∧ PIO G g out inp ∧ PCnt G g ∧ StkR (G 9) [] ∧ StkR (G 10) [] ∧ StkR (G 11) [] ∧ ∃ h, h ≤ 12 ∧ G 8 0 0 = nI h
