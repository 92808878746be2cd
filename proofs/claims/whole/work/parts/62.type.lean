-- ===== type, but for a form that has closed =====
/-- the class's answer is the kind w of the last value -/
def CAns (w : Nat) (G : SG) : Prop := ∃ (h : Int) (sy : Nat), 1 < sy ∧ sy ≤ 40 ∧ G 1 0 0 = nI sy ∧ G 1 4 1 = wd w h ∧ w < 16 ∧ -134217728 ≤ h ∧ h < 134217728
section RS
variable (j N z sy : Nat) (nam : Nat → List Nat) (sv : Nat → Option Va) (rc : Nat → Va × Va) (rn ft : Nat) (K : Nat → Nat → Prop) (C : Nat → Prop) (lo hi : Nat) (hp : Nat → Option Ob) (φ : Nat → Nat) (b u : Nat) (ent : Nat → Nat) (tp : Nat) (out : List Nat) (inp : List Int) (bt : Nat) (cn : Nat → Int32)
/-- what holds of the machine's state apart from both sides -/
def RPur : Prop := j ≤ 64 ∧ 40 ≤ z ∧ z ≤ 167 ∧ NamOK sy nam ∧ (∀ s v, s < sy → sv s = some v → VV K C hp v) ∧ (∀ i x, K i x → ¬ C i → VV K C hp (rc i).1 ∧ VV K C hp (rc i).2) ∧ (∀ i, C i → i < rn ∧ (∀ s, (rc i).1 = vsym s → s < sy) ∧ ¬ made (rc i).1 ∧ ¬ made (rc i).2) ∧ (∀ i, i < rn → vok (rc i).1 ∧ vok (rc i).2) ∧ usum hp 168 = u ∧ u ≤ z ∧ (∀ x ∈ out, x < 65536) ∧ (∀ x ∈ inp, -32768 ≤ x ∧ x ≤ 32767) ∧ rn ≤ 2 * j ∧ bt ≤ 2 * j
/-- the class has this state -/
def RCls (G : SG) : Prop := N = 2048 + 2 * z ∧ G 0 0 0 = nI j ∧ G 2 0 0 = nI z ∧ SymC (G 1) sy nam sv φ ∧ RdC (G 2) rc rn rn ft φ K lo hi ∧ HpC (G 2 1) hp φ ent b u ∧ (∀ s o, hp s = some o → ObR rc nam K C (G 7 1) tp ent hp o) ∧ G 2 0 8 = nI u ∧ G 2 0 5 = nI b ∧ (b = 2048 ∨ b = 2048 + z) ∧ G 7 0 0 = nI tp ∧ tp ≤ 8 * bt ∧ G 3 0 1 = 0 ∧ G 3 0 0 = 0 ∧ QuR 200 (G 6) (out.map nI) ∧ QuR 8 (G 5) (inp.map iI) ∧ (G 2 0 10 = cn 0 ∧ G 2 0 9 = cn 1 ∧ G 4 0 4 = cn 2 ∧ G 4 0 5 = cn 3 ∧ G 4 0 6 = cn 4 ∧ G 4 0 7 = cn 5) ∧ StkR (G 9) [] ∧ StkR (G 10) [] ∧ StkR (G 11) [] ∧ ∃ h, h ≤ 12 ∧ G 8 0 0 = nI h
/-- the reference has it -/
def RMod (g : St) (k : StL) : Prop := g 0 1 = nI z ∧ (∀ i, i < 31 → k 2 i = lN (nmL (OPTX.getD (i + 1) [])) ∧ g 4 i = FEWL.getD (i + 1) 0 ∧ g 5 i = (if MOSTL.getD (i + 1) 0 = 1000000 then 9999 else MOSTL.getD (i + 1) 0)) ∧ SymM (g 0 2) (g 1) (g 2) (g 3) (k 1) sy nam sv ∧ RdM g rc rn ∧ HpM g hp ∧ g 0 4 = nI u ∧ g 0 7 = 0 ∧ g 0 8 = 0 ∧ (g 0 24 = nI out.length ∧ ∀ i, i < out.length → g 23 i = nI (out.getD i 0)) ∧ (g 0 25 = nI inp.length ∧ ∀ i, i < inp.length → g 24 i = iI (inp.getD i 0)) ∧ g 0 5 = cn 0 ∧ g 0 6 = cn 1 ∧ g 0 19 = cn 2 ∧ g 0 21 = cn 3 ∧ g 0 22 = cn 4 ∧ g 0 23 = cn 5 ∧ g 0 12 = 0 ∧ g 0 13 = 0
/-- a form has closed: its cells from fs to rn are kept, no part of a program yet -/
def RFrm (v : Va) (fs : Nat) : Prop := RdV rc sy 12 v fs rn ∧ (∃ ft0, ft0 ≤ fs ∧ ft = ft0 + (rn - fs) ∧ (∀ i, fs ≤ i → i < rn → K i (ft0 + (i - fs)) ∧ ¬ C i) ∧ NewO rc fs rn (fun i => ft0 + (i - fs)) ∧ ∀ i c, v = vrd i c → c = ft0 + (i - fs)) ∧ bt + (rn - fs) + 1 ≤ 2 * j
theorem Inv_of {G : SG} {g : St} {k : StL} {f : Nat → Int64} (hP : RPur j z sy nam sv rc rn K C hp u out inp bt) (hC : RCls j N z sy nam sv rc rn ft K C lo hi hp φ b u ent tp out inp bt cn G) (hM : RMod z sy nam sv rc rn hp u out inp cn g k) : Inv j N G g k f := by
  obtain ⟨p1, p2, p3, p4, p5, p6, p7, -, p8, p9, p10, p11, p12, p13⟩ := hP
  obtain ⟨c1, c2, c3, c4, c5, c6, c7, c8, c9, c10, c11, c12, c13, c14, c15, c16, ⟨d1, d2, d3, d4, d5, d6⟩, c18, c19, c20, c21⟩ := hC
  obtain ⟨m1, m2, m3, m4, m5, m6, m7, m8, m9, m10, e1, e2, e3, e4, e5, e6, e7, e8⟩ := hM
  exact ⟨z, sy, nam, sv, rc, rn, rn, ft, K, C, lo, hi, hp, φ, b, u, ent, tp, out, inp, [], [], bt, c1, p1, c2, ⟨m1, c3, p2, p3, m2⟩, ⟨m3, c4, p4, p5, m4, c5, p6, p7, m5, c6, p8, c7, m6, c8, p9, c9, c10, c11⟩, ⟨c13, m7, Nat.zero_le _, ⟨trivial, trivial⟩, ⟨rfl, fun i a b => absurd a (Nat.not_le_of_lt b)⟩, ⟨⟨c14, fun i hi => absurd hi (Nat.not_lt_zero _)⟩, ⟨m8, fun h => absurd rfl h⟩, Nat.zero_le _, fun x hx => (by cases hx)⟩, ⟨fun _ => rfl, trivial⟩, by simpa [nqs] using p12, by simpa [nqs] using p13, Nat.zero_le _⟩, c12, ⟨m9.1, m9.2, c15, p10, m10.1, m10.2, c16, p11⟩, ⟨e1.trans d1.symm, e2.trans d2.symm, e3.trans d3.symm, e4.trans d4.symm, e5.trans d5.symm, e6.trans d6.symm, e7, e8⟩, c18, c19, c20, c21⟩
end RS
/-- what was there before the form does not refer to it -/
def ROld (sy : Nat) (nam : Nat → List Nat) (sv : Nat → Option Va) (rc : Nat → Va × Va) (K : Nat → Nat → Prop) (C : Nat → Prop) (hp : Nat → Option Ob) (c : Nat → Int32) (tp : Nat) (ent : Nat → Nat) (fs : Nat) : Prop := ∃ K0 : Nat → Nat → Prop, (∀ i x, K0 i x → i < fs ∧ K i x) ∧ (∀ i x, K i x → i < fs → K0 i x) ∧ (∀ s w, s < sy → sv s = some w → VV K0 C hp w) ∧ (∀ i x, K0 i x → ¬ C i → VV K0 C hp (rc i).1 ∧ VV K0 C hp (rc i).2) ∧ ∀ s o, hp s = some o → ObR rc nam K0 C c tp ent hp o
/-- both sides run a form alike -/
def RunOK : Prop := ∀ (j N z sy : Nat) (nam : Nat → List Nat) (sv : Nat → Option Va) (rc : Nat → Va × Va) (rn ft : Nat) (K : Nat → Nat → Prop) (C : Nat → Prop) (lo hi : Nat) (hp : Nat → Option Ob) (φ : Nat → Nat) (b u : Nat) (ent : Nat → Nat) (tp : Nat) (out : List Nat) (inp : List Int) (bt : Nat) (cn : Nat → Int32) (v : Va) (fs : Nat) (G : SG),
  RPur j z sy nam sv rc rn K C hp u out inp bt → RCls j N z sy nam sv rc rn ft K C lo hi hp φ b u ent tp out inp bt cn G → RFrm j sy rc rn ft K C bt v fs → ROld sy nam sv rc K C hp (G 7 1) tp ent fs → ∀ n, 2000000 ≤ n → ∀ (post : Int32 → SG → Prop),
  (∀ e w G1, e ≤ 6 → (e = 0 → CAns w G1) → (∀ g k, RMod z sy nam sv rc rn hp u out inp cn g k → g 0 0 = 0 → ∀ n2, 2000000 ≤ n2 → ∀ (f : Nat → Int64) (postM : Int32 → St → StL → Prop), (∀ r2 g2 k2, g2 0 0 = nI e → (e = 0 → r2 = nI w) → Inv j N G1 g2 k2 f → postM r2 g2 k2) → V_X12_run n2 (enc v) g k postM) → post (nI e) G1) → V_X7_run N n (cw φ v) G post
theorem acN {v : Int32} (h : acZ v.toInt) : ∃ c, c < 128 ∧ v = nI c ∧ isAc c = true := by
  have hn : ¬ v < 0 := by
    rw [Int32.lt_iff_toInt_lt]
    unfold acZ at h
    show ¬ v.toInt < 0
    omega
  obtain ⟨c, hc, rfl⟩ := nI_of hn
  rw [nI_toInt hc] at h
  unfold acZ at h
  refine ⟨c, by omega, rfl, ?_⟩
  simp [isAc, isDg]
  omega
theorem nat_or {a b : Prop} (h : a ∨ b) : a ∨ b := h
theorem getD_snoc (l : List Nat) (x t : Nat) : (l ++ [x]).getD t 0 = if t = l.length then x else l.getD t 0 := by
  rw [List.getD_eq_getElem?_getD, List.getD_eq_getElem?_getD, List.getElem?_append]
  by_cases h : t < l.length
  · rw [if_pos h, if_neg (by omega)]
  · rw [if_neg h]
    by_cases e : t = l.length
    · subst e; rw [if_pos rfl, Nat.sub_self]; rfl
    · rw [if_neg e, List.getElem?_eq_none (by simp; omega), List.getElem?_eq_none (by omega)]
section TY
variable {j N : Nat} {G : SG} {g : St} {k : StL} {f : Nat → Int64} {v : Int32}
/-- neither readable -/
theorem ty_no (h : Inv j N G g k f) (hj : j < 64) (hv : ¬ (rdZ v.toInt ∨ acZ v.toInt)) : LT_type v N G g k f (fun G1 g1 k1 f1 => Inv (j + 1) N G1 g1 k1 f1) := by
  have hI := fun (x : Int32) (f1 : Nat → Int64) => h.tick (x := x) (f1 := f1) hj
  obtain ⟨z, sy, nam, sv, rc, rn, fs, ft, K, C, lo, hi, hp, φ, b, u, ent, tp, out, inp, lv, at1, bt, h1, h2, h3, h4, h5, h6, h7, h8, h9, h10, h11, h12, h13⟩ := h
  unfold LT_type V_X11_type
  refine ⟨0, ?_⟩
  refine c_worn (by omega) h3 ⟨fun _ => ?_, fun c => absurd rfl c⟩
  refine c_readable (fun c => absurd c hv) (fun _ => ⟨fun c => absurd rfl c, fun _ => ⟨0, rfl, ?_⟩⟩)
  unfold PP_type V_X12_type
  refine ⟨0, eqI ?_⟩
  refine r_atomic (fun c => absurd (Or.inr c) hv) (fun _ => ⟨fun _ => ?_, fun c => absurd rfl c⟩)
  have no : ∀ (n : Int32), rdZ n.toInt → ¬ v = n := fun n hn e => hv (Or.inl (by rw [e]; exact hn))
  refine ⟨fun c => absurd c (no 40 (Or.inl rfl)), fun _ => ⟨fun c => absurd c (no 41 (Or.inr (Or.inl rfl))), fun _ => ⟨fun c => absurd c (no 39 (Or.inr (Or.inr (Or.inl rfl)))), fun _ => ⟨fun c => absurd c (no 32 (Or.inr (Or.inr (Or.inr (Or.inl rfl))))), fun _ => ⟨fun c => absurd c (no 10 (Or.inr (Or.inr (Or.inr (Or.inr rfl))))), fun _ => ?_⟩⟩⟩⟩⟩
  refine r_raise ?_
  unfold V_X12_thrown
  exact ⟨rfl, fun c => absurd c (by decide), hI 1 _⟩
/-- a letter of an atom -/
theorem ty_ac (h : Inv j N G g k f) (hj : j < 64) (hv : acZ v.toInt) : LT_type v N G g k f (fun G1 g1 k1 f1 => Inv (j + 1) N G1 g1 k1 f1) := by
  have hI := fun (x : Int32) (f1 : Nat → Int64) => h.tick (x := x) (f1 := f1) hj
  obtain ⟨z, sy, nam, sv, rc, rn, fs, ft, K, C, lo, hi, hp, φ, b, u, ent, tp, out, inp, lv, at1, bt, h1, h2, h3, h4, h5, h6, h7, h8, h9, h10, h11, h12, h13⟩ := h
  obtain ⟨c, hc, rfl, hac⟩ := acN hv
  obtain ⟨a1, a2, a3, ⟨a4, a4'⟩, a5, ⟨a6, a6', a64, a6c⟩, ⟨a7, a7'⟩, a9, a10, a11⟩ := id h6
  unfold LT_type V_X11_type
  refine ⟨0, ?_⟩
  refine c_worn (by omega) h3 ⟨fun _ => ?_, fun c => absurd rfl c⟩
  refine c_readable (fun _ => ⟨fun _ => ?_, fun c => absurd c (by decide)⟩) (fun c => absurd (Or.inr hv) c)
  unfold V_X6_read
  refine c_ofAtom (fun _ => ⟨fun c => absurd c (by decide), fun _ => ?_⟩) (fun c => absurd hv c)
  by_cases hlv : lv = []
  · subst hlv
    unfold V_X6_addLetter
    have e1 : (uo G 0 (us (G 0) 0 (nI (j + 1)))) 3 0 1 = 0 := a1
    rw [e1]
    refine ⟨fun _ => ⟨fun _ => ⟨fun c => absurd rfl c, fun _ => ?_⟩, fun c => absurd c (by decide)⟩, fun c => absurd (Int32.le_refl 0) c⟩
    unfold PP_type V_X12_type
    refine ⟨0, eqI ?_⟩
    refine r_atomic (fun _ => ⟨fun c => absurd c (by decide), fun _ => ?_⟩) (fun c => absurd hv c)
    have e2 : (us g 0 0) 0 7 = 0 := a2
    rw [e2]
    refine ⟨fun _ => ?_, fun c => absurd (Int32.le_refl 0) c⟩
    unfold V_X12_thrown
    refine ⟨rfl, fun _ => by rw [updL0], hI 0 _⟩
  · have hpos : 0 < lv.length := List.length_pos_iff.mpr hlv
    refine c_letter (G := GT G j) a1 hpos a3 a6.1 (by omega) hc ?_
    refine ⟨fun _ => ⟨fun c => absurd rfl c, fun _ => ?_⟩, fun c => absurd c (by decide)⟩
    unfold PP_type V_X12_type
    refine ⟨0, eqI ?_⟩
    refine r_atomic (fun _ => ⟨fun c => absurd c (by decide), fun _ => ?_⟩) (fun c => absurd hv c)
    have e2 : (us g 0 0) 0 7 = nI lv.length := a2
    rw [e2]
    refine ⟨fun c => absurd c (nI_nle hpos (by omega)), fun _ => ?_⟩
    refine r_letter (g := us g 0 0) (at1 := at1) hc a6'.1 a6'.2 (fun a k1 hF e8 ek e11 e9 e10 => ?_)
    unfold V_X12_thrown
    have ea0 : a 0 0 = 0 := by rw [hF.2.1 0 (by decide) (by decide) (by decide) (by decide)]; rfl
    refine ⟨ea0, fun _ => by rw [updL0], ?_⟩
    have hne : at1 ++ [c] ≠ [] := by simp
    have hlen : (at1 ++ [c]).length = at1.length + 1 := by simp
    refine Inv_read h1 hj h4 h5 h7 h8 h9 h10 h11 h12 h13 (sy1 := sy) (nam1 := nam) (sv1 := sv) (rc1 := rc) (rn1 := rn) (fs1 := fs) (lv1 := lv) (at1 := at1 ++ [c]) ⟨fun o h0 h1 h2 h3 => ?_, rfl, h5.2.1, h5.2.2.2.2.2.1, fun _ _ => rfl, fun _ _ _ => rfl, a1, a4, ?_, fun i hi => ?_⟩ ⟨fun x h0 _ _ _ _ _ _ => ?_, fun i h0 h2 h3 h7 h8 h9 h10 h11 => ?_, hF.2.2 2 (by decide), ?_, ?_, ?_, ?_, e8, fun _ => ⟨ek, e9, e10, e11⟩⟩ h5.2.2.1 (Nat.le_refl _) (fun _ _ => rfl) (fun s w a b => ⟨a, b⟩) (fun _ _ => rfl) (Nat.le_refl _) ⟨a3, a5, by rw [hlen]; omega, fun x hx => ?_, ⟨fun e => absurd e hlv, a7'⟩, ?_, ?_, by rw [hlen]; omega⟩
    · rw [uoN h3]; exact uoN h0
    · show nI (at1.length + 1) = _
      rw [hlen]
    · show upd (G 3 1) at1.length (nI c) i = _
      rw [hlen] at hi
      rw [getD_snoc]
      by_cases e : i = at1.length
      · subst e; rw [updE, if_pos rfl]
      · rw [updN _ _ e, if_neg e]; exact a6.2 i (by omega)
    · rw [hF.1 x h0]; exact usZ h0
    · rw [hF.2.1 i h8 h9 h10 h11, us0, if_neg h0]
    · rw [hF.2.1 2 (by decide) (by decide) (by decide) (by decide), hF.1 1 (by decide), hF.1 2 (by decide), hF.1 3 (by decide), hF.2.2 1 (by decide)]
      exact h5.1
    · have hRd := h5.2.2.2.2.1
      refine ⟨?_, fun i hi => ?_⟩
      · rw [hF.2.1 3 (by decide) (by decide) (by decide) (by decide)]; exact hRd.1
      · rw [hF.1 6 (by decide), hF.1 7 (by decide)]; exact hRd.2 i hi
    · rw [hF.2.1 7 (by decide) (by decide) (by decide) (by decide)]; exact a2
    · rw [hF.1 12 (by decide), hF.1 13 (by decide), hF.1 14 (by decide)]; exact a4'
    · rcases List.mem_append.mp hx with hx | hx
      · exact a6c x hx
      · rw [List.mem_singleton] at hx; subst hx; exact hac
    · rw [if_neg hne]
      have : (if at1 = [] then 0 else 1) ≤ 1 := by split <;> omega
      omega
    · rw [if_neg hne]
      have : (if at1 = [] then 0 else 1) ≤ 1 := by split <;> omega
      omega
end TY
