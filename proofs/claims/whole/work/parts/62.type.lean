-- ===== type, but for a form that has closed =====
/-- what a run says: a fault or a value, alike on both sides -/
def Ans (r r2 : Int32) (G1 : SG) (g2 : St) : Prop := ∃ e, e ≤ 6 ∧ r = nI e ∧ g2 0 0 = nI e ∧ (e = 0 → ∃ (w : Nat) (h : Int) (sy : Nat), 1 < sy ∧ sy ≤ 40 ∧ G1 1 0 0 = nI sy ∧ G1 1 4 1 = wd w h ∧ w < 16 ∧ -134217728 ≤ h ∧ h < 134217728 ∧ r2 = nI w)
/-- a form has closed: its cells from fs0 to rn are kept, no part of a program yet -/
def Ready (j N : Nat) (G : SG) (g : St) (k : StL) (v : Va) (φ : Nat → Nat) : Prop :=
  ∃ (z sy : Nat) (nam : Nat → List Nat) (sv : Nat → Option Va) (rc : Nat → Va × Va) (rn ft : Nat) (K : Nat → Nat → Prop) (C : Nat → Prop) (lo hi : Nat) (hp : Nat → Option Ob) (b u : Nat) (ent : Nat → Nat) (tp : Nat) (out : List Nat) (inp : List Int) (bt fs0 ft0 : Nat),
    N = 2048 + 2 * z ∧ j ≤ 64 ∧ G 0 0 0 = nI j ∧ PCon G g k z ∧ PHp G g k z sy nam sv rc rn rn ft K C lo hi hp φ b u ent tp ∧ PRd (G 3) g k rc sy rn rn ft φ [] [] bt j ∧ tp ≤ 8 * bt ∧ PIO G g out inp ∧ PCnt G g ∧ StkR (G 9) [] ∧ StkR (G 10) [] ∧ StkR (G 11) [] ∧ (∃ h, h ≤ 12 ∧ G 8 0 0 = nI h) ∧
    RdV rc sy 12 v fs0 rn ∧ fs0 ≤ rn ∧ ft0 ≤ fs0 ∧ ft = ft0 + (rn - fs0) ∧ (∀ i, fs0 ≤ i → i < rn → K i (ft0 + (i - fs0)) ∧ ¬ C i) ∧ (∀ i c, v = vrd i c → c = ft0 + (i - fs0)) ∧ bt + (rn - fs0) + 1 ≤ 2 * j ∧ g 0 0 = 0 ∧ (∀ i, fs0 ≤ i → i < rn → (∀ x c, (rc i).1 = vrd x c → c = ft0 + (x - fs0)) ∧ ∀ x c, (rc i).2 = vrd x c → c = ft0 + (x - fs0))
def RunOK : Prop := ∀ (j N : Nat) (G : SG) (g : St) (k : StL) (v : Va) (φ : Nat → Nat), Ready j N G g k v φ → ∀ n, 2000000 ≤ n → ∀ (post : Int32 → SG → Prop),
  (∀ r G1, (∀ n2, 2000000 ≤ n2 → ∀ (f : Nat → Int64) (postM : Int32 → St → StL → Prop), (∀ r2 g2 k2, Ans r r2 G1 g2 → Inv j N G1 g2 k2 f → postM r2 g2 k2) → V_X12_run n2 (enc v) g k postM) → post r G1) → V_X7_run N n (cw φ v) G post
theorem acN {v : Int32} (h : acZ v.toInt) : ∃ c, c < 128 ∧ v = nI c ∧ isAc c = true := by
  have hn : ¬ v < 0 := by
    rw [Int32.lt_iff_toInt_lt]
    unfold acZ at h
    show ¬ v.toInt < 0
    omega
  obtain ⟨c, hc, rfl⟩ := nI_of hn
  rw [nI_toInt hc] at h
  unfold acZ at h
  refine ⟨c, by omega, rfl, ?_⟩
  simp [isAc, isDg]
  omega
theorem nat_or {a b : Prop} (h : a ∨ b) : a ∨ b := h
theorem getD_snoc (l : List Nat) (x t : Nat) : (l ++ [x]).getD t 0 = if t = l.length then x else l.getD t 0 := by
  rw [List.getD_eq_getElem?_getD, List.getD_eq_getElem?_getD, List.getElem?_append]
  by_cases h : t < l.length
  · rw [if_pos h, if_neg (by omega)]
  · rw [if_neg h]
    by_cases e : t = l.length
    · subst e; rw [if_pos rfl, Nat.sub_self]; rfl
    · rw [if_neg e, List.getElem?_eq_none (by simp; omega), List.getElem?_eq_none (by omega)]
section TY
variable {j N : Nat} {G : SG} {g : St} {k : StL} {f : Nat → Int64} {v : Int32}
/-- neither readable -/
theorem ty_no (h : Inv j N G g k f) (hj : j < 64) (hv : ¬ (rdZ v.toInt ∨ acZ v.toInt)) : LT_type v N G g k f (fun G1 g1 k1 f1 => Inv (j + 1) N G1 g1 k1 f1) := by
  have hI := fun (x : Int32) (f1 : Nat → Int64) => h.tick (x := x) (f1 := f1) hj
  obtain ⟨z, sy, nam, sv, rc, rn, fs, ft, K, C, lo, hi, hp, φ, b, u, ent, tp, out, inp, lv, at1, bt, h1, h2, h3, h4, h5, h6, h7, h8, h9, h10, h11, h12, h13⟩ := h
  unfold LT_type V_X11_type
  refine ⟨0, ?_⟩
  refine c_worn (by omega) h3 ⟨fun _ => ?_, fun c => absurd rfl c⟩
  refine c_readable (fun c => absurd c hv) (fun _ => ⟨fun c => absurd rfl c, fun _ => ⟨0, rfl, ?_⟩⟩)
  unfold PP_type V_X12_type
  refine ⟨0, eqI ?_⟩
  refine r_atomic (fun c => absurd (Or.inr c) hv) (fun _ => ⟨fun _ => ?_, fun c => absurd rfl c⟩)
  have no : ∀ (n : Int32), rdZ n.toInt → ¬ v = n := fun n hn e => hv (Or.inl (by rw [e]; exact hn))
  refine ⟨fun c => absurd c (no 40 (Or.inl rfl)), fun _ => ⟨fun c => absurd c (no 41 (Or.inr (Or.inl rfl))), fun _ => ⟨fun c => absurd c (no 39 (Or.inr (Or.inr (Or.inl rfl)))), fun _ => ⟨fun c => absurd c (no 32 (Or.inr (Or.inr (Or.inr (Or.inl rfl))))), fun _ => ⟨fun c => absurd c (no 10 (Or.inr (Or.inr (Or.inr (Or.inr rfl))))), fun _ => ?_⟩⟩⟩⟩⟩
  refine r_raise ?_
  unfold V_X12_thrown
  exact ⟨rfl, fun c => absurd c (by decide), hI 1 _⟩
/-- a letter of an atom -/
theorem ty_ac (h : Inv j N G g k f) (hj : j < 64) (hv : acZ v.toInt) : LT_type v N G g k f (fun G1 g1 k1 f1 => Inv (j + 1) N G1 g1 k1 f1) := by
  have hI := fun (x : Int32) (f1 : Nat → Int64) => h.tick (x := x) (f1 := f1) hj
  obtain ⟨z, sy, nam, sv, rc, rn, fs, ft, K, C, lo, hi, hp, φ, b, u, ent, tp, out, inp, lv, at1, bt, h1, h2, h3, h4, h5, h6, h7, h8, h9, h10, h11, h12, h13⟩ := h
  obtain ⟨c, hc, rfl, hac⟩ := acN hv
  obtain ⟨a1, a2, a3, ⟨a4, a4'⟩, a5, ⟨a6, a6', a64, a6c⟩, ⟨a7, a7'⟩, a9, a10, a11⟩ := id h6
  unfold LT_type V_X11_type
  refine ⟨0, ?_⟩
  refine c_worn (by omega) h3 ⟨fun _ => ?_, fun c => absurd rfl c⟩
  refine c_readable (fun _ => ⟨fun _ => ?_, fun c => absurd c (by decide)⟩) (fun c => absurd (Or.inr hv) c)
  unfold V_X6_read
  refine c_ofAtom (fun _ => ⟨fun c => absurd c (by decide), fun _ => ?_⟩) (fun c => absurd hv c)
  by_cases hlv : lv = []
  · subst hlv
    unfold V_X6_addLetter
    have e1 : (uo G 0 (us (G 0) 0 (nI (j + 1)))) 3 0 1 = 0 := a1
    rw [e1]
    refine ⟨fun _ => ⟨fun _ => ⟨fun c => absurd rfl c, fun _ => ?_⟩, fun c => absurd c (by decide)⟩, fun c => absurd (Int32.le_refl 0) c⟩
    unfold PP_type V_X12_type
    refine ⟨0, eqI ?_⟩
    refine r_atomic (fun _ => ⟨fun c => absurd c (by decide), fun _ => ?_⟩) (fun c => absurd hv c)
    have e2 : (us g 0 0) 0 7 = 0 := a2
    rw [e2]
    refine ⟨fun _ => ?_, fun c => absurd (Int32.le_refl 0) c⟩
    unfold V_X12_thrown
    refine ⟨rfl, fun _ => by rw [updL0], hI 0 _⟩
  · have hpos : 0 < lv.length := List.length_pos_iff.mpr hlv
    refine c_letter (G := GT G j) a1 hpos a3 a6.1 (by omega) hc ?_
    refine ⟨fun _ => ⟨fun c => absurd rfl c, fun _ => ?_⟩, fun c => absurd c (by decide)⟩
    unfold PP_type V_X12_type
    refine ⟨0, eqI ?_⟩
    refine r_atomic (fun _ => ⟨fun c => absurd c (by decide), fun _ => ?_⟩) (fun c => absurd hv c)
    have e2 : (us g 0 0) 0 7 = nI lv.length := a2
    rw [e2]
    refine ⟨fun c => absurd c (nI_nle hpos (by omega)), fun _ => ?_⟩
    refine r_letter (g := us g 0 0) (at1 := at1) hc a6'.1 a6'.2 (fun a k1 hF e8 ek e11 e9 e10 => ?_)
    unfold V_X12_thrown
    have ea0 : a 0 0 = 0 := by rw [hF.2.1 0 (by decide) (by decide) (by decide) (by decide)]; rfl
    refine ⟨ea0, fun _ => by rw [updL0], ?_⟩
    have hne : at1 ++ [c] ≠ [] := by simp
    have hlen : (at1 ++ [c]).length = at1.length + 1 := by simp
    refine Inv_read h1 hj h4 h5 h7 h8 h9 h10 h11 h12 h13 (sy1 := sy) (nam1 := nam) (sv1 := sv) (rc1 := rc) (rn1 := rn) (fs1 := fs) (lv1 := lv) (at1 := at1 ++ [c]) ⟨fun o h0 h1 h2 h3 => ?_, rfl, h5.2.1, h5.2.2.2.2.2.1, fun _ _ => rfl, fun _ _ _ => rfl, a1, a4, ?_, fun i hi => ?_⟩ ⟨fun x h0 _ _ _ _ _ _ => ?_, fun i h0 h2 h3 h7 h8 h9 h10 h11 => ?_, hF.2.2 2 (by decide), ?_, ?_, ?_, ?_, e8, fun _ => ⟨ek, e9, e10, e11⟩⟩ h5.2.2.1 (Nat.le_refl _) (fun _ _ => rfl) (fun s w a b => ⟨a, b⟩) (fun _ _ => rfl) (Nat.le_refl _) ⟨a3, a5, by rw [hlen]; omega, fun x hx => ?_, ⟨fun e => absurd e hlv, a7'⟩, ?_, ?_, by rw [hlen]; omega⟩
    · rw [uoN h3]; exact uoN h0
    · show nI (at1.length + 1) = _
      rw [hlen]
    · show upd (G 3 1) at1.length (nI c) i = _
      rw [hlen] at hi
      rw [getD_snoc]
      by_cases e : i = at1.length
      · subst e; rw [updE, if_pos rfl]
      · rw [updN _ _ e, if_neg e]; exact a6.2 i (by omega)
    · rw [hF.1 x h0]; exact usZ h0
    · rw [hF.2.1 i h8 h9 h10 h11, us0, if_neg h0]
    · rw [hF.2.1 2 (by decide) (by decide) (by decide) (by decide), hF.1 1 (by decide), hF.1 2 (by decide), hF.1 3 (by decide), hF.2.2 1 (by decide)]
      exact h5.1
    · have hRd := h5.2.2.2.2.1
      refine ⟨?_, fun i hi => ?_⟩
      · rw [hF.2.1 3 (by decide) (by decide) (by decide) (by decide)]; exact hRd.1
      · rw [hF.1 6 (by decide), hF.1 7 (by decide)]; exact hRd.2 i hi
    · rw [hF.2.1 7 (by decide) (by decide) (by decide) (by decide)]; exact a2
    · rw [hF.1 12 (by decide), hF.1 13 (by decide), hF.1 14 (by decide)]; exact a4'
    · rcases List.mem_append.mp hx with hx | hx
      · exact a6c x hx
      · rw [List.mem_singleton] at hx; subst hx; exact hac
    · rw [if_neg hne]
      have : (if at1 = [] then 0 else 1) ≤ 1 := by split <;> omega
      omega
    · rw [if_neg hne]
      have : (if at1 = [] then 0 else 1) ≤ 1 := by split <;> omega
      omega
end TY
