-- ===== type: a character that ends an atom =====
theorem rdN {v : Int32} (h : rdZ v.toInt) : v = 40 ∨ v = 41 ∨ v = 39 ∨ v = 32 ∨ v = 10 := by
  rcases h with h | h | h | h | h
  · exact Or.inl (Int32.toInt_inj.mp h)
  · exact Or.inr (Or.inl (Int32.toInt_inj.mp h))
  · exact Or.inr (Or.inr (Or.inl (Int32.toInt_inj.mp h)))
  · exact Or.inr (Or.inr (Or.inr (Or.inl (Int32.toInt_inj.mp h))))
  · exact Or.inr (Or.inr (Or.inr (Or.inr (Int32.toInt_inj.mp h))))
theorem rd_nac {v : Int32} (h : rdZ v.toInt) : ¬ acZ v.toInt := by
  unfold rdZ at h
  unfold acZ
  omega
theorem r_go {v : Int32} {n : Nat} {g : St} {k : StL} {post : Int32 → St → StL → Prop} (hv : rdZ v.toInt) (h : V_X12_type_62 post n v (us g 0 0) k) : V_X12_type n v g k post := by
  unfold V_X12_type
  refine eqI (r_atomic (fun c => absurd c (rd_nac hv)) (fun _ => ⟨fun _ => ?_, fun c => absurd rfl c⟩))
  refine ⟨fun _ => h, fun n1 => ⟨fun _ => h, fun n2 => ⟨fun _ => h, fun n3 => ⟨fun _ => h, fun n4 => ⟨fun _ => h, fun n5 => ?_⟩⟩⟩⟩⟩
  rcases rdN hv with e | e | e | e | e
  · exact absurd e n1
  · exact absurd e n2
  · exact absurd e n3
  · exact absurd e n4
  · exact absurd e n5
section TY2
variable {j N : Nat} {G : SG} {g : St} {k : StL} {f : Nat → Int64} {v : Int32}
theorem NewR_of {h : St} {rc : Nat → Va × Va} {rn fs ft : Nat} {φ : Nat → Nat} {K : Nat → Nat → Prop} {lo hi : Nat} (h0 : RdC h rc rn fs ft φ K lo hi) : NewR rc fs rn := by
  obtain ⟨q1, q2, q3, q4, q5, q6, q7, q8, q9, q10, q11, q12, q13, q14⟩ := h0
  intro i a b
  refine ⟨fun c => ?_, fun c => ?_⟩
  · obtain ⟨x, hx, -⟩ := (q14 i b).1 c
    have := (q9 i x hx).1
    omega
  · obtain ⟨x, hx, -⟩ := (q14 i b).2 c
    have := (q9 i x hx).1
    omega
theorem Inv_rd0 {G1 : SG} {g1 : St} {k1 : StL} {f1 : Nat → Int64} {z sy : Nat} {nam : Nat → List Nat} {sv : Nat → Option Va} {rc : Nat → Va × Va} {rn fs ft : Nat} {K : Nat → Nat → Prop} {C : Nat → Prop} {lo hi : Nat} {hp : Nat → Option Ob} {φ : Nat → Nat} {b u : Nat} {ent : Nat → Nat} {tp : Nat} {out : List Nat} {inp : List Int} {bt : Nat}
    (h1 : N = 2048 + 2 * z) (hj : j < 64) (h4 : PCon G g k z) (h5 : PHp G g k z sy nam sv rc rn fs ft K C lo hi hp φ b u ent tp) (h7 : tp ≤ 8 * bt) (h8 : PIO G g out inp) (h9 : PCnt G g) (h10 : StkR (G 9) []) (h11 : StkR (G 10) []) (h12 : StkR (G 11) []) (h13 : ∃ h, h ≤ 12 ∧ G 8 0 0 = nI h)
    {sy1 : Nat} {nam1 : Nat → List Nat} {sv1 : Nat → Option Va} {rc1 : Nat → Va × Va} {rn1 fs1 : Nat} {lv1 : List (Bool × List Nat)}
    (hC : CFr G G1 j sy1 nam1 sv1 rc1 rn1 fs1 ft φ K lo hi lv1 []) (hM : MFr g g1 k k1 sy1 nam1 sv1 rc1 rn1 (fun i => ft + (i - fs1)) lv1 []) (hN : NamOK sy1 nam1) (hsy : sy ≤ sy1) (hnam : ∀ s, s < sy → nam1 s = nam s) (hsv : ∀ s v, s < sy1 → sv1 s = some v → s < sy ∧ sv s = some v) (hrc : ∀ i, i < fs → rc1 i = rc i) (hfs : fs ≤ fs1)
    (q1 : lv1.length ≤ 12) (q2 : LvO rc1 sy1 fs1 (fun i => ft + (i - fs1)) lv1 rn1) (q3 : outF lv1) (q4 : rn1 + nqs lv1 ≤ 2 * (j + 1)) (q5 : bt + (rn1 - fs1) + nqs lv1 ≤ 2 * (j + 1)) : Inv (j + 1) N G1 g1 k1 f1 :=
  Inv_read h1 hj h4 h5 h7 h8 h9 h10 h11 h12 h13 hC hM hN hsy hnam hsv hrc hfs ⟨q1, q2, Nat.zero_le _, fun x hx => (by cases hx), ⟨fun _ => rfl, q3⟩, by simpa using q4, by simpa using q5, Nat.zero_le _⟩
theorem LvO_e {rc : Nat → Va × Va} {sy fs : Nat} {o : Nat → Nat} : LvO rc sy fs o [] fs := ⟨rfl, fun i a b => absurd a (Nat.not_le_of_lt b)⟩
/-- a closed list was read -/
theorem RdV_hd {rc : Nat → Va × Va} {sy d lo hi : Nat} {o : Nat → Nat} {l : List Nat} (h1 : Lst rc (hdv o l) l) (h2 : Inc rc (RdV rc sy d) l lo hi) : RdV rc sy (d + 1) (hdv o l) lo hi := by
  cases l with
  | nil => exact Or.inl ⟨trivial, h2⟩
  | cons x l => exact Or.inr (Or.inl ⟨x :: l, by simp, h1, h2⟩)
/-- cells hold what lies in the same range -/
def cloV (sy lo hi : Nat) (v : Va) : Prop := atm sy v ∨ ∃ x c, v = vrd x c ∧ lo ≤ x ∧ x < hi
theorem cloV_w {sy lo hi lo1 hi1 : Nat} {v : Va} (h1 : lo1 ≤ lo) (h2 : hi ≤ hi1) (h : cloV sy lo hi v) : cloV sy lo1 hi1 v := by
  rcases h with h | ⟨x, c, h, a, b⟩
  · exact Or.inl h
  · exact Or.inr ⟨x, c, h, by omega, by omega⟩
theorem Inc_clo {rc : Nat → Va × Va} {sy : Nat} {F : Va → Nat → Nat → Prop} (hF : ∀ v a b, F v a b → a ≤ b) (hG : ∀ v a b, F v a b → (∀ i, a ≤ i → i < b → cloV sy a b (rc i).1 ∧ cloV sy a b (rc i).2) ∧ cloV sy a b v) : ∀ (l : List Nat) (lo hi : Nat) (v : Va), Inc rc F l lo hi → Lst rc v l → (∀ i, lo ≤ i → i < hi → cloV sy lo hi (rc i).1 ∧ cloV sy lo hi (rc i).2) ∧ cloV sy lo hi v
  | [], lo, hi, v, h, h2 => ⟨fun i a b => by have h : lo = hi := h; omega, Or.inl (by rw [show v = vnil from h2]; trivial)⟩
  | x :: l, lo, hi, v, h, h2 => by
    obtain ⟨⟨c, hv⟩, h2⟩ := h2
    obtain ⟨g1, g2⟩ := hG _ _ _ h.1
    have hle := hF _ _ _ h.1
    obtain ⟨i1, i2⟩ := Inc_clo hF hG l (x + 1) hi _ h.2 h2
    have hin := (Inc_in hF l (x + 1) hi h.2).1
    refine ⟨fun i a b => ?_, Or.inr ⟨x, c, hv, hle, by omega⟩⟩
    rcases Nat.lt_trichotomy i x with e | e | e
    · exact ⟨cloV_w (Nat.le_refl _) (by omega) (g1 i a e).1, cloV_w (Nat.le_refl _) (by omega) (g1 i a e).2⟩
    · subst e
      exact ⟨cloV_w (Nat.le_refl _) (by omega) g2, cloV_w (by omega) (Nat.le_refl _) i2⟩
    · exact ⟨cloV_w (by omega) (Nat.le_refl _) (i1 i e b).1, cloV_w (by omega) (Nat.le_refl _) (i1 i e b).2⟩
theorem RdV_clo {rc : Nat → Va × Va} {sy : Nat} (hsy : 3 ≤ sy) : ∀ (d : Nat) (v : Va) (lo hi : Nat), RdV rc sy d v lo hi → (∀ i, lo ≤ i → i < hi → cloV sy lo hi (rc i).1 ∧ cloV sy lo hi (rc i).2) ∧ cloV sy lo hi v
  | 0, v, lo, hi, h => ⟨fun i a b => by have := h.2; omega, Or.inl h.1⟩
  | d + 1, v, lo, hi, h => by
    rcases h with h | ⟨l, h1, h2, h3⟩ | ⟨n, c, h1, h2, h3, h4, h5⟩
    · exact ⟨fun i a b => by have := h.2; omega, Or.inl h.1⟩
    · exact Inc_clo (RdV_le d) (RdV_clo hsy d) l lo hi v h3 h2
    · have hle := RdV_le d _ _ _ h4
      obtain ⟨g1, g2⟩ := RdV_clo hsy d _ _ _ h4
      obtain ⟨⟨c2, k1⟩, k2⟩ := h3
      have k2 : (rc n).2 = vnil := k2
      refine ⟨fun i a b => ?_, Or.inr ⟨n + 1, c, h1, by omega, by omega⟩⟩
      by_cases e1 : i < n
      · exact ⟨cloV_w (Nat.le_refl _) (by omega) (g1 i a e1).1, cloV_w (Nat.le_refl _) (by omega) (g1 i a e1).2⟩
      · by_cases e2 : i = n
        · subst e2
          exact ⟨cloV_w (Nat.le_refl _) (by omega) g2, by rw [k2]; exact Or.inl trivial⟩
        · have e3 : i = n + 1 := by omega
          subst e3
          rw [h2, k1]
          exact ⟨Or.inl (show 2 < sy by omega), Or.inr ⟨n, c2, rfl, by omega, by omega⟩⟩
/-- the form is kept -/
theorem RdC_keep {h : St} {rc : Nat → Va × Va} {rn fs ft : Nat} {φ : Nat → Nat} {K : Nat → Nat → Prop} {lo hi : Nat} (h0 : RdC h rc rn fs ft φ K lo hi) : RdC (us h 2 (h 0 1)) rc rn rn (ft + (rn - fs)) φ (fun i x => K i x ∨ (fs ≤ i ∧ i < rn ∧ x = ft + (i - fs))) lo hi := by
  obtain ⟨q1, q2, q3, q4, q5, q6, q7, q8, q9, q10, q11, q12, q13, q14⟩ := h0
  refine ⟨?_, q1, q3, q4, q5, by omega, Nat.le_refl _, by omega, fun i x hi => ?_, fun i x y hx hy => ?_, fun i m x hx hy => ?_, fun x hx => ?_, fun i x hx => ?_, fun i hi => ?_⟩
  · show h 0 1 = _
    rw [q1, Nat.sub_self, Nat.add_zero]
  · rcases hi with hi | ⟨a, b, c⟩
    · have := q9 i x hi; omega
    · omega
  · rcases hx with hx | ⟨a, b, c⟩ <;> rcases hy with hy | ⟨a2, b2, c2⟩
    · exact q10 i x y hx hy
    · have := q9 i x hx; omega
    · have := q9 i y hy; omega
    · omega
  · rcases hx with hx | ⟨a, b, c⟩ <;> rcases hy with hy | ⟨a2, b2, c2⟩
    · exact q11 i m x hx hy
    · have := q9 i x hx; omega
    · have := q9 m x hy; omega
    · omega
  · by_cases e : x < ft
    · obtain ⟨i, hi⟩ := q12 x e
      exact ⟨i, Or.inl hi⟩
    · exact ⟨fs + (x - ft), Or.inr ⟨by omega, by omega, by omega⟩⟩
  · rcases hx with hx | hx
    · exact q13 i x hx
    · exact absurd hx.1 (by have := hx.2.1; omega)
  · obtain ⟨z1, z2⟩ := q14 i hi
    exact ⟨fun c => by obtain ⟨x, hx, r⟩ := z1 c; exact ⟨x, Or.inl hx, r⟩, fun c => by obtain ⟨x, hx, r⟩ := z2 c; exact ⟨x, Or.inl hx, r⟩⟩
theorem ty_rd (hR : RunOK) (h : Inv j N G g k f) (hj : j < 64) (hv : rdZ v.toInt) : LT_type v N G g k f (fun G1 g1 k1 f1 => Inv (j + 1) N G1 g1 k1 f1) := by
  obtain ⟨z, sy, nam, sv, rc, rn, fs, ft, K, C, lo, hi, hp, φ, b, u, ent, tp, out, inp, lv, at1, bt, h1, h2, h3, h4, h5, h6, h7, h8, h9, h10, h11, h12, h13⟩ := h
  obtain ⟨a1, a2, a3, ⟨a4, a4'⟩, a5, ⟨a6, a6', a64, a6c⟩, ⟨a7, a7'⟩, a9, a10, a11⟩ := id h6
  obtain ⟨p1, p2, p3, p4, p5, p6, p7, p8, p9, p10, p11, p12, p13, p14, p15, p16, p17, p18⟩ := id h5
  have hft : ft ≤ fs := p6.2.2.2.2.2.2.2.1
  have hNew := NewR_of p6
  obtain ⟨hfr, hi1⟩ := LvR_in lv rn a5.1
  have hz : 40 ≤ z ∧ z ≤ 167 := ⟨h4.2.2.1, h4.2.2.2.1⟩
  have hok : ∀ i, i < rn → vok (rc i).1 ∧ vok (rc i).2 := fun i hi => (p5.2 i hi).2.2
  have hat : (if at1 = [] then 0 else 1) ≤ 1 := by split <;> omega
  have hex : at1 ≠ [] → ∃ q l, (q, l) ∈ lv ∧ q = false := fun e => outF_ex lv a7' (fun c => e (a7 c))
  have hN1 : 2048 ≤ N := by omega
  have hN2 : N < 2 ^ 31 := by omega
  have rE := fun (post : Int32 → St → StL → Prop) => r_end (n := 2000000) (post := post) (by decide) p1 p3 (fun i hi => (h4.2.2.2.2 i hi).1) p5 a4' a2 a3 a6' a6c hex hft hfr (by omega) hi1 hNew
  unfold LT_type V_X11_type
  refine ⟨2000000, ?_⟩
  refine c_worn (by omega) h3 ⟨fun _ => ?_, fun c => absurd rfl c⟩
  refine c_readable (fun _ => ⟨fun _ => ?_, fun c => absurd c (by decide)⟩) (fun c => absurd (Or.inl hv) c)
  unfold V_X6_read
  refine c_ofAtom (fun c => absurd c (rd_nac hv)) (fun _ => ⟨fun _ => ?_, fun c => absurd rfl c⟩)
  refine c_end (lv := lv) (at1 := at1) (by decide) hN1 hN2 p2 p3 p6 a4 a1 a3 a6 a64 a6c (by omega) hi1 hNew hok (fun hE G1 hC => ?_) (fun q hE G1 hC => ?_)
  · refine ⟨fun c => absurd rfl c, fun _ => c_refuse hC (fun G2 hC2 => ⟨fun c => absurd rfl c, fun _ => ⟨0, rfl, 2000000, r_go hv ?_⟩⟩)⟩
    refine rE _ (fun _ g1 hM hz => ⟨fun c => absurd rfl c, fun _ => r_drop (fs1 := rn) hM (fun g2 hM2 hz2 => ⟨hz2, fun c => absurd c (by decide), ?_⟩)⟩) (fun q e => by rw [hE] at e; cases e)
    exact Inv_rd0 h1 hj h4 h5 h7 h8 h9 h10 h11 h12 h13 hC2 hM2 p3 (Nat.le_refl _) (fun _ _ => rfl) (fun s w a b => ⟨a, b⟩) (fun _ _ => rfl) hfr (Nat.zero_le _) LvO_e trivial (by simp [nqs]; omega) (by simp [nqs]; omega)
  · obtain ⟨e1, e2, e3, e4, e5, e6, e7, e8, e9, e10, e11, e12, e13⟩ := EA_pure hE p3 a6c hft hfr a3 (by omega) hi1 hNew hok a5 hex
    have eO := EA_out hE a7'
    obtain ⟨sy1, nam1, sv1, rc1, rn1, lv1⟩ := q
    dsimp only at hC e1 e2 e3 e4 e5 e6 e7 e8 e9 e10 e11 e12 e13 eO
    have rQ : ∀ (post : Int32 → St → StL → Prop), (∀ g1 k1, MFr g g1 k k1 sy1 nam1 sv1 rc1 rn1 (fun i => ft + (i - fs)) lv1 [] → g1 0 0 = 0 → ((v = 40 → V_X12_type_93 post 2000000 v g1 k1) ∧ (¬ v = 40 → ((¬ v = 39 → V_X12_type_148 post 2000000 v g1 k1) ∧ (v = 39 → ((g1 0 7 ≤ 0 → V_X12_type_148 post 2000000 v g1 k1) ∧ (¬ g1 0 7 ≤ 0 → V_X12_type_93 post 2000000 v g1 k1))))))) → V_X12_type 2000000 v g k post := by
      intro post hk
      refine r_go hv (rE _ (fun e => by rw [hE] at e; cases e) (fun q e g1 k1 hM hz => ?_))
      rw [hE] at e
      cases e
      exact ⟨fun _ => hk g1 k1 hM hz, fun c => absurd c (by decide)⟩
    have l12 : lv1.length ≤ 12 := by omega
    have iR := fun {G1 : SG} {g1 : St} {k1 : StL} {f1 : Nat → Int64} {rc2 : Nat → Va × Va} {rn2 fs2 : Nat} {lv2 : List (Bool × List Nat)} (hC2 : CFr G G1 j sy1 nam1 sv1 rc2 rn2 fs2 ft φ K lo hi lv2 []) (hM2 : MFr g g1 k k1 sy1 nam1 sv1 rc2 rn2 (fun i => ft + (i - fs2)) lv2 []) (hrc : ∀ i, i < fs → rc2 i = rc i) (hfs : fs ≤ fs2) => Inv_rd0 (f1 := f1) h1 hj h4 h5 h7 h8 h9 h10 h11 h12 h13 hC2 hM2 e1 e2 e3 e4 hrc hfs
    -- nothing more: the character only ended the atom
    have none1 : ∀ (f1 : Nat → Int64), f1 0 = (0 : Int32).toInt64 → (v = 39 → lv1 = []) → v ≠ 40 → v ≠ 41 → PP_type v g k (fun G1 g1 k1 f1 => Inv (j + 1) N G1 g1 k1 f1) 0 G1 f1 := by
      intro f1 hf1 hq n40 n41
      refine ⟨2000000, rQ _ (fun g1 k1 hM hz => ?_)⟩
      have h148 : ∀ post : Int32 → St → StL → Prop, post 0 g1 k1 → V_X12_type_148 post 2000000 v g1 k1 := fun post hp => by
        unfold V_X12_type_148
        exact ⟨fun c => absurd c n41, fun _ => hp⟩
      have hfin : V_X12_thrown g1 k1 (fun t1 g2 k2 => t1 = 0 ∧ ((0 : Int32) = 0 → f1 0 = (0 : Int32).toInt64) ∧ Inv (j + 1) N G1 g2 k2 f1) := ⟨hz, fun _ => hf1, iR hC hM e5 (Nat.le_refl _) l12 e7 eO (by omega) (by omega)⟩
      refine ⟨fun c => absurd c n40, fun _ => ⟨fun _ => h148 _ hfin, fun c => ⟨fun _ => h148 _ hfin, fun c2 => absurd ?_ c2⟩⟩⟩
      have := hM.2.2.2.2.2.1
      rw [this, hq c]
      exact Int32.le_refl _
    -- refused
    have no1 : ∀ (G2 : SG), CFr G G2 j sy1 nam1 sv1 rc1 rn1 rn1 ft φ K lo hi [] [] → (∀ (post : Int32 → St → StL → Prop), (∀ g2 k2, MFr g g2 k k2 sy1 nam1 sv1 rc1 rn1 (fun i => ft + (i - rn1)) [] [] → g2 0 0 = 1 → post 0 g2 k2) → V_X12_type 2000000 v g k post) → PP_type v g k (fun G1 g1 k1 f1 => Inv (j + 1) N G1 g1 k1 f1) (nI (0 + 1)) G2 f := by
      intro G2 hC2 hk
      refine ⟨2000000, hk _ (fun g2 k2 hM2 hz2 => ⟨hz2, fun c => absurd c (by decide), ?_⟩)⟩
      exact iR hC2 hM2 e5 e6 (Nat.zero_le _) LvO_e trivial (by simp [nqs]; omega) (by simp [nqs]; omega)
    have lt12 : ∀ x : Bool, nqs ((x, []) :: lv1) ≤ 2 + nqs lv1 := fun x => by cases x <;> simp [nqs] <;> omega
    -- opened
    have op1 : ∀ (q : Bool), (v = if q then 39 else 40) → (q = true → lv1 ≠ []) → ∀ (px : String → SG → Prop) (post : Int32 → SG → Prop), (∀ G2, PP_type v g k (fun G1 g1 k1 f1 => Inv (j + 1) N G1 g1 k1 f1) 0 G2 (vp_updL f 0 (0 : Int32).toInt64) → post 0 G2) → (∀ G2, PP_type v g k (fun G1 g1 k1 f1 => Inv (j + 1) N G1 g1 k1 f1) (nI (0 + 1)) G2 f → post 2 G2) → V_X6_openOne N (if q then 1 else 0) G1 post := by
      intro q hq hqe px post k1 k2
      have rQ2 : ∀ (post : Int32 → St → StL → Prop), (∀ g1 k1, MFr g g1 k k1 sy1 nam1 sv1 rc1 rn1 (fun i => ft + (i - fs)) lv1 [] → g1 0 0 = 0 → V_X12_type_93 post 2000000 v g1 k1) → V_X12_type 2000000 v g k post := by
        intro post hk
        refine rQ post (fun g1 k1 hM hz => ⟨fun _ => hk g1 k1 hM hz, fun n40 => ⟨fun n39 => ?_, fun _ => ⟨fun c => ?_, fun _ => hk g1 k1 hM hz⟩⟩⟩)
        · cases q with
          | true => exact absurd hq n39
          | false => exact absurd hq n40
        · have hm := hM.2.2.2.2.2.1
          rw [hm] at c
          cases q with
          | true => exact absurd c (nI_nle (List.length_pos_iff.mpr (hqe rfl)) (by omega))
          | false => exact absurd hq n40
      refine c_open hC l12 (fun hlt G2 hC2 => k1 G2 ?_) (fun h12 G2 hC2 => k2 G2 (no1 G2 hC2 (fun post hk => rQ2 post (fun g1 k1 hM hz => r_open hq hM hz l12 (fun c => absurd c (by omega)) (fun _ g2 hM2 hz2 => hk g2 k1 hM2 hz2)))))
      refine ⟨2000000, rQ2 _ (fun g1 k1 hM hz => r_open hq hM hz l12 (fun _ g2 hM2 hz2 => ⟨hz2, fun _ => by rw [updL0], ?_⟩) (fun c => absurd c (by omega)))⟩
      refine iR hC2 hM2 e5 (Nat.le_refl _) hlt ⟨⟨rn1, rfl, rfl, fun _ => rfl, e7.1⟩, e7.2⟩ (outF_cons eO (fun e => ?_)) ?_ ?_
      · cases q with
        | false => rfl
        | true => exact absurd e (hqe rfl)
      · have := lt12 q
        omega
      · have := lt12 q
        omega
    rcases rdN hv with rfl | rfl | rfl | rfl | rfl
    · refine ⟨fun _ => ⟨fun c => absurd c (by decide), fun _ => ?_, fun c => absurd c (by decide), fun _ c _ => absurd rfl c⟩, fun c => absurd c (by decide)⟩
      exact op1 false rfl (fun c => by cases c) (fun _ _ => True) _ (fun G2 h => ⟨fun _ => ⟨fun c => absurd rfl c, fun _ => h⟩, fun c => absurd c (by decide)⟩) (fun G2 h => ⟨fun c => absurd rfl c, fun _ => ⟨0, rfl, h⟩⟩)
    · by_cases hq : lv1 = [] ∨ ∃ l r, lv1 = (true, l) :: r
      · refine ⟨fun _ => ⟨fun c => absurd c (by decide), fun c => absurd c (by decide), fun _ => ?_, fun _ _ c => absurd rfl c⟩, fun c => absurd c (by decide)⟩
        exact c_closeNo hC l12 hq (fun G2 hC2 => ⟨fun c => absurd rfl c, fun _ => ⟨0, rfl, no1 G2 hC2 (fun post hk => rQ post (fun g1 k1 hM hz => ⟨fun c => absurd c (by decide), fun _ => ⟨fun _ => r_closeNo hM l12 hq (fun g2 hM2 hz2 => hk g2 k1 hM2 hz2), fun c => absurd c (by decide)⟩⟩))⟩⟩)
      · have hsh : ∃ l r, lv1 = (false, l) :: r := by
          rcases lv1 with _ | ⟨⟨_ | _, l⟩, r⟩
          · exact absurd (Or.inl rfl) hq
          · exact ⟨l, r, rfl⟩
          · exact absurd (Or.inr ⟨l, r, rfl⟩) hq
        obtain ⟨l, r, rfl⟩ := hsh
        obtain ⟨⟨lo1, L1, L2, L3, L4⟩, e7o⟩ := e7
        have hnq : nqs ((false, l) :: r) = 1 + nqs r := rfl
        rw [hnq] at e9
        have hlr : r.length + 1 ≤ 12 := l12
        have hi2 := e10 false l List.mem_cons_self
        have hi1r : ∀ q l, (q, l) ∈ r → ∀ x ∈ l, fs ≤ x ∧ x < rn1 := fun q l h => e10 q l (List.mem_cons_of_mem _ h)
        have hRd : RdV rc1 sy1 (12 - r.length) (hdv (fun i => ft + (i - fs)) l) lo1 rn1 := by
          rw [show 12 - r.length = 11 - r.length + 1 by omega]
          exact RdV_hd L1 L2
        refine ⟨fun _ => ⟨fun c => absurd c (by decide), fun c => absurd c (by decide), fun _ => ?_, fun _ _ c => absurd rfl c⟩, fun c => absurd c (by decide)⟩
        refine c_close hC (by decide) hN1 hN2 l12 (by omega) hi1r hi2 e11 e12 (fun hr G2 hC2 => ?_) (fun hr h2 h3 x2 x31 x30 x32 => ?_)
        · refine ⟨fun _ => ⟨fun c => absurd rfl c, fun _ => ⟨2000000, rQ _ (fun g1 k1 hM hz => ⟨fun c => absurd c (by decide), fun _ => ⟨fun _ => ?_, fun c => absurd c (by decide)⟩⟩)⟩⟩, fun c => absurd c (by decide)⟩
          refine r_close hM hz (by decide) l12 eO hft e6 (by omega) hi1r hi2 e11 (fun _ g2 hM2 hz2 => ⟨hz2, fun _ => by rw [updL0], ?_⟩) (fun c => absurd c hr)
          have hv0 : ¬ made (hdv (fun i => ft + (i - fs)) l) ∧ vok (hdv (fun i => ft + (i - fs)) l) := by
            cases l with
            | nil => exact ⟨fun h => h, trivial⟩
            | cons x l => exact ⟨fun h => h, by have := hi2 x List.mem_cons_self; exact ⟨by omega, by show ft + (x - fs) < 1024; omega⟩⟩
          obtain ⟨d1, d2, d3, d4, d5, d6, d7⟩ := addV_all (sy := sy1) e6 hft (by omega) hi1r hv0.1 hv0.2 e11 e12
          refine iR hC2 hM2 (fun i hi => (d1 i hi).trans (e5 i hi)) (Nat.le_refl _) (by omega) ⟨addV_R r rc1 rn1 _ lo1 L4 hRd (by omega) (outF_ex r (outF_tl eO) hr), addV_O e6 (by omega) hi1r (fun x c e => ?_) e7o⟩ (addV_out r _ _ _ (outF_tl eO)) (by omega) (by omega)
          cases l with
          | nil => cases e
          | cons y l => cases e; rfl
        · subst hr
          have hLo : fs = lo1 := L4
          subst hLo
          have hnq0 : nqs ([] : List (Bool × List Nat)) = 0 := rfl
          rw [hnq0] at e9
          obtain ⟨k1, k2, k3, k4, k5, k6, k7, k8, k9⟩ := hC
          have hKx : ∀ i x, K i x → i < fs := fun i x h => (p6.2.2.2.2.2.2.2.2.1 i x h).1
          have hVK : ∀ hp1 w, VV K C hp1 w → VV (fun i x => K i x ∨ (fs ≤ i ∧ i < rn1 ∧ x = ft + (i - fs))) C hp1 w := fun hp1 w hw => VV_K (fun i x a b => ⟨Or.inl a, b⟩) hw
          obtain ⟨cl1, cl2⟩ := RdV_clo e1.1 _ _ _ _ hRd
          have hnC : ∀ i, fs ≤ i → ¬ C i := fun i a c => by have := (p8 i c).1; omega
          have hVc : ∀ w, cloV sy1 fs rn1 w → (∀ x c, w = vrd x c → c = ft + (x - fs)) → VV (fun i x => K i x ∨ (fs ≤ i ∧ i < rn1 ∧ x = ft + (i - fs))) C hp w := by
            intro w hw hc
            rcases hw with hw | ⟨x, c, rfl, a, b⟩
            · rcases w with _ | w | w | w | w | w | w
              · trivial
              · exact hw
              · exact Nat.lt_of_lt_of_le hw e1.2.1
              · exact hw.elim
              · exact hw.elim
              · exact hw.elim
              · exact hw.elim
            · have := hc x c rfl
              exact ⟨Or.inr ⟨a, b, this⟩, hnC x a, by omega, by omega⟩
          have e7' : ∀ i, ¬ (i = 0 ∨ i = 1 ∨ i = 2 ∨ i = 3) → (uo (uo G1 2 h2) 3 h3) i = G i := fun i hi => by
            rw [uoN (by omega), uoN (by omega)]
            exact k1 i (by omega) (by omega) (by omega) (by omega)
          have hPur : RPur (j + 1) z sy1 nam1 sv1 rc1 rn1 (fun i x => K i x ∨ (fs ≤ i ∧ i < rn1 ∧ x = ft + (i - fs))) C hp u out inp bt := by
            refine ⟨by omega, hz.1, hz.2, e1, fun s w hs hw => hVK _ _ (p4 s w (e4 s w hs hw).1 (e4 s w hs hw).2), fun i x hx hc => ?_, fun i hi => ⟨by have := (p8 i hi).1; omega, fun s e => ?_, by rw [e5 i (p8 i hi).1]; exact (p8 i hi).2.2⟩, fun i hi => ?_, p11, p15, h8.2.2.2.1, h8.2.2.2.2.2.2.2, by omega, by omega⟩
            · rcases hx with hx | ⟨a, b, c⟩
              · rw [e5 i (hKx i x hx)]
                exact ⟨hVK _ _ (p7 i x hx hc).1, hVK _ _ (p7 i x hx hc).2⟩
              · exact ⟨hVc _ (cl1 i a b).1 (e7o i a b).1, hVc _ (cl1 i a b).2 (e7o i a b).2⟩
            · rw [e5 i (p8 i hi).1] at e
              exact Nat.lt_of_lt_of_le ((p8 i hi).2.1 s e) e2
            · rcases Nat.lt_or_ge i fs with hif | hif
              · have hq7 := p6.2.2.2.2.2.2.1
                rw [e5 i hif]
                exact (p5.2 i (by omega)).2.2
              · exact ⟨(hVc _ (cl1 i hif hi).1 (e7o i hif hi).1).ok, (hVc _ (cl1 i hif hi).2 (e7o i hif hi).2).ok⟩
          have hCls : RCls (j + 1) N z sy1 nam1 sv1 rc1 rn1 (ft + (rn1 - fs)) (fun i x => K i x ∨ (fs ≤ i ∧ i < rn1 ∧ x = ft + (i - fs))) C lo hi hp φ b u ent tp out inp bt (fun i => ([G 2 0 10, G 2 0 9, G 4 0 4, G 4 0 5, G 4 0 6, G 4 0 7] : List Int32).getD i 0) (uo (uo G1 2 h2) 3 h3) := by
            subst x2
            have q4 := e7' 4 (by omega)
            have q5 := e7' 5 (by omega)
            have q6 := e7' 6 (by omega)
            have q7 := e7' 7 (by omega)
            have q8 := e7' 8 (by omega)
            have q9 := e7' 9 (by omega)
            have q10 := e7' 10 (by omega)
            have q11 := e7' 11 (by omega)
            refine ⟨h1, k2, (k6 0 (by decide) (by decide)).trans h4.2.1, k3, RdC_keep k4, ?_, fun s o ho => ?_, (k6 8 (by decide) (by decide)).trans p14, (k6 5 (by decide) (by decide)).trans p16, p17, by rw [q7]; exact p18, h7, x31, x30, by rw [q6]; exact h8.2.2.1, by rw [q5]; exact h8.2.2.2.2.2.2.1, ⟨k6 10 (by decide) (by decide), k6 9 (by decide) (by decide), by rw [q4]; rfl, by rw [q4]; rfl, by rw [q4]; rfl, by rw [q4]; rfl⟩, by rw [q9]; exact h10, by rw [q10]; exact h11, by rw [q11]; exact h12, by rw [q8]; exact h13⟩
            · refine ⟨fun s o ho => ?_, p10.2⟩
              obtain ⟨y1, y2, y3, y4⟩ := p10.1 s o ho
              exact ⟨y1, y2, y3, fun i hi => (k5 _ (by rcases p17 with e | e <;> omega)).trans (y4 i hi)⟩
            · rw [q7]
              refine ObR_tr (Nat.le_refl _) (fun _ _ => rfl) (fun i hi => ⟨hi, e5 i (p8 i hi).1⟩) (fun i hi => ?_) (hVK _) (hVK _) (fun s p q l h => ⟨l, h, rfl⟩) o (p12 s o ho)
              cases hv : (rc i).1 with
              | none => rfl
              | some w =>
                rcases w with w | w | w
                · rfl
                · show opx (nam1 w) = opx (nam w)
                  rw [e3 w ((p8 i hi).2.1 w hv)]
                · rfl
          have hFrm : RFrm (j + 1) sy1 rc1 rn1 (ft + (rn1 - fs)) (fun i x => K i x ∨ (fs ≤ i ∧ i < rn1 ∧ x = ft + (i - fs))) C bt (hdv (fun i => ft + (i - fs)) l) fs := by
            refine ⟨hRd, ⟨ft, hft, rfl, fun i a b => ⟨Or.inr ⟨a, b, rfl⟩, hnC i a⟩, e7o, fun i c e => ?_⟩, by omega⟩
            cases l with
            | nil => cases e
            | cons y l => cases e; rfl
          have hOld : ROld sy1 nam1 sv1 rc1 (fun i x => K i x ∨ (fs ≤ i ∧ i < rn1 ∧ x = ft + (i - fs))) C hp ((uo (uo G1 2 h2) 3 h3) 7 1) tp ent fs := by
            refine ⟨K, fun i x h => ⟨hKx i x h, Or.inl h⟩, fun i x h hf => ?_, fun s w hs hw => p4 s w (e4 s w hs hw).1 (e4 s w hs hw).2, fun i x hx hc => by rw [e5 i (hKx i x hx)]; exact p7 i x hx hc, fun s o ho => ?_⟩
            · rcases h with h | ⟨a, -, -⟩
              · exact h
              · omega
            · rw [e7' 7 (by omega)]
              refine ObR_tr (Nat.le_refl _) (fun _ _ => rfl) (fun i hi => ⟨hi, e5 i (p8 i hi).1⟩) (fun i hi => ?_) (fun v h => h) (fun v h => h) (fun s p q l h => ⟨l, h, rfl⟩) o (p12 s o ho)
              cases hv : (rc i).1 with
              | none => rfl
              | some w =>
                rcases w with w | w | w
                · rfl
                · show opx (nam1 w) = opx (nam w)
                  rw [e3 w ((p8 i hi).2.1 w hv)]
                · rfl
          refine ⟨fun _ => ⟨fun _ => ?_, fun c => absurd c (by decide)⟩, fun c => absurd c (by decide)⟩
          rw [show (uo (uo G1 2 h2) 3 h3) 3 0 2 = cw φ (hdv (fun i => ft + (i - fs)) l) from x32]
          refine hR (j + 1) N z sy1 nam1 sv1 rc1 rn1 _ _ C lo hi hp φ b u ent tp out inp bt _ _ fs _ hPur hCls hFrm hOld 2000000 (Nat.le_refl _) _ (fun e w G3 he hA hM => ?_)
          have key : ∀ f1 : Nat → Int64, (e = 0 → f1 0 = (nI w).toInt64) → PP_type 41 g k (fun G1 g1 k1 f1 => Inv (j + 1) N G1 g1 k1 f1) (nI e) G3 f1 := by
            intro f1 hf
            refine ⟨2000000, rQ _ (fun g1 kk hMf hz1 => ⟨fun c => absurd c (by decide), fun _ => ⟨fun _ => ?_, fun c => absurd c (by decide)⟩⟩)⟩
            refine r_close hMf hz1 (by decide) l12 eO hft e6 (by omega) hi1r hi2 e11 (fun c => absurd rfl c) (fun _ => ?_)
            refine hM (us g1 7 0) kk ?_ hz1 2000000 (Nat.le_refl _) f1 _ (fun r2 g2 k2 z2 a2 inv => ⟨z2, fun c => ?_, inv⟩)
            · obtain ⟨m1, m2, m3, m4, m5, m6, m7, m8⟩ := hMf
              have r4 := m1 4 (by decide) (by decide) (by decide) (by decide) (by decide) (by decide) (by decide)
              have r5 := m1 5 (by decide) (by decide) (by decide) (by decide) (by decide) (by decide) (by decide)
              have r8 := m1 8 (by decide) (by decide) (by decide) (by decide) (by decide) (by decide) (by decide)
              have r9 := m1 9 (by decide) (by decide) (by decide) (by decide) (by decide) (by decide) (by decide)
              have r10 := m1 10 (by decide) (by decide) (by decide) (by decide) (by decide) (by decide) (by decide)
              have r23 := m1 23 (by decide) (by decide) (by decide) (by decide) (by decide) (by decide) (by decide)
              have r24 := m1 24 (by decide) (by decide) (by decide) (by decide) (by decide) (by decide) (by decide)
              have sc := fun i (h0 : i ≠ 0) (h2 : i ≠ 2) (h3 : i ≠ 3) (h7 : i ≠ 7) (h8 : i ≠ 8) (h9 : i ≠ 9) (h10 : i ≠ 10) (h11 : i ≠ 11) => m2 i h0 h2 h3 h7 h8 h9 h10 h11
              refine ⟨(m2 1 (by decide) (by decide) (by decide) (by decide) (by decide) (by decide) (by decide) (by decide)).trans h4.1, fun i hi => ?_, m4, m5, fun s hs => ?_, (m2 4 (by decide) (by decide) (by decide) (by decide) (by decide) (by decide) (by decide) (by decide)).trans p13, rfl, m8.1, ⟨(m2 24 (by decide) (by decide) (by decide) (by decide) (by decide) (by decide) (by decide) (by decide)).trans h8.1, fun i hi => ?_⟩, ⟨(m2 25 (by decide) (by decide) (by decide) (by decide) (by decide) (by decide) (by decide) (by decide)).trans h8.2.2.2.2.1, fun i hi => ?_⟩, (m2 5 (by decide) (by decide) (by decide) (by decide) (by decide) (by decide) (by decide) (by decide)).trans h9.1, (m2 6 (by decide) (by decide) (by decide) (by decide) (by decide) (by decide) (by decide) (by decide)).trans h9.2.1, (m2 19 (by decide) (by decide) (by decide) (by decide) (by decide) (by decide) (by decide) (by decide)).trans h9.2.2.1, (m2 21 (by decide) (by decide) (by decide) (by decide) (by decide) (by decide) (by decide) (by decide)).trans h9.2.2.2.1, (m2 22 (by decide) (by decide) (by decide) (by decide) (by decide) (by decide) (by decide) (by decide)).trans h9.2.2.2.2.1, (m2 23 (by decide) (by decide) (by decide) (by decide) (by decide) (by decide) (by decide) (by decide)).trans h9.2.2.2.2.2.1, (m2 12 (by decide) (by decide) (by decide) (by decide) (by decide) (by decide) (by decide) (by decide)).trans h9.2.2.2.2.2.2.1, (m2 13 (by decide) (by decide) (by decide) (by decide) (by decide) (by decide) (by decide) (by decide)).trans h9.2.2.2.2.2.2.2⟩
              · show kk 2 i = _ ∧ g1 4 i = _ ∧ g1 5 i = _
                rw [m3, r4, r5]; exact h4.2.2.2.2 i hi
              · show (_ → g1 8 s = 0) ∧ ∀ o, hp s = some o → g1 8 s = _ ∧ g1 9 s = _ ∧ ∀ i, i < (ofs o).length → g1 10 (8 * s + i) = _
                rw [r8, r9, r10]; exact p9 s hs
              · show g1 23 i = _
                rw [r23]; exact h8.2.1 i hi
              · show g1 24 i = _
                rw [r24]; exact h8.2.2.2.2.2.1 i hi
            · have e0 : e = 0 := nI_inj (b := 0) (by omega) (by decide) c
              rw [a2 e0]; exact hf e0
          have hcs : e = 0 ∨ e = 1 ∨ e = 2 ∨ e = 3 ∨ e = 4 ∨ e = 5 ∨ e = 6 := by omega
          unfold V_X11_raise
          rcases hcs with rfl | rfl | rfl | rfl | rfl | rfl | rfl
          · refine ⟨fun c => absurd c (by decide), fun c => absurd c (by decide), fun c => absurd c (by decide), fun c => absurd c (by decide), fun c => absurd c (by decide), fun c => absurd c (by decide), fun _ _ _ _ _ _ => ?_⟩
            obtain ⟨hh, syy, y1, y2, y3, y4, y5, y6, y7⟩ := hA rfl
            unfold V_X9_word
            refine c_has (s := 1) y3 y1 y2 ⟨fun c => absurd c (by decide), fun _ => ⟨vp_in_nI (n := 1) (by decide) (by decide), eqI ?_⟩⟩
            rw [show uo G3 1 (G3 1) = G3 from uo_id rfl, show G3 1 4 (1 : Int32).toNatClampNeg = wd w hh from y4]
            exact v_tag y5 y6 y7 (key _ (fun _ => by rw [updL0]))
          · exact ⟨fun _ => ⟨0, rfl, key f (fun c => absurd c (by decide))⟩, fun c => absurd c (by decide), fun c => absurd c (by decide), fun c => absurd c (by decide), fun c => absurd c (by decide), fun c => absurd c (by decide), fun c => absurd rfl c⟩
          · exact ⟨fun c => absurd c (by decide), fun _ => ⟨1, rfl, key f (fun c => absurd c (by decide))⟩, fun c => absurd c (by decide), fun c => absurd c (by decide), fun c => absurd c (by decide), fun c => absurd c (by decide), fun _ c => absurd rfl c⟩
          · exact ⟨fun c => absurd c (by decide), fun c => absurd c (by decide), fun _ => ⟨2, rfl, key f (fun c => absurd c (by decide))⟩, fun c => absurd c (by decide), fun c => absurd c (by decide), fun c => absurd c (by decide), fun _ _ c => absurd rfl c⟩
          · exact ⟨fun c => absurd c (by decide), fun c => absurd c (by decide), fun c => absurd c (by decide), fun _ => ⟨3, rfl, key f (fun c => absurd c (by decide))⟩, fun c => absurd c (by decide), fun c => absurd c (by decide), fun _ _ _ c => absurd rfl c⟩
          · exact ⟨fun c => absurd c (by decide), fun c => absurd c (by decide), fun c => absurd c (by decide), fun c => absurd c (by decide), fun _ => ⟨4, rfl, key f (fun c => absurd c (by decide))⟩, fun c => absurd c (by decide), fun _ _ _ _ c => absurd rfl c⟩
          · exact ⟨fun c => absurd c (by decide), fun c => absurd c (by decide), fun c => absurd c (by decide), fun c => absurd c (by decide), fun c => absurd c (by decide), fun _ => ⟨5, rfl, key f (fun c => absurd c (by decide))⟩, fun _ _ _ _ _ c => absurd rfl c⟩
    · refine ⟨fun _ => ⟨fun _ => ?_, fun c => absurd c (by decide), fun c => absurd c (by decide), fun c _ _ => absurd rfl c⟩, fun c => absurd c (by decide)⟩
      refine ⟨fun c => ?_, fun c => ?_⟩
      · refine op1 true rfl (fun _ e => c ?_) (fun _ _ => True) _ (fun G2 h => ⟨fun _ => ⟨fun c => absurd rfl c, fun _ => h⟩, fun c => absurd c (by decide)⟩) (fun G2 h => ⟨fun c => absurd rfl c, fun _ => ⟨0, rfl, h⟩⟩)
        rw [hC.2.2.2.2.2.2.1, e]; rfl
      · refine ⟨fun _ => ⟨fun c => absurd rfl c, fun _ => none1 _ (by rw [updL0]) (fun _ => ?_) (by decide) (by decide)⟩, fun c => absurd c (by decide)⟩
        have hm := hC.2.2.2.2.2.2.1
        rw [hm] at c
        exact List.length_eq_zero_iff.mp (nI_inj (b := 0) (by omega) (by decide) c)
    · exact ⟨fun _ => ⟨fun c => absurd c (by decide), fun c => absurd c (by decide), fun c => absurd c (by decide), fun _ _ _ => ⟨fun _ => ⟨fun c => absurd rfl c, fun _ => none1 _ (by rw [updL0]) (fun c => absurd c (by decide)) (by decide) (by decide)⟩, fun c => absurd c (by decide)⟩⟩, fun c => absurd c (by decide)⟩
    · exact ⟨fun _ => ⟨fun c => absurd c (by decide), fun c => absurd c (by decide), fun c => absurd c (by decide), fun _ _ _ => ⟨fun _ => ⟨fun c => absurd rfl c, fun _ => none1 _ (by rw [updL0]) (fun c => absurd c (by decide)) (by decide) (by decide)⟩, fun c => absurd c (by decide)⟩⟩, fun c => absurd c (by decide)⟩
end TY2
theorem l_type {j N : Nat} {G : SG} {g : St} {k : StL} {f : Nat → Int64} {v : Int32} (hR : RunOK) (h : Inv j N G g k f) (hj : j < 64) : LT_type v N G g k f (fun G1 g1 k1 f1 => Inv (j + 1) N G1 g1 k1 f1) := by
  by_cases h1 : rdZ v.toInt
  · exact ty_rd hR h hj h1
  · by_cases h2 : acZ v.toInt
    · exact ty_ac h hj h2
    · exact ty_no h hj (fun c => c.elim h1 h2)
