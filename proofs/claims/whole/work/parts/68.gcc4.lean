section GC4
variable {N z tg b u : Nat} {hp : Nat → Option Ob} {φ ent : Nat → Nat} {P : Nat → Prop}
theorem psi_lift {q1 q : List Nat} {x : Gw} {w : Int32} (h : (∀ s, gref x = some s → s ∈ q1) ∧ w = gw (psi tg hp q1) x) (hq : ∃ r, q = q1 ++ r) : (∀ s, gref x = some s → s ∈ q) ∧ w = gw (psi tg hp q) x := by
  obtain ⟨r, rfl⟩ := hq
  refine ⟨fun s hs => by simp [h.1 s hs], ?_⟩
  rw [h.2]
  exact gw_ext (fun s hs => (psi_app (h.1 s hs)).symm)
theorem MG_start {h : St} (h0 : h 0 0 = nI z) (h6 : h 0 6 = nI tg) (h7 : h 0 7 = 0) (hm : ∀ s o, hp s = some o → ∀ i, i < olen o → h 1 (φ s + i) = gw φ ((ogs ent o).getD i none)) : MG z tg hp φ ent P h [] 0 :=
  ⟨h0, h6, h7, List.nodup_nil, fun s hs => (by cases hs), fun s o ho _ i hi => hm s o ho i hi, fun s hs => (by cases hs), fun s o hs => (by cases hs)⟩
/-- what a collection comes to -/
def GRes (z tg : Nat) (hp : Nat → Option Ob) (ent : Nat → Nat) (P : Nat → Prop) (lo hi sy lv lc lk : Nat) (xr xw xv xc xk : Nat → Gw) (G G1 : SG) (q : List Nat) : Prop :=
  (q.Nodup ∧ ∀ s ∈ q, s < 168 ∧ P s ∧ hp s ≠ none) ∧ (∀ s o, s ∈ q → hp s = some o → ∀ i, i < olen o → (∀ t, gref ((ogs ent o).getD i none) = some t → t ∈ q) ∧ G1 2 1 (psi tg hp q s + i) = gw (psi tg hp q) ((ogs ent o).getD i none)) ∧
  (∀ t, lo ≤ t → t < hi → (∀ s, gref (xr t) = some s → s ∈ q) ∧ G1 2 1 t = gw (psi tg hp q) (xr t)) ∧ (∀ t, t < 2048 → ¬ (lo ≤ t ∧ t < hi) → G1 2 1 t = G 2 1 t) ∧
  (∀ t, t < sy → (∀ s, gref (xw t) = some s → s ∈ q) ∧ G1 1 4 t = gw (psi tg hp q) (xw t)) ∧ (∀ t, sy ≤ t → G1 1 4 t = G 1 4 t) ∧ (∀ c, c ≠ 4 → G1 1 c = G 1 c) ∧
  (G1 9 0 = G 9 0 ∧ ∀ t, t < lv → (∀ s, gref (xv t) = some s → s ∈ q) ∧ G1 9 1 t = gw (psi tg hp q) (xv t)) ∧ (G1 10 0 = G 10 0 ∧ ∀ t, t < lc → (∀ s, gref (xc t) = some s → s ∈ q) ∧ G1 10 1 t = gw (psi tg hp q) (xc t)) ∧ (G1 11 0 = G 11 0 ∧ ∀ t, t < lk → (∀ s, gref (xk t) = some s → s ∈ q) ∧ G1 11 1 t = gw (psi tg hp q) (xk t)) ∧
  (G1 2 0 5 = nI tg ∧ G1 2 0 8 = nI (lenQ hp q) ∧ G1 2 0 9 = nI (lenQ hp q) ∧ G1 2 0 10 = G 2 0 10 + 1 ∧ ∀ i, i < 5 → G1 2 0 i = G 2 0 i) ∧ ∀ o, o ≠ 1 → o ≠ 2 → o ≠ 9 → o ≠ 10 → o ≠ 11 → G1 o = G o
theorem mxN {h : St} {c e : Nat} {f : Nat → Int32} (hc : c ≠ e) : mx h e f c = h c := by
  show cond (Nat.beq c e) f (h c) = h c
  cases x : Nat.beq c e with
  | true => exact absurd (Nat.eq_of_beq_eq_true x) hc
  | false => rfl
set_option maxHeartbeats 1000000 in
theorem c_keep {G : SG} {n lo hi sy lv lc lk : Nat} {xr xw xv xc xk : Nat → Gw} {post : SG → Prop} (hG : GSt z tg b u hp φ ent P) (hN : N = 2048 + 2 * z) (hn : 5000 ≤ n) (h0 : G 2 0 0 = nI z) (h5 : G 2 0 5 = nI b) (h3 : G 2 0 3 = nI lo) (h4 : G 2 0 4 = nI hi) (hlo : lo ≤ 2048) (hhi : hi ≤ 2048) (hm : ∀ s o, hp s = some o → ∀ i, i < olen o → G 2 1 (φ s + i) = gw φ ((ogs ent o).getD i none))
    (hw0 : G 1 0 0 = nI sy) (hwl : sy ≤ 40) (hw : ∀ t, t < sy → G 1 4 t = gw φ (xw t) ∧ gok hp (xw t) ∧ ∀ s, gref (xw t) = some s → P s) (hv0 : G 9 0 0 = nI lv) (hvl : lv ≤ 1550) (hv : ∀ t, t < lv → G 9 1 t = gw φ (xv t) ∧ gok hp (xv t) ∧ ∀ s, gref (xv t) = some s → P s) (hc0 : G 10 0 0 = nI lc) (hcl : lc ≤ 60) (hc : ∀ t, t < lc → G 10 1 t = gw φ (xc t) ∧ gok hp (xc t) ∧ ∀ s, gref (xc t) = some s → P s) (hk0 : G 11 0 0 = nI lk) (hkl : lk ≤ 1488) (hk : ∀ t, t < lk → G 11 1 t = gw φ (xk t) ∧ gok hp (xk t) ∧ ∀ s, gref (xk t) = some s → P s)
    (hr : ∀ t, lo ≤ t → t < hi → G 2 1 t = gw φ (xr t) ∧ gok hp (xr t) ∧ ∀ s, gref (xr t) = some s → P s) (kk : ∀ G1 q, GRes z tg hp ent P lo hi sy lv lc lk xr xw xv xc xk G G1 q → post G1) : V_X7_keepLive N n G post := by
  obtain ⟨g1, g2, g3, g4, g5, g6, g7, g8, g9, g10⟩ := id hG
  unfold V_X7_keepLive
  have main : ∀ h : St, h = us (us (G 2) 6 (nI tg)) 7 0 → ∀ g_2 : SG, g_2 = uo G 2 h → V_X2_moveRow N 40 n (g_2 1 0 0) (mx (g_2 2) 2 (g_2 1 4)) (fun u_6 => ∀ g_5 : SG, g_5 = uo (uo g_2 2 u_6) 1 (mx (g_2 1) 4 (u_6 2)) → V_X2_moveRow N 1550 n (g_5 9 0 0) (mx (g_5 2) 2 (g_5 9 1)) (fun u_9 => ∀ g_8 : SG, g_8 = uo (uo g_5 2 u_9) 9 (mx (g_5 9) 1 (u_9 2)) → V_X2_moveRow N 60 n (g_8 10 0 0) (mx (g_8 2) 2 (g_8 10 1)) (fun u_12 => ∀ g_11 : SG, g_11 = uo (uo g_8 2 u_12) 10 (mx (g_8 10) 1 (u_12 2)) → V_X2_moveRow N 1488 n (g_11 11 0 0) (mx (g_11 2) 2 (g_11 11 1)) (fun u_15 => ∀ g_14 : SG, g_14 = uo (uo g_11 2 u_15) 11 (mx (g_11 11) 1 (u_15 2)) → V_X2_endMove N n (g_14 2) (fun u_18 => ∀ g_17 : SG, g_17 = uo g_14 2 u_18 → post g_17))))) := by
    intro h eh
    refine eqI ?_
    have M0 : MG z tg hp φ ent P h [] 0 := by
      subst eh
      exact MG_start h0 rfl rfl hm
    unfold V_X2_moveRow
    refine eqI ?_
    rw [show (uo G 2 h) 1 0 0 = nI sy from hw0]
    refine c_row (xs := xw) (len := sy) (L := 40) (r0 := G 1 4) (h0 := mx h 2 (G 1 4)) (q0 := []) hG hN hwl (by decide) (fun t ht => (hw t ht).2.1) (fun t ht => (hw t ht).2.2) (fun a1 q1 A1 B1 C1 D1 E1 F1 I1 => ?_) n 0 _ [] (by omega) (Nat.zero_le _) M0 ⟨[], rfl⟩ (fun t c => absurd c (Nat.not_lt_zero _)) (fun t _ ht => (hw t ht).1) (fun t _ => rfl) (fun _ _ _ _ => rfl) (fun _ _ => rfl) (fun _ _ => rfl)
    refine eqI (eqI ?_)
    rw [show (uo (uo (uo G 2 h) 2 a1) 1 (mx ((uo G 2 h) 1) 4 (a1 2))) 9 0 0 = nI lv from hv0]
    refine c_row (xs := xv) (len := lv) (L := 1550) (r0 := G 9 1) (h0 := mx a1 2 (G 9 1)) (q0 := q1) hG hN hvl (by decide) (fun t ht => (hv t ht).2.1) (fun t ht => (hv t ht).2.2) (fun a2 q2 A2 B2 C2 D2 E2 F2 I2 => ?_) n 0 _ q1 (by omega) (Nat.zero_le _) A1 ⟨[], by simp⟩ (fun t c => absurd c (Nat.not_lt_zero _)) (fun t _ ht => (hv t ht).1) (fun t _ => rfl) (fun _ _ _ _ => rfl) (fun _ _ => rfl) (fun _ _ => rfl)
    refine eqI (eqI ?_)
    rw [show (uo (uo (uo (uo (uo G 2 h) 2 a1) 1 (mx ((uo G 2 h) 1) 4 (a1 2))) 2 a2) 9 (mx ((uo (uo (uo G 2 h) 2 a1) 1 (mx ((uo G 2 h) 1) 4 (a1 2))) 9) 1 (a2 2))) 10 0 0 = nI lc from hc0]
    refine c_row (xs := xc) (len := lc) (L := 60) (r0 := G 10 1) (h0 := mx a2 2 (G 10 1)) (q0 := q2) hG hN hcl (by decide) (fun t ht => (hc t ht).2.1) (fun t ht => (hc t ht).2.2) (fun a3 q3 A3 B3 C3 D3 E3 F3 I3 => ?_) n 0 _ q2 (by omega) (Nat.zero_le _) A2 ⟨[], by simp⟩ (fun t c => absurd c (Nat.not_lt_zero _)) (fun t _ ht => (hc t ht).1) (fun t _ => rfl) (fun _ _ _ _ => rfl) (fun _ _ => rfl) (fun _ _ => rfl)
    refine eqI (eqI ?_)
    rw [show (uo (uo (uo (uo (uo (uo (uo G 2 h) 2 a1) 1 (mx ((uo G 2 h) 1) 4 (a1 2))) 2 a2) 9 (mx ((uo (uo (uo G 2 h) 2 a1) 1 (mx ((uo G 2 h) 1) 4 (a1 2))) 9) 1 (a2 2))) 2 a3) 10 (mx ((uo (uo (uo (uo (uo G 2 h) 2 a1) 1 (mx ((uo G 2 h) 1) 4 (a1 2))) 2 a2) 9 (mx ((uo (uo (uo G 2 h) 2 a1) 1 (mx ((uo G 2 h) 1) 4 (a1 2))) 9) 1 (a2 2))) 10) 1 (a3 2))) 11 0 0 = nI lk from hk0]
    refine c_row (xs := xk) (len := lk) (L := 1488) (r0 := G 11 1) (h0 := mx a3 2 (G 11 1)) (q0 := q3) hG hN hkl (by decide) (fun t ht => (hk t ht).2.1) (fun t ht => (hk t ht).2.2) (fun a4 q4 A4 B4 C4 D4 E4 F4 I4 => ?_) n 0 _ q3 (by omega) (Nat.zero_le _) A3 ⟨[], by simp⟩ (fun t c => absurd c (Nat.not_lt_zero _)) (fun t _ ht => (hk t ht).1) (fun t _ => rfl) (fun _ _ _ _ => rfl) (fun _ _ => rfl) (fun _ _ => rfl)
    refine eqI ?_
    generalize eX : uo (uo (uo (uo (uo (uo (uo (uo (uo G 2 h) 2 a1) 1 (mx ((uo G 2 h) 1) 4 (a1 2))) 2 a2) 9 (mx ((uo (uo (uo G 2 h) 2 a1) 1 (mx ((uo G 2 h) 1) 4 (a1 2))) 9) 1 (a2 2))) 2 a3) 10 (mx ((uo (uo (uo (uo (uo G 2 h) 2 a1) 1 (mx ((uo G 2 h) 1) 4 (a1 2))) 2 a2) 9 (mx ((uo (uo (uo G 2 h) 2 a1) 1 (mx ((uo G 2 h) 1) 4 (a1 2))) 9) 1 (a2 2))) 10) 1 (a3 2))) 2 a4) 11 (mx ((uo (uo (uo (uo (uo (uo (uo G 2 h) 2 a1) 1 (mx ((uo G 2 h) 1) 4 (a1 2))) 2 a2) 9 (mx ((uo (uo (uo G 2 h) 2 a1) 1 (mx ((uo G 2 h) 1) 4 (a1 2))) 9) 1 (a2 2))) 2 a3) 10 (mx ((uo (uo (uo (uo (uo G 2 h) 2 a1) 1 (mx ((uo G 2 h) 1) 4 (a1 2))) 2 a2) 9 (mx ((uo (uo (uo G 2 h) 2 a1) 1 (mx ((uo G 2 h) 1) 4 (a1 2))) 9) 1 (a2 2))) 10) 1 (a3 2))) 11) 1 (a4 2)) = X
    have X2 : X 2 = a4 := by rw [← eX]; rfl
    have X1 : X 1 = mx (G 1) 4 (a1 2) := by rw [← eX]; rfl
    have X9 : X 9 = mx (G 9) 1 (a2 2) := by rw [← eX]; rfl
    have X10 : X 10 = mx (G 10) 1 (a3 2) := by rw [← eX]; rfl
    have X11 : X 11 = mx (G 11) 1 (a4 2) := by rw [← eX]; rfl
    have Xo : ∀ o, o ≠ 1 → o ≠ 2 → o ≠ 9 → o ≠ 10 → o ≠ 11 → X o = G o := fun o o1 o2 o9 o10 o11 => by
      rw [← eX, uoN o11, uoN o2, uoN o10, uoN o2, uoN o9, uoN o2, uoN o1, uoN o2, uoN o2]
    have S : ∀ i, i ≠ 7 → a4 0 i = h 0 i := fun i hi => (F4 i hi).trans ((F3 i hi).trans ((F2 i hi).trans (F1 i hi)))
    have L : ∀ a, a < 2048 → a4 1 a = h 1 a := fun a ha => (I4 a ha).trans ((I3 a ha).trans ((I2 a ha).trans (I1 a ha)))
    have hs : ∀ i, i ≠ 6 → i ≠ 7 → h 0 i = G 2 0 i := fun i i6 i7 => by rw [eh, us0, if_neg i7, us0, if_neg i6]
    have hh1 : h 1 = G 2 1 := by rw [eh]; rfl
    unfold V_X2_endMove V_X2_moveAt
    rw [X2, show a4 0 3 = nI lo from (S 3 (by decide)).trans ((hs 3 (by decide) (by decide)).trans h3), show a4 0 4 = nI hi from (S 4 (by decide)).trans ((hs 4 (by decide) (by decide)).trans h4)]
    refine c_rng (xs := xr) (lo := lo) (hi := hi) (h0 := a4) (q0 := q4) hG hN hhi (fun t a b => (hr t a b).2.1) (fun t a b => (hr t a b).2.2) (fun a5 q5 A5 B5 C5 D5 E5 F5 => ?_) n lo a4 q4 (by omega) (Nat.le_refl _) hlo (by omega) A4 ⟨[], by simp⟩ (fun t a b => absurd a (by omega)) (fun t a b => by rw [L t (by omega), hh1]; exact (hr t a b).1) (fun _ _ _ => rfl) (fun _ _ _ => rfl) (fun _ _ => rfl)
    refine eqI ?_
    refine c_scan (h0 := a5) (q0 := q5) hG hN (fun a6 q6 A6 B6 F6 n1 => ?_) n 0 a5 q5 (by omega) (Nat.zero_le _) A5 ⟨[], by simp⟩ (GFr_refl a5)
    unfold V_X2_endMove_54
    refine eqI (eqI (eqI (eqI (eqI ?_))))
    obtain ⟨m1, m2, m3, m4, m5, m6, m7, m8⟩ := A6
    have Q5 := B6
    have Q4 := app_tr B5 Q5
    have Q3 := app_tr B4 Q4
    have Q2 := app_tr B3 Q3
    have Q1 := app_tr B2 Q2
    have S6 : ∀ i, i ≠ 6 → i ≠ 7 → a6 0 i = G 2 0 i := fun i i6 i7 => (F6.2.1 i i7).trans ((F5 i i7).trans ((S i i7).trans (hs i i6 i7)))
    refine kk _ q6 ⟨⟨m4, m5⟩, fun s o hs1 ho i hi1 => ?_, fun t a b => ?_, fun t a b => ?_, fun t a => ?_, fun t a => ?_, fun c a => ?_, ⟨?_, fun t a => ?_⟩, ⟨?_, fun t a => ?_⟩, ⟨?_, fun t a => ?_⟩, ⟨?_, ?_, ?_, ?_, fun i a => ?_⟩, fun o o1 o2 o9 o10 o11 => ?_⟩
    · exact (m8 s o hs1 ho i hi1).1 (by have := pos_le (hp := hp) hs1; rw [olo_some ho] at this; omega)
    · have := psi_lift (C5 t a b) Q5
      refine ⟨this.1, ?_⟩
      show a6 1 t = _
      rw [F6.2.2 t (by omega)]; exact this.2
    · show a6 1 t = _
      rw [F6.2.2 t a, D5 t a b, L t a, hh1]
    · rw [uoN (by decide), X1]
      exact psi_lift (C1 t a) Q1
    · rw [uoN (by decide), X1]
      exact D1 t a
    · rw [uoN (by decide), X1, mxN a]
    · rw [uoN (by decide), X9]; rfl
    · rw [uoN (by decide), X9]
      exact psi_lift (C2 t a) Q2
    · rw [uoN (by decide), X10]; rfl
    · rw [uoN (by decide), X10]
      exact psi_lift (C3 t a) Q3
    · rw [uoN (by decide), X11]; rfl
    · rw [uoN (by decide), X11]
      exact psi_lift (C4 t a) Q4
    · show a6 0 6 = _
      exact m2
    · show a6 0 7 = _
      exact m3
    · show a6 0 7 = _
      exact m3
    · show a6 0 10 + 1 = _
      rw [S6 10 (by decide) (by decide)]
    · show us (us (us (us a6 5 (a6 0 6)) 8 _) 9 _) 10 _ 0 i = _
      rw [us0, if_neg (by omega), us0, if_neg (by omega), us0, if_neg (by omega), us0, if_neg (by omega), S6 i (by omega) (by omega)]
    · rw [uoN o2]; exact Xo o o1 o2 o9 o10 o11
  unfold V_X2_startMove
  rw [h5, h0]
  refine ⟨fun c => eqI (eqI (main _ ?_)), fun c => eqI (eqI (main _ ?_))⟩
  · rcases g3 with ⟨e1, e2⟩ | ⟨e1, e2⟩
    · exact absurd (by rw [e1]; rfl) c
    · rw [e2]; rfl
  · rcases g3 with ⟨e1, e2⟩ | ⟨e1, e2⟩
    · rw [e2, show (2048 : Int32) = nI 2048 from rfl, nI_add]
    · rw [e1] at c
      have := (nI_eq (a := 2048 + z) (b := 2048) (by omega) (by decide)).mp c
      omega
end GC4
