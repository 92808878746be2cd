section GC
variable {N z tg b u : Nat} {hp : Nat → Option Ob} {φ ent : Nat → Nat} {P : Nat → Prop}
/-- where a moved object lies -/
def psi (tg : Nat) (hp : Nat → Option Ob) (q : List Nat) (s : Nat) : Nat := tg + pos hp q s
/-- what a collection starts from -/
def GSt (z tg b u : Nat) (hp : Nat → Option Ob) (φ ent : Nat → Nat) (P : Nat → Prop) : Prop :=
  40 ≤ z ∧ z ≤ 167 ∧ ((b = 2048 ∧ tg = 2048 + z) ∨ (b = 2048 + z ∧ tg = 2048)) ∧ usum hp 168 = u ∧ u ≤ z ∧
  (∀ s o, hp s = some o → s < 168 ∧ b ≤ φ s ∧ φ s + olen o ≤ b + u) ∧ (∀ s o s1 o1, hp s = some o → hp s1 = some o1 → s ≠ s1 → φ s + olen o ≤ φ s1 ∨ φ s1 + olen o1 ≤ φ s) ∧
  (∀ s o, hp s = some o → ∀ y ∈ ogs ent o, gok hp y) ∧ (∀ s o, P s → hp s = some o → ∀ y ∈ ogs ent o, ∀ t, gref y = some t → P t) ∧ (∀ s o, hp s = some o → φ s < 10000)
/-- q has been moved, its first k words looked through -/
def MG (z tg : Nat) (hp : Nat → Option Ob) (φ ent : Nat → Nat) (P : Nat → Prop) (h : St) (q : List Nat) (k : Nat) : Prop :=
  h 0 0 = nI z ∧ h 0 6 = nI tg ∧ h 0 7 = nI (lenQ hp q) ∧ q.Nodup ∧ (∀ s ∈ q, s < 168 ∧ P s ∧ hp s ≠ none) ∧
  (∀ s o, hp s = some o → s ∉ q → ∀ i, i < olen o → h 1 (φ s + i) = gw φ ((ogs ent o).getD i none)) ∧ (∀ s ∈ q, h 1 (φ s) = wd 8 (psi tg hp q s)) ∧
  (∀ s o, s ∈ q → hp s = some o → ∀ i, i < olen o → (pos hp q s + i < k → (∀ t, gref ((ogs ent o).getD i none) = some t → t ∈ q) ∧ h 1 (psi tg hp q s + i) = gw (psi tg hp q) ((ogs ent o).getD i none)) ∧ (k ≤ pos hp q s + i → h 1 (psi tg hp q s + i) = gw φ ((ogs ent o).getD i none)))
/-- what moving leaves as it was -/
def GFr (h h1 : St) : Prop := (∀ c, c ≠ 0 → c ≠ 1 → h1 c = h c) ∧ (∀ i, i ≠ 7 → h1 0 i = h 0 i) ∧ ∀ a, a < 2048 → h1 1 a = h 1 a
theorem c_copy {t from1 to len : Nat} {m0 : Nat → Int32} {post : Int32 → St → Prop} (hN : from1 + len ≤ N) (hN1 : to + len ≤ N) (hN2 : N < 100000) (hl : 0 < len) (hd : from1 + len ≤ to ∨ to + len ≤ from1) (ht : t < 16) (h0 : St)
    (k : ∀ h1 : St, (∀ c, c ≠ 0 → c ≠ 1 → h1 c = h0 c) → (∀ i, i ≠ 7 → h1 0 i = h0 0 i) → h1 0 7 = h0 0 7 + nI len → (∀ a, h1 1 a = if a = from1 then wd 8 to else if to ≤ a ∧ a < to + len then m0 (from1 + (a - to)) else m0 a) → post (wd t to) h1) :
    ∀ (n i : Nat) (h : St), len - i < n → i ≤ len → (∀ c, c ≠ 1 → h c = h0 c) → (∀ a, h 1 a = if to ≤ a ∧ a < to + i then m0 (from1 + (a - to)) else m0 a) → V_X2_move_73 N post n (nI t) (nI from1) (nI to) (nI len) (nI i) h
  | 0, i, h => fun h1 => absurd h1 (by omega)
  | n + 1, i, h => by
    intro h1 h2 h3 h4
    unfold V_X2_move_73
    refine ⟨fun c => ?_, fun c => ?_⟩
    · have hi : i = len := by have := (nI_leI (a := len) (b := i) (by omega) (by omega)).mp c; omega
      subst hi
      rw [show (8 : Int32) = nI 8 from rfl, show (nI to) = iI (to : Int) from (iI_nat to).symm]
      refine v_of (by decide) (v_put (by omega) (by omega) (eqI ?_))
      refine v_of ht (k _ (fun c h5 h6 => ?_) (fun x h5 => ?_) ?_ (fun a => ?_))
      · rw [usZ h5, upB _ _ _ h6, h3 c h6]
      · rw [us0, if_neg h5, upB _ _ _ (by decide), h3 0 (by decide)]
      · rw [us0, if_pos rfl, upB _ _ _ (by decide), h3 0 (by decide)]
      · rw [usZ (by decide), upA]
        by_cases e : a = from1
        · subst e; rw [updE, if_pos rfl]
        · rw [updN _ _ e, if_neg e]; exact h4 a
    · have hi : i < len := by
        rcases Nat.lt_or_ge i len with z | z
        · exact z
        · exact absurd ((nI_leI (a := len) (b := i) (by omega) (by omega)).mpr z) c
      rw [nI_add, nI_add]
      refine v_hat (by omega) (by omega) (v_put (by omega) (by omega) (eqI ?_))
      rw [nI_1]
      refine c_copy hN hN1 hN2 hl hd ht h0 k n (i + 1) _ (by omega) (by omega) (fun c h5 => ?_) (fun a => ?_)
      · rw [upB _ _ _ h5, h3 c h5]
      · rw [upA]
        by_cases e : a = to + i
        · subst e
          rw [updE, if_pos (by omega), h4, if_neg (by omega), show from1 + (to + i - to) = from1 + i by omega]
        · rw [updN _ _ e, h4]
          by_cases e2 : to ≤ a ∧ a < to + i
          · rw [if_pos e2, if_pos (by omega)]
          · rw [if_neg e2, if_neg (by omega)]
theorem olen_pos (o : Ob) : 0 < olen o := by rcases o with ⟨a, d⟩ | l | ⟨r, e⟩ | ⟨p, q, l⟩ <;> simp [olen]
theorem olo_some {s : Nat} {o : Ob} (h : hp s = some o) : olo hp s = olen o := by unfold olo; rw [h]
theorem GFr_refl (h : St) : GFr h h := ⟨fun _ _ _ => rfl, fun _ _ => rfl, fun _ _ => rfl⟩
theorem gok_mem {o : Ob} (hy : ∀ y ∈ ogs ent o, gok hp y) {i : Nat} (hi : i < olen o) : gok hp ((ogs ent o).getD i none) ∧ (ogs ent o).getD i none ∈ ogs ent o := by
  have hl : i < (ogs ent o).length := by rw [ogs_len]; exact hi
  rw [List.getD_eq_getElem?_getD, List.getElem?_eq_getElem hl]
  exact ⟨hy _ (List.getElem_mem hl), List.getElem_mem hl⟩
set_option maxHeartbeats 1000000 in
theorem c_move {x : Gw} {h : St} {q : List Nat} {k n : Nat} {post : Int32 → St → Prop} (hG : GSt z tg b u hp φ ent P) (hM : MG z tg hp φ ent P h q k) (hk : k ≤ lenQ hp q) (hN : N = 2048 + 2 * z) (hn : 200 ≤ n) (hx : gok hp x) (hP : ∀ s, gref x = some s → P s)
    (kk : ∀ h1 q1, MG z tg hp φ ent P h1 q1 k → (∃ r, q1 = q ++ r) → (∀ s, gref x = some s → s ∈ q1) → GFr h h1 → post (gw (psi tg hp q1) x) h1) : V_X2_move N n (gw φ x) h post := by
  obtain ⟨g1, g2, g3, g4, g5, g6, g7, g8, g9, g10⟩ := hG
  obtain ⟨m1, m2, m3, m4, m5, m6, m7, m8⟩ := id hM
  obtain ⟨t, a, ht, a1, a2, ew, hn0, hs0⟩ := gw_tag hx g10
  have hrefl : gref x = none → post (wd t a) h := fun hno => by
    have := kk h q hM ⟨[], by simp⟩ (fun s c => by rw [hno] at c; cases c) (GFr_refl h)
    rw [gw_none hno (psi tg hp q) φ, ew] at this
    exact this
  have hlq : lenQ hp q ≤ u := by rw [← g4]; exact lenQ_le q hp m4 (fun s hs => (m5 s hs).1)
  unfold V_X2_move
  rw [ew]
  refine v_tag (by omega) a1 a2 (v_held (by omega) a1 a2 ⟨fun c => ?_, fun c => ⟨fun c2 => ?_, fun c2 => ?_⟩⟩)
  · refine hrefl ?_
    have := (nI_ltI (b := 4) (by omega) (by decide)).mp c
    cases hg : gref x with
    | none => rfl
    | some s => have := (hs0 s hg).1; omega
  · have ha : 2048 ≤ a := (iI_le (a := 2048) (by decide) (by decide) (by omega) (by omega)).mp c2
    cases hg : gref x with
    | none =>
      rcases hn0 hg with z | z
      · exact absurd (nI_lt (b := 4) z (by decide)) c
      · omega
    | some s =>
      obtain ⟨t4, ea, s168, hψ, o, ho, hcase⟩ := hs0 s hg
      obtain ⟨f1, f2, f3⟩ := g6 s o ho
      have hol := olen_pos o
      subst ea
      rw [iI_nat]
      refine v_hat (by omega) (by omega) ?_
      by_cases hq : s ∈ q
      · have hpl := pos_le (hp := hp) hq
        rw [m7 s hq]
        have hb2 : psi tg hp q s < 10000 := by unfold psi; omega
        refine v_tag (by decide) (by omega) (by omega) ⟨fun c => absurd rfl c, fun _ => v_held (by decide) (by omega) (by omega) (v_of (by omega) ?_)⟩
        have := kk h q hM ⟨[], by simp⟩ (fun s1 c => by rw [hg] at c; cases c; exact hq) (GFr_refl h)
        rw [hψ] at this
        exact this
      · have hw0 : h 1 (φ s) = gw φ ((ogs ent o).getD 0 none) := m6 s o ho hq 0 hol
        obtain ⟨t1, b0, t1l, b1, b2, bw, -, -⟩ := gw_tag (gok_mem (g8 s o ho) hol).1 g10
        rw [hw0, bw]
        refine v_tag (by omega) b1 b2 ⟨fun _ => eqI ?_, fun c => absurd ((nI_eq (b := 8) (by omega) (by decide)).mp c) (by omega)⟩
        rw [m2, m3, nI_add]
        have hto : tg + lenQ hp q + olen o ≤ N := by
          have h2 := lenQ_le (q ++ [s]) hp (by rw [List.nodup_append]; exact ⟨m4, by simp, fun x hx y hy => by simp at hy; subst hy; exact fun e => hq (e ▸ hx)⟩) (fun y hy => by
            rcases List.mem_append.mp hy with hy | hy
            · exact (m5 y hy).1
            · simp at hy; rw [hy]; exact s168)
          rw [lenQ_app] at h2
          have h3 : lenQ hp [s] = olen o := by show olo hp s + 0 = _; rw [olo_some ho]; rfl
          omega
        have hlq2 : lenQ hp q + olen o ≤ z := by
          have h2 := lenQ_le (q ++ [s]) hp (by rw [List.nodup_append]; exact ⟨m4, by simp, fun x hx y hy => by simp at hy; subst hy; exact fun e => hq (e ▸ hx)⟩) (fun y hy => by
            rcases List.mem_append.mp hy with hy | hy
            · exact (m5 y hy).1
            · simp at hy; rw [hy]; exact s168)
          rw [lenQ_app] at h2
          have h3 : lenQ hp [s] = olen o := by show olo hp s + 0 = _; rw [olo_some ho]; rfl
          omega
        have hcopy : V_X2_move_73 N post n (nI t) (nI (φ s)) (nI (tg + lenQ hp q)) (nI (olen o)) 0 h := by
          refine c_copy (m0 := h 1) (by omega) hto (by omega) hol (by omega) (by omega) h (fun h1 r1 r2 r3 r4 => ?_) n 0 h (by omega) (Nat.zero_le _) (fun _ _ => rfl) (fun a => by rw [if_neg (by omega)])
          have hlen2 : lenQ hp (q ++ [s]) = lenQ hp q + olen o := by
            rw [lenQ_app]
            show _ + (olo hp s + 0) = _
            rw [olo_some ho]; rfl
          have hps : psi tg hp (q ++ [s]) s = tg + lenQ hp q := by unfold psi; rw [pos_new hq]
          have hpo : ∀ s1, s1 ∈ q → psi tg hp (q ++ [s]) s1 = psi tg hp q s1 := fun s1 h => by unfold psi; rw [pos_app _ h]
          have key := kk h1 (q ++ [s]) ⟨(r2 0 (by decide)).trans m1, (r2 6 (by decide)).trans m2, by rw [r3, m3, nI_add, hlen2], by rw [List.nodup_append]; exact ⟨m4, by simp, fun x hx y hy => by simp at hy; subst hy; exact fun e => hq (e ▸ hx)⟩, fun y hy => ?_, fun s1 o1 ho1 hn1 i hi => ?_, fun s1 hs1 => ?_, fun s1 o1 hs1 ho1 i hi => ?_⟩ ⟨[s], rfl⟩ (fun s1 c => by rw [hg] at c; cases c; simp) ⟨r1, r2, fun a ha => ?_⟩
          · rw [hψ, hps] at key
            exact key
          · rcases List.mem_append.mp hy with hy | hy
            · exact m5 y hy
            · simp at hy; rw [hy]; exact ⟨s168, hP s hg, by rw [ho]; exact fun c => by cases c⟩
          · have hn2 : s1 ∉ q ∧ s1 ≠ s := ⟨fun c => hn1 (by simp [c]), fun c => hn1 (by simp [c])⟩
            have d1 := g7 s1 o1 s o ho1 ho hn2.2
            have d2 := g6 s1 o1 ho1
            rw [r4, if_neg (by omega), if_neg (by omega)]
            exact m6 s1 o1 ho1 hn2.1 i hi
          · rcases List.mem_append.mp hs1 with hs1 | hs1
            · have hne : s1 ≠ s := fun c => hq (c ▸ hs1)
              obtain ⟨o1, ho1⟩ := Option.ne_none_iff_exists'.mp (m5 s1 hs1).2.2
              have d1 := g7 s1 o1 s o ho1 ho hne
              have d2 := g6 s1 o1 ho1
              have := olen_pos o1
              rw [r4, if_neg (by omega), if_neg (by omega), hpo s1 hs1]
              exact m7 s1 hs1
            · simp at hs1
              subst hs1
              rw [r4, if_pos rfl, hps]
          · rcases List.mem_append.mp hs1 with hs1 | hs1
            · have hpl := pos_le (hp := hp) hs1
              rw [olo_some ho1] at hpl
              have hun : h1 1 (psi tg hp q s1 + i) = h 1 (psi tg hp q s1 + i) := by
                unfold psi
                rw [r4, if_neg (by omega), if_neg (by omega)]
              rw [hpo s1 hs1, pos_app _ hs1, hun]
              obtain ⟨c1, c2⟩ := m8 s1 o1 hs1 ho1 i hi
              refine ⟨fun hlt => ?_, c2⟩
              obtain ⟨e1, e2⟩ := c1 hlt
              refine ⟨fun t ht => by simp [e1 t ht], ?_⟩
              rw [e2]
              exact gw_ext (fun t ht => (hpo t (e1 t ht)).symm)
            · simp at hs1
              subst hs1
              rw [ho] at ho1
              cases ho1
              rw [hps, pos_new hq]
              refine ⟨fun c => absurd c (by omega), fun _ => ?_⟩
              rw [r4, if_neg (by omega), if_pos (by omega), show φ s1 + (tg + lenQ hp q + i - (tg + lenQ hp q)) = φ s1 + i by omega]
              exact m6 s1 o ho hq i hi
          · rw [r4, if_neg (by omega), if_neg (by omega)]
        unfold V_X2_objectLength
        refine ⟨fun c => ?_, fun c => ?_, fun n5 n7 => ?_⟩
        · have : t = 5 := (nI_eq (b := 5) (by omega) (by decide)).mp c
          rcases hcase with ⟨-, l, rfl⟩ | ⟨e, -⟩ | ⟨e, -⟩
          · refine v_hat (by omega) (by omega) ?_
            have hol2 : olen (ovec l) = l.length + 1 := rfl
            rw [hw0]
            refine v_held (t := 2) (h := l.length) (by decide) (by omega) (by omega) (eqI ?_)
            rw [iI_nat, show (1 : Int32) = nI 1 from rfl, nI_add, Nat.add_comm 1 l.length]
            exact hcopy
          · omega
          · omega
        · have : t = 7 := (nI_eq (b := 7) (by omega) (by decide)).mp c
          rcases hcase with ⟨e, -⟩ | ⟨-, p, q1, l, rfl⟩ | ⟨-, e, -⟩
          · omega
          · have hol2 : olen (ofrm p q1 l) = l.length + 2 := rfl
            rw [nI_1]
            refine v_hat (by omega) (by omega) ?_
            rw [m6 s _ ho hq 1 (by omega)]
            refine v_held (t := 2) (h := l.length) (by decide) (by omega) (by omega) (eqI ?_)
            rw [iI_nat, show (2 : Int32) = nI 2 from rfl, nI_add, Nat.add_comm 2 l.length]
            exact hcopy
          · omega
        · rcases hcase with ⟨e, -⟩ | ⟨e, -⟩ | ⟨-, -, e⟩
          · exact absurd (by rw [e]; rfl) n5
          · exact absurd (by rw [e]; rfl) n7
          · rw [e] at hcopy
            exact eqI hcopy
  · refine hrefl ?_
    cases hg : gref x with
    | none => rfl
    | some s =>
      obtain ⟨-, ea, -, -, o, ho, -⟩ := hs0 s hg
      have := g6 s o ho
      exact absurd ((iI_le (a := 2048) (by decide) (by decide) (by omega) (by omega)).mpr (by omega)) c2
end GC
