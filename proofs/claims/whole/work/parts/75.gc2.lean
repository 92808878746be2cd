section GCB
variable {sy rn : Nat} {nam : Nat → List Nat} {sv : Nat → Option Va} {rc : Nat → Va × Va} {K : Nat → Nat → Prop} {C : Nat → Prop} {hp : Nat → Option Ob} {X : Nat → Prop} {c : Nat → Int32} {tp : Nat} {ent : Nat → Nat}
theorem gok_vok {v : Va} (h : vok v) (hm : ¬ made v) : gok hp (some (.inl v)) := by
  rcases v with _ | v | v | ⟨v, v2⟩ | v | v | v
  · trivial
  · have h : -32768 ≤ v ∧ v ≤ 32767 := h
    exact ⟨by omega, by omega⟩
  · exact h
  · exact h.2
  · exact absurd trivial hm
  · exact absurd trivial hm
  · exact absurd trivial hm
theorem ows_at (φ : Nat → Nat) {o : Ob} {i : Nat} (hi : i < olen o) : (ows φ ent o).getD i 0 = gw φ ((ogs ent o).getD i none) := by
  have hl : i < (ogs ent o).length := by rw [ogs_len]; exact hi
  rw [ogs_w, List.getD_eq_getElem?_getD, List.getD_eq_getElem?_getD, List.getElem?_map, List.getElem?_eq_getElem hl]; rfl
theorem rc_gok (h : HPu sy rn nam sv rc K C hp X c tp ent) (hok : ∀ i, i < rn → vok (rc i).1 ∧ vok (rc i).2) {i : Nat} (hi : i < rn) : gok hp (some (.inl (rc i).1)) ∧ gok hp (some (.inl (rc i).2)) := by
  refine ⟨?_, ?_⟩
  · by_cases m : made (rc i).1
    · exact VV_gok ((rc_VV h hi).1 m)
    · exact gok_vok (hok i hi).1 m
  · by_cases m : made (rc i).2
    · exact VV_gok ((rc_VV h hi).2 m)
    · exact gok_vok (hok i hi).2 m
set_option maxHeartbeats 1000000 in
theorem c_gc {N z fs ft lo hi b u n : Nat} {G : SG} {φ : Nat → Nat} {LV LC LK : List Gw} {post : SG → Prop} (hPu : HPu sy rn nam sv rc K C hp X c tp ent) (hok : ∀ i, i < rn → vok (rc i).1 ∧ vok (rc i).2) (hz1 : 40 ≤ z) (hz2 : z ≤ 167) (hN : N = 2048 + 2 * z) (hn : 5000 ≤ n) (hy : sy ≤ 40)
    (h0 : G 2 0 0 = nI z) (h5 : G 2 0 5 = nI b) (hb : b = 2048 ∨ b = 2048 + z) (hu : usum hp 168 = u) (huz : u ≤ z) (hS : SymC (G 1) sy nam sv φ) (hR : RdC (G 2) rc rn fs ft φ K lo hi) (hft : ft + (rn - fs) ≤ 1000) (hH : HpC (G 2 1) hp φ ent b u)
    (hV : StkR (G 9) (LV.map (gw φ))) (lV : LV.length ≤ 1550) (hC : StkR (G 10) (LC.map (gw φ))) (lC : LC.length ≤ 60) (hK : StkR (G 11) (LK.map (gw φ))) (lK : LK.length ≤ 1488)
    (hX : ∀ y, (y ∈ LV ∨ y ∈ LC ∨ y ∈ LK) → gok hp y ∧ ∀ s, gref y = some s → X s) (hX2 : ∀ s, X s → ∃ y, (y ∈ LV ∨ y ∈ LC ∨ y ∈ LK) ∧ gref y = some s)
    (kk : ∀ G1 φ1 b1, (b1 = 2048 ∨ b1 = 2048 + z) → SymC (G1 1) sy nam sv φ1 → RdC (G1 2) rc rn fs ft φ1 K lo hi → HpC (G1 2 1) (gcH hp (RtA sy rn sv rc X)) φ1 ent b1 (usum (gcH hp (RtA sy rn sv rc X)) 168) → StkR (G1 9) (LV.map (gw φ1)) → StkR (G1 10) (LC.map (gw φ1)) → StkR (G1 11) (LK.map (gw φ1)) → G1 2 0 5 = nI b1 → G1 2 0 8 = nI (usum (gcH hp (RtA sy rn sv rc X)) 168) → G1 2 0 9 = nI (usum (gcH hp (RtA sy rn sv rc X)) 168) → G1 2 0 10 = G 2 0 10 + 1 → G1 2 0 0 = G 2 0 0 → (∀ o, o ≠ 1 → o ≠ 2 → o ≠ 9 → o ≠ 10 → o ≠ 11 → G1 o = G o) → post G1) : V_X7_keepLive N n G post := by
  obtain ⟨q1, q2, q3, q4, q5, q6, q7, q8, q9, q10, q11, q12, q13, q14⟩ := id hR
  obtain ⟨tg, htg⟩ : ∃ tg, (b = 2048 ∧ tg = 2048 + z) ∨ (b = 2048 + z ∧ tg = 2048) := by
    rcases hb with e | e
    · exact ⟨_, Or.inl ⟨e, rfl⟩⟩
    · exact ⟨_, Or.inr ⟨e, rfl⟩⟩
  have hG : GSt z tg b u hp φ ent (Live hp (RtA sy rn sv rc X)) := by
    refine ⟨hz1, hz2, htg, hu, huz, fun s o ho => ?_, hH.2, fun s o ho => ObR_gok (hPu.2.2.2.2.1 s o ho).2 hPu.2.2.2.2.2.2.1, fun s o hl ho y hy t ht => Live_cl hl ho (ogs_ref hy ht), fun s o ho => ?_⟩
    · obtain ⟨a, b, c, -⟩ := hH.1 s o ho
      exact ⟨a, b, c⟩
    · obtain ⟨a, b, c, -⟩ := hH.1 s o ho
      omega
  have cell : ∀ t, lo ≤ t → t < hi → ∃ i x, K i x ∧ i < rn ∧ t / 2 = x ∧ xrK K rc t = some (.inl (if t % 2 = 0 then (rc i).1 else (rc i).2)) := fun t a b => by
    obtain ⟨i, hi⟩ := q12 (t / 2) (by omega)
    exact ⟨i, t / 2, hi, hPu.2.2.2.2.2.2.2 i _ hi, rfl, xrK_at hi q11 rfl⟩
  refine c_keep (xr := xrK K rc) (xw := swX sv) (xv := stX LV) (xc := stX LC) (xk := stX LK) (lo := lo) (hi := hi) (sy := sy) (lv := LV.length) (lc := LC.length) (lk := LK.length) hG hN hn h0 h5 q3 q4 q5 (by omega) (fun s o ho i hi => ?_) hS.1 hy (fun t ht => ?_) (by simpa using hV.1) lV (fun t ht => ?_) (by simpa using hC.1) lC (fun t ht => ?_) (by simpa using hK.1) lK (fun t ht => ?_) (fun t a b => ?_) (fun G1 q hGR => ?_)
  · rw [(hH.1 s o ho).2.2.2 i hi, ows_at φ hi]
  · obtain ⟨-, -, s3, s4, -⟩ := hS.2.1 t ht
    unfold swX
    cases e : sv t with
    | none => exact ⟨s3 e, trivial, fun s c => (by cases c)⟩
    | some v => exact ⟨s4 v e, VV_gok (hPu.1 t v ht e), fun s c => Live_rt (Or.inl ⟨t, v, ht, e, c⟩)⟩
  · obtain ⟨a, b⟩ := stX_at hV ht
    obtain ⟨d, e⟩ := hX _ (Or.inl b)
    exact ⟨a, d, fun s hs => Live_rt (Or.inr (Or.inr (e s hs)))⟩
  · obtain ⟨a, b⟩ := stX_at hC ht
    obtain ⟨d, e⟩ := hX _ (Or.inr (Or.inl b))
    exact ⟨a, d, fun s hs => Live_rt (Or.inr (Or.inr (e s hs)))⟩
  · obtain ⟨a, b⟩ := stX_at hK ht
    obtain ⟨d, e⟩ := hX _ (Or.inr (Or.inr b))
    exact ⟨a, d, fun s hs => Live_rt (Or.inr (Or.inr (e s hs)))⟩
  · obtain ⟨i, x, hi, hr, hx, ex⟩ := cell t a b
    obtain ⟨w1, w2⟩ := q13 i x (Or.inl hi)
    obtain ⟨g1, g2⟩ := rc_gok hPu hok hr
    rw [ex]
    by_cases e : t % 2 = 0
    · rw [if_pos e]
      exact ⟨by rw [show t = 2 * x by omega]; exact w1, g1, fun s hs => Live_rt (Or.inr (Or.inl ⟨i, hr, Or.inl hs⟩))⟩
    · rw [if_neg e]
      exact ⟨by rw [show t = 2 * x + 1 by omega]; exact w2, g2, fun s hs => Live_rt (Or.inr (Or.inl ⟨i, hr, Or.inr hs⟩))⟩
  · obtain ⟨⟨r1, r1'⟩, r2, r3, r4, r5, r6, r7, ⟨r8, r8'⟩, ⟨r9, r9'⟩, ⟨r10, r10'⟩, ⟨r11, r12, r13, r14, r15⟩, r16⟩ := hGR
    have hin : ∀ s, Live hp (RtA sy rn sv rc X) s → s ∈ q := by
      intro s hs
      refine hs (fun s => s ∈ q) (fun t ht => ?_) (fun t o ht ho x hx => ?_)
      · rcases ht with ⟨i, v, hi, hv, hr⟩ | ⟨i, hi, hr | hr⟩ | ht
        · exact (r5 i hi).1 t (by unfold swX; rw [hv]; exact hr)
        · obtain ⟨x, hx, l1, l2⟩ := (q14 i hi).1 (vref_made hr)
          refine (r3 (2 * x) l1 l2).1 t ?_
          rw [xrK_at hx q11 (by omega), if_pos (by omega)]
          exact hr
        · obtain ⟨x, hx, l1, l2⟩ := (q14 i hi).2 (vref_made hr)
          refine (r3 (2 * x + 1) l1 l2).1 t ?_
          rw [xrK_at hx q11 (by omega), if_neg (by omega)]
          exact hr
        · obtain ⟨y, hy, hr⟩ := hX2 t ht
          rcases hy with hy | hy | hy
          · obtain ⟨i, hi, e⟩ := stX_mem hy
            exact (r8' i hi).1 t (by rw [e]; exact hr)
          · obtain ⟨i, hi, e⟩ := stX_mem hy
            exact (r9' i hi).1 t (by rw [e]; exact hr)
          · obtain ⟨i, hi, e⟩ := stX_mem hy
            exact (r10' i hi).1 t (by rw [e]; exact hr)
      · obtain ⟨y, hy, hr⟩ := ref_ogs (ent := ent) hx
        obtain ⟨i, hi, e⟩ := getD_of_mem hy
        rw [ogs_len] at hi
        exact (r2 t o ht ho i hi).1 x (by rw [e]; exact hr)
    have hus : lenQ hp q = usum (gcH hp (RtA sy rn sv rc X)) 168 := lenQ_usum q hp _ r1 (fun s hs => ⟨(r1' s hs).1, gcH_y (r1' s hs).2.1⟩) (fun s _ hn => gcH_n (fun c => hn (hin s c)))
    rw [← hus] at kk
    refine kk G1 (psi tg hp q) tg (by rcases htg with e | e <;> omega) ?_ ?_ ?_ (stX_back hV r8 (fun t ht => (r8' t ht).2)) (stX_back hC r9 (fun t ht => (r9' t ht).2)) (stX_back hK r10 (fun t ht => (r10' t ht).2)) r11 r12 r13 r14 (r15 0 (by decide)) r16
    · obtain ⟨s1, s2, s3⟩ := hS
      refine ⟨by rw [r7 0 (by decide)]; exact s1, fun s hs => ?_, fun s a b => by rw [r6 s a, r7 2 (by decide)]; exact s3 s a b⟩
      rw [r7 1 (by decide), r7 2 (by decide), r7 3 (by decide), (r5 s hs).2]
      obtain ⟨t1, t2, t3, t4, t5⟩ := s2 s hs
      exact ⟨t1, t2, fun e => by unfold swX; rw [e]; rfl, fun v e => by unfold swX; rw [e]; rfl, t5⟩
    · refine ⟨(r15 1 (by decide)).trans q1, (r15 2 (by decide)).trans q2, (r15 3 (by decide)).trans q3, (r15 4 (by decide)).trans q4, q5, q6, q7, q8, q9, q10, q11, q12, fun i x hx => ?_, q14⟩
      obtain ⟨w1, w2⟩ := q13 i x hx
      have hr : i < rn := by
        rcases hx with hx | hx
        · exact hPu.2.2.2.2.2.2.2 i x hx
        · exact hx.2.1
      have hx8 : 2 * x + 1 < 2048 := by
        rcases hx with hx | hx
        · have := (q9 i x hx).2; omega
        · omega
      have same : ∀ v : Va, ¬ made v → cw φ v = cw (psi tg hp q) v := fun v m => gw_none (x := some (.inl v)) (ref_none m) φ (psi tg hp q)
      refine ⟨?_, ?_⟩
      · by_cases e : lo ≤ 2 * x ∧ 2 * x < hi
        · have hK1 : K i x := by
            rcases hx with hx | hx
            · exact hx
            · omega
          rw [(r3 (2 * x) e.1 e.2).2, xrK_at hK1 q11 (by omega), if_pos (by omega)]; rfl
        · rw [r4 _ (by omega) e, w1]
          refine same _ (fun m => ?_)
          obtain ⟨x1, k1, l1, l2⟩ := (q14 i hr).1 m
          rcases hx with hx | hx
          · have := q10 i x x1 hx k1
            subst this
            exact e ⟨l1, l2⟩
          · have := (q9 i x1 k1).1; omega
      · by_cases e : lo ≤ 2 * x + 1 ∧ 2 * x + 1 < hi
        · have hK1 : K i x := by
            rcases hx with hx | hx
            · exact hx
            · omega
          rw [(r3 (2 * x + 1) e.1 e.2).2, xrK_at hK1 q11 (by omega), if_neg (by omega)]; rfl
        · rw [r4 _ (by omega) e, w2]
          refine same _ (fun m => ?_)
          obtain ⟨x1, k1, l1, l2⟩ := (q14 i hr).2 m
          rcases hx with hx | hx
          · have := q10 i x x1 hx k1
            subst this
            exact e ⟨l1, l2⟩
          · have := (q9 i x1 k1).1; omega
    · refine ⟨fun s o ho => ?_, fun s o s1 o1 ho ho1 hne => ?_⟩
      · obtain ⟨hl, ho⟩ := gcH_some ho
        have hq := hin s hl
        have hp1 := pos_le (hp := hp) hq
        rw [olo_some ho] at hp1
        refine ⟨(r1' s hq).1, by unfold psi; omega, by unfold psi; omega, fun i hi => ?_⟩
        rw [(r2 s o hq ho i hi).2, ows_at _ hi]
      · obtain ⟨hl, ho⟩ := gcH_some ho
        obtain ⟨hl1, ho1⟩ := gcH_some ho1
        have hd := pos_dis (hp := hp) (hin s hl) (hin s1 hl1) hne
        rw [olo_some ho, olo_some ho1] at hd
        unfold psi
        omega
end GCB
