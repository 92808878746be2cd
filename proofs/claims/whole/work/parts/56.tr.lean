-- ===== code stays code =====
section TRV
variable {rc rc1 : Nat → Va × Va} {nam nam1 : Nat → List Nat} {K K1 : Nat → Nat → Prop} {C C1 : Nat → Prop} {c c1 : Nat → Int32} {ent ent1 : Nat → Nat} {tp : Nat}
theorem AtL_le {F : Va → Nat → Nat → Prop} (hF : ∀ v p q, F v p q → p < q) : ∀ (l : List Nat) (p q : Nat), AtL rc F l p q → p + l.length ≤ q
  | [], p, q, h => by have h : p = q := h; simp; omega
  | i :: l, p, q, h => by
    obtain ⟨r, h1, h2⟩ := h
    have := hF _ _ _ h1
    have := AtL_le hF l r q h2
    simp; omega
theorem AtR_le {F : Va → Nat → Nat → Prop} (hF : ∀ v p q, F v p q → p < q) : ∀ (l : List Nat) (p q : Nat), AtR rc c F l p q → p + l.length ≤ q
  | [], p, q, h => by have h : p = q := h; simp; omega
  | i :: l, p, q, h => by
    obtain ⟨-, r, h1, h2⟩ := h
    have := hF _ _ _ h1
    have := AtR_le hF l r q h2
    simp; omega
theorem AtB_le {F : Va → Nat → Nat → Prop} (hF : ∀ v p q, F v p q → p < q) : ∀ (l : List Nat) (p q : Nat), AtB rc c F l p q → p < q ∧ p + l.length ≤ q
  | [], p, q, h => by have := h.2.2; simp; omega
  | i :: l, p, q, h => by
    obtain ⟨r, h1, h2⟩ := h
    have := hF _ _ _ h1
    have := AtR_le hF l r q h2
    simp; omega
theorem AtO_lt {F : List (List Nat) → Va → Nat → Nat → Prop} (hF : ∀ sc v p q, F sc v p q → p < q) {sc : List (List Nat)} {i : Nat} {l : List Nat} {p q : Nat} : ∀ (op : Nat), AtO rc K C c ent F sc i l p q op → p < q
  | 0, ⟨p1, _, h, _, _, e⟩ => by have := AtL_le (hF sc) _ _ _ h; omega
  | 1, ⟨a, _, _, _, e, _⟩ => by omega
  | 2, ⟨a, b, e, p1, p2, _, _, h, _, _, h2, _, _, h3⟩ => by have := hF _ _ _ _ h; have := hF _ _ _ _ h2; have := AtB_le (hF sc) _ _ _ h3; omega
  | 3, h => by have := AtB_le (hF sc) _ _ _ h; omega
  | 4, ⟨a, b, s, p1, _, _, _, h, e, _⟩ => by have := hF _ _ _ _ h; omega
  | 5, ⟨a, b, p1, p2, _, h, _, _, h2, _, _, _, _, _, e⟩ => by have := hF _ _ _ _ h; have := AtB_le (hF sc) _ _ _ h2; omega
  | 6, ⟨a, b, ps, p1, _, _, _, _, _, _, h, _, e⟩ => by have := AtB_le (hF (ps :: sc)) _ _ _ h; omega
  | 7, ⟨a, b, p1, p2, _, h, _, _, h2, _, e⟩ => by have := hF _ _ _ _ h; have := AtB_le (hF sc) _ _ _ h2; omega
  | 8, ⟨p1, _, h, _, e⟩ => by have := AtL_le (hF sc) _ _ _ h; omega
  | op + 9, ⟨p1, _, _, _, h, _, _, _, e⟩ => by have := AtL_le (hF sc) _ _ _ h; omega
theorem AtE_lt : ∀ (d : Nat) (sc : List (List Nat)) (v : Va) (p q : Nat), AtE rc nam K C c ent d sc v p q → p < q
  | 0, sc, v, p, q, h => h.elim
  | d + 1, sc, v, p, q, h => by
    obtain ⟨-, h⟩ := h
    rcases v with _ | v | v | ⟨v, v2⟩ | v | v | v
    · have := h.2.2.1; omega
    · have := h.2.2.1; omega
    · have := h.1; omega
    · obtain ⟨-, l, -, -, h⟩ := h
      exact AtO_lt (AtE_lt d) _ h
    · have := h.2.2.1; omega
    · have := h.2.2.1; omega
    · have := h.2.2.1; omega
theorem AtL_tr {F F1 : Va → Nat → Nat → Prop} (hF : ∀ v p q, F v p q → p < q) (hh : ∀ v p q, q ≤ tp → F v p q → F1 v p q) : ∀ (l : List Nat) (p q : Nat), (∀ i ∈ l, rc1 i = rc i) → q ≤ tp → AtL rc F l p q → AtL rc1 F1 l p q
  | [], p, q, _, _, h => h
  | i :: l, p, q, hc, hq, h => by
    obtain ⟨r, h1, h2⟩ := h
    have := AtL_le hF l r q h2
    exact ⟨r, by rw [hc i List.mem_cons_self]; exact hh _ _ _ (by omega) h1, AtL_tr hF hh l r q (fun x hx => hc x (List.mem_cons_of_mem _ hx)) hq h2⟩
theorem AtR_tr {F F1 : Va → Nat → Nat → Prop} (hF : ∀ v p q, F v p q → p < q) (hh : ∀ v p q, q ≤ tp → F v p q → F1 v p q) (hc1 : ∀ p, p < tp → c1 p = c p) : ∀ (l : List Nat) (p q : Nat), (∀ i ∈ l, rc1 i = rc i) → q ≤ tp → AtR rc c F l p q → AtR rc1 c1 F1 l p q
  | [], p, q, _, _, h => h
  | i :: l, p, q, hc, hq, h => by
    obtain ⟨h0, r, h1, h2⟩ := h
    have := AtR_le hF l r q h2
    have := hF _ _ _ h1
    exact ⟨by rw [hc1 p (by omega)]; exact h0, r, by rw [hc i List.mem_cons_self]; exact hh _ _ _ (by omega) h1, AtR_tr hF hh hc1 l r q (fun x hx => hc x (List.mem_cons_of_mem _ hx)) hq h2⟩
theorem AtB_tr {F F1 : Va → Nat → Nat → Prop} (hF : ∀ v p q, F v p q → p < q) (hh : ∀ v p q, q ≤ tp → F v p q → F1 v p q) (hc1 : ∀ p, p < tp → c1 p = c p) : ∀ (l : List Nat) (p q : Nat), (∀ i ∈ l, rc1 i = rc i) → q ≤ tp → AtB rc c F l p q → AtB rc1 c1 F1 l p q
  | [], p, q, _, hq, h => by
    have := h.2.2
    exact ⟨by rw [hc1 p (by omega)]; exact h.1, by rw [hc1 (p + 1) (by omega)]; exact h.2.1, h.2.2⟩
  | i :: l, p, q, hc, hq, h => by
    obtain ⟨r, h1, h2⟩ := h
    have := AtR_le hF l r q h2
    exact ⟨r, by rw [hc i List.mem_cons_self]; exact hh _ _ _ (by omega) h1, AtR_tr hF hh hc1 l r q (fun x hx => hc x (List.mem_cons_of_mem _ hx)) hq h2⟩
theorem Lst_tr : ∀ (l : List Nat) (v : Va), (∀ i ∈ l, rc1 i = rc i) → Lst rc v l → Lst rc1 v l := fun l v h h1 => Lst_congr l v (fun i hi => by rw [h i hi]) h1
theorem Par_tr {q : Va} {ps : List Nat} (hC : ∀ i, C i → C1 i ∧ rc1 i = rc i) (h : Par rc C q ps) : Par rc1 C1 q ps := by
  obtain ⟨l, h1, h2, h3, h4⟩ := h
  refine ⟨l, Lst_tr l q (fun i hi => (hC i (h2 i hi)).2) h1, fun i hi => (hC i (h2 i hi)).1, ?_, h4⟩
  rw [← h3]
  exact List.map_congr_left (fun i hi => by rw [(hC i (h2 i hi)).2])
theorem AtO_tr {F F1 : List (List Nat) → Va → Nat → Nat → Prop} (hF : ∀ sc v p q, F sc v p q → p < q) (hh : ∀ sc v p q, q ≤ tp → F sc v p q → F1 sc v p q) (hc1 : ∀ p, p < tp → c1 p = c p) (hC : ∀ i, C i → C1 i ∧ rc1 i = rc i) (hK : ∀ v, VV K C (fun _ => none) v → VV K1 C1 (fun _ => none) v) (hE : ∀ i, C i → ent1 i = ent i)
    {sc : List (List Nat)} {i : Nat} {l : List Nat} {p q : Nat} (hi : C i) (hl : ∀ x ∈ l, C x) (hq : q ≤ tp) : ∀ (op : Nat), AtO rc K C c ent F sc i l p q op → AtO rc1 K1 C1 c1 ent1 F1 sc i l p q op
  | 0, ⟨p1, h1, h, h2, h3, e⟩ => by
    have := AtL_le (hF sc) _ _ _ h
    exact ⟨p1, h1, AtL_tr (hF sc) (hh sc) _ _ _ (fun x hx => (List.mem_cons.mp hx).elim (fun e => by rw [e]; exact (hC i hi).2) (fun e => (hC x (hl x e)).2)) (by omega) h, by rw [hc1 _ (by omega)]; exact h2, by rw [hc1 _ (by omega)]; exact h3, e⟩
  | 1, ⟨a, h1, h2, h3, e, h4⟩ => by
    have ha := (hC a (hl a (by rw [h1]; simp))).2
    exact ⟨a, h1, by rw [hc1 _ (by omega)]; exact h2, by rw [hc1 _ (by omega), ha]; exact h3, e, by rw [ha]; exact hK _ h4⟩
  | 2, ⟨a, b, e, p1, p2, h1, h2, h3, h4, h5, h6, h7, h8, h9⟩ => by
    have ha := (hC a (hl a (by rw [h1]; simp))).2
    have hb := (hC b (hl b (by rw [h1]; simp))).2
    have x1 := hF _ _ _ _ h3; have x2 := hF _ _ _ _ h6; have x3 := AtB_le (hF sc) _ _ _ h9
    exact ⟨a, b, e, p1, p2, h1, h2, by rw [ha]; exact hh _ _ _ _ (by omega) h3, by rw [hc1 _ (by omega)]; exact h4, by rw [hc1 _ (by omega)]; exact h5, by rw [hb]; exact hh _ _ _ _ (by omega) h6, by rw [hc1 _ (by omega)]; exact h7, by rw [hc1 _ (by omega)]; exact h8, AtB_tr (hF sc) (hh sc) hc1 _ _ _ (fun x hx => (hC x (hl x (by rw [h1]; simp [hx]))).2) hq h9⟩
  | 3, h => AtB_tr (hF sc) (hh sc) hc1 _ _ _ (fun x hx => (hC x (hl x hx)).2) hq h
  | 4, ⟨a, b, s, p1, h1, h2, h3, h4, e, h5, h6⟩ => by
    have ha := (hC a (hl a (by rw [h1]; simp))).2
    have hb := (hC b (hl b (by rw [h1]; simp))).2
    have x1 := hF _ _ _ _ h4
    exact ⟨a, b, s, p1, h1, by rw [ha]; exact h2, h3, by rw [hb]; exact hh _ _ _ _ (by omega) h4, e, fun pl hp => by rw [hc1 _ (by omega), hc1 _ (by omega)]; exact h5 pl hp, fun hp => by rw [hc1 _ (by omega), hc1 _ (by omega)]; exact h6 hp⟩
  | 5, ⟨a, b, p1, p2, h1, h2, h3, h4, h5, h6, h7, h8, h9, h10, e⟩ => by
    have ha := (hC a (hl a (by rw [h1]; simp))).2
    have x1 := hF _ _ _ _ h2; have x3 := AtB_le (hF sc) _ _ _ h5
    exact ⟨a, b, p1, p2, h1, by rw [ha]; exact hh _ _ _ _ (by omega) h2, by rw [hc1 _ (by omega)]; exact h3, by rw [hc1 _ (by omega)]; exact h4, AtB_tr (hF sc) (hh sc) hc1 _ _ _ (fun x hx => (hC x (hl x (by rw [h1]; simp [hx]))).2) (by omega) h5, by rw [hc1 _ (by omega)]; exact h6, by rw [hc1 _ (by omega)]; exact h7, by rw [hc1 _ (by omega)]; exact h8, by rw [hc1 _ (by omega)]; exact h9, by rw [hc1 _ (by omega)]; exact h10, e⟩
  | 6, ⟨a, b, ps, p1, h1, h2, h3, h4, h5, h6, h7, h8, e⟩ => by
    have ha := (hC a (hl a (by rw [h1]; simp))).2
    have x3 := AtB_le (hF (ps :: sc)) _ _ _ h7
    exact ⟨a, b, ps, p1, h1, by rw [ha]; exact Par_tr hC h2, by rw [hc1 _ (by omega)]; exact h3, by rw [hc1 _ (by omega)]; exact h4, by rw [hE a (hl a (by rw [h1]; simp))]; exact h5, by rw [hc1 _ (by omega)]; exact h6, AtB_tr (hF _) (hh _) hc1 _ _ _ (fun x hx => (hC x (hl x (by rw [h1]; simp [hx]))).2) (by omega) h7, by rw [hc1 _ (by omega)]; exact h8, e⟩
  | 7, ⟨a, b, p1, p2, h1, h2, h3, h4, h5, h6, e⟩ => by
    have ha := (hC a (hl a (by rw [h1]; simp))).2
    have x1 := hF _ _ _ _ h2; have x3 := AtB_le (hF sc) _ _ _ h5
    exact ⟨a, b, p1, p2, h1, by rw [ha]; exact hh _ _ _ _ (by omega) h2, by rw [hc1 _ (by omega)]; exact h3, by rw [hc1 _ (by omega)]; exact h4, AtB_tr (hF sc) (hh sc) hc1 _ _ _ (fun x hx => (hC x (hl x (by rw [h1]; simp [hx]))).2) (by omega) h5, by rw [hc1 _ (by omega)]; exact h6, e⟩
  | 8, ⟨p1, h1, h, h2, e⟩ => by
    have := AtL_le (hF sc) _ _ _ h
    exact ⟨p1, h1, AtL_tr (hF sc) (hh sc) _ _ _ (fun x hx => (hC x (hl x hx)).2) (by omega) h, by rw [hc1 _ (by omega)]; exact h2, e⟩
  | op + 9, ⟨p1, h1, h2, h3, h, h4, h5, h6, e⟩ => by
    have := AtL_le (hF sc) _ _ _ h
    exact ⟨p1, h1, h2, h3, AtL_tr (hF sc) (hh sc) _ _ _ (fun x hx => (hC x (hl x hx)).2) (by omega) h, by rw [hc1 _ (by omega)]; exact h4, by rw [hc1 _ (by omega)]; exact h5, by rw [hc1 _ (by omega)]; exact h6, e⟩
theorem AtE_tr (hc1 : ∀ p, p < tp → c1 p = c p) (hC : ∀ i, C i → C1 i ∧ rc1 i = rc i) (hO : ∀ i, C i → opV nam1 (rc i).1 = opV nam (rc i).1) (hK : ∀ v, VV K C (fun _ => none) v → VV K1 C1 (fun _ => none) v) (hE : ∀ i, C i → ent1 i = ent i) : ∀ (d : Nat) (sc : List (List Nat)) (v : Va) (p q : Nat), q ≤ tp → AtE rc nam K C c ent d sc v p q → AtE rc1 nam1 K1 C1 c1 ent1 d sc v p q
  | 0, sc, v, p, q, _, h => h.elim
  | d + 1, sc, v, p, q, hq, h => by
    have hlt := AtE_lt (d + 1) sc v p q h
    obtain ⟨h0, h⟩ := h
    refine ⟨by rw [hc1 p (by omega)]; exact h0, ?_⟩
    have at0 : ∀ v : Va, (c (p + 1) = 2 ∧ c (p + 2) = cw (fun _ => 0) v ∧ q = p + 3 ∧ ¬ made v ∧ vok v) → (c1 (p + 1) = 2 ∧ c1 (p + 2) = cw (fun _ => 0) v ∧ q = p + 3 ∧ ¬ made v ∧ vok v) := by
      intro v ⟨a1, a2, a3, a4⟩
      exact ⟨by rw [hc1 _ (by omega)]; exact a1, by rw [hc1 _ (by omega)]; exact a2, a3, a4⟩
    rcases v with _ | v | v | ⟨v, v2⟩ | v | v | v
    · exact at0 _ h
    · exact at0 _ h
    · obtain ⟨a1, a2, a3, a4⟩ := h
      exact ⟨a1, a2, fun pl hp => by rw [hc1 _ (by omega), hc1 _ (by omega)]; exact a3 pl hp, fun hp => by rw [hc1 _ (by omega), hc1 _ (by omega)]; exact a4 hp⟩
    · obtain ⟨a1, l, a2, a3, a4⟩ := h
      refine ⟨(hC v a1).1, l, ?_, fun x hx => (hC x (a3 x hx)).1, ?_⟩
      · rw [(hC v a1).2]
        exact Lst_tr l _ (fun x hx => (hC x (a3 x hx)).2) a2
      · rw [(hC v a1).2, hO v a1]
        exact AtO_tr (AtE_lt d) (AtE_tr hc1 hC hO hK hE d) hc1 hC hK hE a1 a3 hq _ a4
    · exact at0 _ h
    · exact at0 _ h
    · exact at0 _ h
theorem EnvR_tr {hp hp1 : Nat → Option Ob} (hC : ∀ i, C i → C1 i ∧ rc1 i = rc i) (hH : ∀ s p q l, hp s = some (ofrm p q l) → ∃ l1, hp1 s = some (ofrm p q l1) ∧ l1.length = l.length) : ∀ (sc : List (List Nat)) (e : Nat), EnvR rc C hp e sc → EnvR rc1 C1 hp1 e sc
  | [], e, h => h
  | ps :: sc, e, h => by
    obtain ⟨s, p, q, l, h1, h2, h3, h4, h5, h6⟩ := h
    obtain ⟨l1, a1, a2⟩ := hH s p q l h3
    exact ⟨s, p, q, l1, h1, h2, a1, Par_tr hC h4, a2.trans h5, EnvR_tr hC hH sc p h6⟩
theorem CloR_tr {hp hp1 : Nat → Option Ob} {tp1 r e : Nat} (htp : tp ≤ tp1) (hc1 : ∀ p, p < tp → c1 p = c p) (hC : ∀ i, C i → C1 i ∧ rc1 i = rc i) (hO : ∀ i, C i → opV nam1 (rc i).1 = opV nam (rc i).1) (hK : ∀ v, VV K C (fun _ => none) v → VV K1 C1 (fun _ => none) v) (hE : ∀ i, C i → ent1 i = ent i) (hH : ∀ sc, EnvR rc C hp e sc → EnvR rc1 C1 hp1 e sc) (h : CloR rc nam K C c tp ent hp r e) : CloR rc1 nam1 K1 C1 c1 tp1 ent1 hp1 r e := by
  obtain ⟨d, sc, ps, b, p1, h1, h2, h3, h4, h5, h6, h7, h8, h9, h10, h11⟩ := h
  have x1 := AtB_le (AtE_lt d (ps :: sc)) _ _ _ h6
  refine ⟨d, sc, ps, b, p1, (hC r h1).1, by rw [(hC r h1).2]; exact Par_tr hC h2, by rw [(hC r h1).2]; exact Lst_tr b _ (fun x hx => (hC x (h4 x hx)).2) h3, fun x hx => (hC x (h4 x hx)).1, by rw [hE r h1, hc1 _ (by omega)]; exact h5, ?_, by rw [hc1 _ h8]; exact h7, by omega, hH sc h9, h10, h11⟩
  rw [hE r h1]
  exact AtB_tr (AtE_lt d _) (fun v p q hq hv => AtE_tr hc1 hC hO hK hE d _ v p q hq hv) hc1 b _ _ (fun x hx => (hC x (h4 x hx)).2) (by omega) h6
/-- within an object: its values, the frames around it -/
theorem ObR_tr2 {hp hp1 : Nat → Option Ob} {tp1 : Nat} (htp : tp ≤ tp1) (hc1 : ∀ p, p < tp → c1 p = c p) (hC : ∀ i, C i → C1 i ∧ rc1 i = rc i) (hO : ∀ i, C i → opV nam1 (rc i).1 = opV nam (rc i).1) (hK : ∀ v, VV K C (fun _ => none) v → VV K1 C1 (fun _ => none) v) (hE : ∀ i, C i → ent1 i = ent i) : ∀ (ob : Ob), (∀ v ∈ ovs ob, VV K C hp v → VV K1 C1 hp1 v) → (∀ sc, EnvR rc C hp (oenv ob) sc → EnvR rc1 C1 hp1 (oenv ob) sc) → ObR rc nam K C c tp ent hp ob → ObR rc1 nam1 K1 C1 c1 tp1 ent1 hp1 ob
  | .inl (a, d), hV, _, h => ⟨hV a (by simp [ovs]) h.1, hV d (by simp [ovs]) h.2⟩
  | .inr (.inl l), hV, _, h => ⟨h.1, fun v hv => hV v hv (h.2 v hv)⟩
  | .inr (.inr (.inl (r, e))), _, hH, h => CloR_tr htp hc1 hC hO hK hE hH h
  | .inr (.inr (.inr (p, q, l))), hV, hH, ⟨h1, h2, ps, sc, h3, h4, h5, h6⟩ => ⟨h1, fun v hv => hV v hv (h2 v hv), ps, sc, Par_tr hC h3, h4, hH sc h5, h6⟩
theorem ObR_tr {hp hp1 : Nat → Option Ob} {tp1 : Nat} (htp : tp ≤ tp1) (hc1 : ∀ p, p < tp → c1 p = c p) (hC : ∀ i, C i → C1 i ∧ rc1 i = rc i) (hO : ∀ i, C i → opV nam1 (rc i).1 = opV nam (rc i).1) (hK : ∀ v, VV K C (fun _ => none) v → VV K1 C1 (fun _ => none) v) (hV : ∀ v, VV K C hp v → VV K1 C1 hp1 v) (hH : ∀ s p q l, hp s = some (ofrm p q l) → ∃ l1, hp1 s = some (ofrm p q l1) ∧ l1.length = l.length) (ob : Ob) (h : ObR rc nam K C c tp ent hp ob) : ObR rc1 nam1 K1 C1 c1 tp1 ent hp1 ob :=
  ObR_tr2 htp hc1 hC hO hK (fun _ _ => rfl) ob (fun v _ hv => hV v hv) (fun sc h => EnvR_tr hC hH sc _ h) h
end TRV
theorem VV_K {K K1 : Nat → Nat → Prop} {C C1 : Nat → Prop} {hp : Nat → Option Ob} (hK : ∀ i x, K i x → ¬ C i → K1 i x ∧ ¬ C1 i) {v : Va} (h : VV K C hp v) : VV K1 C1 hp v := by
  rcases v with _ | v | v | ⟨v, v2⟩ | v | v | v
  · trivial
  · exact h
  · exact h
  · obtain ⟨a, b, c, d⟩ := h
    exact ⟨(hK _ _ a b).1, (hK _ _ a b).2, c, d⟩
  · exact h
  · exact h
  · exact h
