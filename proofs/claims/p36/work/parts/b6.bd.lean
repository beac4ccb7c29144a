/-! the net that the law builds -/
section B6
def zh : Nat → Int64 := fun _ => 0
def st00 : Nat → Int32 := fun i => if i = 4 then 48 else if i = 5 then 3 else if i = 6 then 1 else 0
/-- no count has begun -/
def zz (st : Nat → Int32) : Prop := (∀ i q, i < 8 → 3 ≤ q → q < 7 → qS st i q = 0) ∧ (∀ j q, j < 16 → 5 ≤ q → q < 8 → qL st j q = 0) ∧ ∀ k q, k < 24 → 4 ≤ q → q < 6 → qM st k q = 0
theorem e0_ (w : Nat) : isum (fun _ => 0) w = 0 := by
  induction w with
  | zero => rfl
  | succ w ih => show isum (fun _ => 0) w + 0 = 0; rw [ih]; rfl
theorem nt_0 : (rlA 0 0 0 0 0 0 1 0 0 0 0 48 3 1 zf zf zf zf 0 0 zf st00 ∧ gd_Z st00) ∧ zz st00 := by
  have zs : ∀ i, i < 2888 → ¬ i = 4 → ¬ i = 5 → ¬ i = 6 → st00 i = 0 := fun i _ h1 h2 h3 => by unfold st00; rw [if_neg h1, if_neg h2, if_neg h3]
  have zS : ∀ i q, i < 8 → q < 7 → qS st00 i q = 0 := fun i q h1 h2 => zs _ (by omega) (by omega) (by omega) (by omega)
  have zL : ∀ i q, i < 16 → q < 8 → qL st00 i q = 0 := fun i q h1 h2 => zs _ (by omega) (by omega) (by omega) (by omega)
  have zM : ∀ i q, i < 24 → q < 8 → qM st00 i q = 0 := fun i q h1 h2 => zs _ (by omega) (by omega) (by omega) (by omega)
  have zC : ∀ k s q, k < 24 → s < 8 → q < 12 → qC st00 k s q = 0 := fun k s q h1 h2 h3 => zs _ (by omega) (by omega) (by omega) (by omega)
  refine ⟨⟨⟨⟨⟨⟨by omega, by omega, by omega, by omega, by omega⟩, rfl, rfl, rfl, rfl, rfl, 1, by decide, rfl⟩, rfl, rfl, rfl, rfl, rfl, rfl, rfl, rfl⟩,
    ⟨fun i hi => ⟨fun r => absurd r (by omega), fun _ q hq => zS i q hi hq⟩, fun i q hi hq => ?_⟩,
    ⟨fun i hi => ⟨fun r => absurd r (by omega), fun _ q hq => zL i q hi hq⟩, fun i j hi => absurd hi (by omega), fun i q hi hq => ?_⟩,
    ⟨fun i hi => absurd hi (by omega), fun i q hi hq => ?_⟩,
    ⟨fun k s hk hs => Or.inl ⟨zC k s 0 hk hs (by decide), zC k s 1 hk hs (by decide)⟩, fun k s q hk hs hq => ?_, fun k s hk hs r => absurd (zC k s 0 hk hs (by decide)) r⟩,
    fun k g hk => absurd hk (by omega), fun j hj => absurd hj (by omega), 0, by decide, rfl, fun j q hj => absurd hj (by omega)⟩, ?_⟩, fun i q h1 _ h2 => zS i q h1 h2, fun i q h1 _ h2 => zL i q h1 h2, fun i q h1 _ h2 => zM i q h1 (by omega)⟩
  · rw [zS i q hi hq]
    rfl
  · rw [zL i q hi hq]
    rfl
  · rw [zM i q hi hq]
    rfl
  · rw [zC k s q hk hs (by omega)]
    rfl
  · refine ⟨?_, ?_⟩
    · rw [isum_c (g := fun _ => 0) 8 (fun i hi => zS i 3 hi (by decide)), isum_c (g := fun _ => 0) 16 (fun i hi => zL i 5 hi (by decide)), e0_, e0_]
    · rw [isum_c (g := fun _ => 0) 8 (fun i hi => zS i 6 hi (by decide)), isum_c (f := fun k => if q_dl st00 k = true then 1 else 0) (g := fun _ => 0) 24 (fun k hk => ?_), e0_, e0_]
      rw [if_neg]
      intro r
      unfold q_dl at r
      rw [List.any_eq_true] at r
      obtain ⟨s, r1, r2⟩ := r
      rw [zC k s 0 hk (List.mem_range.mp r1) (by decide)] at r2
      exact absurd r2 (by decide)
theorem evH_0 {st : Nat → Int32} : ev_H 0 zh st := fun h i j _ _ _ => ⟨fun r => by
  unfold zh at r
  simp at r, fun ⟨l, hl, _⟩ => absurd hl (by omega)⟩
theorem hr_1 : ∀ f : Nat, f < 24 → fX6_isHour (nI f) = some 1 := by decide +kernel
theorem rt_1 : ∀ f : Nat, f < 4 → fX6_isRate (nI (1 + f)) = some 1 := by decide +kernel
theorem ql_1 : ∀ f : Nat, f < 101 → fX6_isQuality (nI f) = some 1 := by decide +kernel
variable {N ns : Nat} {ws : Nat → Int32}
theorem dro {q k c : Nat} {P : Prop} [Decidable P] (hs : ns ≤ 260) (hq : q < 100000) (hc : c < k) (hk : k < 2 ^ 31) : ∃ u q', u < k ∧ q ≤ q' ∧ q' ≤ q + 1 ∧ (if P then (fL_draw ns ws (nI q) (nI k)).bind fun t => some (t.1, t.2) else some (nI c, nI q)) = some (nI u, nI q') := by
  by_cases h : P
  · obtain ⟨v, hv, d⟩ := dw (ws := ws) (q := q) (n := k) hs hq (by omega) hk
    exact ⟨v, q + 1, hv, by omega, by omega, by rw [if_pos h, d, rn_bs]⟩
  · exact ⟨c, q, hc, by omega, by omega, by rw [if_neg h]⟩
theorem dro' {q k c : Nat} {P : Prop} [Decidable P] (hs : ns ≤ 260) (hq : q < 100000) (hc : c < k) (hk : k < 2 ^ 31) : ∃ u q', u < k ∧ q ≤ q' ∧ q' ≤ q + 1 ∧ (if P then some (nI c, nI q) else (fL_draw ns ws (nI q) (nI k)).bind fun t => some (t.1, t.2)) = some (nI u, nI q') := by
  by_cases h : P
  · exact ⟨c, q, hc, by omega, by omega, by rw [if_pos h]⟩
  · obtain ⟨v, hv, d⟩ := dw (ws := ws) (q := q) (n := k) hs hq (by omega) hk
    exact ⟨v, q + 1, hv, by omega, by omega, by rw [if_neg h, d, rn_bs]⟩
theorem drq {q : Nat} {P : Prop} [Decidable P] (hs : ns ≤ 260) (hq : q < 100000) : ∃ u q', u < 101 ∧ q ≤ q' ∧ q' ≤ q + 1 ∧ (if P then some ((100 : Int32), nI q) else (fL_draw ns ws (nI q) (71 : Int32)).bind fun t => some (((30 : Int32) + t.1), t.2)) = some (nI u, nI q') := by
  by_cases h : P
  · exact ⟨100, q, by decide, by omega, by omega, by rw [if_pos h]; rfl⟩
  · obtain ⟨v, hv, d⟩ := dw (ws := ws) (q := q) (n := 71) hs hq (by omega) (by decide)
    exact ⟨30 + v, q + 1, by omega, by omega, by omega, by rw [if_neg h, show fL_draw ns ws (nI q) (71 : Int32) = _ from d, rn_bs]; exact congrArg (fun z => some (z, nI (q + 1))) (nI_add 30 v)⟩
/-- the stations -/
def BA (a : Nat) (stations st : Nat → Int32) : Prop := (rlA 0 a 0 0 0 0 1 (nI a) 0 0 0 48 3 1 stations zf zf zf 0 0 zf st ∧ gd_Z st) ∧ zz st
theorem sa {a f g r : Nat} {stations st : Nat → Int32} (h : BA a stations st) (h8 : a < 8) (hf : f < 24) (hg : g < 24) (hr : r < 4) : ∃ stations' st', fL_addStation (nI a) stations (nI f) (nI g) (nI (1 + r)) = some (0, nI a, nI (a + 1), stations') ∧ BA (a + 1) stations' st' := by
  obtain ⟨⟨hA, hZ⟩, z1, z2, z3⟩ := h
  obtain ⟨stations', st', n1, n2, n3, n4, -⟩ := ns_eq hA hZ h8 hf hg (show 1 + r < 10 by omega)
  have z0 := hA.1.1.2.1
  have e2 : st' = upd (upd (upd (upd st (8 + 7 * a + 0) (nI f)) (8 + 7 * a + 1) (nI g)) (8 + 7 * a + 2) (nI (1 + r))) 0 (nI (a + 1)) := by
    unfold fX7_appendStation at n2
    simp only [cl0, z0, rn_lt, show ((8 : Int32) + (7 : Int32) * nI a) + (0 : Int32) = nI (8 + 7 * a + 0) from sPl a 0, show ((8 : Int32) + (7 : Int32) * nI a) + (1 : Int32) = nI (8 + 7 * a + 1) from sPl a 1, show ((8 : Int32) + (7 : Int32) * nI a) + (2 : Int32) = nI (8 + 7 * a + 2) from sPl a 2, nI_clamp (show 8 + 7 * a + 0 < 2 ^ 31 by omega), nI_clamp (show 8 + 7 * a + 1 < 2 ^ 31 by omega), nI_clamp (show 8 + 7 * a + 2 < 2 ^ 31 by omega), g0] at n2
    rw [rn_gI (by omega) (by decide), rn_gI (by omega) (by decide), rn_gI (by omega) (by decide), pk_us, pk_un (by omega), pk_un (by omega), pk_un (by omega), z0, nI_1] at n2
    exact (congrArg Prod.snd (Option.some.inj n2)).symm
  refine ⟨stations', st', ?_, ⟨by rw [nI_1] at n3; exact n3, n4⟩, fun i q h1 h2 h3 => ?_, fun i q h1 h2 h3 => ?_, fun i q h1 h2 h3 => ?_⟩
  · unfold fL_addStation fX6_addStation fX2_stationCount
    rw [hr_1 f hf, rn_bs, if_neg n10, hr_1 g hg, rn_bs, if_neg n10, rt_1 r hr, rn_bs, if_neg n10, rn_bs, if_pos (show nI a < (8 : Int32) from nI_lt (b := 8) h8 (by decide)), n1, rn_bs, rn_bs, nI_1]
    exact if_pos rfl
  · rw [← z1 i q h1 h2 h3, e2]
    unfold qS
    rw [pk_un (by omega), pk_un (by omega), pk_un (by omega), pk_un (by omega)]
  · rw [← z2 i q h1 h2 h3, e2]
    unfold qL
    rw [pk_un (by omega), pk_un (by omega), pk_un (by omega), pk_un (by omega)]
  · rw [← z3 i q h1 h2 h3, e2]
    unfold qM
    rw [pk_un (by omega), pk_un (by omega), pk_un (by omega), pk_un (by omega)]
theorem b11 {t1 : Int32 × Int32} {n0 : Nat} (hs : ns ≤ 260) (e1 : (3 : Int32) + t1.1 = nI n0) (hn0 : n0 ≤ 8) : ∀ (n i q : Nat) (stations st : Nat → Int32), i ≤ n0 → n0 - i < n → q + 5 * (n0 - i) < 99000 → BA i stations st →
    ∃ q' stations' st', q' ≤ q + 5 * (n0 - i) ∧ lL_builds_11 ns ws t1 n (nI i) (nI q) (nI i) stations = some (nI q', nI n0, stations') ∧ BA n0 stations' st' := by
  intro n
  induction n with
  | zero => intro i q stations st _ h; omega
  | succ n ih =>
    intro i q stations st hi hn hq h
    rw [lL_builds_11, e1]
    rcases Nat.lt_or_ge i n0 with c | c
    · obtain ⟨v1, -, d1⟩ := dw (ws := ws) (q := q) (n := 3) hs (by omega) (by decide) (by decide)
      obtain ⟨f, q1, hf, y1, y2, d2⟩ := dro (ws := ws) (q := q + 1) (k := 24) (c := 0) (P := nI v1 = 0) hs (by omega) (by decide) (by decide)
      obtain ⟨v2, -, d3⟩ := dw (ws := ws) (q := q1) (n := 3) hs (by omega) (by decide) (by decide)
      obtain ⟨g, q2, hg, y3, y4, d4⟩ := dro (ws := ws) (q := q1 + 1) (k := 24) (c := 23) (P := nI v2 = 0) hs (by omega) (by decide) (by decide)
      obtain ⟨r, hr, d5⟩ := dw (ws := ws) (q := q2) (n := 4) hs (by omega) (by decide) (by decide)
      obtain ⟨stations', st', s1, s2⟩ := sa h (by omega) hf hg hr
      obtain ⟨q', stations2, st2, w1, w2, w3⟩ := ih (i + 1) (q2 + 1) stations' st' (by omega) (by omega) (by omega) s2
      rw [if_neg (nI_ge c (by omega)), show fL_draw ns ws (nI q) (3 : Int32) = _ from d1, rn_bs]
      dsimp only
      rw [show (if nI v1 = 0 then (fL_draw ns ws (nI (q + 1)) (24 : Int32)).bind fun t7 => some (t7.1, t7.2) else some ((0 : Int32), nI (q + 1))) = _ from d2, rn_bs]
      dsimp only
      rw [show fL_draw ns ws (nI q1) (3 : Int32) = _ from d3, rn_bs]
      dsimp only
      rw [show (if nI v2 = 0 then (fL_draw ns ws (nI (q1 + 1)) (24 : Int32)).bind fun t7 => some (t7.1, t7.2) else some ((23 : Int32), nI (q1 + 1))) = _ from d4, rn_bs]
      dsimp only
      rw [show fL_draw ns ws (nI q2) (4 : Int32) = _ from d5, rn_bs]
      dsimp only
      rw [show (1 : Int32) + nI r = nI (1 + r) from nI_add 1 r, bz s1]
      dsimp only
      rw [if_pos rfl, nI_1]
      exact ⟨q', stations2, st2, by omega, w2, w3⟩
    · have : i = n0 := by omega
      subst this
      rw [if_pos (nI_le (Nat.le_refl _) (by omega))]
      exact ⟨q, stations, st, by omega, rfl, h⟩
/-- the links -/
def BB (a b : Nat) (stations links : Nat → Int32) (heard : Nat → Int64) (st : Nat → Int32) : Prop := (rlA 0 a b 0 0 0 1 (nI a) (nI b) 0 0 48 3 1 stations links zf zf 0 0 zf st ∧ gd_Z st) ∧ zz st ∧ ev_H b heard st
theorem is_1 {a u : Nat} (ha : a ≤ 8) (hu : u < a) : fX6_isStation (nI a) (nI u) = some 1 := by
  unfold fX6_isStation fX2_stationCount
  rw [if_neg (show ¬ nI u < 0 from nI_nlt (b := 0) (Nat.zero_le _) (by omega)), rn_bs, if_neg (nI_ge hu (by omega))]
theorem sl {a b f g u v r : Nat} {stations links st : Nat → Int32} {heard : Nat → Int64} (hN : 6000 ≤ N) (h : BB a b stations links heard st) (hf : f < a) (hg : g < a) (hu : u < 24) (hv : v < 24) (hr : r < 101) :
    (f = g ∧ fL_addLink N (nI a) (nI b) stations links heard (nI f) (nI g) (nI u) (nI v) (nI r) = some (1, (-102 : Int32), nI b, links, heard)) ∨
    (¬ f = g ∧ ∃ (k : Nat) (is : Int32) (b' : Nat) (links' : Nat → Int32) (heard' : Nat → Int64) (st' : Nat → Int32), fL_addLink N (nI a) (nI b) stations links heard (nI f) (nI g) (nI u) (nI v) (nI r) = some (k, is, nI b', links', heard') ∧ (is = nI b ∨ is = -103) ∧ BB a b' stations links' heard' st') := by
  have h' := h
  obtain ⟨⟨hA, hZ⟩, ⟨z1, z2, z3⟩, eH⟩ := h
  have ha := hA.1.1.1.1
  have hb := hA.1.1.1.2.1
  have zb := hA.1.1.2.2.1
  by_cases c : f = g
  · left
    refine ⟨c, ?_⟩
    unfold fL_addLink fX6_addLink
    rw [is_1 ha hf, rn_bs, if_neg n10, is_1 ha hg, rn_bs, if_neg n10, if_pos (show nI f = nI g by rw [c]), rn_bs]
    rfl
  · right
    refine ⟨c, ?_⟩
    have cn : ¬ nI f = nI g := fun q => c ((nI_eq (by omega) (by omega)).mp q)
    unfold fL_addLink fX6_addLink
    rw [is_1 ha hf, rn_bs, if_neg n10, is_1 ha hg, rn_bs, if_neg n10, if_neg cn, hr_1 u hu, rn_bs, if_neg n10, hr_1 v hv, rn_bs, if_neg n10, ql_1 r hr, rn_bs, if_neg n10, lk2 hN hA.2.2.1.2.2 hb, rn_bs]
    by_cases d : q_lk st b (nI f) (nI g) = -1
    · unfold fX2_linkCount
      rw [if_pos d, rn_bs]
      rcases Nat.lt_or_ge b 16 with d8 | d8
      · obtain ⟨l', st', n1, n2, n3, n4⟩ := nl_eq hA hZ d8 hf hg c hu hv hr d
        obtain ⟨h1, o1, o2⟩ := fo_eq hN n3 heard
        have e2 : st' = upd (upd (upd (upd (upd (upd st (64 + 8 * b + 0) (nI f)) (64 + 8 * b + 1) (nI g)) (64 + 8 * b + 2) (nI u)) (64 + 8 * b + 3) (nI v)) (64 + 8 * b + 4) (nI r)) 1 (nI (b + 1)) := by
          unfold fX7_appendLink at n2
          simp only [cl1, zb, rn_lt, show ((64 : Int32) + (8 : Int32) * nI b) + (0 : Int32) = nI (64 + 8 * b + 0) from lPl b 0, show ((64 : Int32) + (8 : Int32) * nI b) + (1 : Int32) = nI (64 + 8 * b + 1) from lPl b 1, show ((64 : Int32) + (8 : Int32) * nI b) + (2 : Int32) = nI (64 + 8 * b + 2) from lPl b 2, show ((64 : Int32) + (8 : Int32) * nI b) + (3 : Int32) = nI (64 + 8 * b + 3) from lPl b 3, show ((64 : Int32) + (8 : Int32) * nI b) + (4 : Int32) = nI (64 + 8 * b + 4) from lPl b 4, nI_clamp (show 64 + 8 * b + 0 < 2 ^ 31 by omega), nI_clamp (show 64 + 8 * b + 1 < 2 ^ 31 by omega), nI_clamp (show 64 + 8 * b + 2 < 2 ^ 31 by omega), nI_clamp (show 64 + 8 * b + 3 < 2 ^ 31 by omega), nI_clamp (show 64 + 8 * b + 4 < 2 ^ 31 by omega), g1] at n2
          rw [rn_gI (by omega) (by decide), rn_gI (by omega) (by decide), rn_gI (by omega) (by decide), rn_gI (by omega) (by decide), rn_gI (by omega) (by decide), pk_us, pk_un (by omega), pk_un (by omega), pk_un (by omega), pk_un (by omega), pk_un (by omega), zb, nI_1] at n2
          exact (congrArg Prod.snd (Option.some.inj n2)).symm
        rw [nI_1] at n1 n3 o1
        rw [if_pos (show nI b < (16 : Int32) from nI_lt (b := 16) d8 (by decide)), n1, rn_bs]
        dsimp only
        rw [o1, rn_bs, rn_bs]
        refine ⟨0, nI b, b + 1, l', h1, st', if_pos rfl, Or.inl rfl, ⟨n3, n4⟩, ⟨fun i q h1 h2 h3 => ?_, fun i q h1 h2 h3 => ?_, fun i q h1 h2 h3 => ?_⟩, o2⟩
        · rw [← z1 i q h1 h2 h3, e2]
          unfold qS
          rw [pk_un (by omega), pk_un (by omega), pk_un (by omega), pk_un (by omega), pk_un (by omega), pk_un (by omega)]
        · rw [← z2 i q h1 h2 h3, e2]
          unfold qL
          rw [pk_un (by omega), pk_un (by omega), pk_un (by omega), pk_un (by omega), pk_un (by omega), pk_un (by omega)]
        · rw [← z3 i q h1 h2 h3, e2]
          unfold qM
          rw [pk_un (by omega), pk_un (by omega), pk_un (by omega), pk_un (by omega), pk_un (by omega), pk_un (by omega)]
      · have d9 : b = 16 := by omega
        rw [if_neg (show ¬ nI b < (16 : Int32) from nI_nlt (b := 16) d8 (by omega)), rn_bs]
        exact ⟨2, -103, b, links, heard, st, rfl, Or.inr rfl, h'⟩
    · rw [if_neg d, rn_bs]
      exact ⟨2, -103, b, links, heard, st, rfl, Or.inr rfl, h'⟩
theorem rl_B {a b : Nat} {stations links st : Nat → Int32} {heard : Nat → Int64} (h : BB a b stations links heard st) : rl_net 0 (nI a) (nI b) 0 0 48 3 1 stations links zf zf 0 0 zf heard st := ⟨a, b, 0, 0, 0, rlA_iff.mpr h.1, h.2.2⟩
theorem b81 {t1 : Int32 × Int32} {t2 : Int32 × Int32 × (Nat → Int32)} {a : Nat} {stations : Nat → Int32} (hN : 6000 ≤ N) (hs : ns ≤ 260) (e1 : (3 : Int32) + t1.1 = nI a) (e2 : t2.2.1 = nI a) (e3 : t2.2.2 = stations) (h1a : 1 ≤ a) : ∀ (n i q b : Nat) (links : Nat → Int32) (heard : Nat → Int64) (st : Nat → Int32), i ≤ 20 → 20 - i < n → q + 8 * (20 - i) < 99000 → BB a b stations links heard st →
    ∃ q' b' links' heard' st', q' ≤ q + 8 * (20 - i) ∧ lL_builds_81 ns ws N 0 0 48 3 1 zf zf 0 t1 t2 n (nI i) (nI q) (nI b) links heard = some (nI q', nI b', links', heard') ∧ BB a b' stations links' heard' st' := by
  intro n
  induction n with
  | zero => intro i q b links heard st _ h; omega
  | succ n ih =>
    intro i q b links heard st hi hn hq h
    have ha := h.1.1.1.1.1.1
    rw [lL_builds_81, e1, e2, e3]
    rcases Nat.lt_or_ge i 20 with c | c
    · obtain ⟨f, hf, d1⟩ := dw (ws := ws) (q := q) (n := a) hs (by omega) h1a (by omega)
      obtain ⟨g, hg, d2⟩ := dw (ws := ws) (q := q + 1) (n := a) hs (by omega) h1a (by omega)
      have k1 : fL_count N (nI a) (nI b) 0 0 48 3 1 stations links zf zf 0 (1 : Int32) = some (0, nI b) := by rw [rd_count hN (by omega) (rl_B h) c7_1, h.1.1.1.1.2.2.1]
      obtain ⟨v3, -, d3⟩ := dw (ws := ws) (q := q + 1 + 1) (n := 3) hs (by omega) (by decide) (by decide)
      obtain ⟨r, q1, hr, y1, y2, d4⟩ := drq (ws := ws) (q := q + 1 + 1 + 1) (P := nI v3 = 0) hs (by omega)
      obtain ⟨v5, -, d5⟩ := dw (ws := ws) (q := q1) (n := 2) hs (by omega) (by decide) (by decide)
      obtain ⟨u, q2, hu, y3, y4, d6⟩ := dro' (ws := ws) (q := q1 + 1) (k := 24) (c := 0) (P := nI v5 = 0) hs (by omega) (by decide) (by decide)
      obtain ⟨v7, -, d7⟩ := dw (ws := ws) (q := q2) (n := 2) hs (by omega) (by decide) (by decide)
      obtain ⟨v, q3, hv, y5, y6, d8⟩ := dro' (ws := ws) (q := q2 + 1) (k := 24) (c := 23) (P := nI v7 = 0) hs (by omega) (by decide) (by decide)
      rw [if_neg (show ¬ (20 : Int32) ≤ nI i from nI_ge (b := 20) c (by decide)), d1, rn_bs]
      dsimp only
      rw [d2, rn_bs, bz k1]
      dsimp only
      rw [show fL_draw ns ws (nI (q + 1 + 1)) (3 : Int32) = _ from d3, rn_bs]
      dsimp only
      rw [d4, rn_bs]
      dsimp only
      rw [show fL_draw ns ws (nI q1) (2 : Int32) = _ from d5, rn_bs]
      dsimp only
      rw [show (if nI v5 = 0 then some ((0 : Int32), nI (q1 + 1)) else (fL_draw ns ws (nI (q1 + 1)) (24 : Int32)).bind fun t29 => some (t29.1, t29.2)) = _ from d6, rn_bs]
      dsimp only
      rw [show fL_draw ns ws (nI q2) (2 : Int32) = _ from d7, rn_bs]
      dsimp only
      rw [show (if nI v7 = 0 then some ((23 : Int32), nI (q2 + 1)) else (fL_draw ns ws (nI (q2 + 1)) (24 : Int32)).bind fun t29 => some (t29.1, t29.2)) = _ from d8, rn_bs]
      dsimp only
      rcases sl hN h hf hg hu hv hr with ⟨w, s1⟩ | ⟨w, k, is, b', links', heard', st', s1, s2, s3⟩
      · obtain ⟨q', b2, l2, h2, st2, w1, w2, w3⟩ := ih (i + 1) q3 b links heard st (by omega) (by omega) (by omega) h
        rw [s1, rn_bs]
        dsimp only
        rw [if_pos (show nI f = nI g by rw [w]), if_pos rfl, nI_1]
        exact ⟨q', b2, l2, h2, st2, by omega, w2, w3⟩
      · obtain ⟨q', b2, l2, h2, st2, w1, w2, w3⟩ := ih (i + 1) q3 b' links' heard' st' (by omega) (by omega) (by omega) s3
        rw [s1, rn_bs]
        dsimp only
        rw [if_neg (show ¬ nI f = nI g from fun q => w ((nI_eq (by omega) (by omega)).mp q)), nI_1]
        by_cases z : is = nI b
        · rw [if_pos z]
          exact ⟨q', b2, l2, h2, st2, by omega, w2, w3⟩
        · rw [if_neg z, if_pos (s2.resolve_left z)]
          exact ⟨q', b2, l2, h2, st2, by omega, w2, w3⟩
    · have : i = 20 := by omega
      subst this
      rw [if_pos (show (20 : Int32) ≤ nI 20 from nI_le (a := 20) (Nat.le_refl _) (by decide))]
      exact ⟨q, b, links, heard, st, by omega, rfl, h⟩
theorem xI_0 {a b : Nat} {st : Nat → Int32} (h : zz st) (z7 : st 7 = nI 0) : xI a b 0 0 0 st := by
  obtain ⟨z1, z2, z3⟩ := h
  have s0 : ∀ (g : Nat → Int32) (n : Nat), (∀ i, i < n → g i = 0) → isum g n = 0 := fun g n hg => (isum_z (Nat.zero_le n) (fun i _ hi => hg i hi)).trans rfl
  refine ⟨fun k s hk => absurd hk (by omega), fun k hk => ⟨fun r => absurd r (by omega), fun _ => ⟨z3 k 4 hk (by decide) (by decide), z3 k 5 hk (by decide) (by decide)⟩⟩, ⟨?_, ?_, ?_⟩, ⟨fun i hi => ⟨0, 0, 0, 0, z1 i 3 hi (by decide) (by decide), z1 i 4 hi (by decide) (by decide), z1 i 5 hi (by decide) (by decide), z1 i 6 hi (by decide) (by decide), by omega, by omega, by omega⟩, fun j hj => ⟨0, 0, 0, z2 j 5 hj (by decide) (by decide), z2 j 6 hj (by decide) (by decide), z2 j 7 hj (by decide) (by decide), by omega, by omega, fun _ => ⟨rfl, rfl⟩⟩⟩, 0, fun _ => 0, fun _ => 0, z7, by omega, fun j hj => absurd hj (by omega), fun j hj => absurd hj (by omega), Or.inr ⟨rfl, rfl⟩⟩
  · rw [s0 _ 8 (fun i hi => z1 i 4 hi (by decide) (by decide)), s0 _ 16 (fun i hi => z2 i 6 hi (by decide) (by decide)), s0 _ 8 (fun i hi => z1 i 3 hi (by decide) (by decide))]
    rfl
  · rw [s0 _ 24 (fun i hi => z3 i 4 hi (by decide) (by decide)), s0 _ 8 (fun i hi => z1 i 3 hi (by decide) (by decide))]
  · rw [s0 _ 24 (fun i hi => z3 i 5 hi (by decide) (by decide)), s0 _ 8 (fun i hi => z1 i 5 hi (by decide) (by decide))]
theorem builds_ok (hN : 6000 ≤ N) (hs : ns ≤ 260) : ∃ (n b q' : Nat) (life tries x : Int32) (stations links : Nat → Int32) (heard : Nat → Int64) (st : Nat → Int32), 3 ≤ n ∧ q' ≤ 1000 ∧ fL_builds N ns ws 0 0 0 0 0 48 3 1 zf zf zf zf 0 zh = some (nI q', nI n, nI b, life, tries, x, stations, links, heard) ∧ rl0 0 n b 0 0 0 (0 + 1) (nI n) (nI b) 0 0 life tries x stations links zf zf 0 0 zf st ∧ ev_H b heard st ∧ xI n b 0 0 0 st := by
  obtain ⟨d, hd, d1⟩ := dw (ws := ws) (q := 0) (n := 6) hs (by omega) (by decide) (by decide)
  obtain ⟨q1, stations, st1, w1, w2, w3⟩ := b11 (ws := ws) (t1 := (nI d, nI (0 + 1))) (n0 := 3 + d) hs (nI_add 3 d) (by omega) N 0 1 zf st00 (by omega) (by omega) (by omega) nt_0
  obtain ⟨q2, b, links, heard, st2, w4, w5, w6⟩ := b81 (ws := ws) (t1 := (nI d, nI (0 + 1))) (t2 := (nI q1, nI (3 + d), stations)) (a := 3 + d) hN hs (nI_add 3 d) rfl rfl (by omega) 21 0 q1 0 zf zh st1 (by omega) (by omega) (by omega) ⟨w3.1, w3.2, evH_0⟩
  obtain ⟨l, hl, d2⟩ := dw (ws := ws) (q := q2) (n := 80) hs (by omega) (by decide) (by decide)
  obtain ⟨tr, htr, d3⟩ := dw (ws := ws) (q := q2 + 1) (n := 6) hs (by omega) (by decide) (by decide)
  obtain ⟨sd, hsd, d4⟩ := dw (ws := ws) (q := q2 + 1 + 1) (n := 1000003) hs (by omega) (by decide) (by decide)
  obtain ⟨⟨hA, hZ⟩, hz, eH⟩ := w6
  obtain ⟨p1, p2⟩ := p_R (v := nI (10 + l)) (w := nI (1 + tr)) (u := nI sd) hA hZ ⟨sd, hsd, rfl⟩
  have ha : 3 + d ≤ 8 := by omega
  have hb : b ≤ 16 := hA.1.1.1.2.1
  have gL : gd_L (3 + d) b st2 := hA.2.2.1.1
  have sr : fL_setRules 48 3 1 ((10 : Int32) + nI l) ((1 : Int32) + nI tr) (nI sd) = some (0, 0, nI (10 + l), nI (1 + tr), nI sd) := by
    unfold fL_setRules fX6_setRules fX2_setLife fX2_setTries fX2_setX
    rw [show (10 : Int32) + nI l = nI (10 + l) from nI_add 10 l, show (1 : Int32) + nI tr = nI (1 + tr) from nI_add 1 tr, if_neg (show ¬ nI (10 + l) < (1 : Int32) from nI_nlt (b := 1) (by omega) (by omega)), if_neg (show ¬ (200 : Int32) < nI (10 + l) from nI_nlt (a := 200) (by omega) (by decide)), if_neg (show ¬ nI (1 + tr) < (1 : Int32) from nI_nlt (b := 1) (by omega) (by omega)), if_neg (show ¬ (9 : Int32) < nI (1 + tr) from nI_nlt (a := 9) (by omega) (by decide)), if_neg (show ¬ nI sd < 0 from nI_nlt (b := 0) (Nat.zero_le _) (by omega)), if_pos (show nI sd ≤ (1000002 : Int32) from nI_le (b := 1000002) (by omega) (by decide)), rn_bs, rn_bs, rn_bs, rn_bs]
    exact if_pos rfl
  have al : fL_addLink N (nI (3 + d)) (nI b) stations links heard (nI (3 + d)) 0 0 0 0 = some (3, (-101 : Int32), nI b, links, heard) := by
    unfold fL_addLink fX6_addLink
    have e : fX6_isStation (nI (3 + d)) (nI (3 + d)) = some 0 := by
      unfold fX6_isStation fX2_stationCount
      rw [if_neg (show ¬ nI (3 + d) < 0 from nI_nlt (b := 0) (Nat.zero_le _) (by omega)), rn_bs, if_pos (nI_le (Nat.le_refl _) (by omega))]
    rw [e, rn_bs, if_pos rfl, rn_bs]
    rfl
  refine ⟨3 + d, b, q2 + 1 + 1 + 1, nI (10 + l), nI (1 + tr), nI sd, stations, links, heard, upd (upd (upd st2 4 (nI (10 + l))) 5 (nI (1 + tr))) 6 (nI sd), by omega, by omega, ?_, rlA_iff.mpr ⟨p1, p2⟩, evH_c (st := st2) hb ha gL (fun i q h1 h2 => by unfold qL; rw [pk_un (by omega), pk_un (by omega), pk_un (by omega)]) (fun i q h1 h2 => by unfold qS; rw [pk_un (by omega), pk_un (by omega), pk_un (by omega)]) eH, xI_0 ⟨fun i q h1 h2 h3 => ?_, fun i q h1 h2 h3 => ?_, fun i q h1 h2 h3 => ?_⟩ p1.1.1.2.2.2.2.2.1⟩
  · unfold fL_builds
    rw [show fL_draw ns ws (0 : Int32) (6 : Int32) = _ from d1, rn_bs]
    rw [show lL_builds_11 ns ws (nI d, nI (0 + 1)) N (0 : Int32) (nI d, nI (0 + 1)).2 (0 : Int32) zf = _ from w2, rn_bs, show lL_builds_81 ns ws N 0 0 48 3 1 zf zf 0 (nI d, nI (0 + 1)) (nI q1, nI (3 + d), stations) 21 (0 : Int32) (nI q1, nI (3 + d), stations).1 0 zf zh = _ from w5, rn_bs]
    dsimp only
    rw [show fL_draw ns ws (nI q2) (80 : Int32) = _ from d2, rn_bs]
    dsimp only
    rw [show fL_draw ns ws (nI (q2 + 1)) (6 : Int32) = _ from d3, rn_bs]
    dsimp only
    rw [show fL_draw ns ws (nI (q2 + 1 + 1)) (1000003 : Int32) = _ from d4, rn_bs]
    dsimp only
    rw [bz sr]
    dsimp only
    rw [if_pos rfl, show (3 : Int32) + nI d = nI (3 + d) from nI_add 3 d, al, rn_bs]
    dsimp only
    rw [if_pos rfl]
  · rw [← hz.1 i q h1 h2 h3]
    unfold qS
    rw [pk_un (by omega), pk_un (by omega), pk_un (by omega)]
  · rw [← hz.2.1 i q h1 h2 h3]
    unfold qL
    rw [pk_un (by omega), pk_un (by omega), pk_un (by omega)]
  · rw [← hz.2.2 i q h1 h2 h3]
    unfold qM
    rw [pk_un (by omega), pk_un (by omega), pk_un (by omega)]
end B6
