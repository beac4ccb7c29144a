/-! what makes a net larger, on both sides -/
theorem upd_id {c : Nat → Int32} {p : Nat} {v : Int32} (h : c p = v) : upd c p v = c := by
  funext i
  by_cases q : i = p
  · rw [q, pk_us, h]
  · exact pk_un q
section QF
variable {N t a b m e tt τ : Nat} {sc lc mc tm life tries x : Int32} {stations links messages copies : Nat → Int32} {first size : Int32} {events st : Nat → Int32} {heard : Nat → Int64}
theorem ns_eq {f g r : Nat} (h : rlA t a b m e tt τ sc lc mc tm life tries x stations links messages copies first size events st) (hZ : gd_Z st) (h8 : a < 8) (hf : f < 24) (hg : g < 24) (hr : r < 10) :
    ∃ stations' st', fX2_newStation sc stations (nI f) (nI g) (nI r) = some (sc, sc + 1, stations') ∧ fX7_appendStation st (nI f) (nI g) (nI r) = some (sc, st') ∧ rlA t (a + 1) b m e tt τ (sc + 1) lc mc tm life tries x stations' links messages copies first size events st' ∧ gd_Z st' ∧ ∀ heard, ev_H b heard st → ev_H b heard st' := by
  obtain ⟨⟨n1, n2⟩, ⟨S1, S2⟩, ⟨L1, L2, L3⟩, ⟨M1, M2⟩, ⟨C1, C2, C3⟩, D, E1, E2⟩ := h
  obtain ⟨ha, hb, hm, he, htt⟩ := n1.1
  have z0 := n1.2.1
  have sce : sc = nI a := n2.1.trans z0
  subst sce
  obtain ⟨st', hst⟩ : ∃ st', st' = upd (upd (upd (upd st (8 + 7 * a + 0) (nI f)) (8 + 7 * a + 1) (nI g)) (8 + 7 * a + 2) (nI r)) 0 (nI (a + 1)) := ⟨_, rfl⟩
  have un : ∀ p, ¬ p = 0 → ¬ p = 8 + 7 * a + 0 → ¬ p = 8 + 7 * a + 1 → ¬ p = 8 + 7 * a + 2 → st' p = st p := fun p a1 a2 a3 a4 => by rw [hst, pk_un a1, pk_un a4, pk_un a3, pk_un a2]
  have v0 : st' 0 = nI (a + 1) := by rw [hst, pk_us]
  have w0 : qS st' a 0 = nI f := by unfold qS; rw [hst, pk_un (by omega), pk_un (by omega), pk_un (by omega), pk_us]
  have w1 : qS st' a 1 = nI g := by unfold qS; rw [hst, pk_un (by omega), pk_un (by omega), pk_us]
  have w2 : qS st' a 2 = nI r := by unfold qS; rw [hst, pk_un (by omega), pk_us]
  have rL : sL st st' := fun i q hi hq => un _ (by omega) (by omega) (by omega) (by omega)
  have rM : sM st st' := fun i q hi hq => un _ (by omega) (by omega) (by omega) (by omega)
  have rC : sCc st st' := fun k s q hk hs hq => un _ (by omega) (by omega) (by omega) (by omega)
  have rE : sE st st' := fun i q hi hq => un _ (by omega) (by omega) (by omega) (by omega)
  have rS : ∀ i q, i < 8 → q < 7 → ¬ (i = a ∧ q < 3) → qS st' i q = qS st i q := fun i q hi hq hn => un _ (by omega) (by omega) (by omega) (by omega)
  have up : ∀ {x : Int32}, rg x a → rg x (a + 1) := fun ⟨u, u1, u2⟩ => ⟨u, by omega, u2⟩
  refine ⟨upd (upd (upd stations (10 * a + 0) (nI f)) (10 * a + 1) (nI g)) (10 * a + 2) (nI r), st', ?_, ?_, ⟨⟨?_, ?_⟩, ⟨fun i hi => ⟨fun hia => ?_, fun hia q hq => ?_⟩, fun i q hi hq => ?_⟩, ⟨fun i hi => ?_, gU_c hb rL L2, evL_c rL L3⟩, ⟨fun k hk => ?_, evM_c rM M2⟩, ⟨fun k s hk hs => ?_, evC_c rC C2, evP_c rC C3⟩, evD_c hm rC rM D, gE_c he rE E1, evE_c he rE E2⟩, ?_, fun heard eH => ?_⟩
  · unfold fX2_newStation
    rw [show fX4_set (8 : Int32) (10 : Int32) 80 stations (nI a) (0 : Int32) (nI f) = _ from uS (q := 0) h8 (by decide), rn_bs, show ∀ c, fX4_set (8 : Int32) (10 : Int32) 80 c (nI a) (1 : Int32) (nI g) = _ from fun c => uS (q := 1) h8 (by decide), rn_bs, show ∀ c, fX4_set (8 : Int32) (10 : Int32) 80 c (nI a) (2 : Int32) (nI r) = _ from fun c => uS (q := 2) h8 (by decide), rn_bs]
  · unfold fX7_appendStation
    simp only [cl0, z0, rn_lt, show ((8 : Int32) + (7 : Int32) * nI a) + (0 : Int32) = nI (8 + 7 * a + 0) from sPl a 0, show ((8 : Int32) + (7 : Int32) * nI a) + (1 : Int32) = nI (8 + 7 * a + 1) from sPl a 1, show ((8 : Int32) + (7 : Int32) * nI a) + (2 : Int32) = nI (8 + 7 * a + 2) from sPl a 2, nI_clamp (show 8 + 7 * a + 0 < 2 ^ 31 by omega), nI_clamp (show 8 + 7 * a + 1 < 2 ^ 31 by omega), nI_clamp (show 8 + 7 * a + 2 < 2 ^ 31 by omega), g0]
    rw [rn_gI (by omega) (by decide), rn_gI (by omega) (by decide), rn_gI (by omega) (by decide), pk_us, pk_un (by omega), pk_un (by omega), pk_un (by omega), z0, nI_1, nI_p1, ← hst]
  · unfold gd_n
    rw [v0, un 1 (by omega) (by omega) (by omega) (by omega), un 2 (by omega) (by omega) (by omega) (by omega), un 3 (by omega) (by omega) (by omega) (by omega), un 7 (by omega) (by omega) (by omega) (by omega), un 6 (by omega) (by omega) (by omega) (by omega)]
    exact ⟨⟨by omega, hb, hm, he, htt⟩, rfl, n1.2.2⟩
  · unfold ev_n at *
    rw [v0, un 1 (by omega) (by omega) (by omega) (by omega), un 2 (by omega) (by omega) (by omega) (by omega), un 3 (by omega) (by omega) (by omega) (by omega), un 4 (by omega) (by omega) (by omega) (by omega), un 5 (by omega) (by omega) (by omega) (by omega), un 7 (by omega) (by omega) (by omega) (by omega), un 6 (by omega) (by omega) (by omega) (by omega)]
    exact ⟨nI_1 a, n2.2⟩
  · by_cases c : i = a
    · subst c
      rw [w0, w1, w2]
      exact ⟨⟨f, hf, rfl⟩, ⟨g, hg, rfl⟩, ⟨r, hr, rfl⟩⟩
    · rw [rS i 0 hi (by decide) (by omega), rS i 1 hi (by decide) (by omega), rS i 2 hi (by decide) (by omega)]
      exact (S1 i hi).1 (by omega)
  · rw [rS i q hi hq (by omega)]
    exact (S1 i hi).2 (by omega) q hq
  · have hsc : sC q = (if q < 3 then q else q + 2) := rfl
    have hs10 := sC_lt hq
    by_cases c : i = a ∧ q < 3
    · obtain ⟨rfl, hq3⟩ := c
      have : q = 0 ∨ q = 1 ∨ q = 2 := by omega
      rcases this with rfl | rfl | rfl
      · rw [w0]
        show upd (upd (upd stations (10 * i + 0) (nI f)) (10 * i + 1) (nI g)) (10 * i + 2) (nI r) (10 * i + 0) = _
        rw [pk_un (by omega), pk_un (by omega), pk_us]
      · rw [w1]
        show upd (upd (upd stations (10 * i + 0) (nI f)) (10 * i + 1) (nI g)) (10 * i + 2) (nI r) (10 * i + 1) = _
        rw [pk_un (by omega), pk_us]
      · rw [w2]
        exact pk_us
    · have hne : ¬ (i = a ∧ sC q < 3) := fun q2 => by
        rw [hsc] at q2
        split at q2 <;> omega
      rw [rS i q hi hq c, pk_un (by omega), pk_un (by omega), pk_un (by omega)]
      exact S2 i q hi hq
  · refine ⟨fun hj => ?_, fun hj q hq => ?_⟩
    · rw [rL i 0 hi (by decide), rL i 1 hi (by decide), rL i 2 hi (by decide), rL i 3 hi (by decide), rL i 4 hi (by decide)]
      have g := (L1 i hi).1 hj
      exact ⟨up g.1, up g.2.1, g.2.2⟩
    · rw [rL i q hi hq]
      exact (L1 i hi).2 hj q hq
  · rw [rM k 0 (by omega) (by decide), rM k 1 (by omega) (by decide), rM k 2 (by omega) (by decide)]
    have g := M1 k hk
    exact ⟨up g.1, up g.2.1, g.2.2⟩
  · rw [rC k s 0 hk hs (by decide), rC k s 1 hk hs (by decide)]
    rcases C1 k s hk hs with r | ⟨r1, r2, r3⟩
    · exact Or.inl r
    · exact Or.inr ⟨r1, by omega, gc_c hk hs (fun q hq => rC k s q hk hs hq) (rM k 1 hk (by decide)) r3⟩
  · exact gZ_g (fun i hi => rS i 3 hi (by decide) (by omega)) (fun i hi => rS i 6 hi (by decide) (by omega)) (fun j hj => rL j 5 hj (by decide)) (fun k hk => ⟨fun ⟨s, a1, a2⟩ => ⟨s, a1, by rw [rC k s 0 hk a1 (by decide)] at a2; exact a2⟩, fun ⟨s, a1, a2⟩ => ⟨s, a1, by rw [rC k s 0 hk a1 (by decide)]; exact a2⟩⟩) hZ
  · exact evH_c hb (show a ≤ 8 by omega) L1 (fun i q h1 h2 => rL i q (by omega) (by omega)) (fun i q h1 h2 => rS i q (by omega) (by omega) (by omega)) eH
theorem nl_eq {f g u v r : Nat} (h : rlA t a b m e tt τ sc lc mc tm life tries x stations links messages copies first size events st) (hZ : gd_Z st) (h8 : b < 16) (hf : f < a) (hg : g < a) (hfg : ¬ f = g) (hu : u < 24) (hv : v < 24) (hr : r < 101) (hno : q_lk st b (nI f) (nI g) = -1) :
    ∃ links' st', fX2_newLink lc links (nI f) (nI g) (nI u) (nI v) (nI r) = some (lc, lc + 1, links') ∧ fX7_appendLink st (nI f) (nI g) (nI u) (nI v) (nI r) = some (lc, st') ∧ rlA t a (b + 1) m e tt τ sc (lc + 1) mc tm life tries x stations links' messages copies first size events st' ∧ gd_Z st' := by
  obtain ⟨⟨n1, n2⟩, ⟨S1, S2⟩, ⟨L1, L2, L3⟩, ⟨M1, M2⟩, ⟨C1, C2, C3⟩, D, E1, E2⟩ := h
  obtain ⟨ha, hb, hm, he, htt⟩ := n1.1
  have z1 := n1.2.2.1
  have lce : lc = nI b := n2.2.1.trans z1
  subst lce
  have hno' : ∀ i, i < b → ¬ ((qL st i 0 = nI f ∧ qL st i 1 = nI g) ∨ (qL st i 0 = nI g ∧ qL st i 1 = nI f)) := by
    rcases q_lk_s (b := b) (st := st) (x := nI f) (y := nI g) with ⟨-, q⟩ | ⟨i, _, _, q⟩
    · exact q
    · rw [hno] at q
      have := nI_pos (n := i) (by omega)
      rw [← q] at this
      exact absurd (by decide) this
  obtain ⟨st', hst⟩ : ∃ st', st' = upd (upd (upd (upd (upd (upd st (64 + 8 * b + 0) (nI f)) (64 + 8 * b + 1) (nI g)) (64 + 8 * b + 2) (nI u)) (64 + 8 * b + 3) (nI v)) (64 + 8 * b + 4) (nI r)) 1 (nI (b + 1)) := ⟨_, rfl⟩
  have un : ∀ p, ¬ p = 1 → (p < 64 + 8 * b ∨ 64 + 8 * b + 5 ≤ p) → st' p = st p := fun p a1 a2 => by rw [hst, pk_un a1, pk_un (by omega), pk_un (by omega), pk_un (by omega), pk_un (by omega), pk_un (by omega)]
  have v0 : st' 1 = nI (b + 1) := by rw [hst, pk_us]
  have w0 : qL st' b 0 = nI f := by unfold qL; rw [hst, pk_un (by omega), pk_un (by omega), pk_un (by omega), pk_un (by omega), pk_un (by omega), pk_us]
  have w1 : qL st' b 1 = nI g := by unfold qL; rw [hst, pk_un (by omega), pk_un (by omega), pk_un (by omega), pk_un (by omega), pk_us]
  have w2 : qL st' b 2 = nI u := by unfold qL; rw [hst, pk_un (by omega), pk_un (by omega), pk_un (by omega), pk_us]
  have w3 : qL st' b 3 = nI v := by unfold qL; rw [hst, pk_un (by omega), pk_un (by omega), pk_us]
  have w4 : qL st' b 4 = nI r := by unfold qL; rw [hst, pk_un (by omega), pk_us]
  have rS : sS st st' := fun i q hi hq => un _ (by omega) (by omega)
  have rM : sM st st' := fun i q hi hq => un _ (by omega) (by omega)
  have rC : sCc st st' := fun k s q hk hs hq => un _ (by omega) (by omega)
  have rE : sE st st' := fun i q hi hq => un _ (by omega) (by omega)
  have rL : ∀ i q, i < 16 → q < 8 → ¬ (i = b ∧ q < 5) → qL st' i q = qL st i q := fun i q hi hq hn => un _ (by omega) (by omega)
  refine ⟨upd (upd (upd (upd (upd links (9 * b + 0) (nI f)) (9 * b + 1) (nI g)) (9 * b + 2) (nI u)) (9 * b + 3) (nI v)) (9 * b + 4) (nI r), st', ?_, ?_, ⟨⟨?_, ?_⟩, ⟨gS_c rS S1, evS_c rS S2⟩, ⟨fun i hi => ⟨fun hj => ?_, fun hj q hq => ?_⟩, fun i j hi hj hh => ?_, fun i q hi hq => ?_⟩, ⟨gM_c hm rM M1, evM_c rM M2⟩, ⟨gC_c rC rM C1, evC_c rC C2, evP_c rC C3⟩, evD_c hm rC rM D, gE_c he rE E1, evE_c he rE E2⟩, ?_⟩
  · unfold fX2_newLink
    rw [show fX4_set (16 : Int32) (9 : Int32) 144 links (nI b) (0 : Int32) (nI f) = _ from uL (q := 0) h8 (by decide), rn_bs, show ∀ c, fX4_set (16 : Int32) (9 : Int32) 144 c (nI b) (1 : Int32) (nI g) = _ from fun c => uL (q := 1) h8 (by decide), rn_bs, show ∀ c, fX4_set (16 : Int32) (9 : Int32) 144 c (nI b) (2 : Int32) (nI u) = _ from fun c => uL (q := 2) h8 (by decide), rn_bs, show ∀ c, fX4_set (16 : Int32) (9 : Int32) 144 c (nI b) (3 : Int32) (nI v) = _ from fun c => uL (q := 3) h8 (by decide), rn_bs, show ∀ c, fX4_set (16 : Int32) (9 : Int32) 144 c (nI b) (4 : Int32) (nI r) = _ from fun c => uL (q := 4) h8 (by decide), rn_bs]
  · unfold fX7_appendLink
    simp only [cl1, z1, rn_lt, show ((64 : Int32) + (8 : Int32) * nI b) + (0 : Int32) = nI (64 + 8 * b + 0) from lPl b 0, show ((64 : Int32) + (8 : Int32) * nI b) + (1 : Int32) = nI (64 + 8 * b + 1) from lPl b 1, show ((64 : Int32) + (8 : Int32) * nI b) + (2 : Int32) = nI (64 + 8 * b + 2) from lPl b 2, show ((64 : Int32) + (8 : Int32) * nI b) + (3 : Int32) = nI (64 + 8 * b + 3) from lPl b 3, show ((64 : Int32) + (8 : Int32) * nI b) + (4 : Int32) = nI (64 + 8 * b + 4) from lPl b 4, nI_clamp (show 64 + 8 * b + 0 < 2 ^ 31 by omega), nI_clamp (show 64 + 8 * b + 1 < 2 ^ 31 by omega), nI_clamp (show 64 + 8 * b + 2 < 2 ^ 31 by omega), nI_clamp (show 64 + 8 * b + 3 < 2 ^ 31 by omega), nI_clamp (show 64 + 8 * b + 4 < 2 ^ 31 by omega), g1]
    rw [rn_gI (by omega) (by decide), rn_gI (by omega) (by decide), rn_gI (by omega) (by decide), rn_gI (by omega) (by decide), rn_gI (by omega) (by decide), pk_us, pk_un (by omega), pk_un (by omega), pk_un (by omega), pk_un (by omega), pk_un (by omega), z1, nI_1, nI_p1, ← hst]
  · unfold gd_n
    rw [v0, un 0 (by omega) (by omega), un 2 (by omega) (by omega), un 3 (by omega) (by omega), un 7 (by omega) (by omega), un 6 (by omega) (by omega)]
    exact ⟨⟨ha, by omega, hm, he, htt⟩, n1.2.1, rfl, n1.2.2.2⟩
  · unfold ev_n at *
    rw [v0, un 0 (by omega) (by omega), un 2 (by omega) (by omega), un 3 (by omega) (by omega), un 4 (by omega) (by omega), un 5 (by omega) (by omega), un 7 (by omega) (by omega), un 6 (by omega) (by omega)]
    exact ⟨n2.1, nI_1 b, n2.2.2⟩
  · by_cases c : i = b
    · subst c
      rw [w0, w1, w2, w3, w4]
      exact ⟨⟨f, hf, rfl⟩, ⟨g, hg, rfl⟩, fun q => hfg ((nI_eq (by omega) (by omega)).mp q), ⟨u, hu, rfl⟩, ⟨v, hv, rfl⟩, ⟨r, hr, rfl⟩⟩
    · rw [rL i 0 hi (by decide) (by omega), rL i 1 hi (by decide) (by omega), rL i 2 hi (by decide) (by omega), rL i 3 hi (by decide) (by omega), rL i 4 hi (by decide) (by omega)]
      exact (L1 i hi).1 (by omega)
  · rw [rL i q hi hq (by omega)]
    exact (L1 i hi).2 (by omega) q hq
  · by_cases c1 : i = b
    · by_cases c2 : j = b
      · omega
      · exfalso
        subst c1
        rw [w0, w1, rL j 0 (by omega) (by decide) (by omega), rL j 1 (by omega) (by decide) (by omega)] at hh
        apply hno' j (by omega)
        rcases hh with ⟨q1, q2⟩ | ⟨q1, q2⟩
        · exact Or.inl ⟨q1.symm, q2.symm⟩
        · exact Or.inr ⟨q2.symm, q1.symm⟩
    · by_cases c2 : j = b
      · exfalso
        subst c2
        rw [w0, w1, rL i 0 (by omega) (by decide) (by omega), rL i 1 (by omega) (by decide) (by omega)] at hh
        exact hno' i (by omega) hh
      · rw [rL i 0 (by omega) (by decide) (by omega), rL i 1 (by omega) (by decide) (by omega), rL j 0 (by omega) (by decide) (by omega), rL j 1 (by omega) (by decide) (by omega)] at hh
        exact L2 i j (by omega) (by omega) hh
  · have hlc : lC q = (if q < 5 then q else q + 1) := rfl
    have hl9 := lC_lt hq
    by_cases c : i = b ∧ q < 5
    · obtain ⟨rfl, hq5⟩ := c
      rcases q5 hq5 with rfl | rfl | rfl | rfl | rfl
      · rw [w0]
        show upd (upd (upd (upd (upd links (9 * i + 0) (nI f)) (9 * i + 1) (nI g)) (9 * i + 2) (nI u)) (9 * i + 3) (nI v)) (9 * i + 4) (nI r) (9 * i + 0) = _
        rw [pk_un (by omega), pk_un (by omega), pk_un (by omega), pk_un (by omega), pk_us]
      · rw [w1]
        show upd (upd (upd (upd (upd links (9 * i + 0) (nI f)) (9 * i + 1) (nI g)) (9 * i + 2) (nI u)) (9 * i + 3) (nI v)) (9 * i + 4) (nI r) (9 * i + 1) = _
        rw [pk_un (by omega), pk_un (by omega), pk_un (by omega), pk_us]
      · rw [w2]
        show upd (upd (upd (upd (upd links (9 * i + 0) (nI f)) (9 * i + 1) (nI g)) (9 * i + 2) (nI u)) (9 * i + 3) (nI v)) (9 * i + 4) (nI r) (9 * i + 2) = _
        rw [pk_un (by omega), pk_un (by omega), pk_us]
      · rw [w3]
        show upd (upd (upd (upd (upd links (9 * i + 0) (nI f)) (9 * i + 1) (nI g)) (9 * i + 2) (nI u)) (9 * i + 3) (nI v)) (9 * i + 4) (nI r) (9 * i + 3) = _
        rw [pk_un (by omega), pk_us]
      · rw [w4]
        exact pk_us
    · have hne : ¬ (i = b ∧ lC q < 5) := fun q2 => by
        rw [hlc] at q2
        split at q2 <;> omega
      rw [rL i q hi hq c, pk_un (by omega), pk_un (by omega), pk_un (by omega), pk_un (by omega), pk_un (by omega)]
      exact L3 i q hi hq
  · exact gZ_g (fun i hi => rS i 3 hi (by decide)) (fun i hi => rS i 6 hi (by decide)) (fun j hj => rL j 5 hj (by decide) (by omega)) (fun k hk => ⟨fun ⟨s, a1, a2⟩ => ⟨s, a1, by rw [rC k s 0 hk a1 (by decide)] at a2; exact a2⟩, fun ⟨s, a1, a2⟩ => ⟨s, a1, by rw [rC k s 0 hk a1 (by decide)]; exact a2⟩⟩) hZ
end QF
