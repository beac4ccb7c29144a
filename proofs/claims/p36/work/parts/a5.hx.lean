/-! an hour keeps what holds, and what it adds -/
section A5
variable {N t a b m e tt : Nat} {sc lc mc tm life tries x : Int32} {stations links messages copies : Nat → Int32} {first size : Int32} {events st st0 st1 st2 : Nat → Int32} {heard : Nat → Int64}
/-- what an hour leaves as it is -/
def stt (st0 st : Nat → Int32) : Prop := (∀ i q, i < 8 → q < 3 → qS st i q = qS st0 i q) ∧ (∀ i q, i < 16 → q < 5 → qL st i q = qL st0 i q) ∧ (∀ i q, i < 24 → q < 4 → qM st i q = qM st0 i q)
def rt (g0 : Nat → Int32) (s n : Nat) (st : Nat → Int32) : Prop := ∀ i, i < 8 → ∃ d, qS st i 3 = g0 i + nI d ∧ (∀ r, r ≤ 9 → qS st i 2 = nI r → d ≤ r) ∧ (i = s → d = n) ∧ (s < i → d = 0)
def HP (a b m tt c0 : Nat) (st0 : Nat → Int32) (s n : Nat) (st : Nat → Int32) : Prop := n ≤ 9 ∧ st 3 = nI tt ∧ stt st0 st ∧ xA a b m st ∧ xM m tt st ∧ xS st ∧ rt (fun i => qS st0 i 3) s n st ∧ ∃ f d, (f ≤ 9 * s + n ∧ d ≤ f) ∧ xB (c0 + f) st ∧ (∀ lo, st0 7 = nI lo → lo ≤ 40 → LG lo tt f d st) ∧ isum (fun i => qS st i 3) 8 = isum (fun i => qS st0 i 3) 8 + nI f ∧ isum (fun i => qS st i 6) 8 = isum (fun i => qS st0 i 6) 8 + nI d
theorem stt_t (h : stt st0 st1) (h1 : ∀ i q, i < 8 → q < 3 → qS st2 i q = qS st1 i q) (h2 : ∀ i q, i < 16 → q < 5 → qL st2 i q = qL st1 i q) (h3 : ∀ i q, i < 24 → q < 4 → qM st2 i q = qM st1 i q) : stt st0 st2 :=
  ⟨fun i q a b => (h1 i q a b).trans (h.1 i q a b), fun i q a b => (h2 i q a b).trans (h.2.1 i q a b), fun i q a b => (h3 i q a b).trans (h.2.2 i q a b)⟩
theorem HP_S {c0 s n : Nat} (ha : a ≤ 8) (hb : b ≤ 16) (hm : m ≤ 24) (ht : tt + 1 < 1000000) : stepS b m a tt s n (HP a b m tt c0 st0) := by
  intro k u L r f st1 st2 p er hnr hr hk hs hu hsu h0 h1 h8 f2 f3 fl hg hfu K S
  obtain ⟨p1, p2, p3, p4, p5, p6, p7, F, d, q1, q2, q3, q4, q5⟩ := p
  obtain ⟨A, r0, r1, r2, r3, r4⟩ := SF_sum (by omega) (show s < 8 by omega) (show u < 8 by omega) hb S
  have xm : xM m tt st2 := fun k' hk' => by
    refine ⟨fun q => ?_, fun q => ?_⟩
    · rw [K.2.2.1 k' 3 hk' (by decide)]
      exact (p5 k' hk').1 q
    · obtain ⟨l, G, D, A', L6, L7, -, -, -, -, -, -, dd, -⟩ := S
      obtain ⟨y1, y2⟩ := (p5 k' hk').2 q
      have d4 := dd.2.2.1 k' 4 hk' (by decide)
      have d5 := dd.2.2.1 k' 5 hk' (by decide)
      simp only [onn_1, onn_q (show ¬ (4 : Nat) = 5 by decide), Nat.add_zero] at d4
      simp only [onn_1, onn_q (show ¬ (5 : Nat) = 4 by decide), Nat.zero_add] at d5
      rw [d4, d5, y1, y2, onn_x (show ¬ k' = k by omega), onn_x (show ¬ k' = k by omega)]
      exact ⟨rfl, rfl⟩
  refine ⟨by omega, ?_, stt_t p3 K.1 K.2.1 K.2.2.1, xA_SF hb ha hm ht p4 p5 hk hs hu h0 h1 h8 f2 f3 fl K S, xm, r3 p6, fun i hi => ?_, F + 1, d + A, by omega, ?_, fun lo l1 l2 => r4 lo F d (q3 lo l1 l2), ?_, ?_⟩
  · exact (K.2.2.2.1 3 (by decide)).trans p2
  · obtain ⟨d1, e1, e2, e3, e4⟩ := p7 i hi
    obtain ⟨l, G, D, A', L6, L7, -, -, -, -, -, -, dd, -⟩ := S
    have d3 := dd.1 i 3 hi (by decide)
    simp only [onn_1, onn_q (show ¬ (3 : Nat) = 4 by decide), onn_q (show ¬ (3 : Nat) = 5 by decide), onn_q (show ¬ (3 : Nat) = 6 by decide), Nat.add_zero] at d3
    rw [e1, Int32.add_assoc, nI_add] at d3
    by_cases c : i = s
    · subst c
      rw [onn_y] at d3
      refine ⟨d1 + 1, d3, fun r' hr' q => ?_, fun _ => by rw [e3 rfl], fun q => by omega⟩
      rw [K.1 i 2 hi (by decide)] at q
      have : r' = r := (nI_eq (by omega) (by omega)).mp (q.symm.trans er)
      have := e3 rfl
      omega
    · rw [onn_x c] at d3
      refine ⟨d1, d3, fun r' hr' q => ?_, fun q => absurd q c, e4⟩
      rw [K.1 i 2 hi (by decide)] at q
      exact e2 r' hr' q
  · have := xB_SF hsu q2 K S
    rw [show c0 + (F + 1) = c0 + F + 1 by omega]
    exact this
  · rw [r1, q4, Int32.add_assoc, nI_add]
  · rw [r2, q5, Int32.add_assoc, nI_add]
theorem HP_E {c0 : Nat} (ha : a ≤ 8) (hb : b ≤ 16) (hm : m ≤ 24) : stepE m a (HP a b m tt c0 st0) := by
  intro k s st1 st2 p hk hs hw D C c4 e6 ev
  obtain ⟨p1, p2, p3, p4, p5, p6, p7, F, d, q1, q2, q3, q4, q5⟩ := p
  have eS : ∀ i q, i < 8 → q < 7 → qS st2 i q = qS st1 i q := fun i q a1 a2 => (D.1 i q a1 a2).trans (nI_z _)
  have eL : ∀ i q, i < 16 → q < 8 → qL st2 i q = qL st1 i q := fun i q a1 a2 => (D.2.1 i q a1 a2).trans (nI_z _)
  have eM : ∀ i q, i < 24 → q < 6 → qM st2 i q = qM st1 i q := fun i q a1 a2 => (D.2.2.1 i q a1 a2).trans (nI_z _)
  refine ⟨p1, (D.2.2.2 3 (by decide)).trans p2, stt_t p3 (fun i q a1 a2 => eS i q a1 (by omega)) (fun i q a1 a2 => eL i q a1 (by omega)) (fun i q a1 a2 => eM i q a1 (by omega)), xA_c hb ha hm (fun i q a1 a2 => eL i q a1 (by omega)) (fun i q a1 a2 => eM i q a1 (by omega)) C (by rw [hw]; decide) p4, fun k' hk' => ?_, xS_dl D p6, fun i hi => ?_, F, d, q1, xB_dl D q2, ?_, ?_, ?_⟩
  · rw [eM k' 3 (by omega) (by decide), eM k' 4 (by omega) (by decide), eM k' 5 (by omega) (by decide)]
    exact p5 k' hk'
  · rw [eS i 3 hi (by decide), eS i 2 hi (by decide)]
    exact p7 i hi
  · exact fun lo l1 l2 => LG_A (kd := 7) p2 (by decide) ⟨fun _ => rfl, fun _ => Or.inr (by decide)⟩ ev (q3 lo l1 l2)
  · rw [isum_c 8 (fun i hi => eS i 3 hi (by decide))]
    exact q4
  · rw [isum_c 8 (fun i hi => eS i 6 hi (by decide))]
    exact q5
theorem HP_X {c0 s n : Nat} (ha : a ≤ 8) (h : HP a b m tt c0 st0 s n st) : HP a b m tt c0 st0 (s + 1) 0 st := by
  obtain ⟨p1, p2, p3, p4, p5, p6, p7, F, d, q1, q2⟩ := h
  refine ⟨by decide, p2, p3, p4, p5, p6, fun i hi => ?_, F, d, by omega, q2⟩
  obtain ⟨d1, e1, e2, e3, e4⟩ := p7 i hi
  exact ⟨d1, e1, e2, fun q => e4 (by omega), fun q => e4 (by omega)⟩
/-- what holds of a net between two hours -/
def xI (a b m tt c : Nat) (st : Nat → Int32) : Prop := xA a b m st ∧ xM m tt st ∧ xS st ∧ xB c st ∧ LG 0 tt 0 0 st
/-- what an hour added -/
def HF (tt : Nat) (st st' : Nat → Int32) : Prop := stt st st' ∧ (∀ i, i < 8 → ∃ d, qS st' i 3 = qS st i 3 + nI d ∧ ∀ r, r ≤ 9 → qS st i 2 = nI r → d ≤ r) ∧ ∃ f d, (f ≤ 72 ∧ d ≤ f) ∧ (∀ lo, st 7 = nI lo → lo ≤ 40 → LG lo tt f d st') ∧ isum (fun i => qS st' i 3) 8 = isum (fun i => qS st i 3) 8 + nI f ∧ isum (fun i => qS st' i 6) 8 = isum (fun i => qS st i 6) 8 + nI d
theorem xA_e (ha : a ≤ 8) (hb : b ≤ 16) (hm : m ≤ 24) (hL : ∀ i q, i < 16 → q < 5 → qL st2 i q = qL st1 i q) (hM : ∀ k q, k < 24 → q < 4 → qM st2 k q = qM st1 k q) (hC : sCc st1 st2) (g : xA a b m st1) : xA a b m st2 := by
  intro k s hk hs h0'
  have e : ∀ q, q < 12 → qC st2 k s q = qC st1 k s q := fun q h2 => hC k s q (by omega) (by omega) h2
  rw [e 0 (by decide)] at h0'
  obtain ⟨g1, g2, bt, ct, g3, g4, g5, g6⟩ := g k s hk hs h0'
  refine ⟨by rw [e 4 (by decide), hM k 0 (by omega) (by decide)]; exact g1, fun L i h8 h3 hi => ?_, bt, ct, g3, g4, by rw [hM k 3 (by omega) (by decide)]; exact g5, by rw [e 2 (by decide)]; exact g6⟩
  rw [e 3 (by decide)] at h3
  rw [e (4 + i) (by omega), e (4 + (i + 1)) (by omega)]
  exact jn_c hb hL (g2 L i h8 h3 hi)
theorem xB_le {c c' : Nat} (h : c ≤ c') (g : xB c st) : xB c' st := by
  refine ⟨fun i hi => ?_, fun j hj => ?_⟩
  · obtain ⟨n3, n4, n5, n6, e3, e4, e5, e6, h1, h2, h3⟩ := g.1 i hi
    exact ⟨n3, n4, n5, n6, e3, e4, e5, e6, by omega, by omega, h3⟩
  · obtain ⟨n5, n6, n7, e5, e6, e7, h1, h2⟩ := g.2 j hj
    exact ⟨n5, n6, n7, e5, e6, e7, by omega, h2⟩
theorem hr_x {c0 : Nat} (hN : 6000 ≤ N) (ht : t + 1 < 1000000) (h0 : rl0 t a b m e tt (tt + 1) sc lc mc tm life tries x stations links messages copies first size events st) (eH : ev_H b heard st) (X : xI a b m tt c0 st) (ar fe nx c7 : Int32) (F A K I T D : Nat → Int32) :
    ∃ st' tm' x' stations' links' messages' copies' first' size' events' y z w, fX7_passHour N c7 st A K I T D = some (y, st', z) ∧ fX2_passHour N sc lc mc tm life tries x stations links messages copies first size events ar fe nx heard F = some (tm', x', stations', links', messages', copies', first', size', events', w) ∧ (∃ e', rl0 (t + 1) a b m e' (tt + 1) (tt + 2) sc lc mc tm' life tries x' stations' links' messages' copies' first' size' events' st') ∧ ev_H b heard st' ∧ xI a b m (tt + 1) (c0 + 72) st' ∧ HF tt st st' := by
  obtain ⟨ha, hb, hm, he, htt⟩ := h0.1.1.1
  obtain ⟨x1, x2, x3, x4, x5⟩ := X
  obtain ⟨st', tm', x', stations', links', messages', copies', first', size', events', y, z, w, w1, w2, w3, w4, st2, p, e2⟩ := ph_p (P := HP a b m tt c0 st) hN ht h0 eH (HP_E ha hb hm) (fun s n => HP_S ha hb hm (by omega)) (fun s n st h => HP_X ha h) ⟨by decide, h0.1.1.2.2.2.2.1, ⟨fun _ _ _ _ => rfl, fun _ _ _ _ => rfl, fun _ _ _ _ => rfl⟩, x1, x2, x3, fun i hi => ⟨0, (nI_z _).symm, fun _ _ _ => Nat.zero_le _, fun _ => rfl, fun _ => rfl⟩, 0, 0, by decide, x4, fun lo l1 l2 => LG_lo l1 l2 x5, (nI_z _).symm, (nI_z _).symm⟩ ar fe nx c7 F A K I T D
  obtain ⟨p1, p2, p3, p4, p5, p6, p7, f, d, q1, q2, q3, q4, q5⟩ := p
  have un : ∀ p, ¬ p = 3 → st' p = st2 p := fun p hp => by rw [e2, pk_un hp]
  have eS : ∀ i q, i < 8 → q < 7 → qS st' i q = qS st2 i q := fun i q _ _ => un _ (by omega)
  have eL : ∀ i q, i < 16 → q < 8 → qL st' i q = qL st2 i q := fun i q _ _ => un _ (by omega)
  have eM : ∀ i q, i < 24 → q < 8 → qM st' i q = qM st2 i q := fun i q _ _ => un _ (by omega)
  have ev : evN st2 st' := ⟨un 7 (by decide), fun j q _ _ => un _ (by omega)⟩
  refine ⟨st', tm', x', stations', links', messages', copies', first', size', events', y, z, w, w1, w2, w3, w4, ⟨xA_e ha hb hm (fun i q a1 a2 => eL i q a1 (by omega)) (fun i q a1 a2 => eM i q a1 (by omega)) (fun k s q _ _ _ => un _ (by omega)) p4, fun k hk => ?_, ?_, ?_, LG_w (LG_T ev (q3 e h0.1.1.2.2.2.2.2.1 he))⟩, ⟨stt_t p3 (fun i q a1 a2 => eS i q a1 (by omega)) (fun i q a1 a2 => eL i q a1 (by omega)) (fun i q a1 a2 => eM i q a1 (by omega)), fun i hi => ?_, f, d, by omega, fun lo l1 l2 => LG_N ev (q3 lo l1 l2), ?_, ?_⟩⟩
  · rw [eM k 3 hk (by decide), eM k 4 hk (by decide), eM k 5 hk (by decide)]
    exact ⟨fun q => by
      obtain ⟨bt, b1, b2⟩ := (p5 k hk).1 q
      exact ⟨bt, by omega, b2⟩, (p5 k hk).2⟩
  · unfold xS
    rw [isum_c 8 (fun i hi => eS i 3 hi (by decide)), isum_c 8 (fun i hi => eS i 4 hi (by decide)), isum_c 8 (fun i hi => eS i 5 hi (by decide)), isum_c 16 (fun i hi => eL i 6 hi (by decide)), isum_c 24 (fun i hi => eM i 4 hi (by decide)), isum_c 24 (fun i hi => eM i 5 hi (by decide))]
    exact p6
  · refine xB_le (show c0 + f ≤ c0 + 72 by omega) ⟨fun i hi => ?_, fun j hj => ?_⟩
    · rw [eS i 3 hi (by decide), eS i 4 hi (by decide), eS i 5 hi (by decide), eS i 6 hi (by decide)]
      exact q2.1 i hi
    · rw [eL j 4 hj (by decide), eL j 5 hj (by decide), eL j 6 hj (by decide), eL j 7 hj (by decide)]
      exact q2.2 j hj
  · obtain ⟨d1, r1, r2, -⟩ := p7 i hi
    refine ⟨d1, by rw [eS i 3 hi (by decide)]; exact r1, fun r hr q => r2 r hr ?_⟩
    rw [p3.1 i 2 hi (by decide)]
    exact q
  · rw [isum_c 8 (fun i hi => eS i 3 hi (by decide))]
    exact q4
  · rw [isum_c 8 (fun i hi => eS i 6 hi (by decide))]
    exact q5
end A5
