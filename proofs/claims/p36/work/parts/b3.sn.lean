/-! a message is sent -/
section B3
variable {N t a b m e tt τ : Nat} {sc lc mc tm life tries x : Int32} {stations links messages copies : Nat → Int32} {first size : Int32} {events st : Nat → Int32} {heard : Nat → Int64}
theorem am7 {f g r : Nat} (hN : 6000 ≤ N) (z2 : st 2 = nI m) (h8 : m < 24) (z3 : st 3 = nI tt) (z7 : st 7 = nI e) (he : e ≤ 40) (hf : f < 8) :
    ∃ st', fX7_appendMessage N st (nI f) (nI g) (nI r) = some (nI m, st') ∧ (∀ p, p < 2688 → ¬ p = 2 → ¬ p = 7 → (p < 192 + 8 * m ∨ p = 192 + 8 * m + 4 ∨ p = 192 + 8 * m + 5 ∨ 192 + 8 * m + 8 ≤ p) → (p < 384 + 12 * (8 * m + f) ∨ 384 + 12 * (8 * m + f) + 12 ≤ p) → st' p = st p) ∧ qM st' m 0 = nI f ∧ qM st' m 3 = nI tt ∧ qC st' m f 0 = nI 1 ∧ qC st' m f 2 = nI tt ∧ qC st' m f 3 = nI 1 ∧ qC st' m f 4 = nI f ∧ evA 0 (-1) st st' := by
  obtain ⟨s1, hs1⟩ : ∃ s1, s1 = upd (upd (upd (upd (upd (upd (upd st (192 + 8 * m + 0) (nI f)) (192 + 8 * m + 1) (nI g)) (192 + 8 * m + 2) (nI r)) (192 + 8 * m + 3) (nI tt)) (192 + 8 * m + 6) (-1)) (192 + 8 * m + 7) (-1)) 2 (nI (m + 1)) := ⟨_, rfl⟩
  have un : ∀ p, ¬ p = 2 → (p < 192 + 8 * m ∨ p = 192 + 8 * m + 4 ∨ p = 192 + 8 * m + 5 ∨ 192 + 8 * m + 8 ≤ p) → s1 p = st p := fun p a1 a2 => by rw [hs1, pk_un a1, pk_un (by omega), pk_un (by omega), pk_un (by omega), pk_un (by omega), pk_un (by omega), pk_un (by omega)]
  have w0 : s1 (192 + 8 * m + 0) = nI f := by rw [hs1, pk_un (by omega), pk_un (by omega), pk_un (by omega), pk_un (by omega), pk_un (by omega), pk_un (by omega), pk_us]
  have w3 : s1 (192 + 8 * m + 3) = nI tt := by rw [hs1, pk_un (by omega), pk_un (by omega), pk_un (by omega), pk_us]
  obtain ⟨y0, p1, p2⟩ := pc7 (T := tt) (v := 1) (f := fun _ => f) (t1 := s1) (show m < 24 by omega) (show f < 8 by omega)
  obtain ⟨y1, p3, p4⟩ := ex7 (show m < 24 by omega) (show f < 8 by omega) (show 0 < 8 by decide) p2
  obtain ⟨x1, x2, x3, x4, x5, x6⟩ := p4
  obtain ⟨st', k1, k2, k3⟩ := nt7 (st := y1) (e := e) (tt := tt) (kd := 0) (k := m) (s := f) (o := -1) hN (by rw [x1 7 (by omega), un 7 (by omega) (by omega)]; exact z7) he (by rw [x1 3 (by omega), un 3 (by omega) (by omega)]; exact z3)
  have A : ∀ p, p < 2688 → ¬ p = 7 → st' p = y1 p := fun p h1 h2 => k2 p h1 h2
  refine ⟨st', ?_, fun p a1 a2 a3 a4 a5 => (A p a1 a3).trans ((x1 p a5).trans (un p a2 a4)), ?_, ?_, ?_, ?_, ?_, ?_, evNA ⟨(x1 7 (by omega)).trans (un 7 (by omega) (by omega)), fun j q a1 a2 => (x1 _ (by omega)).trans (un _ (by omega) (by omega))⟩ ((x1 3 (by omega)).trans (un 3 (by omega) (by omega))) k3⟩
  · have u3 : ∀ p, ¬ p = 192 + 8 * m + 0 → ¬ p = 192 + 8 * m + 1 → ¬ p = 192 + 8 * m + 2 → upd (upd (upd st (192 + 8 * m + 0) (nI f)) (192 + 8 * m + 1) (nI g)) (192 + 8 * m + 2) (nI r) p = st p := fun p a1 a2 a3 => by rw [pk_un a3, pk_un a2, pk_un a1]
    unfold fX7_appendMessage
    simp only [cl2, cl3, z2, rn_lt, show ((192 : Int32) + (8 : Int32) * nI m) + (0 : Int32) = nI (192 + 8 * m + 0) from mPl m 0, show ((192 : Int32) + (8 : Int32) * nI m) + (1 : Int32) = nI (192 + 8 * m + 1) from mPl m 1, show ((192 : Int32) + (8 : Int32) * nI m) + (2 : Int32) = nI (192 + 8 * m + 2) from mPl m 2, show ((192 : Int32) + (8 : Int32) * nI m) + (3 : Int32) = nI (192 + 8 * m + 3) from mPl m 3, show ((192 : Int32) + (8 : Int32) * nI m) + (6 : Int32) = nI (192 + 8 * m + 6) from mPl m 6, show ((192 : Int32) + (8 : Int32) * nI m) + (7 : Int32) = nI (192 + 8 * m + 7) from mPl m 7, nI_clamp (show 192 + 8 * m + 0 < 2 ^ 31 by omega), nI_clamp (show 192 + 8 * m + 1 < 2 ^ 31 by omega), nI_clamp (show 192 + 8 * m + 2 < 2 ^ 31 by omega), nI_clamp (show 192 + 8 * m + 3 < 2 ^ 31 by omega), nI_clamp (show 192 + 8 * m + 6 < 2 ^ 31 by omega), nI_clamp (show 192 + 8 * m + 7 < 2 ^ 31 by omega), g2, g3]
    rw [rn_gI (by omega) (by decide), rn_gI (by omega) (by decide), rn_gI (by omega) (by decide), rn_gI (by omega) (by decide), rn_gI (by omega) (by decide), rn_gI (by omega) (by decide), u3 3 (by omega) (by omega) (by omega), z3, pk_un (show (2 : Nat) ≠ 192 + 8 * m + 7 by omega), pk_un (show (2 : Nat) ≠ 192 + 8 * m + 6 by omega), pk_un (show (2 : Nat) ≠ 192 + 8 * m + 3 by omega), u3 2 (by omega) (by omega) (by omega), z2, nI_1, ← hs1, un 3 (by omega) (by omega), z3, show fX7_putCopy s1 (nI m) (nI f) (1 : Int32) (nI tt) = _ from p1, rn_bs, show fX7_extendPath y0 (nI m) (nI f) (nI f) = _ from p3, rn_bs, show fX7_note N y1 (0 : Int32) (nI m) (nI f) (-1 : Int32) = _ from k1, rn_bs]
  · exact (A _ (by omega) (by omega)).trans ((x1 _ (by omega)).trans w0)
  · exact (A _ (by omega) (by omega)).trans ((x1 _ (by omega)).trans w3)
  · exact (A (384 + 12 * (8 * m + f) + 0) (by omega) (by omega)).trans x2
  · exact (A (384 + 12 * (8 * m + f) + 2) (by omega) (by omega)).trans x4
  · exact (A (384 + 12 * (8 * m + f) + 3) (by omega) (by omega)).trans x5
  · exact (A (384 + 12 * (8 * m + f) + 4) (by omega) (by omega)).trans (x6 0 (by omega))
theorem min_e {e' : Nat} (h : e' ≤ 40) (h2 : (e = 40 ∧ e' = 40) ∨ (e < 40 ∧ e' = e + 1)) : nI e' = rn_min (40 : Int32) (nI e + 1) := by
  unfold rn_min
  rw [nI_1]
  rcases h2 with ⟨rfl, rfl⟩ | ⟨h2, rfl⟩
  · rw [if_neg (show ¬ nI (40 + 1) < (40 : Int32) from nI_nlt (b := 40) (by decide) (by decide))]
    rfl
  · by_cases c : e + 1 < 40
    · rw [if_pos (show nI (e + 1) < (40 : Int32) from nI_lt (b := 40) c (by decide))]
    · have : e = 39 := by omega
      subst this
      rfl
theorem sends_ok {c0 ns q : Nat} {ws : Nat → Int32} (hN : 6000 ≤ N) (ht : t ≤ 90000) (h0 : rl0 t a b m e tt (tt + 1) sc lc mc tm life tries x stations links messages copies first size events st) (eH : ev_H b heard st) (X : xI a b m tt c0 st) (hns : ns ≤ 260) (hq : q < 99990) (h1a : 1 ≤ a) (ar fe nx : Int32) :
    ∃ (q' m' : Nat) (st' : Nat → Int32) (messages' copies' : Nat → Int32) (first' size' : Int32) (events' : Nat → Int32) (ar' fe' nx' : Int32), q' ≤ q + 3 ∧ fL_sendsOff N ns ws (nI q) sc lc mc tm life tries x stations links messages copies first size events ar fe nx heard = some (nI q', nI m', messages', copies', first', size', events', ar', fe', nx') ∧ (∃ e', rl0 t a b m' e' tt (tt + 1) sc lc (nI m') tm life tries x stations links messages' copies' first' size' events' st') ∧ ev_H b heard st' ∧ xI a b m' tt c0 st' := by
  have h : rl_net t sc lc mc tm life tries x stations links messages copies first size events heard st := ⟨a, b, m, e, tt, h0, eH⟩
  obtain ⟨hA, hZ⟩ := rlA_iff.mp h0
  obtain ⟨⟨ha, hb, hm, he, htt⟩, z0, z1, z2, z3, z7, z6⟩ := h0.1.1
  have sce : sc = nI a := h0.2.1.1.trans z0
  have mce : mc = nI m := h0.2.1.2.2.1.trans z2
  have k0 : fL_count N sc lc mc tm life tries x stations links messages copies size (0 : Int32) = some (0, nI a) := by rw [rd_count hN ht h c7_0, z0]
  have k2 : fL_count N sc lc mc tm life tries x stations links messages copies size (2 : Int32) = some (0, nI m) := by rw [rd_count hN ht h c7_2, z2]
  have k13 : fL_count N sc lc mc tm life tries x stations links messages copies size (13 : Int32) = some (0, nI e) := by rw [rd_count hN ht h c7_13, z7]
  obtain ⟨f, hf, d1⟩ := dw (ws := ws) (q := q) (n := a) hns (by omega) h1a (by omega)
  obtain ⟨g, hg, d2⟩ := dw (ws := ws) (q := q + 1) (n := a) hns (by omega) h1a (by omega)
  have s1 : ∀ u, u < a → fX6_isStation (nI a) (nI u) = some 1 := fun u hu => by
    rcases sn_c (nI u) z0 ha with ⟨n, hn, -, c1, -⟩ | ⟨-, c2⟩
    · exact c1
    · exact absurd (Option.some.inj ((is7 z0 ha hu).symm.trans c2)) n10
  unfold fL_sendsOff
  rw [bz k0]
  dsimp only
  rw [d1, rn_bs]
  dsimp only
  rw [d2, rn_bs, bz k2, bz k13]
  dsimp only
  have same : ∀ o : Option (Int32 × Int32 × (Nat → Int32) × (Nat → Int32) × Int32 × Int32 × (Nat → Int32) × Int32 × Int32 × Int32), o = some (nI (q + 1 + 1), mc, messages, copies, first, size, events, ar, fe, nx) → ∃ (q' m' : Nat) (st' : Nat → Int32) (messages' copies' : Nat → Int32) (first' size' : Int32) (events' : Nat → Int32) (ar' fe' nx' : Int32), q' ≤ q + 3 ∧ o = some (nI q', nI m', messages', copies', first', size', events', ar', fe', nx') ∧ (∃ e', rl0 t a b m' e' tt (tt + 1) sc lc (nI m') tm life tries x stations links messages' copies' first' size' events' st') ∧ ev_H b heard st' ∧ xI a b m' tt c0 st' := fun o ho => ⟨q + 1 + 1, m, st, messages, copies, first, size, events, ar, fe, nx, by omega, by rw [ho, mce], ⟨e, by rw [← mce]; exact h0⟩, eH, X⟩
  by_cases c : f = g
  · have ce : nI f = nI g := by rw [c]
    have sd : fL_send sc mc tm messages copies first size events (nI f) (nI g) (0 : Int32) = some (1, (-102 : Int32), mc, messages, copies, first, size, events) := by
      unfold fL_send fX6_send
      rw [sce, s1 f hf, rn_bs, if_neg n10, s1 g hg, rn_bs, if_neg n10, if_pos ce, rn_bs]
      rfl
    apply same
    rw [if_pos ce, sd, rn_bs]
    dsimp only
    rw [if_pos ce, rn_bs, if_pos rfl, bz k2]
    dsimp only
    rw [if_pos rfl, bz k13]
    dsimp only
    rw [if_pos rfl]
  · have cn : ¬ nI f = nI g := fun r => c ((nI_eq (by omega) (by omega)).mp r)
    rw [if_neg cn]
    by_cases c24 : m = 24
    · have sd : fL_send sc mc tm messages copies first size events (nI f) (nI g) (0 : Int32) = some (2, (-103 : Int32), mc, messages, copies, first, size, events) := by
        unfold fL_send fX6_send fX2_messageCount
        rw [sce, s1 f hf, rn_bs, if_neg n10, s1 g hg, rn_bs, if_neg n10, if_neg cn, show fX6_isPriority (0 : Int32) = some 1 by decide, rn_bs, if_neg n10, rn_bs, mce, c24, if_neg (by decide), rn_bs]
        rfl
      apply same
      rw [if_pos (show nI m = (24 : Int32) by rw [c24]; rfl), sd, rn_bs]
      dsimp only
      rw [if_neg cn, rn_bs, if_pos rfl, bz k2]
      dsimp only
      rw [if_pos rfl, bz k13]
      dsimp only
      rw [if_pos rfl]
    · have h8 : m < 24 := by omega
      obtain ⟨r, hr, d3⟩ := dw (ws := ws) (q := q + 1 + 1) (n := 4) hns (by omega) (by decide) (by decide)
      obtain ⟨messages', copies', first', size', events', e', st', n1, n2, n3, n4, n5⟩ := nm_eq (r := r) hN hA hZ (show t < 1000000 by omega) (show tt < tt + 1 by omega) h8 hf hg c hr
      obtain ⟨st1, v1, v2, v3, v4, v5, v6, v7, v8, v9⟩ := am7 (f := f) (g := g) (r := r) hN z2 h8 z3 z7 he (show f < 8 by omega)
      have e1 : st1 = st' := congrArg Prod.snd (Option.some.inj (v1.symm.trans n2))
      subst e1
      have mc1 : mc + 1 = nI (m + 1) := by rw [mce, nI_1]
      rw [mc1] at n1 n3
      have h1 : rl0 t a b (m + 1) e' tt (tt + 1) sc lc (nI (m + 1)) tm life tries x stations links messages' copies' first' size' events' st1 := rlA_iff.mpr ⟨n3, n4⟩
      have eH' : ev_H b heard st1 := n5 heard eH
      have h' : rl_net t sc lc (nI (m + 1)) tm life tries x stations links messages' copies' first' size' events' heard st1 := ⟨a, b, m + 1, e', tt, h1, eH'⟩
      obtain ⟨⟨-, -, hm', he', -⟩, z0', z1', z2', z3', z7', z6'⟩ := h1.1.1
      have c0' : ∀ s, s < 8 → qC st m s 0 = 0 := fun s hs => by
        rcases h0.1.2.2.2.2.2.1 m s h8 hs with r | ⟨r, -⟩
        · exact r.1
        · omega
      have cC : ∀ k s w, k < 24 → s < 8 → w < 12 → ¬ (k = m ∧ s = f) → qC st1 k s w = qC st k s w := fun k s w a1 a2 a3 a4 => v2 _ (by omega) (by omega) (by omega) (by omega) (by omega)
      have eS : ∀ i w, i < 8 → w < 7 → qS st1 i w = qS st i w := fun i w a1 a2 => v2 _ (by omega) (by omega) (by omega) (by omega) (by omega)
      have eL : ∀ i w, i < 16 → w < 8 → qL st1 i w = qL st i w := fun i w a1 a2 => v2 _ (by omega) (by omega) (by omega) (by omega) (by omega)
      have eM : ∀ i w, i < 24 → w < 8 → (¬ i = m ∨ w = 4 ∨ w = 5) → qM st1 i w = qM st i w := fun i w a1 a2 a3 => v2 _ (by omega) (by omega) (by omega) (by omega) (by omega)
      obtain ⟨x1, x2, x3, x4, x5⟩ := X
      have xa : xA a b (m + 1) st1 := fun k s hk hs hn => by
        by_cases d : k = m
        · subst d
          by_cases d2 : s = f
          · subst d2
            refine ⟨v8.trans v3.symm, fun L i hL h3 hi => ?_, tt, tt, Nat.le_refl _, by omega, v4, v6⟩
            have := (nI_eq (show 1 < 2 ^ 31 by decide) (show L < 2 ^ 31 by omega)).mp (v7.symm.trans h3)
            omega
          · rw [cC k s 0 (by omega) (by omega) (by decide) (fun r => d2 r.2)] at hn
            exact absurd (c0' s (by omega)) hn
        · have hk' : k < m := by omega
          have e : ∀ w, w < 12 → qC st1 k s w = qC st k s w := fun w hw => cC k s w (by omega) (by omega) hw (fun r => d r.1)
          rw [e 0 (by decide)] at hn
          obtain ⟨g1, g2, bt, ct, g3, g4, g5, g6⟩ := x1 k s hk' hs hn
          refine ⟨by rw [e 4 (by decide), eM k 0 (by omega) (by decide) (Or.inl d)]; exact g1, fun L i hL h3 hi => ?_, bt, ct, g3, g4, by rw [eM k 3 (by omega) (by decide) (Or.inl d)]; exact g5, by rw [e 2 (by decide)]; exact g6⟩
          rw [e 3 (by decide)] at h3
          rw [e (4 + i) (by omega), e (4 + (i + 1)) (by omega)]
          exact jn_c hb (fun i w a1 a2 => eL i w a1 (by omega)) (g2 L i hL h3 hi)
      have xm : xM (m + 1) tt st1 := fun k hk => by
        by_cases d : k = m
        · subst d
          exact ⟨fun _ => ⟨tt, Nat.le_refl _, v4⟩, fun r => by omega⟩
        · rw [eM k 3 hk (by decide) (Or.inl d), eM k 4 hk (by decide) (Or.inl d), eM k 5 hk (by decide) (Or.inl d)]
          exact ⟨fun r => (x2 k hk).1 (by omega), fun r => (x2 k hk).2 (by omega)⟩
      have xs : xS st1 := by
        unfold xS
        rw [isum_c 8 (fun i hi => eS i 3 hi (by decide)), isum_c 8 (fun i hi => eS i 4 hi (by decide)), isum_c 8 (fun i hi => eS i 5 hi (by decide)), isum_c 16 (fun i hi => eL i 6 hi (by decide)), isum_c 24 (fun i hi => eM i 4 hi (by decide) (Or.inr (Or.inl rfl))), isum_c 24 (fun i hi => eM i 5 hi (by decide) (Or.inr (Or.inr rfl)))]
        exact x3
      have xb : xB c0 st1 := by
        refine ⟨fun i hi => ?_, fun j hj => ?_⟩
        · rw [eS i 3 hi (by decide), eS i 4 hi (by decide), eS i 5 hi (by decide), eS i 6 hi (by decide)]
          exact x4.1 i hi
        · rw [eL j 4 hj (by decide), eL j 5 hj (by decide), eL j 6 hj (by decide), eL j 7 hj (by decide)]
          exact x4.2 j hj
      have xl : LG 0 tt 0 0 st1 := LG_A (kd := 0) z3 (by decide) ⟨fun _ => rfl, fun _ => Or.inl rfl⟩ v9 x5
      obtain ⟨e2, e0, b1, b2, b3, b4, b5, b6, b7, b8⟩ := v9
      have ee : e2 = e := (nI_eq (by omega) (by omega)).mp (b1.symm.trans z7)
      subst ee
      have ee' : e' = e0 + 1 := (nI_eq (by omega) (by omega)).mp (z7'.symm.trans b4)
      have k13' : fL_count N sc lc (nI (m + 1)) tm life tries x stations links messages' copies' size' (13 : Int32) = some (0, nI e') := by rw [rd_count hN ht h' c7_13, z7']
      have hmm : m < m + 1 := by omega
      obtain ⟨⟨y1, y2, y3⟩, r0⟩ := rd_copy hN ht h' ar fe nx st1 st1 st1 (cp7_0 (A := st1) (K := st1) (I := st1) z0' ha z2' hm' hmm hf)
      obtain ⟨⟨y4, y5, y6⟩, r3⟩ := rd_copy hN ht h' y1 y2 y3 st1 st1 st1 (cp7_3 (A := st1) (K := st1) (I := st1) z0' ha z2' hm' hmm hf)
      have nz : ¬ qC st1 m f 0 = 0 := by rw [v5]; decide
      have pth : fL_path sc (nI (m + 1)) copies' (nI m) (nI f) (0 : Int32) = some (0, nI f) := by
        rw [show fL_path sc (nI (m + 1)) copies' (nI m) (nI f) (0 : Int32) = _ from rd_path ht h' (p7_y (i := 0) z0' ha z2' hm' hmm hf nz (show 1 ≤ 8 by decide) v7 (by decide))]
        exact congrArg (fun z => some (0, z)) v8
      have q0 : q_st st1 a m = 0 := by
        unfold q_st
        rw [sm_0 (fun s _ hs => ow_0 (fun r => by
          by_cases d : s = f
          · rw [d, v5] at r
            exact absurd r (by decide)
          · rw [cC m s 0 h8 (by omega) (by decide) (fun w => d w.2), c0' s (by omega)] at r
            exact absurd r (by decide))), if_pos (by decide), sm_congr (h := fun s => ow (s = f)) a 0 (fun s _ hs => ow_c ⟨fun r => by
          by_cases d : s = f
          · exact d
          · rw [cC m s 0 h8 (by omega) (by decide) (fun w => d w.2), c0' s (by omega)] at r
            exact absurd r (by decide), fun r => by rw [r]; exact v5⟩), sm_one a 0 (by omega) (by omega), if_neg (by decide)]
      have sd : fL_send sc mc tm messages copies first size events (nI f) (nI g) (nI r) = some (0, nI m, nI (m + 1), messages', copies', first', size', events') := by
        unfold fL_send fX6_send fX2_messageCount
        have pr : fX6_isPriority (nI r) = some 1 := by
          have : ∀ r : Nat, r < 4 → fX6_isPriority (nI r) = some 1 := by decide +kernel
          exact this r hr
        rw [sce, s1 f hf, rn_bs, if_neg n10, s1 g hg, rn_bs, if_neg n10, if_neg cn, pr, rn_bs, if_neg n10, rn_bs, if_pos (show mc < (24 : Int32) by rw [mce]; exact nI_lt (b := 24) h8 (by decide)), n1, rn_bs, rn_bs, ← mce]
        exact if_pos rfl
      rw [if_neg (show ¬ nI m = (24 : Int32) from fun r => c24 ((nI_eq (b := 24) (by omega) (by decide)).mp r)), show fL_draw ns ws (nI (q + 1 + 1)) (4 : Int32) = _ from d3, rn_bs]
      dsimp only
      rw [bz sd]
      dsimp only
      rw [if_pos rfl, bz (rd_message hN ht h' (m7_4 hN z0' ha z2' hm' hmm))]
      dsimp only
      rw [if_pos q0, bz r0]
      dsimp only
      rw [if_pos (show qC st1 m f 0 = 1 from v5), bz r3]
      dsimp only
      rw [if_pos (show (if qC st1 m f 0 = 0 then (-1 : Int32) else qC st1 m f 3) = 1 from (if_neg nz).trans v7), bz pth]
      dsimp only
      rw [if_pos rfl, bz k13']
      dsimp only
      rw [if_pos (min_e he' (by omega)), bz k13']
      dsimp only
      rw [ee', nI_p1, show fL_event first' size' events' (nI e0) (1 : Int32) = _ from rd_event ht h' (e7_q (q := 1) z7' he' (by omega) (by decide)), b7]
      rw [bz rfl]
      dsimp only
      rw [if_pos (show nI 0 = 0 from rfl)]
      exact ⟨q + 1 + 1 + 1, m + 1, st1, messages', copies', first', size', events', y4, y5, y6, by omega, rfl, ⟨e', h1⟩, eH', xa, xm, xs, xb, xl⟩
end B3
