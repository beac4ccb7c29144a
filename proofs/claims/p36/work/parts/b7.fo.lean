/-! hours that are foretold -/
section B7
variable {N t a b m e tt c0 : Nat} {sc lc mc tm life tries x : Int32} {stations links messages copies : Nat → Int32} {first size : Int32} {events st : Nat → Int32} {heard : Nat → Int64}
/-- the model's next hour -/
def nxt (N : Nat) (st : Nat → Int32) : Nat → Int32 := match fX7_passHour N 0 st zf zf zf zf zf with | some r => r.2.1 | none => st
def itn (N : Nat) (st : Nat → Int32) : Nat → Nat → Int32
  | 0 => st
  | n + 1 => nxt N (itn N st n)
theorem nxt_s {y : Int32} {st' : Nat → Int32} {z : (Nat → Int32) × (Nat → Int32) × (Nat → Int32) × (Nat → Int32) × (Nat → Int32)} (h : fX7_passHour N 0 st zf zf zf zf zf = some (y, st', z)) : nxt N st = st' := by
  unfold nxt
  rw [h]
def dv (st : Nat → Int32) : Int32 := isum (fun i => qS st i 6) 8
/-- a net beside a state of the model, and what holds between hours -/
def NN (t a b m tt c0 : Nat) (sc lc mc tm life tries x : Int32) (stations links messages copies : Nat → Int32) (first size : Int32) (events : Nat → Int32) (heard : Nat → Int64) (st : Nat → Int32) : Prop :=
  (∃ e, rl0 t a b m e tt (tt + 1) sc lc mc tm life tries x stations links messages copies first size events st) ∧ ev_H b heard st ∧ xI a b m tt c0 st
theorem NN.net (h : NN t a b m tt c0 sc lc mc tm life tries x stations links messages copies first size events heard st) : rl_net t sc lc mc tm life tries x stations links messages copies first size events heard st := by
  obtain ⟨⟨e, h0⟩, eH, -⟩ := h
  exact ⟨a, b, m, e, tt, h0, eH⟩
theorem NN.of {t' : Nat} {s' l' m' c' ev' : Nat → Int32} {h' : Nat → Int64} (ht : t ≤ 90000) (h : NN t a b m tt c0 sc lc mc tm life tries x stations links messages copies first size events heard st) (ht' : t' ≤ 100000) (g : rl_net t' sc lc mc tm life tries x s' l' m' c' first size ev' h' st) : NN t' a b m tt c0 sc lc mc tm life tries x s' l' m' c' first size ev' h' st := by
  obtain ⟨⟨e, h0⟩, eH, X⟩ := h
  obtain ⟨a1, b1, m1, e1, tt1, g0, gH⟩ := g
  obtain ⟨⟨ha, hb, hm, he, htt⟩, z0, z1, z2, z3, z7, z6⟩ := h0.1.1
  obtain ⟨⟨ha1, hb1, hm1, he1, htt1⟩, y0, y1, y2, y3, y7, y6⟩ := g0.1.1
  have ea : a1 = a := (nI_eq (by omega) (by omega)).mp (y0.symm.trans z0)
  have eb : b1 = b := (nI_eq (by omega) (by omega)).mp (y1.symm.trans z1)
  have em : m1 = m := (nI_eq (by omega) (by omega)).mp (y2.symm.trans z2)
  have et : tt1 = tt := (nI_eq (by omega) (by omega)).mp (y3.symm.trans z3)
  subst ea eb em et
  exact ⟨⟨e1, g0⟩, gH, X⟩
theorem NN.hour (hN : 6000 ≤ N) (ht : t + 1 < 1000000) (h : NN t a b m tt c0 sc lc mc tm life tries x stations links messages copies first size events heard st) (ar fe nx : Int32) (F : Nat → Int32) :
    ∃ (tm' x' : Int32) (stations' links' messages' copies' : Nat → Int32) (first' size' : Int32) (events' : Nat → Int32) (ar' fe' nx' : Int32) (F' : Nat → Int32), fX2_passHour N sc lc mc tm life tries x stations links messages copies first size events ar fe nx heard F = some (tm', x', stations', links', messages', copies', first', size', events', ar', fe', nx', F') ∧ NN (t + 1) a b m (tt + 1) (c0 + 72) sc lc mc tm' life tries x' stations' links' messages' copies' first' size' events' heard (nxt N st) := by
  obtain ⟨⟨e, h0⟩, eH, X⟩ := h
  obtain ⟨st', tm', x', stations', links', messages', copies', first', size', events', y, z, ⟨ar', fe', nx', F'⟩, p1, p2, p3, p4, p5, -⟩ := hr_x hN ht h0 eH X ar fe nx 0 F zf zf zf zf zf
  rw [← nxt_s p1] at p3 p4 p5
  exact ⟨tm', x', stations', links', messages', copies', first', size', events', ar', fe', nx', F', p2, p3, p4, p5⟩
theorem NN.run1 (hN : 6000 ≤ N) (ht : t ≤ 90000) (h : NN t a b m tt c0 sc lc mc tm life tries x stations links messages copies first size events heard st) (ar fe nx : Int32) (F : Nat → Int32) :
    ∃ (g : Nat) (tm' x' : Int32) (stations' links' messages' copies' : Nat → Int32) (first' size' : Int32) (events' : Nat → Int32) (ar' fe' nx' : Int32) (F' : Nat → Int32), g ≤ 72 ∧ fL_run N sc lc mc tm life tries x stations links messages copies first size events ar fe nx heard F (1 : Int32) = some (0, nI g, tm', x', stations', links', messages', copies', first', size', events', ar', fe', nx', F') ∧ NN (t + 1) a b m (tt + 1) (c0 + 72) sc lc mc tm' life tries x' stations' links' messages' copies' first' size' events' heard (nxt N st) := by
  obtain ⟨⟨e, h0⟩, eH, X⟩ := h
  obtain ⟨st', tm', x', stations', links', messages', copies', first', size', events', ar', fe', nx', F', f, g, y, z, p1, r1, p3, p4, p5, -, -, ⟨s3, s4⟩, -⟩ := run_1 hN ht h0 eH X ar fe nx F
  rw [← nxt_s p1] at p3 p4 p5
  exact ⟨g, tm', x', stations', links', messages', copies', first', size', events', ar', fe', nx', F', by omega, r1, p3, p4, p5⟩
theorem NN.dl (hN : 6000 ≤ N) (ht : t ≤ 100000) (h : NN t a b m tt c0 sc lc mc tm life tries x stations links messages copies first size events heard st) : fX2_messagesInState N sc mc messages copies (1 : Int32) = some (dv st) := by
  obtain ⟨⟨e, h0⟩, eH, X⟩ := h
  exact (mq hN ht h0 eH).1
theorem NN.k8 (hN : 6000 ≤ N) (ht : t ≤ 90000) (h : NN t a b m tt c0 sc lc mc tm life tries x stations links messages copies first size events heard st) : fL_count N sc lc mc tm life tries x stations links messages copies size (8 : Int32) = some (0, dv st) := by
  obtain ⟨⟨e, h0⟩, eH, X⟩ := h
  exact k8_ hN ht h0 eH
theorem NN.ms (hN : 6000 ≤ N) (ht : t ≤ 90000) (h : NN t a b m tt c0 sc lc mc tm life tries x stations links messages copies first size events heard st) {k : Nat} (hk : k < m) : fX2_messageState N sc messages copies (nI k) = some (q_st st a k) ∧ fL_message N sc mc messages copies (nI k) (4 : Int32) = some (0, q_st st a k) := by
  have hn := h.net
  obtain ⟨⟨e, h0⟩, eH, X⟩ := h
  obtain ⟨hA, hZ⟩ := rlA_iff.mp h0
  obtain ⟨⟨ha, hb, hm, he, htt⟩, z0, z1, z2, z3, z7, z6⟩ := h0.1.1
  have sce : sc = nI a := h0.2.1.1.trans z0
  refine ⟨?_, rd_message hN ht hn (m7_4 hN z0 ha z2 hm hk)⟩
  rw [sce]
  exact st2 hN ha hm hk hA.2.2.2.1.1 hA.2.2.2.2.1.1 (by omega) hA.2.2.2.2.1.2.1 hA.2.2.2.2.2.1
/-- hours by run_28 -/
theorem rn_n {H : Nat} (hN : 6000 ≤ N) (hH : H ≤ 100) {st0 : Nat → Int32} : ∀ (n i t tt c0 : Nat) (tm x : Int32) (stations links messages copies : Nat → Int32) (first size : Int32) (events : Nat → Int32) (ar fe nx : Int32) (F : Nat → Int32), i ≤ H → H - i < n → t + 100 < 1000000 + i → NN t a b m tt c0 sc lc mc tm life tries x stations links messages copies first size events heard (itn N st0 i) →
    ∃ (t' tt' c' : Nat) (tm' x' : Int32) (stations' links' messages' copies' : Nat → Int32) (first' size' : Int32) (events' : Nat → Int32) (w : _), t' ≤ t + (H - i) ∧ lX6_run_28 N sc lc mc life tries heard (nI H) n (nI i) tm x stations links messages copies first size events ar fe nx F = some (tm', x', stations', links', messages', copies', first', size', events', w) ∧ NN t' a b m tt' c' sc lc mc tm' life tries x' stations' links' messages' copies' first' size' events' heard (itn N st0 H) := by
  intro n
  induction n with
  | zero => intro i t tt c0 tm x stations links messages copies first size events ar fe nx F _ h; omega
  | succ n ih =>
    intro i t tt c0 tm x stations links messages copies first size events ar fe nx F hi hn ht h
    rw [lX6_run_28]
    rcases Nat.lt_or_ge i H with c | c
    · obtain ⟨tm', x', stations', links', messages', copies', first', size', events', ar', fe', nx', F', p1, p2⟩ := h.hour hN (by omega) ar fe nx F
      obtain ⟨t2, tt2, c2, tm2, x2, s2, l2, m2, cc2, f2, z2, e2, w, w1, w2, w3⟩ := ih (i + 1) (t + 1) (tt + 1) (c0 + 72) tm' x' stations' links' messages' copies' first' size' events' ar' fe' nx' F' (by omega) (by omega) (by omega) p2
      rw [if_neg (nI_ge c (by omega)), p1, rn_bs, nI_1]
      exact ⟨t2, tt2, c2, tm2, x2, s2, l2, m2, cc2, f2, z2, e2, w, by omega, w2, w3⟩
    · have : i = H := by omega
      subst this
      rw [if_pos (nI_le (Nat.le_refl _) (by omega))]
      exact ⟨t, tt, c0, tm, x, stations, links, messages, copies, first, size, events, _, by omega, rfl, h⟩
/-- the first hour, up to K, with so many deliveries -/
def fst (d : Nat → Int32) (z : Int32) (K : Nat) (v : Int32) : Prop := (v = -1 ∧ ∀ j, j ≤ K → d j < z) ∨ ∃ j, j ≤ K ∧ v = nI j ∧ ¬ d j < z ∧ ∀ i, i < j → d i < z
theorem fst_u {d : Nat → Int32} {z : Int32} {K : Nat} {v w : Int32} (hv : fst d z K v) (hw : fst d z K w) : v = w := by
  rcases hv with ⟨a1, a2⟩ | ⟨j, a1, a2, a3, a4⟩
  · rcases hw with ⟨b1, b2⟩ | ⟨i, b1, b2, b3, b4⟩
    · rw [a1, b1]
    · exact absurd (a2 i b1) b3
  · rcases hw with ⟨b1, b2⟩ | ⟨i, b1, b2, b3, b4⟩
    · exact absurd (b2 j a1) a3
    · have : i = j := by
        rcases Nat.lt_trichotomy i j with q | q | q
        · exact absurd (a4 i q) b3
        · exact q
        · exact absurd (b4 j q) a3
      rw [a2, b2, this]
theorem ht_n {z : Int32} {st0 : Nat → Int32} {t3 : Int32 × Int32 × Int32 × Int32 × Int32 × Int32 × Int32 × (Nat → Int32) × (Nat → Int32) × (Nat → Int32) × (Nat → Int32) × Int32 × Int32 × (Nat → Int32) × (Nat → Int64)} (hN : 6000 ≤ N) (e1 : t3.1 = sc) (e2 : t3.2.1 = lc) (e3 : t3.2.2.1 = mc) (e4 : t3.2.2.2.2.1 = life) (e5 : t3.2.2.2.2.2.1 = tries) (e6 : t3.2.2.2.2.2.2.2.2.2.2.2.2.2.2 = heard) : ∀ (n i t tt c0 : Nat) (tm x : Int32) (stations links messages copies : Nat → Int32) (first size : Int32) (events : Nat → Int32) (ar fe nx : Int32) (F : Nat → Int32), i ≤ 72 → 72 - i < n → t + 100 < 100000 + i → NN t a b m tt c0 sc lc mc tm life tries x stations links messages copies first size events heard (itn N st0 i) → (∀ j, j < i → dv (itn N st0 j) < z) →
    ∃ (R p2 p3 : Int32) (p4 p5 p6 p7 : Nat → Int32) (p8 : _) (v : Int32), lX6_hoursTo_34 N z t3 n (nI i) tm x stations links messages copies first size events ar fe nx F = some (R, p2, p3, p4, p5, p6, p7, p8) ∧ fX2_messagesInState N sc mc p6 p7 (1 : Int32) = some v ∧ fst (fun j => dv (itn N st0 j)) z 72 (if z ≤ v then R else -1) := by
  intro n
  induction n with
  | zero => intro i t tt c0 tm x stations links messages copies first size events ar fe nx F _ h; omega
  | succ n ih =>
    intro i t tt c0 tm x stations links messages copies first size events ar fe nx F hi hn ht h hj
    rw [lX6_hoursTo_34, e1, e2, e3, e4, e5, e6]
    have d := h.dl hN (by omega)
    rcases Nat.lt_or_ge i 72 with c | c
    · rw [if_neg (show ¬ (72 : Int32) ≤ nI i from nI_ge (b := 72) c (by decide)), d, rn_bs]
      by_cases w : z ≤ dv (itn N st0 i)
      · rw [if_pos w]
        exact ⟨_, _, _, _, _, _, _, _, _, rfl, d, by rw [if_pos w]; exact Or.inr ⟨i, hi, rfl, Int32.not_lt.mpr w, hj⟩⟩
      · obtain ⟨tm', x', stations', links', messages', copies', first', size', events', ar', fe', nx', F', p1, p2⟩ := h.hour hN (by omega) ar fe nx F
        rw [if_neg w, p1, rn_bs, nI_1]
        exact ih (i + 1) (t + 1) (tt + 1) (c0 + 72) tm' x' stations' links' messages' copies' first' size' events' ar' fe' nx' F' (by omega) (by omega) (by omega) p2 (fun j hji => by
          rcases Nat.lt_or_ge j i with q | q
          · exact hj j q
          · have : j = i := by omega
            rw [this]
            exact Int32.not_le.mp w)
    · have : i = 72 := by omega
      subst this
      rw [if_pos (show (72 : Int32) ≤ nI 72 by decide)]
      refine ⟨_, _, _, _, _, _, _, _, _, rfl, d, ?_⟩
      by_cases w : z ≤ dv (itn N st0 72)
      · rw [if_pos w]
        exact Or.inr ⟨72, Nat.le_refl _, rfl, Int32.not_lt.mpr w, hj⟩
      · rw [if_neg w]
        refine Or.inl ⟨rfl, fun j hj72 => ?_⟩
        rcases Nat.lt_or_ge j 72 with q | q
        · exact hj j q
        · have : j = 72 := by omega
          rw [this]
          exact Int32.not_le.mp w
theorem hoursTo_ok {z : Nat} (hN : 6000 ≤ N) (ht : t ≤ 90000) (h : NN t a b m tt c0 sc lc mc tm life tries x stations links messages copies first size events heard st) (h1 : 1 ≤ z) (h2 : z ≤ 24) (sc0 lc0 mc0 tm0 life0 tries0 x0 : Int32) (s0 l0 m0 cc0 : Nat → Int32) (f0 z0 : Int32) (e0 : Nat → Int32) (ar fe nx : Int32) (hh0 : Nat → Int64) (F : Nat → Int32) :
    ∃ due w, fL_hoursTo N sc lc mc tm life tries x stations links messages copies first size events heard sc0 lc0 mc0 tm0 life0 tries0 x0 s0 l0 m0 cc0 f0 z0 e0 ar fe nx hh0 F (nI z) = some (0, due, w) ∧ fst (fun j => dv (itn N st j)) (nI z) 72 due := by
  obtain ⟨s', l', m', c', ev', h', t1, t2⟩ := tf_eq h.net sc0 lc0 mc0 tm0 life0 tries0 x0 s0 l0 m0 cc0 f0 z0 e0 hh0
  have g := h.of ht (show t ≤ 100000 by omega) t2
  obtain ⟨R, p2, p3, p4, p5, p6, p7, p8, v, r1, r2, r3⟩ := ht_n (z := nI z) (t3 := (sc, lc, mc, tm, life, tries, x, s', l', m', c', first, size, ev', h')) (st0 := st) hN rfl rfl rfl rfl rfl rfl N 0 t tt c0 tm x s' l' m' c' first size ev' ar fe nx F (by omega) (by omega) (by omega) g (fun j hj => by omega)
  unfold fL_hoursTo fX6_hoursTo
  rw [if_neg (show ¬ nI z < (1 : Int32) from nI_nlt (b := 1) h1 (by omega)), if_pos (show nI z ≤ (24 : Int32) from nI_le (b := 24) h2 (by decide)), t1, rn_bs]
  rw [show lX6_hoursTo_34 N (nI z) (sc, lc, mc, tm, life, tries, x, s', l', m', c', first, size, ev', h') N (0 : Int32) (sc, lc, mc, tm, life, tries, x, s', l', m', c', first, size, ev', h').2.2.2.1 (sc, lc, mc, tm, life, tries, x, s', l', m', c', first, size, ev', h').2.2.2.2.2.2.1 (sc, lc, mc, tm, life, tries, x, s', l', m', c', first, size, ev', h').2.2.2.2.2.2.2.1 (sc, lc, mc, tm, life, tries, x, s', l', m', c', first, size, ev', h').2.2.2.2.2.2.2.2.1 (sc, lc, mc, tm, life, tries, x, s', l', m', c', first, size, ev', h').2.2.2.2.2.2.2.2.2.1 (sc, lc, mc, tm, life, tries, x, s', l', m', c', first, size, ev', h').2.2.2.2.2.2.2.2.2.2.1 (sc, lc, mc, tm, life, tries, x, s', l', m', c', first, size, ev', h').2.2.2.2.2.2.2.2.2.2.2.1 (sc, lc, mc, tm, life, tries, x, s', l', m', c', first, size, ev', h').2.2.2.2.2.2.2.2.2.2.2.2.1 (sc, lc, mc, tm, life, tries, x, s', l', m', c', first, size, ev', h').2.2.2.2.2.2.2.2.2.2.2.2.2.1 ar fe nx F = _ from r1, rn_bs]
  rw [show fX2_messagesInState N (sc, lc, mc, tm, life, tries, x, s', l', m', c', first, size, ev', h').1 (sc, lc, mc, tm, life, tries, x, s', l', m', c', first, size, ev', h').2.2.1 (R, p2, p3, p4, p5, p6, p7, p8).2.2.2.2.2.1 (R, p2, p3, p4, p5, p6, p7, p8).2.2.2.2.2.2.1 (1 : Int32) = _ from r2, rn_bs]
  by_cases d : nI z ≤ v
  · rw [if_pos d] at r3
    rw [if_pos d, rn_bs]
    exact ⟨R, _, if_pos rfl, r3⟩
  · rw [if_neg d] at r3
    rw [if_neg d, rn_bs]
    exact ⟨-1, _, if_pos rfl, r3⟩
theorem stateAfter_ok {k H : Nat} (hN : 6000 ≤ N) (ht : t ≤ 89000) (h : NN t a b m tt c0 sc lc mc tm life tries x stations links messages copies first size events heard st) (hk : k < m) (h1 : 1 ≤ H) (h2 : H ≤ 72) (sc0 lc0 mc0 tm0 life0 tries0 x0 : Int32) (s0 l0 m0 cc0 : Nat → Int32) (f0 z0 : Int32) (e0 : Nat → Int32) (ar fe nx : Int32) (hh0 : Nat → Int64) (F : Nat → Int32) :
    ∃ w, fL_stateAfter N sc lc mc tm life tries x stations links messages copies first size events heard sc0 lc0 mc0 tm0 life0 tries0 x0 s0 l0 m0 cc0 f0 z0 e0 ar fe nx hh0 F (nI k) (nI H) = some (0, q_st (itn N st H) a k, w) := by
  obtain ⟨s', l', m', c', ev', h', t1, t2⟩ := tf_eq h.net sc0 lc0 mc0 tm0 life0 tries0 x0 s0 l0 m0 cc0 f0 z0 e0 hh0
  have g := h.of (by omega) (show t ≤ 100000 by omega) t2
  obtain ⟨t', tt', c2, tm', x', stations', links', messages', copies', first', size', events', ⟨w1, w2, w3, w4⟩, q0, q1, q2⟩ := rn_n (st0 := st) hN (show H ≤ 100 by omega) N 0 t tt c0 tm x s' l' m' c' first size ev' ar fe nx F (by omega) (by omega) (by omega) g
  have sm := (q2.ms hN (by omega) hk).1
  obtain ⟨⟨e, hh⟩, -, -⟩ := h
  have hm := hh.1.1.1.2.2.1
  have mce : mc = nI m := hh.2.1.2.2.1.trans hh.1.1.2.2.2.1
  unfold fL_stateAfter fX6_stateAfter
  have i1 : fX6_isMessage mc (nI k) = some 1 := by
    unfold fX6_isMessage fX2_messageCount
    rw [mce, if_neg (show ¬ nI k < 0 from nI_nlt (b := 0) (Nat.zero_le _) (by omega)), rn_bs, if_neg (nI_ge hk (by omega))]
  have i2 : fX6_isHours (nI H) = some 1 := show fX7_isBetween (nI H) (nI 1) (nI 72) = some 1 from b7y h1 h2 (by decide)
  rw [i1, rn_bs, if_neg n10, i2, rn_bs, if_neg n10, t1, rn_bs, sa6]
  rw [show lX6_run_28 N (sc, lc, mc, tm, life, tries, x, s', l', m', c', first, size, ev', h').1 (sc, lc, mc, tm, life, tries, x, s', l', m', c', first, size, ev', h').2.1 (sc, lc, mc, tm, life, tries, x, s', l', m', c', first, size, ev', h').2.2.1 (sc, lc, mc, tm, life, tries, x, s', l', m', c', first, size, ev', h').2.2.2.2.1 (sc, lc, mc, tm, life, tries, x, s', l', m', c', first, size, ev', h').2.2.2.2.2.1 (sc, lc, mc, tm, life, tries, x, s', l', m', c', first, size, ev', h').2.2.2.2.2.2.2.2.2.2.2.2.2.2 (nI H) N (0 : Int32) (sc, lc, mc, tm, life, tries, x, s', l', m', c', first, size, ev', h').2.2.2.1 (sc, lc, mc, tm, life, tries, x, s', l', m', c', first, size, ev', h').2.2.2.2.2.2.1 (sc, lc, mc, tm, life, tries, x, s', l', m', c', first, size, ev', h').2.2.2.2.2.2.2.1 (sc, lc, mc, tm, life, tries, x, s', l', m', c', first, size, ev', h').2.2.2.2.2.2.2.2.1 (sc, lc, mc, tm, life, tries, x, s', l', m', c', first, size, ev', h').2.2.2.2.2.2.2.2.2.1 (sc, lc, mc, tm, life, tries, x, s', l', m', c', first, size, ev', h').2.2.2.2.2.2.2.2.2.2.1 (sc, lc, mc, tm, life, tries, x, s', l', m', c', first, size, ev', h').2.2.2.2.2.2.2.2.2.2.2.1 (sc, lc, mc, tm, life, tries, x, s', l', m', c', first, size, ev', h').2.2.2.2.2.2.2.2.2.2.2.2.1 (sc, lc, mc, tm, life, tries, x, s', l', m', c', first, size, ev', h').2.2.2.2.2.2.2.2.2.2.2.2.2.1 ar fe nx F = _ from q1, rn_bs]
  dsimp only
  rw [sm, rn_bs, rn_bs]
  exact ⟨_, if_pos rfl⟩
end B7
