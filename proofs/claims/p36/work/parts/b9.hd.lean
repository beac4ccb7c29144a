/-! the law is true -/
section B9
theorem sm_lt {g : Nat → Int32} (h : ∀ i, g i = 0 ∨ g i = 1) {u : Nat} (hu : g u = 0) : ∀ (c k : Nat), k ≤ u → u < k + c → ∃ v, v + 1 ≤ c ∧ sm g k c = nI v := by
  intro c
  induction c with
  | zero => intro k h1 h2; omega
  | succ c ih =>
    intro k h1 h2
    show ∃ v, v + 1 ≤ c + 1 ∧ g k + sm g (k + 1) c = nI v
    by_cases d : k = u
    · obtain ⟨v, v1, v2, -⟩ := sm_01 h c (k + 1)
      refine ⟨v, by omega, ?_⟩
      rw [d] at v2 ⊢
      rw [hu, v2, Int32.zero_add]
    · obtain ⟨v, v1, v2⟩ := ih (k + 1) (by omega) (by omega)
      rcases h k with w | w
      · exact ⟨v, by omega, by rw [w, v2, Int32.zero_add]⟩
      · exact ⟨1 + v, by omega, by rw [w, v2]; exact nI_add 1 v⟩
variable {N t a b m e tt c0 : Nat} {sc lc mc tm life tries x : Int32} {stations links messages copies : Nat → Int32} {first size : Int32} {events st : Nat → Int32} {heard : Nat → Int64}
theorem reach_ok (hN : 6000 ≤ N) (ht : t ≤ 90000) (h : NN t a b m tt c0 sc lc mc tm life tries x stations links messages copies first size events heard st) (h1a : 1 ≤ a) : ∃ v, v ≤ a * (a - 1) ∧ fX6_reachable N sc tm heard = some (nI v) := by
  obtain ⟨⟨e, h0⟩, eH, -⟩ := h
  obtain ⟨hA, hZ⟩ := rlA_iff.mp h0
  obtain ⟨ha, hb, hm, he, htt⟩ := hA.1.1.1
  obtain ⟨-, z0, z1, z2', z3, z7, z6⟩ := hA.1.1
  have sce : sc = nI a := hA.1.2.1.trans z0
  have tme : tm = nI tt := hA.1.2.2.2.2.1.trans z3
  subst sce tme
  obtain ⟨I0, a1, a2⟩ := av7 (isA := zf) hN
  have hv : is8 (0 : Int32) (Av I0) := is8_w is8_0 (fun j hj => ⟨fun q => q.elim, fun q => q (a2 j hj)⟩)
  have hmi : ∀ t, t < 8 → (Av I0 t ↔ nI t = -1) := fun t ht => ⟨fun q => absurd (a2 t ht) q, fun q => by
    have := nI_pos (n := t) (by omega)
    rw [q] at this
    exact absurd (by decide) this⟩
  obtain ⟨w, hw⟩ := prW_ex (b := b) (tt := tt) (st := st) (isA := I0) (-1)
  have r := rpS hN hA.2.2.1.1 ha hb eH hv hmi hw (show tt < 1000000 by omega)
  obtain ⟨v, v1, v2⟩ := sm_bd (g := fun f => sm (fun g => w f g) 0 a) (B := a - 1) a 0 (fun f _ hf => by
    obtain ⟨u, u1, u2⟩ := sm_lt (g := fun g => w f g) (fun g => by
      rcases hw f g with q | q
      · exact Or.inr q.2
      · exact Or.inl q.2) (u := f) (by
      rcases hw f f with q | q
      · exact absurd rfl q.1.2.2.1
      · exact q.2) a 0 (by omega) (by omega)
    exact ⟨u, by omega, u2⟩)
  refine ⟨v, by rw [Nat.mul_comm]; exact v1, ?_⟩
  unfold fX6_reachable
  rw [r, rn_bs, v2]
theorem NN.send {ns q : Nat} {ws : Nat → Int32} (hN : 6000 ≤ N) (ht : t ≤ 90000) (h : NN t a b m tt c0 sc lc mc tm life tries x stations links messages copies first size events heard st) (hns : ns ≤ 260) (hq : q < 99990) (h1a : 1 ≤ a) (hmc : mc = nI m) (v : Int32) (ar fe nx : Int32) :
    ∃ (q' m' : Nat) (st' : Nat → Int32) (messages' copies' : Nat → Int32) (first' size' : Int32) (events' : Nat → Int32) (ar' fe' nx' : Int32), q' ≤ q + 3 ∧ (if v = 0 then (fL_sendsOff N ns ws (nI q) sc lc mc tm life tries x stations links messages copies first size events ar fe nx heard).bind fun t7 => some (t7.1, t7.2.1, t7.2.2.1, t7.2.2.2.1, t7.2.2.2.2.1, t7.2.2.2.2.2.1, t7.2.2.2.2.2.2.1, t7.2.2.2.2.2.2.2.1, t7.2.2.2.2.2.2.2.2.1, t7.2.2.2.2.2.2.2.2.2) else some (nI q, mc, messages, copies, first, size, events, ar, fe, nx)) = some (nI q', nI m', messages', copies', first', size', events', ar', fe', nx') ∧ NN t a b m' tt c0 sc lc (nI m') tm life tries x stations links messages' copies' first' size' events' heard st' := by
  by_cases c : v = 0
  · obtain ⟨⟨e, h0⟩, eH, X⟩ := h
    obtain ⟨q', m', st', ms', cs', f', z', e', ar', fe', nx', w1, w2, w3, w4, w5⟩ := sends_ok (ws := ws) hN ht h0 eH X hns hq h1a ar fe nx
    exact ⟨q', m', st', ms', cs', f', z', e', ar', fe', nx', w1, by rw [if_pos c, w2, rn_bs], w3, w4, w5⟩
  · exact ⟨q, m, st, messages, copies, first, size, events, ar, fe, nx, by omega, by rw [if_neg c, hmc], by rw [← hmc]; exact h⟩
theorem NN.wy {ns q : Nat} {ws : Nat → Int32} (hN : 6000 ≤ N) (ht : t ≤ 90000) (h : NN t a b m tt c0 sc lc mc tm life tries x stations links messages copies first size events heard st) (hns : ns ≤ 260) (hq : q < 99990) (h1a : 1 ≤ a) (v : Int32) (ar fe nx : Int32) :
    ∃ (q' : Nat) (ar' fe' nx' : Int32), q' ≤ q + 3 ∧ (if v = 0 then (fL_ways N ns ws (nI q) sc lc mc tm life tries x stations links messages copies size ar fe nx heard).bind fun t11 => some (t11.1, t11.2.1, t11.2.2.1, t11.2.2.2) else some (nI q, ar, fe, nx)) = some (nI q', ar', fe', nx') := by
  by_cases c : v = 0
  · obtain ⟨⟨e, h0⟩, eH, X⟩ := h
    obtain ⟨q', ar', fe', nx', w1, w2⟩ := ways_ok (ws := ws) hN ht h0 eH hns hq h1a ar fe nx
    exact ⟨q', ar', fe', nx', w1, by rw [if_pos c, w2, rn_bs]⟩
  · exact ⟨q, ar, fe, nx, by omega, by rw [if_neg c]⟩
theorem NN.bk {ns q : Nat} {ws : Nat → Int32} (hN : 6000 ≤ N) (ht : t ≤ 90000) (h : NN t a b m tt c0 sc lc mc tm life tries x stations links messages copies first size events heard st) (hns : ns ≤ 260) (hq : q < 99990) (v : Int32) :
    ∃ (q' : Nat) (st' : Nat → Int32) (messages' copies' : Nat → Int32) (first' size' : Int32) (events' : Nat → Int32), q' ≤ q + 1 ∧ (if v = 0 then (fL_backs N ns ws (nI q) sc lc mc tm life tries x stations links messages copies first size events).bind fun t15 => some (t15.1, t15.2.1, t15.2.2.1, t15.2.2.2.1, t15.2.2.2.2.1, t15.2.2.2.2.2) else some (nI q, messages, copies, first, size, events)) = some (nI q', messages', copies', first', size', events') ∧ NN t a b m tt c0 sc lc mc tm life tries x stations links messages' copies' first' size' events' heard st' := by
  by_cases c : v = 0
  · obtain ⟨⟨e, h0⟩, eH, X⟩ := h
    obtain ⟨q', st', ms', cs', f', z', e', w1, w2, w3, w4, w5⟩ := backs_ok (ws := ws) hN ht h0 eH X hns (show q < 99999 by omega)
    exact ⟨q', st', ms', cs', f', z', e', w1, by rw [if_pos c, w2, rn_bs], w3, w4, w5⟩
  · exact ⟨q, st, messages, copies, first, size, events, by omega, by rw [if_neg c], h⟩
theorem NN.hr (hN : 6000 ≤ N) (ht : t + 1 ≤ 90000) (h : NN t a b m tt c0 sc lc mc tm life tries x stations links messages copies first size events heard st) (ar fe nx : Int32) (F B : Nat → Int32) :
    ∃ (st' : Nat → Int32) (tm' x' : Int32) (stations' links' messages' copies' : Nat → Int32) (first' size' : Int32) (events' : Nat → Int32) (ar' fe' nx' : Int32) (F' B' : Nat → Int32), fL_hour N sc lc mc tm life tries x stations links messages copies first size events ar fe nx heard F B = some (tm', x', stations', links', messages', copies', first', size', events', ar', fe', nx', F', B') ∧ NN (t + 1) a b m (tt + 1) (c0 + 72) sc lc mc tm' life tries x' stations' links' messages' copies' first' size' events' heard st' := by
  obtain ⟨⟨e, h0⟩, eH, X⟩ := h
  obtain ⟨st', tm', x', s', l', ms', cs', f', z', e', ar', fe', nx', F', B', w1, w2, w3, w4⟩ := hour_ok hN ht h0 eH X ar fe nx F B
  exact ⟨st', tm', x', s', l', ms', cs', f', z', e', ar', fe', nx', F', B', w1, w2, w3, w4⟩
theorem NN.cs (hN : 6000 ≤ N) (ht : t ≤ 90000) (h : NN t a b m tt c0 sc lc mc tm life tries x stations links messages copies first size events heard st) (ar fe nx : Int32) : ∃ (ar' fe' nx' : Int32), fL_copiesAreSo N sc lc mc tm life tries x stations links messages copies size ar fe nx heard = some (ar', fe', nx') := by
  obtain ⟨⟨e, h0⟩, eH, X⟩ := h
  obtain ⟨⟨ar', fe', nx'⟩, w⟩ := copies_ok hN ht h0 eH X.1 X.2.1 X.2.2.1 ar fe nx
  exact ⟨ar', fe', nx', w⟩
theorem NN.su (hN : 6000 ≤ N) (ht : t ≤ 90000) (hc : c0 ≤ 100000) (h : NN t a b m tt c0 sc lc mc tm life tries x stations links messages copies first size events heard st) : fL_sums N sc lc mc tm life tries x stations links messages copies size = some () := by
  obtain ⟨⟨e, h0⟩, eH, X⟩ := h
  exact sums_ok (tt' := 0) hN ht h0 eH hc X.2.2.1 X.2.2.2.1
theorem lh {ns : Nat} {ws : Nat → Int32} {q0 xB' : Int32} {sB lB : Nat → Int32} (hN : 6000 ≤ N) (hns : ns ≤ 260) (h1a : 1 ≤ a) :
    ∀ (fu i q m : Nat) (tm x : Int32) (stations links messages copies : Nat → Int32) (first size : Int32) (events : Nat → Int32) (ar fe nx : Int32) (F B st : Nat → Int32), i ≤ 60 → 60 - i < fu → q + 12 * (60 - i) < 90000 → NN i a b m i (72 * i) (nI a) (nI b) (nI m) tm life tries x stations links messages copies first size events heard st →
    ∃ (q' m' : Nat) (tm' x' : Int32) (stations' links' messages' copies' : Nat → Int32) (first' size' : Int32) (events' : Nat → Int32) (ar' fe' nx' : Int32) (F' B' st' : Nat → Int32), q' ≤ q + 12 * (60 - i) ∧ lL_holds_16 ns ws N (q0, nI a, nI b, life, tries, xB', sB, lB, heard) fu (nI i) (nI q) (nI m) tm x stations links messages copies first size events ar fe nx F B = some (nI q', nI m', tm', x', stations', links', messages', copies', first', size', events', ar', fe', nx', F', B') ∧ NN 60 a b m' 60 (72 * 60) (nI a) (nI b) (nI m') tm' life tries x' stations' links' messages' copies' first' size' events' heard st' := by
  intro fu
  induction fu with
  | zero => intro i q m tm x stations links messages copies first size events ar fe nx F B st _ h; omega
  | succ fu ih =>
    intro i q m tm x stations links messages copies first size events ar fe nx F B st hi hn hq h
    rw [lL_holds_16]
    rcases Nat.lt_or_ge i 60 with c | c
    · obtain ⟨v1, -, d1⟩ := dw (ws := ws) (q := q) (n := 3) hns (by omega) (by decide) (by decide)
      obtain ⟨q1, m1, st1, ms1, cs1, f1, z1, e1, ar1, fe1, nx1, y1, j5, n5⟩ := h.send (ws := ws) (q := q + 1) hN (by omega) hns (by omega) h1a rfl (nI v1) ar fe nx
      obtain ⟨v2, -, d2⟩ := dw (ws := ws) (q := q1) (n := 4) hns (by omega) (by decide) (by decide)
      obtain ⟨q2, ar2, fe2, nx2, y2, j9⟩ := n5.wy (ws := ws) (q := q1 + 1) hN (by omega) hns (by omega) h1a (nI v2) ar1 fe1 nx1
      obtain ⟨v3, -, d3⟩ := dw (ws := ws) (q := q2) (n := 25) hns (by omega) (by decide) (by decide)
      obtain ⟨q3, st3, ms3, cs3, f3, z3, e3, y3, j13, n13⟩ := n5.bk (ws := ws) (q := q2 + 1) hN (by omega) hns (by omega) (nI v3)
      obtain ⟨st4, tm4, x4, s4, l4, ms4, cs4, f4, z4, e4, ar4, fe4, nx4, F4, B4, r16, n16⟩ := n13.hr hN (by omega) ar2 fe2 nx2 F B
      have n16 : NN (i + 1) a b m1 (i + 1) (72 * (i + 1)) (nI a) (nI b) (nI m1) tm4 life tries x4 s4 l4 ms4 cs4 f4 z4 e4 heard st4 := by
        rw [show 72 * (i + 1) = 72 * i + 72 by omega]
        exact n16
      rw [if_neg (show ¬ (60 : Int32) ≤ nI i from nI_ge (b := 60) c (by decide)), show fL_draw ns ws (nI q) (3 : Int32) = _ from d1, rn_bs]
      dsimp only
      rw [j5, rn_bs]
      dsimp only
      rw [show fL_draw ns ws (nI q1) (4 : Int32) = _ from d2, rn_bs]
      dsimp only
      rw [j9, rn_bs]
      dsimp only
      rw [show fL_draw ns ws (nI q2) (25 : Int32) = _ from d3, rn_bs]
      dsimp only
      rw [j13, rn_bs]
      dsimp only
      rw [r16, rn_bs]
      dsimp only
      rw [nI_1]
      by_cases w : rn_rem (nI i) (10 : Int32) = (4 : Int32)
      · obtain ⟨ar5, fe5, nx5, r18⟩ := n16.cs hN (by omega) ar4 fe4 nx4
        obtain ⟨q', m', tm', x', s', l', ms', cs', f', z', e', ar', fe', nx', F', B', st', w1, w2, w3⟩ := ih (i + 1) q3 m1 tm4 x4 s4 l4 ms4 cs4 f4 z4 e4 ar5 fe5 nx5 F4 B4 st4 (by omega) (by omega) (by omega) n16
        rw [if_pos w, r18, rn_bs]
        dsimp only
        rw [n16.su hN (by omega) (by omega), rn_bs]
        exact ⟨q', m', tm', x', s', l', ms', cs', f', z', e', ar', fe', nx', F', B', st', by omega, w2, w3⟩
      · obtain ⟨q', m', tm', x', s', l', ms', cs', f', z', e', ar', fe', nx', F', B', st', w1, w2, w3⟩ := ih (i + 1) q3 m1 tm4 x4 s4 l4 ms4 cs4 f4 z4 e4 ar4 fe4 nx4 F4 B4 st4 (by omega) (by omega) (by omega) n16
        rw [if_neg w]
        exact ⟨q', m', tm', x', s', l', ms', cs', f', z', e', ar', fe', nx', F', B', st', by omega, w2, w3⟩
    · have : i = 60 := by omega
      subst this
      rw [if_pos (show (60 : Int32) ≤ nI 60 from nI_le (a := 60) (Nat.le_refl _) (by decide))]
      exact ⟨q, m, tm, x, stations, links, messages, copies, first, size, events, ar, fe, nx, F, B, st, by omega, rfl, h⟩
theorem holds_ok {ns : Nat} {ws : Nat → Int32} (hN : 6000 ≤ N) (hns : ns ≤ 260) (ar fe nx : Int32) (F B : Nat → Int32) (sc0 lc0 mc0 tm0 life0 tries0 x0 : Int32) (s0 l0 m0 cc0 : Nat → Int32) (f0 z0 : Int32) (e0 : Nat → Int32) (ar0 fe0 nx0 : Int32) (hh0 : Nat → Int64) (F0 : Nat → Int32) :
    ∃ u, fL_holds N ns ws 0 0 0 0 0 48 3 1 zf zf zf zf 0 0 zf ar fe nx zh F sc0 lc0 mc0 tm0 life0 tries0 x0 s0 l0 m0 cc0 f0 z0 e0 ar0 fe0 nx0 hh0 F0 B = some u := by
  obtain ⟨a, b, q1, life, tries, x, sB, lB, heard, st, h3, hq1, rb, hr, eH, X⟩ := builds_ok (ws := ws) hN hns
  obtain ⟨q2, m, tm, x2, s2, l2, ms2, cs2, f2, z2, e2, ar2, fe2, nx2, F2, B2, st2, hq2, rl, n2⟩ := lh (ws := ws) (q0 := nI q1) (xB' := x) (sB := sB) (lB := lB) (life := life) (tries := tries) (heard := heard) hN hns (show 1 ≤ a by omega) 61 0 q1 0 0 x sB lB zf zf 0 0 zf ar fe nx F B st (by omega) (by omega) (by omega) ⟨⟨0, hr⟩, eH, X⟩
  obtain ⟨qI, s3, l3, ms3, cs3, e3, ar3, fe3, nx3, h3', F3, ⟨w1, w2, w3, w4, w5, w6, w7, w8, w9, w10, w11, w12, w13, w14, w15, w16, w17, w18, w19⟩, rf, n3⟩ := foretells_ok (ws := ws) (q := q2) hN (by omega) (by omega) n2 hns (by omega) ar2 fe2 nx2 F2 sc0 lc0 mc0 tm0 life0 tries0 x0 s0 l0 m0 cc0 f0 z0 e0 ar0 fe0 nx0 hh0 F0
  obtain ⟨ar4, fe4, nx4, rc⟩ := n3.cs hN (by omega) ar3 fe3 nx3
  have r73 : fL_run N (nI a) (nI b) (nI m) tm life tries x2 s3 l3 ms3 cs3 f2 z2 e3 ar4 fe4 nx4 h3' F3 (73 : Int32) = some (1, (-102 : Int32), tm, x2, s3, l3, ms3, cs3, f2, z2, e3, ar4, fe4, nx4, F3) := by
    unfold fL_run fX6_run
    rw [show fX6_isHours (73 : Int32) = some 0 by decide, rn_bs, if_pos rfl, rn_bs]
    rfl
  obtain ⟨v, v1, v2⟩ := reach_ok hN (by omega) n3 (show 1 ≤ a by omega)
  have ha : a ≤ 8 := by
    obtain ⟨⟨e, hh⟩, -, -⟩ := n3
    exact hh.1.1.1.1
  have k0 : fL_count N (nI a) (nI b) (nI m) tm life tries x2 s3 l3 ms3 cs3 z2 (0 : Int32) = some (0, nI a) := by
    have hn := n3.net
    obtain ⟨⟨e, hh⟩, -, -⟩ := n3
    rw [rd_count hN (by omega) hn c7_0, hh.1.1.2.1]
  obtain ⟨a', ea⟩ : ∃ a', a = a' + 1 := ⟨a - 1, by omega⟩
  unfold fL_holds
  rw [show fL_builds N ns ws 0 0 0 0 0 48 3 1 zf zf zf zf 0 zh = _ from rb, rn_bs]
  dsimp only
  rw [show lL_holds_16 ns ws N (nI q1, nI a, nI b, life, tries, x, sB, lB, heard) 61 (0 : Int32) (nI q1) 0 0 x sB lB zf zf 0 0 zf ar fe nx F B = _ from rl, rn_bs]
  dsimp only
  rw [rf, rn_bs]
  dsimp only
  rw [rc, rn_bs]
  dsimp only
  rw [r73, rn_bs]
  dsimp only
  rw [if_pos rfl, v2, rn_bs, bz k0]
  dsimp only
  rw [bz k0]
  dsimp only
  rw [if_neg (show ¬ nI a * (nI a - (1 : Int32)) < nI v by
    have e1 : nI a - (1 : Int32) = nI (a - 1) := by rw [ea, nI_p1]; rfl
    rw [e1, nI_m]
    have hh : a * (a - 1) ≤ 8 * 8 := Nat.mul_le_mul ha (by omega)
    exact nI_nlt v1 (by omega))]
  exact ⟨_, rfl⟩
end B9
