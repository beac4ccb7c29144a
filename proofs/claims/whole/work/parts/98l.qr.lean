/-! the statements of a text -/
theorem qg0 {α : Type} {o : Option α} : rn_g (0 : Int32) 2888 o = o := g0
theorem qg1 {α : Type} {o : Option α} : rn_g (1 : Int32) 2888 o = o := g1
theorem qg2 {α : Type} {o : Option α} : rn_g (2 : Int32) 2888 o = o := g2
theorem qg3 {α : Type} {o : Option α} : rn_g (3 : Int32) 2888 o = o := g3
theorem qg4 {α : Type} {o : Option α} : rn_g (4 : Int32) 2888 o = o := g4
theorem qg5 {α : Type} {o : Option α} : rn_g (5 : Int32) 2888 o = o := g5
theorem qg6 {α : Type} {o : Option α} : rn_g (6 : Int32) 2888 o = o := g6
theorem qg7 {α : Type} {o : Option α} : rn_g (7 : Int32) 2888 o = o := g7
section QR
variable {N n t a b m ee : Nat} {B : Nat → Nat} {text mt : Nat → Int32} {sc lc mc tm life tries x : Int32} {stations links messages copies : Nat → Int32} {first size : Int32} {events st : Nat → Int32}
theorem cnt {u v : Int32} {a hx : Nat} (hu : u = nI a) (hv : v = nI hx) (ha : a < 2 ^ 31) (hh : hx < 2 ^ 31) (ts es : Int32) : ∃ r e es', (if u < v then some (0, es) else (fX3_fail ts 0 es (3 : Int32)).bind fun t4 => some (t4.1, t4.2)) = some (e, es') ∧ (if v ≤ u then some (0 : Int32) else some (1 : Int32)) = some r ∧ fX7_require ts 0 es r 3 = some (e, es') ∧ (e = 0 → a < hx) := by
  subst hu hv
  rcases Nat.lt_or_ge a hx with d | d
  · exact ⟨1, 0, es, by rw [if_pos (nI_lt d hh)], by rw [if_neg (nI_ge d hh)], rq1, fun _ => d⟩
  · exact ⟨0, 3, ts, by rw [if_neg (nI_nlt d ha), fl0, rn_bs], by rw [if_pos (nI_le d ha)], rq0, fun r => absurd r (by decide)⟩
theorem pst (hN : 6000 ≤ N) (h : tx n B text mt) (hA : rlA t a b m ee 0 1 sc lc mc tm life tries x stations links messages copies first size events st) (hZ : gd_Z st) {q : Nat} {k ts en va es po tk le nu : Int32} {wo : Int64} (hB : RB n q en 0 po) :
    ∃ k' s' en' va' e' es' sc' stations' po' ts' tk' le' nu' wo' st', fX3_readStation N (nI n) k ts en va 0 es text sc stations = some (k', s', en', va', e', es', sc', stations') ∧ fX7_parseStation N (nI n) po ts tk le nu 0 es wo st mt = some (po', ts', tk', le', nu', e', es', wo', st') ∧ RA N n B text (q + 1) en' e' po' ts' tk' le' nu' wo' ∧ (e' = 0 → ∃ a', rlA t a' b m ee 0 1 sc' lc mc tm life tries x stations' links messages copies first size events st' ∧ gd_Z st') := by
  have ha := hA.1.1.1.1
  have s0 := hA.1.1.2.1
  have sce : sc = nI a := hA.1.2.1.trans s0
  obtain ⟨r, e1, es1, c1, c2, c3, c4⟩ := cnt (v := (8 : Int32)) (a := a) (hx := 8) sce rfl (by omega) (by decide) ts es
  obtain ⟨po1, ts1, tk1, le1, nu1, wo1, d1, d2⟩ := ad_n hN h (RBm hB (fun _ => rfl)) ts tk le nu wo (e := e1)
  obtain ⟨v2, k2, s2, en2, va2, e2, es2, po2, ts2, tk2, le2, nu2, wo2, f1, f2, f3, f4⟩ := nm_n hN h d2 k ts va es1 (show (0 : Int32) = nI 0 from rfl) (show (23 : Int32) = nI 24 - 1 from rfl) (by decide) (by decide)
  obtain ⟨v3, k3, s3, en3, va3, e3, es3, po3, ts3, tk3, le3, nu3, wo3, g1, g2, g3, g4⟩ := nm_n hN h f4 k2 s2 va2 es2 (show (0 : Int32) = nI 0 from rfl) (show (23 : Int32) = nI 24 - 1 from rfl) (by decide) (by decide)
  obtain ⟨v4, k4, s4, en4, va4, e4, es4, po4, ts4, tk4, le4, nu4, wo4, i1, i2, i3, i4⟩ := nm_n hN h g4 k3 s3 va3 es3 (show (1 : Int32) = nI 1 from rfl) (show (9 : Int32) = nI 10 - 1 from rfl) (by decide) (by decide)
  have A3 : fX3_readStation N (nI n) k ts en va 0 es text sc stations = if e4 = 0 then (fX2_newStation sc stations v2 v3 v4).bind fun t9 => some (k4, s4, en4, va4, e4, es4, t9.2.1, t9.2.2) else some (k4, s4, en4, va4, e4, es4, sc, stations) := by
    unfold fX3_readStation fX2_stationCount
    rw [rn_bs, c1, rn_bs]
    dsimp only
    rw [f1, rn_bs]
    dsimp only
    rw [g1, rn_bs]
    dsimp only
    rw [i1, rn_bs]
  have A7 : fX7_parseStation N (nI n) po ts tk le nu 0 es wo st mt = if e4 = 0 then (fX7_appendStation st nu1 nu2 nu3).bind fun t11 => some (po4, ts4, tk4, le4, nu4, e4, es4, wo4, t11.2) else some (po4, ts4, tk4, le4, nu4, e4, es4, wo4, st) := by
    unfold fX7_parseStation fX7_isFine
    rw [show (st (0 : Int32).toNatClampNeg) = sc by rw [sce]; exact s0, qg0, c2, rn_bs, c3, rn_bs]
    dsimp only
    rw [d1, rn_bs]
    dsimp only
    rw [f2, rn_bs]
    dsimp only
    rw [g2, rn_bs]
    dsimp only
    rw [i2, rn_bs]
    dsimp only
    by_cases c : e4 = 0
    · rw [if_pos c, rn_bs, if_neg (by decide), if_pos c]
    · rw [if_neg c, rn_bs, if_pos rfl, if_neg c]
  by_cases c : e4 = 0
  · obtain ⟨x1, x2, c5, x3, x4, x5⟩ := i3 c
    obtain ⟨y1, y2, c6, y3, y4, y5⟩ := g3 x1
    obtain ⟨z1, z2, c7, z3, z4, z5⟩ := f3 y1
    obtain ⟨stations', st', w1, w2, w3, w4, -⟩ := ns_eq hA hZ (c4 z1) z4 y4 x4
    refine ⟨k4, s4, en4, va4, e4, es4, _, stations', po4, ts4, tk4, le4, nu4, wo4, st', ?_, ?_, RAm i4 id (by omega), fun _ => ⟨_, w3, w4⟩⟩
    · rw [A3, if_pos c, z5, y5, x5, w1, rn_bs]
    · rw [A7, if_pos c, ← z2, ← y2, ← x2, z5, y5, x5, w2, rn_bs]
  · refine ⟨k4, s4, en4, va4, e4, es4, sc, stations, po4, ts4, tk4, le4, nu4, wo4, st, ?_, ?_, RAm i4 id (by omega), fun r => absurd r c⟩
    · rw [A3, if_neg c]
    · rw [A7, if_neg c]
theorem pms (hN : 6000 ≤ N) (h : tx n B text mt) (hA : rlA t a b m ee 0 1 sc lc mc tm life tries x stations links messages copies first size events st) (hZ : gd_Z st) (ht : t < 1000000) {q : Nat} {k ts en va es po tk le nu : Int32} {wo : Int64} (hB : RB n q en 0 po) (hw : fX7_isWord N tk le wo [109, 101, 115, 115, 97, 103, 101] = some 1) :
    ∃ k' s' en' va' e' es' mc' messages' copies' first' size' events' po' ts' tk' le' nu' wo' st', fX3_readMessage N (nI n) k ts en va 0 es text sc mc tm messages copies first size events = some (k', s', en', va', e', es', mc', messages', copies', first', size', events') ∧ fX7_parseMessage N (nI n) po ts tk le nu 0 es wo st mt = some (po', ts', tk', le', nu', e', es', wo', st') ∧ RA N n B text (q + 1) en' e' po' ts' tk' le' nu' wo' ∧ (e' = 0 → ∃ m' ee', rlA t a b m' ee' 0 1 sc lc mc' tm life tries x stations links messages' copies' first' size' events' st' ∧ gd_Z st') := by
  have ha := hA.1.1.1.1
  have hm := hA.1.1.1.2.2.1
  have s0 := hA.1.1.2.1
  have s2' := hA.1.1.2.2.2.1
  have sce : sc = nI a := hA.1.2.1.trans s0
  have mce : mc = nI m := hA.1.2.2.2.1.trans s2'
  obtain ⟨r, e1, es1, c1, c2, c3, c4⟩ := cnt (v := (24 : Int32)) (a := m) (hx := 24) mce rfl (by omega) (by decide) ts es
  obtain ⟨po1, ts1, tk1, le1, nu1, wo1, d1, d2⟩ := ad_n hN h (RBm hB (fun _ => rfl)) ts tk le nu wo (e := e1)
  obtain ⟨v2, k2, s2, en2, va2, e2, es2, po2, ts2, tk2, le2, nu2, wo2, f1, f2, f3, f4⟩ := nm_n hN h d2 k ts va es1 (i2 := sc - 1) (hx := a) (show (0 : Int32) = nI 0 from rfl) (by rw [sce]) (by decide) (by omega)
  obtain ⟨v3, k3, s3, en3, va3, e3, es3, g1, g2, g3, g4⟩ := lk_n f4 (k := k2) (s := s2) (va := va2) (es := es2) (i2 := sc - 1) (hx := a) (show (0 : Int32) = nI 0 from rfl) (by rw [sce]) (by decide) (by omega)
  obtain ⟨r5, e5, es5, h1, h2, h3, h4⟩ : ∃ r5 e5 es5, (if v3 = v2 then (fX3_fail s3 e3 es3 (4 : Int32)).bind fun t11 => some (t11.1, t11.2) else some (e3, es3)) = some (e5, es5) ∧ (if nu1 = nu2 then some (0 : Int32) else some (1 : Int32)) = some r5 ∧ fX7_require ts2 e3 es3 r5 4 = some (e5, es5) ∧ (e5 = 0 → e3 = 0 ∧ ¬ v3 = v2) := by
    by_cases c : e3 = 0
    · obtain ⟨x1, x2, x3, -⟩ := g3 c
      obtain ⟨y1, y2, -⟩ := f3 x1
      by_cases d : v3 = v2
      · refine ⟨0, 4, s3, ?_, ?_, ?_, fun r => absurd r (by decide)⟩
        · rw [if_pos d, c, fl0, rn_bs]
        · rw [if_pos (by rw [← x2, ← y2, d])]
        · rw [c, rq0, x3]
      · refine ⟨1, e3, es3, ?_, ?_, rq1, fun r => ⟨r, d⟩⟩
        · rw [if_neg d]
        · rw [if_neg (by rw [← x2, ← y2]; exact fun r => d r.symm)]
    · have : ∃ r5, (if nu1 = nu2 then some (0 : Int32) else some (1 : Int32)) = some r5 := by
        split
        · exact ⟨_, rfl⟩
        · exact ⟨_, rfl⟩
      obtain ⟨r5, hr5⟩ := this
      refine ⟨r5, e3, es3, ?_, hr5, rqe c, fun r => absurd r c⟩
      split
      · rw [fle c, rn_bs]
      · rfl
  obtain ⟨po3, ts3, tk3, le3, nu3, wo3, d3, d4⟩ := ad_n hN h (RBm g4 (fun r => (h4 r).1)) ts2 tk2 le2 nu2 wo2 (e := e5)
  obtain ⟨v4, k4, s4, en4, va4, e4, es4, po4, ts4, tk4, le4, nu4, wo4, i1, i2, i3, i4⟩ := nm_n hN h d4 k3 s3 va3 es5 (show (0 : Int32) = nI 0 from rfl) (show (3 : Int32) = nI 4 - 1 from rfl) (by decide) (by decide)
  have A3 : fX3_readMessage N (nI n) k ts en va 0 es text sc mc tm messages copies first size events = if e4 = 0 then (fX2_newMessage mc tm messages copies first size events v2 v3 v4).bind fun t14 => some (k4, s4, en4, va4, e4, es4, t14.2.1, t14.2.2.1, t14.2.2.2.1, t14.2.2.2.2.1, t14.2.2.2.2.2.1, t14.2.2.2.2.2.2) else some (k4, s4, en4, va4, e4, es4, mc, messages, copies, first, size, events) := by
    unfold fX3_readMessage fX2_stationCount fX2_messageCount
    rw [rn_bs, c1, rn_bs, rn_bs]
    dsimp only
    rw [f1, rn_bs, rn_bs]
    dsimp only
    rw [g1, rn_bs]
    dsimp only
    rw [h1, rn_bs]
    dsimp only
    rw [i1, rn_bs]
  have A7 : fX7_parseMessage N (nI n) po ts tk le nu 0 es wo st mt = if e4 = 0 then (fX7_appendMessage N st nu1 nu2 nu3).bind fun t19 => some (po4, ts4, tk4, le4, nu4, e4, es4, wo4, t19.2) else some (po4, ts4, tk4, le4, nu4, e4, es4, wo4, st) := by
    unfold fX7_parseMessage fX7_isFine
    rw [hw, rn_bs, rq1, rn_bs, show (st (0 : Int32).toNatClampNeg) = sc by rw [sce]; exact s0, show (st (2 : Int32).toNatClampNeg) = mc by rw [mce]; exact s2', qg2, c2, rn_bs]
    dsimp only
    rw [c3, rn_bs]
    dsimp only
    rw [d1, rn_bs, qg0]
    dsimp only
    rw [f2, rn_bs]
    dsimp only
    rw [g2, qg0, rn_bs]
    dsimp only
    rw [h2, rn_bs, h3, rn_bs]
    dsimp only
    rw [d3, rn_bs]
    dsimp only
    rw [i2, rn_bs]
    dsimp only
    by_cases c : e4 = 0
    · rw [if_pos c, rn_bs, if_neg (by decide), if_pos c]
    · rw [if_neg c, rn_bs, if_pos rfl, if_neg c]
  by_cases c : e4 = 0
  · obtain ⟨x1, x2, c5, x3, x4, x5⟩ := i3 c
    obtain ⟨u1, u2⟩ := h4 x1
    obtain ⟨y1, y2, -, c6, y3, y4, y5⟩ := g3 u1
    obtain ⟨z1, z2, c7, z3, z4, z5⟩ := f3 y1
    obtain ⟨messages', copies', first', size', events', e', st', w1, w2, w3, w4, -⟩ := nm_eq hN hA hZ ht (by decide) (c4 z1) z4 y4 (show ¬ c7 = c6 from fun r => u2 (by rw [z5, y5, r])) x4
    refine ⟨k4, s4, en4, va4, e4, es4, _, messages', copies', first', size', events', po4, ts4, tk4, le4, nu4, wo4, st', ?_, ?_, RAm i4 id (by omega), fun _ => ⟨_, _, w3, w4⟩⟩
    · rw [A3, if_pos c, z5, y5, x5, w1, rn_bs]
    · rw [A7, if_pos c, ← z2, ← y2, ← x2, z5, y5, x5, w2, rn_bs]
  · refine ⟨k4, s4, en4, va4, e4, es4, mc, messages, copies, first, size, events, po4, ts4, tk4, le4, nu4, wo4, st, ?_, ?_, RAm i4 id (by omega), fun r => absurd r c⟩
    · rw [A3, if_neg c]
    · rw [A7, if_neg c]
theorem plk (hN : 6000 ≤ N) (h : tx n B text mt) (hA : rlA t a b m ee 0 1 sc lc mc tm life tries x stations links messages copies first size events st) (hZ : gd_Z st) {q : Nat} {k ts en va es po tk le nu : Int32} {wo : Int64} (hB : RB n q en 0 po) :
    ∃ k' s' en' va' e' es' lc' links' po' ts' tk' le' nu' wo' st', fX3_readLink N (nI n) k ts en va 0 es text sc lc links = some (k', s', en', va', e', es', lc', links') ∧ fX7_parseLink N (nI n) po ts tk le nu 0 es wo st mt = some (po', ts', tk', le', nu', e', es', wo', st') ∧ RA N n B text (q + 1) en' e' po' ts' tk' le' nu' wo' ∧ (e' = 0 → ∃ b', rlA t a b' m ee 0 1 sc lc' mc tm life tries x stations links' messages copies first size events st' ∧ gd_Z st') := by
  have ha := hA.1.1.1.1
  have hb := hA.1.1.1.2.1
  have s0 := hA.1.1.2.1
  have s1' := hA.1.1.2.2.1
  have sce : sc = nI a := hA.1.2.1.trans s0
  have lce : lc = nI b := hA.1.2.2.1.trans s1'
  have eL : ev_L links st := hA.2.2.1.2.2
  obtain ⟨r, e1, es1, c1, c2, c3, c4⟩ := cnt (v := (16 : Int32)) (a := b) (hx := 16) lce rfl (by omega) (by decide) ts es
  obtain ⟨po1, ts1, tk1, le1, nu1, wo1, d1, d2⟩ := ad_n hN h (RBm hB (fun _ => rfl)) ts tk le nu wo (e := e1)
  obtain ⟨v2, k2, s2, en2, va2, e2, es2, po2, ts2, tk2, le2, nu2, wo2, f1, f2, f3, f4⟩ := nm_n hN h d2 k ts va es1 (i2 := sc - 1) (hx := a) (show (0 : Int32) = nI 0 from rfl) (by rw [sce]) (by decide) (by omega)
  obtain ⟨v3, k3, s3, en3, va3, e3, es3, g1, g2, g3, g4⟩ := lk_n f4 (k := k2) (s := s2) (va := va2) (es := es2) (i2 := sc - 1) (hx := a) (show (0 : Int32) = nI 0 from rfl) (by rw [sce]) (by decide) (by omega)
  obtain ⟨r5, e5, es5, h1, h2, h3, h4⟩ : ∃ r5 e5 es5, (if v3 = v2 then (fX3_fail s3 e3 es3 (4 : Int32)).bind fun t11 => some (t11.1, t11.2) else (fX2_linkBetween N lc links v2 v3).bind fun t12 => if t12 = (-1 : Int32) then some (e3, es3) else (fX3_fail s3 e3 es3 (4 : Int32)).bind fun t14 => some (t14.1, t14.2)) = some (e5, es5) ∧ (if nu1 = nu2 then some (0 : Int32) else (fX7_linkOf N st nu1 nu2).bind fun t12 => if t12 = (-1 : Int32) then some (1 : Int32) else some (0 : Int32)) = some r5 ∧ fX7_require ts2 e3 es3 r5 4 = some (e5, es5) ∧ (e5 = 0 → e3 = 0 ∧ ¬ v3 = v2 ∧ q_lk st b v2 v3 = -1) := by
    rw [lce, lk2 hN eL hb, lk7 hN s1' hb, rn_bs, rn_bs]
    by_cases c : e3 = 0
    · obtain ⟨x1, x2, x3, -⟩ := g3 c
      obtain ⟨y1, y2, -⟩ := f3 x1
      rw [← x2, ← y2]
      by_cases d : v3 = v2
      · refine ⟨0, 4, s3, ?_, ?_, ?_, fun r => absurd r (by decide)⟩
        · rw [if_pos d, c, fl0, rn_bs]
        · rw [if_pos d.symm]
        · rw [c, rq0, x3]
      · by_cases d2 : q_lk st b v2 v3 = -1
        · refine ⟨1, e3, es3, ?_, ?_, rq1, fun r => ⟨r, d, d2⟩⟩
          · rw [if_neg d, if_pos d2]
          · rw [if_neg (fun r => d r.symm), if_pos d2]
        · refine ⟨0, 4, s3, ?_, ?_, ?_, fun r => absurd r (by decide)⟩
          · rw [if_neg d, if_neg d2, c, fl0, rn_bs]
          · rw [if_neg (fun r => d r.symm), if_neg d2]
          · rw [c, rq0, x3]
    · have : ∃ r5, (if nu1 = nu2 then some (0 : Int32) else if q_lk st b nu1 nu2 = (-1 : Int32) then some (1 : Int32) else some (0 : Int32)) = some r5 := by
        split
        · exact ⟨_, rfl⟩
        · split
          · exact ⟨_, rfl⟩
          · exact ⟨_, rfl⟩
      obtain ⟨r5, hr5⟩ := this
      refine ⟨r5, e3, es3, ?_, hr5, rqe c, fun r => absurd r c⟩
      split
      · rw [fle c, rn_bs]
      · split
        · rfl
        · rw [fle c, rn_bs]
  obtain ⟨po3, ts3, tk3, le3, nu3, wo3, d3, d4⟩ := ad_n hN h (RBm g4 (fun r => (h4 r).1)) ts2 tk2 le2 nu2 wo2 (e := e5)
  obtain ⟨v4, k4, s4, en4, va4, e4, es4, po4, ts4, tk4, le4, nu4, wo4, i1, i2, i3, i4⟩ := nm_n hN h d4 k3 s3 va3 es5 (show (0 : Int32) = nI 0 from rfl) (show (23 : Int32) = nI 24 - 1 from rfl) (by decide) (by decide)
  obtain ⟨v6, k6, s6, en6, va6, e6, es6, po6, ts6, tk6, le6, nu6, wo6, j1, j2, j3, j4⟩ := nm_n hN h i4 k4 s4 va4 es4 (show (0 : Int32) = nI 0 from rfl) (show (23 : Int32) = nI 24 - 1 from rfl) (by decide) (by decide)
  obtain ⟨v7, k7, s7, en7, va7, e7, es7, po7, ts7, tk7, le7, nu7, wo7, l1, l2, l3, l4⟩ := nm_n hN h j4 k6 s6 va6 es6 (show (0 : Int32) = nI 0 from rfl) (show (100 : Int32) = nI 101 - 1 from rfl) (by decide) (by decide)
  have A3 : fX3_readLink N (nI n) k ts en va 0 es text sc lc links = if e7 = 0 then (fX2_newLink lc links v2 v3 v4 v6 v7).bind fun t19 => some (k7, s7, en7, va7, e7, es7, t19.2.1, t19.2.2) else some (k7, s7, en7, va7, e7, es7, lc, links) := by
    unfold fX3_readLink fX2_stationCount fX2_linkCount
    rw [rn_bs, c1, rn_bs, rn_bs]
    dsimp only
    rw [f1, rn_bs, rn_bs]
    dsimp only
    rw [g1, rn_bs]
    dsimp only
    rw [h1, rn_bs]
    dsimp only
    rw [i1, rn_bs]
    dsimp only
    rw [j1, rn_bs]
    dsimp only
    rw [l1, rn_bs]
  have A7 : fX7_parseLink N (nI n) po ts tk le nu 0 es wo st mt = if e7 = 0 then (fX7_appendLink st nu1 nu2 nu3 nu4 nu6).bind fun t21 => some (po7, ts7, tk7, le7, nu7, e7, es7, wo7, t21.2) else some (po7, ts7, tk7, le7, nu7, e7, es7, wo7, st) := by
    unfold fX7_parseLink fX7_isFine
    rw [show (st (0 : Int32).toNatClampNeg) = sc by rw [sce]; exact s0, show (st (1 : Int32).toNatClampNeg) = lc by rw [lce]; exact s1', qg1, c2, rn_bs]
    rw [c3, rn_bs]
    dsimp only
    rw [d1, rn_bs, qg0]
    dsimp only
    rw [f2, rn_bs]
    dsimp only
    rw [g2, qg0, rn_bs]
    dsimp only
    rw [h2, rn_bs, h3, rn_bs]
    dsimp only
    rw [d3, rn_bs]
    dsimp only
    rw [i2, rn_bs]
    dsimp only
    rw [j2, rn_bs]
    dsimp only
    rw [l2, rn_bs]
    dsimp only
    by_cases c : e7 = 0
    · rw [if_pos c, rn_bs, if_neg (by decide), if_pos c]
    · rw [if_neg c, rn_bs, if_pos rfl, if_neg c]
  by_cases c : e7 = 0
  · obtain ⟨x1, x2, c5, x3, x4, x5⟩ := l3 c
    obtain ⟨x1', x2', c5', x3', x4', x5'⟩ := j3 x1
    obtain ⟨x1'', x2'', c5'', x3'', x4'', x5''⟩ := i3 x1'
    obtain ⟨u1, u2, u3⟩ := h4 x1''
    obtain ⟨y1, y2, -, c6, y3, y4, y5⟩ := g3 u1
    obtain ⟨z1, z2, c7, z3, z4, z5⟩ := f3 y1
    obtain ⟨links', st', w1, w2, w3, w4⟩ := nl_eq hA hZ (c4 z1) z4 y4 (show ¬ c7 = c6 from fun r => u2 (by rw [z5, y5, r])) x4'' x4' x4 (by rw [← z5, ← y5]; exact u3)
    refine ⟨k7, s7, en7, va7, e7, es7, _, links', po7, ts7, tk7, le7, nu7, wo7, st', ?_, ?_, RAm l4 id (by omega), fun _ => ⟨_, w3, w4⟩⟩
    · rw [A3, if_pos c, z5, y5, x5, x5', x5'', w1, rn_bs]
    · rw [A7, if_pos c, ← z2, ← y2, ← x2, ← x2', ← x2'', z5, y5, x5, x5', x5'', w2, rn_bs]
  · refine ⟨k7, s7, en7, va7, e7, es7, lc, links, po7, ts7, tk7, le7, nu7, wo7, st, ?_, ?_, RAm l4 id (by omega), fun r => absurd r c⟩
    · rw [A3, if_neg c]
    · rw [A7, if_neg c]
/-- no word of the language: the model's last try ends with the same error -/
theorem pm0 {ts es po tk le nu : Int32} {wo : Int64} (hw : fX7_isWord N tk le wo [109, 101, 115, 115, 97, 103, 101] = some 0) : fX7_parseMessage N (nI n) po ts tk le nu 0 es wo st mt = some (po, ts, tk, le, nu, 1, ts, wo, st) := by
  have ne : ¬ (1 : Int32) = 0 := by decide
  unfold fX7_parseMessage fX7_isFine
  rw [hw, rn_bs, rq0, rn_bs, qg2]
  have : ∀ p : Prop, ∀ _ : Decidable p, ∃ r5, (if p then some (0 : Int32) else some (1 : Int32)) = some r5 := fun p _ => by
    split
    · exact ⟨_, rfl⟩
    · exact ⟨_, rfl⟩
  obtain ⟨r1, h1⟩ := this ((24 : Int32) ≤ st (2 : Int32).toNatClampNeg) inferInstance
  obtain ⟨r2, h2⟩ := this (nu = nu) inferInstance
  rw [h1, rn_bs]
  dsimp only
  rw [rqe ne, rn_bs]
  dsimp only
  rw [ade ne, rn_bs, qg0]
  dsimp only
  rw [nme ne, rn_bs, qg0]
  dsimp only
  rw [lke ne, rn_bs]
  dsimp only
  rw [h2, rn_bs, rqe ne, rn_bs]
  dsimp only
  rw [ade ne, rn_bs]
  dsimp only
  rw [nme ne, rn_bs]
  dsimp only
  rw [if_neg ne, rn_bs, if_pos rfl]
end QR
