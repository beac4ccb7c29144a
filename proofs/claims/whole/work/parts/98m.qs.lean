/-! a whole text, on both sides -/
def nt (t : Nat) (sc lc mc tm life tries x : Int32) (stations links messages copies : Nat → Int32) (first size : Int32) (events st : Nat → Int32) : Prop := ∃ a b m ee, rlA t a b m ee 0 1 sc lc mc tm life tries x stations links messages copies first size events st ∧ gd_Z st
section QS
variable {N n t : Nat} {B : Nat → Nat} {text mt : Nat → Int32} {sc lc mc tm life tries x : Int32} {stations links messages copies : Nat → Int32} {first size : Int32} {events st : Nat → Int32}
theorem ac0 {po ts tk le nu : Int32} {wo : Int64} {w : List Int32} (hw : fX7_isWord N tk le wo w = some 0) : fX7_accept N (nI n) po ts tk le nu 0 wo mt w = some (0, po, ts, tk, le, nu, wo) := by
  unfold fX7_accept fX7_isFine
  rw [if_pos rfl, rn_bs, if_neg (by decide), hw, rn_bs, if_pos rfl, rn_bs, if_pos rfl]
theorem ac1 {po ts tk le nu po' ts' tk' le' nu' : Int32} {wo wo' : Int64} {w : List Int32} (hw : fX7_isWord N tk le wo w = some 1) (ha : fX7_advance N (nI n) po ts tk le nu 0 wo mt = some (po', ts', tk', le', nu', wo')) : fX7_accept N (nI n) po ts tk le nu 0 wo mt w = some (1, po', ts', tk', le', nu', wo') := by
  unfold fX7_advance fX7_isFine at ha
  rw [if_pos rfl, rn_bs, if_neg (by decide)] at ha
  obtain ⟨t3, h1, h2⟩ := rn_bind ha
  unfold fX7_accept fX7_isFine
  rw [if_pos rfl, rn_bs, if_neg (by decide), hw, rn_bs, if_neg (by decide), rn_bs, if_neg (by decide), h1, rn_bs]
  cases h2
  rfl
theorem sem_n (hN : 6000 ≤ N) (h : tx n B text mt) {q : Nat} {en e po ts tk le nu : Int32} {wo : Int64} (H : RA N n B text q en e po ts tk le nu wo) (k s va es : Int32) :
    ∃ k' s' en' va' e' es' r po' ts' tk' le' nu' wo', fX3_readSemicolon N (nI n) k s en va e es text = some (k', s', en', va', e', es') ∧ (if tk = (4 : Int32) then some (1 : Int32) else some (0 : Int32)) = some r ∧ fX7_require ts e es r 1 = some (e', es') ∧ fX7_advance N (nI n) po ts tk le nu e' wo mt = some (po', ts', tk', le', nu', wo') ∧ RA N n B text (q + 1) en' e' po' ts' tk' le' nu' wo' ∧ (e' = 0 → e = 0) := by
  obtain ⟨p, p1, p2, p3⟩ := H
  subst p2
  by_cases c : e = 0
  · subst c
    obtain ⟨p4, k1, st1, en1, va1, q1, s1, e1, r1, r2, r3, r4, r5, r6, r7, r8⟩ := p3 rfl
    have non : ¬ k1 = 3 → ¬ tk = 4 → ∃ k' s' en' va' e' es' r po' ts' tk' le' nu' wo', fX3_readSemicolon N (nI n) k s (nI p) va 0 es text = some (k', s', en', va', e', es') ∧ (if tk = (4 : Int32) then some (1 : Int32) else some (0 : Int32)) = some r ∧ fX7_require ts 0 es r 1 = some (e', es') ∧ fX7_advance N (nI n) po ts tk le nu e' wo mt = some (po', ts', tk', le', nu', wo') ∧ RA N n B text (q + 1) en' e' po' ts' tk' le' nu' wo' ∧ (e' = 0 → (0 : Int32) = 0) := by
      intro a1 a2
      have f1 : fX3_readSemicolon N (nI n) k s (nI p) va 0 es text = some (k1, st1, en1, va1, 1, st1) := by
        unfold fX3_readSemicolon
        rw [if_pos rfl, nt_u, q1, rn_bs]
        dsimp only
        rw [if_neg a1, fl0, rn_bs]
      refine ⟨_, _, _, _, _, _, _, _, _, _, _, _, _, f1, if_neg a2, ?_, ade (by decide), ⟨e1, r3, r5, fun r => absurd r (by decide)⟩, fun _ => rfl⟩
      rw [rq0, r4, r7]
    rcases r8 with ⟨a1, a2⟩ | ⟨a1, a2, -⟩ | ⟨a1, a2, -⟩ | ⟨a1, a2, a3⟩ | ⟨a1, a2, -⟩
    · exact non (by rw [a1]; decide) (by rw [a2]; decide)
    · exact non (by rw [a1]; decide) (by rw [a2]; decide)
    · exact non (by rw [a1]; decide) (by rw [a2]; decide)
    · subst a1 a2
      have f1 : fX3_readSemicolon N (nI n) k s (nI p) va 0 es text = some (3, st1, en1, va1, 0, es) := by
        unfold fX3_readSemicolon
        rw [if_pos rfl, nt_u, q1, rn_bs]
        dsimp only
        rw [if_pos rfl]
      obtain ⟨po', ts', tk', le', nu', wo', d1, d2⟩ := ad_n hN h (en := en1) (e := 0) (po := po) (q := q + 1) ⟨e1, r3, r5, fun _ => ⟨by omega, r6⟩⟩ ts 4 le nu wo
      exact ⟨_, _, _, _, _, _, _, _, _, _, _, _, _, f1, if_pos rfl, rq1, d1, d2, fun _ => rfl⟩
    · exact non (by rw [a1]; decide) (by rw [a2]; decide)
  · have f1 : fX3_readSemicolon N (nI n) k s (nI p) va e es text = some (k, s, nI p, va, e, es) := by
      unfold fX3_readSemicolon
      rw [if_neg c]
    have : ∃ r, (if tk = (4 : Int32) then some (1 : Int32) else some (0 : Int32)) = some r := by
      split
      · exact ⟨_, rfl⟩
      · exact ⟨_, rfl⟩
    obtain ⟨r, hr⟩ := this
    exact ⟨_, _, _, _, _, _, r, _, _, _, _, _, _, f1, hr, rqe c, ade c, ⟨p, p1, rfl, fun r => absurd r c⟩, id⟩
theorem p_li (h : nt t sc lc mc tm life tries x stations links messages copies first size events st) (v : Int32) : nt t sc lc mc tm v tries x stations links messages copies first size events (upd st 4 v) := by
  obtain ⟨a, b, m, ee, hA, hZ⟩ := h
  have e5 : st 5 = tries := hA.1.2.2.2.2.2.2.1.symm
  have e6 : st 6 = x := hA.1.2.2.2.2.2.2.2.1.symm
  have r6 := hA.1.1.2.2.2.2.2.2
  obtain ⟨p1, p2⟩ := p_R (v := v) (w := tries) (u := x) hA hZ (by rw [← e6]; exact r6)
  have e : upd (upd (upd st 4 v) 5 tries) 6 x = upd st 4 v := by
    rw [upd_id (c := upd st 4 v) (by rw [pk_un (by decide)]; exact e5), upd_id (by rw [pk_un (by decide)]; exact e6)]
  rw [e] at p1 p2
  exact ⟨a, b, m, ee, p1, p2⟩
theorem p_tr (h : nt t sc lc mc tm life tries x stations links messages copies first size events st) (v : Int32) : nt t sc lc mc tm life v x stations links messages copies first size events (upd st 5 v) := by
  obtain ⟨a, b, m, ee, hA, hZ⟩ := h
  have e4 : st 4 = life := hA.1.2.2.2.2.2.1.symm
  have e6 : st 6 = x := hA.1.2.2.2.2.2.2.2.1.symm
  have r6 := hA.1.1.2.2.2.2.2.2
  obtain ⟨p1, p2⟩ := p_R (v := life) (w := v) (u := x) hA hZ (by rw [← e6]; exact r6)
  have e : upd (upd (upd st 4 life) 5 v) 6 x = upd st 5 v := by
    rw [upd_id (c := st) e4, upd_id (by rw [pk_un (by decide)]; exact e6)]
  rw [e] at p1 p2
  exact ⟨a, b, m, ee, p1, p2⟩
theorem p_sd (h : nt t sc lc mc tm life tries x stations links messages copies first size events st) {v : Int32} (hv : rg v 1000003) : nt t sc lc mc tm life tries v stations links messages copies first size events (upd st 6 v) := by
  obtain ⟨a, b, m, ee, hA, hZ⟩ := h
  have e4 : st 4 = life := hA.1.2.2.2.2.2.1.symm
  have e5 : st 5 = tries := hA.1.2.2.2.2.2.2.1.symm
  obtain ⟨p1, p2⟩ := p_R (v := life) (w := tries) (u := v) hA hZ hv
  have e : upd (upd (upd st 4 life) 5 tries) 6 v = upd st 6 v := by
    rw [upd_id (c := st) e4, upd_id (c := st) e5]
  rw [e] at p1 p2
  exact ⟨a, b, m, ee, p1, p2⟩
theorem stm (hN : 6000 ≤ N) (h : tx n B text mt) (ht : t < 1000000) (hn : nt t sc lc mc tm life tries x stations links messages copies first size events st) {q p0 : Nat} {k s en va es po ts tk le nu : Int32} {wo : Int64} (T : tkR n B p0 k s en va po ts tk le nu wo) (hq : q ≤ p0) (hk : ¬ k = 0) :
    ∃ k' s' en' va' e' es' sc' lc' mc' life' tries' x' stations' links' messages' copies' first' size' events' po' ts' tk' le' nu' wo' st', fX3_readStatement N (nI n) k s en va 0 es text sc lc mc tm life tries x stations links messages copies first size events = some (k', s', en', va', e', es', sc', lc', mc', life', tries', x', stations', links', messages', copies', first', size', events') ∧ fX7_parseStatement N (nI n) po ts tk le nu 0 es wo st mt = some (po', ts', tk', le', nu', e', es', wo', st') ∧ RA N n B text (q + 2) en' e' po' ts' tk' le' nu' wo' ∧ (e' = 0 → nt t sc' lc' mc' tm life' tries' x' stations' links' messages' copies' first' size' events' st') := by
  have fin : ∀ (k1 s1 en1 va1 e1 es1 sc1 lc1 mc1 li1 tr1 x1 : Int32) (S L M C : Nat → Int32) (f1 z1 : Int32) (E : Nat → Int32) (po1 ts1 tk1 le1 nu1 : Int32) (wo1 : Int64) (st1 : Nat → Int32),
      fX3_readStatement N (nI n) k s en va 0 es text sc lc mc tm life tries x stations links messages copies first size events = (fX3_readSemicolon N (nI n) k1 s1 en1 va1 e1 es1 text).bind (fun t26 => some (t26.1, t26.2.1, t26.2.2.1, t26.2.2.2.1, t26.2.2.2.2.1, t26.2.2.2.2.2, sc1, lc1, mc1, li1, tr1, x1, S, L, M, C, f1, z1, E)) →
      fX7_parseStatement N (nI n) po ts tk le nu 0 es wo st mt = (Option.bind (if tk1 = (4 : Int32) then some (1 : Int32) else some (0 : Int32)) fun t24 => (fX7_require ts1 e1 es1 t24 (1 : Int32)).bind fun t26 => (fX7_advance N (nI n) po1 ts1 tk1 le1 nu1 t26.1 wo1 mt).bind fun t27 => some (t27.1, t27.2.1, t27.2.2.1, t27.2.2.2.1, t27.2.2.2.2.1, t26.1, t26.2, t27.2.2.2.2.2, st1)) →
      RA N n B text (q + 1) en1 e1 po1 ts1 tk1 le1 nu1 wo1 → (e1 = 0 → nt t sc1 lc1 mc1 tm li1 tr1 x1 S L M C f1 z1 E st1) →
      ∃ k' s' en' va' e' es' sc' lc' mc' life' tries' x' stations' links' messages' copies' first' size' events' po' ts' tk' le' nu' wo' st', fX3_readStatement N (nI n) k s en va 0 es text sc lc mc tm life tries x stations links messages copies first size events = some (k', s', en', va', e', es', sc', lc', mc', life', tries', x', stations', links', messages', copies', first', size', events') ∧ fX7_parseStatement N (nI n) po ts tk le nu 0 es wo st mt = some (po', ts', tk', le', nu', e', es', wo', st') ∧ RA N n B text (q + 2) en' e' po' ts' tk' le' nu' wo' ∧ (e' = 0 → nt t sc' lc' mc' tm life' tries' x' stations' links' messages' copies' first' size' events' st') := by
    intro k1 s1 en1 va1 e1 es1 sc1 lc1 mc1 li1 tr1 x1 S L M C f1 z1 E po1 ts1 tk1 le1 nu1 wo1 st1 h3 h7 hR hnt
    obtain ⟨k', s', en', va', e', es', r, po', ts', tk', le', nu', wo', a1, a2, a3, a4, a5, a6⟩ := sem_n hN h hR k1 s1 va1 es1
    refine ⟨k', s', en', va', e', es', sc1, lc1, mc1, li1, tr1, x1, S, L, M, C, f1, z1, E, po', ts', tk', le', nu', wo', st1, ?_, ?_, a5, fun r => hnt (a6 r)⟩
    · rw [h3, a1, rn_bs]
    · rw [h7, a2, rn_bs, a3, rn_bs]
      dsimp only
      rw [a4, rn_bs]
  obtain ⟨a, b, m, ee, hA, hZ⟩ := hn
  obtain ⟨s1, e1, r1, r2, r3, r4, r5, r6, r7, r8⟩ := T
  subst r4 r5 r6 r7
  have bad : ∀ (hw : ∀ w ∈ [[(115 : Int32), 116, 97, 116, 105, 111, 110], [108, 105, 110, 107], [108, 105, 102, 101], [116, 114, 105, 101, 115], [115, 101, 101, 100], [109, 101, 115, 115, 97, 103, 101]], fX7_isWord N tk le wo w = some 0), fX7_parseStatement N (nI n) (nI e1) (nI s1) tk le nu 0 es wo st mt = (Option.bind (if tk = (4 : Int32) then some (1 : Int32) else some (0 : Int32)) fun t24 => (fX7_require (nI s1) 1 (nI s1) t24 (1 : Int32)).bind fun t26 => (fX7_advance N (nI n) (nI e1) (nI s1) tk le nu t26.1 wo mt).bind fun t27 => some (t27.1, t27.2.1, t27.2.2.1, t27.2.2.2.1, t27.2.2.2.2.1, t26.1, t26.2, t27.2.2.2.2.2, st)) := by
    intro hw
    unfold fX7_parseStatement
    rw [hw _ (by simp), rn_bs, if_pos rfl, hw _ (by simp), rn_bs, if_pos rfl, ac0 (hw _ (by simp)), rn_bs]
    dsimp only
    rw [if_pos rfl, ac0 (hw _ (by simp)), rn_bs]
    dsimp only
    rw [if_pos rfl, ac0 (hw _ (by simp)), rn_bs]
    dsimp only
    rw [if_pos rfl, pm0 (hw _ (by simp)), rn_bs, rn_bs]
  have non : ¬ k = 1 → ¬ tk = 2 → s1 < e1 → ∃ k' s' en' va' e' es' sc' lc' mc' life' tries' x' stations' links' messages' copies' first' size' events' po' ts' tk' le' nu' wo' st', fX3_readStatement N (nI n) k (nI s1) (nI e1) va 0 es text sc lc mc tm life tries x stations links messages copies first size events = some (k', s', en', va', e', es', sc', lc', mc', life', tries', x', stations', links', messages', copies', first', size', events') ∧ fX7_parseStatement N (nI n) (nI e1) (nI s1) tk le nu 0 es wo st mt = some (po', ts', tk', le', nu', e', es', wo', st') ∧ RA N n B text (q + 2) en' e' po' ts' tk' le' nu' wo' ∧ (e' = 0 → nt t sc' lc' mc' tm life' tries' x' stations' links' messages' copies' first' size' events' st') := by
    intro a1 a2 a3
    refine fin k (nI s1) (nI e1) va 1 (nI s1) sc lc mc life tries x stations links messages copies first size events (nI e1) (nI s1) tk le nu wo st ?_ (bad fun w _ => isw_0 a2) ⟨e1, r3, rfl, fun r => absurd r (by decide)⟩ (fun r => absurd r (by decide))
    unfold fX3_readStatement
    rw [if_neg a1, fl0, rn_bs, rn_bs]
  rcases r8 with ⟨a1, -⟩ | ⟨a1, a2, a3, a4, a5, a6⟩ | ⟨a1, a2, a3, -⟩ | ⟨a1, a2, a3⟩ | ⟨a1, a2, a3⟩
  · exact absurd a1 hk
  · subst a1 a2 a5 a6
    have W := fun (w : List Nat) (l : List Int32) (g1 : w.map nI = l) (g2 : ∀ i, i < w.length → 97 ≤ w.getD i 0 ∧ w.getD i 0 ≤ 122) (g3 : w.length ≤ 7) => by
      have := isw (w := w) hN h r2 r3 a4 g2 g3
      rw [g1] at this
      exact this
    have Wst := W [115, 116, 97, 116, 105, 111, 110] [115, 116, 97, 116, 105, 111, 110] rfl (by decide) (by decide)
    have Wlk := W [108, 105, 110, 107] [108, 105, 110, 107] rfl (by decide) (by decide)
    have Wms := W [109, 101, 115, 115, 97, 103, 101] [109, 101, 115, 115, 97, 103, 101] rfl (by decide) (by decide)
    have Wli := W [108, 105, 102, 101] [108, 105, 102, 101] rfl (by decide) (by decide)
    have Wtr := W [116, 114, 105, 101, 115] [116, 114, 105, 101, 115] rfl (by decide) (by decide)
    have Wsd := W [115, 101, 101, 100] [115, 101, 101, 100] rfl (by decide) (by decide)
    have hB : RB n (q + 1) (nI e1) 0 (nI e1) := ⟨e1, r3, rfl, fun _ => ⟨by omega, rfl⟩⟩
    have n01 : ¬ (1 : Int32) = 0 := by decide
    by_cases c1 : isW B s1 e1 [115, 116, 97, 116, 105, 111, 110]
    · obtain ⟨k', s', en', va', e', es', sc', stations', po', ts', tk', le', nu', wo', st', b1, b2, b3, b4⟩ := pst hN h hA hZ (k := 1) (va := va) (es := es) (ts := nI s1) (tk := 2) (le := nI (e1 - s1)) (nu := nu) (wo := wdn B s1 (e1 - s1)) hB
      refine fin k' s' en' va' e' es' sc' lc mc life tries x stations' links messages copies first size events po' ts' tk' le' nu' wo' st' ?_ ?_ (RAm b3 id (by omega)) (fun r => by
        obtain ⟨a', u1, u2⟩ := b4 r
        exact ⟨a', b, m, ee, u1, u2⟩)
      · unfold fX3_readStatement
        rw [if_pos rfl, (Wst.1 c1).1, rn_bs, if_neg n01, b1, rn_bs, rn_bs]
      · unfold fX7_parseStatement
        rw [(Wst.1 c1).2, rn_bs, if_neg n01, b2, rn_bs, rn_bs]
    · by_cases c2 : isW B s1 e1 [108, 105, 110, 107]
      · obtain ⟨k', s', en', va', e', es', lc', links', po', ts', tk', le', nu', wo', st', b1, b2, b3, b4⟩ := plk hN h hA hZ (k := 1) (va := va) (es := es) (ts := nI s1) (tk := 2) (le := nI (e1 - s1)) (nu := nu) (wo := wdn B s1 (e1 - s1)) hB
        refine fin k' s' en' va' e' es' sc lc' mc life tries x stations links' messages copies first size events po' ts' tk' le' nu' wo' st' ?_ ?_ (RAm b3 id (by omega)) (fun r => by
          obtain ⟨b', u1, u2⟩ := b4 r
          exact ⟨a, b', m, ee, u1, u2⟩)
        · unfold fX3_readStatement
          rw [if_pos rfl, (Wst.2 c1).1, rn_bs, if_pos rfl, (Wlk.1 c2).1, rn_bs, if_neg n01, b1, rn_bs, rn_bs]
        · unfold fX7_parseStatement
          rw [(Wst.2 c1).2, rn_bs, if_pos rfl, (Wlk.1 c2).2, rn_bs, if_neg n01, b2, rn_bs, rn_bs]
      · by_cases c3 : isW B s1 e1 [109, 101, 115, 115, 97, 103, 101]
        · have x1 : ¬ isW B s1 e1 [108, 105, 102, 101] := fun r => absurd (isw_x c3 r 0 (by decide) (by decide)) (by decide)
          have x2 : ¬ isW B s1 e1 [116, 114, 105, 101, 115] := fun r => absurd (isw_x c3 r 0 (by decide) (by decide)) (by decide)
          have x3 : ¬ isW B s1 e1 [115, 101, 101, 100] := fun r => absurd (isw_x c3 r 0 (by decide) (by decide)) (by decide)
          obtain ⟨k', s', en', va', e', es', mc', messages', copies', first', size', events', po', ts', tk', le', nu', wo', st', b1, b2, b3, b4⟩ := pms hN h hA hZ ht (k := 1) (va := va) (es := es) (ts := nI s1) (tk := 2) (le := nI (e1 - s1)) (nu := nu) (wo := wdn B s1 (e1 - s1)) hB (Wms.1 c3).2
          refine fin k' s' en' va' e' es' sc lc mc' life tries x stations links messages' copies' first' size' events' po' ts' tk' le' nu' wo' st' ?_ ?_ (RAm b3 id (by omega)) (fun r => by
            obtain ⟨m', ee', u1, u2⟩ := b4 r
            exact ⟨a, b, m', ee', u1, u2⟩)
          · unfold fX3_readStatement
            rw [if_pos rfl, (Wst.2 c1).1, rn_bs, if_pos rfl, (Wlk.2 c2).1, rn_bs, if_pos rfl, (Wms.1 c3).1, rn_bs, if_neg n01, b1, rn_bs, rn_bs]
          · unfold fX7_parseStatement
            rw [(Wst.2 c1).2, rn_bs, if_pos rfl, (Wlk.2 c2).2, rn_bs, if_pos rfl, ac0 (Wli.2 x1).2, rn_bs]
            dsimp only
            rw [if_pos rfl, ac0 (Wtr.2 x2).2, rn_bs]
            dsimp only
            rw [if_pos rfl, ac0 (Wsd.2 x3).2, rn_bs]
            dsimp only
            rw [if_pos rfl, b2, rn_bs, rn_bs]
        · by_cases c4 : isW B s1 e1 [108, 105, 102, 101]
          · obtain ⟨po1, ts1, tk1, le1, nu1, wo1, d1, d2⟩ := ad_n hN h hB (nI s1) 2 (nI (e1 - s1)) nu (wdn B s1 (e1 - s1))
            obtain ⟨v, k', s', en', va', e', es', po', ts', tk', le', nu', wo', f1, f2, f3, f4⟩ := nm_n hN h d2 1 (nI s1) va es (show (1 : Int32) = nI 1 from rfl) (show (200 : Int32) = nI 201 - 1 from rfl) (by decide) (by decide)
            refine fin k' s' en' va' e' es' sc lc mc v tries x stations links messages copies first size events po' ts' tk' le' nu' wo' (upd st 4 nu1) ?_ ?_ (RAm f4 id (by omega)) (fun r => by
              rw [← (f3 r).2.1]
              exact p_li ⟨a, b, m, ee, hA, hZ⟩ v)
            · unfold fX3_readStatement fX2_setLife
              rw [if_pos rfl, (Wst.2 c1).1, rn_bs, if_pos rfl, (Wlk.2 c2).1, rn_bs, if_pos rfl, (Wms.2 c3).1, rn_bs, if_pos rfl, (Wli.1 c4).1, rn_bs, if_neg n01, f1, rn_bs, rn_bs, rn_bs]
            · unfold fX7_parseStatement
              rw [(Wst.2 c1).2, rn_bs, if_pos rfl, (Wlk.2 c2).2, rn_bs, if_pos rfl, ac1 (Wli.1 c4).2 d1, rn_bs]
              dsimp only
              rw [if_neg n01, f2, rn_bs, qg4]
              rfl
          · by_cases c5 : isW B s1 e1 [116, 114, 105, 101, 115]
            · obtain ⟨po1, ts1, tk1, le1, nu1, wo1, d1, d2⟩ := ad_n hN h hB (nI s1) 2 (nI (e1 - s1)) nu (wdn B s1 (e1 - s1))
              obtain ⟨v, k', s', en', va', e', es', po', ts', tk', le', nu', wo', f1, f2, f3, f4⟩ := nm_n hN h d2 1 (nI s1) va es (show (1 : Int32) = nI 1 from rfl) (show (9 : Int32) = nI 10 - 1 from rfl) (by decide) (by decide)
              refine fin k' s' en' va' e' es' sc lc mc life v x stations links messages copies first size events po' ts' tk' le' nu' wo' (upd st 5 nu1) ?_ ?_ (RAm f4 id (by omega)) (fun r => by
                rw [← (f3 r).2.1]
                exact p_tr ⟨a, b, m, ee, hA, hZ⟩ v)
              · unfold fX3_readStatement fX2_setTries
                rw [if_pos rfl, (Wst.2 c1).1, rn_bs, if_pos rfl, (Wlk.2 c2).1, rn_bs, if_pos rfl, (Wms.2 c3).1, rn_bs, if_pos rfl, (Wli.2 c4).1, rn_bs, if_pos rfl, (Wtr.1 c5).1, rn_bs, if_neg n01, f1, rn_bs, rn_bs, rn_bs]
              · unfold fX7_parseStatement
                rw [(Wst.2 c1).2, rn_bs, if_pos rfl, (Wlk.2 c2).2, rn_bs, if_pos rfl, ac0 (Wli.2 c4).2, rn_bs]
                dsimp only
                rw [if_pos rfl, ac1 (Wtr.1 c5).2 d1, rn_bs]
                dsimp only
                rw [if_neg n01, f2, rn_bs, qg5]
                rfl
            · by_cases c6 : isW B s1 e1 [115, 101, 101, 100]
              · obtain ⟨po1, ts1, tk1, le1, nu1, wo1, d1, d2⟩ := ad_n hN h hB (nI s1) 2 (nI (e1 - s1)) nu (wdn B s1 (e1 - s1))
                obtain ⟨v, k', s', en', va', e', es', po', ts', tk', le', nu', wo', f1, f2, f3, f4⟩ := nm_n hN h d2 1 (nI s1) va es (show (0 : Int32) = nI 0 from rfl) (show (1000002 : Int32) = nI 1000003 - 1 from rfl) (by decide) (by decide)
                refine fin k' s' en' va' e' es' sc lc mc life tries v stations links messages copies first size events po' ts' tk' le' nu' wo' (upd st 6 nu1) ?_ ?_ (RAm f4 id (by omega)) (fun r => by
                  obtain ⟨-, u1, c, -, u2, u3⟩ := f3 r
                  rw [← u1]
                  exact p_sd ⟨a, b, m, ee, hA, hZ⟩ ⟨c, u2, u3⟩)
                · unfold fX3_readStatement fX2_setX
                  rw [if_pos rfl, (Wst.2 c1).1, rn_bs, if_pos rfl, (Wlk.2 c2).1, rn_bs, if_pos rfl, (Wms.2 c3).1, rn_bs, if_pos rfl, (Wli.2 c4).1, rn_bs, if_pos rfl, (Wtr.2 c5).1, rn_bs, if_pos rfl, (Wsd.1 c6).1, rn_bs, if_neg n01, f1, rn_bs, rn_bs, rn_bs]
                · unfold fX7_parseStatement
                  rw [(Wst.2 c1).2, rn_bs, if_pos rfl, (Wlk.2 c2).2, rn_bs, if_pos rfl, ac0 (Wli.2 c4).2, rn_bs]
                  dsimp only
                  rw [if_pos rfl, ac0 (Wtr.2 c5).2, rn_bs]
                  dsimp only
                  rw [if_pos rfl, ac1 (Wsd.1 c6).2 d1, rn_bs]
                  dsimp only
                  rw [if_neg n01, f2, rn_bs, qg6]
                  rfl
              · refine fin 1 (nI s1) (nI e1) va 1 (nI s1) sc lc mc life tries x stations links messages copies first size events (nI e1) (nI s1) 2 (nI (e1 - s1)) nu (wdn B s1 (e1 - s1)) st ?_ (bad fun w hw => ?_) ⟨e1, r3, rfl, fun r => absurd r (by decide)⟩ (fun r => absurd r (by decide))
                · unfold fX3_readStatement
                  rw [if_pos rfl, (Wst.2 c1).1, rn_bs, if_pos rfl, (Wlk.2 c2).1, rn_bs, if_pos rfl, (Wms.2 c3).1, rn_bs, if_pos rfl, (Wli.2 c4).1, rn_bs, if_pos rfl, (Wtr.2 c5).1, rn_bs, if_pos rfl, (Wsd.2 c6).1, rn_bs, if_pos rfl, fl0, rn_bs, rn_bs]
                · simp only [List.mem_cons, List.not_mem_nil, or_false] at hw
                  rcases hw with rfl | rfl | rfl | rfl | rfl | rfl
                  · exact (Wst.2 c1).2
                  · exact (Wlk.2 c2).2
                  · exact (Wli.2 c4).2
                  · exact (Wtr.2 c5).2
                  · exact (Wsd.2 c6).2
                  · exact (Wms.2 c3).2
  · exact non (by rw [a1]; decide) (by rw [a2]; decide) a3
  · exact non (by rw [a1]; decide) (by rw [a2]; decide) a3
  · exact non (by rw [a1]; decide) (by rw [a2]; decide) a3
end QS
