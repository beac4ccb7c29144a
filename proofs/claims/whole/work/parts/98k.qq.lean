/-! numbers of a text, the model one token ahead -/
def am (N n : Nat) (B : Nat → Nat) (text : Nat → Int32) (p : Nat) (po ts tk le nu : Int32) (wo : Int64) : Prop := ∃ k st en va, fX3_nextToken N (nI n) 0 0 (nI p) 0 text = some (k, st, en, va) ∧ tkR n B p k st en va po ts tk le nu wo
/-- the model's token is the one behind the class's -/
def RA (N n : Nat) (B : Nat → Nat) (text : Nat → Int32) (q : Nat) (en e po ts tk le nu : Int32) (wo : Int64) : Prop := ∃ p, p ≤ n ∧ en = nI p ∧ (e = 0 → q ≤ p ∧ am N n B text p po ts tk le nu wo)
/-- both at the same token -/
def RB (n q : Nat) (en e po : Int32) : Prop := ∃ p, p ≤ n ∧ en = nI p ∧ (e = 0 → q ≤ p ∧ po = nI p)
section QQ
variable {N n : Nat} {B : Nat → Nat} {text mt : Nat → Int32}
theorem nt_u (N : Nat) (len k s p v : Int32) (text : Nat → Int32) : fX3_nextToken N len k s p v text = fX3_nextToken N len 0 0 p 0 text := rfl
theorem fl0 {s es c : Int32} : fX3_fail s 0 es c = some (c, s) := rfl
theorem fle {s e es c : Int32} (h : ¬ e = 0) : fX3_fail s e es c = some (e, es) := by
  unfold fX3_fail
  rw [if_neg h]
theorem rq1 {ts e es c : Int32} : fX7_require ts e es 1 c = some (e, es) := by
  unfold fX7_require
  rw [if_neg (by decide)]
theorem rq0 {ts es c : Int32} : fX7_require ts 0 es 0 c = some (c, ts) := rfl
theorem rqe {ts e es i c : Int32} (h : ¬ e = 0) : fX7_require ts e es i c = some (e, es) := by
  unfold fX7_require
  rw [if_neg h, ite_self]
theorem bt7 (x y z : Int32) : ∃ b, fX7_isBetween x y z = some b := by
  unfold fX7_isBetween
  split
  · exact ⟨_, rfl⟩
  · split
    · exact ⟨_, rfl⟩
    · exact ⟨_, rfl⟩
theorem lke {ts tk nu e es i1 i2 : Int32} (h : ¬ e = 0) : fX7_look ts tk nu e es i1 i2 = some (e, es) := by
  obtain ⟨b, hb⟩ := bt7 nu i1 i2
  unfold fX7_look
  rw [hb]
  split
  · rw [rn_bs, rqe h, rn_bs, rn_bs]
    dsimp only
    rw [rqe h, rn_bs]
  · rw [rn_bs, rqe h, rn_bs, rn_bs]
    dsimp only
    rw [rqe h, rn_bs]
theorem ade {N : Nat} {len po ts tk le nu e : Int32} {wo : Int64} {mt : Nat → Int32} (h : ¬ e = 0) : fX7_advance N len po ts tk le nu e wo mt = some (po, ts, tk, le, nu, wo) := by
  unfold fX7_advance fX7_isFine
  rw [if_neg h, rn_bs, if_pos rfl]
theorem nme {N : Nat} {len po ts tk le nu e es i1 i2 : Int32} {wo : Int64} {mt : Nat → Int32} (h : ¬ e = 0) : fX7_parseNumber N len po ts tk le nu e es wo mt i1 i2 = some (nu, po, ts, tk, le, nu, e, es, wo) := by
  unfold fX7_parseNumber
  rw [lke h, rn_bs]
  dsimp only
  rw [ade h, rn_bs]
theorem rgl {c hx : Nat} (hc : c < 2 ^ 30) (h : hx ≤ 1000003) : (nI c ≤ nI hx - 1 ↔ c < hx) ∧ (nI hx - 1 < nI c ↔ ¬ c < hx) := by
  have e1 : (nI hx - 1).toInt = (hx : Int) - 1 := by
    rcases Nat.eq_zero_or_pos hx with r | r
    · subst r
      decide
    · obtain ⟨y, rfl⟩ : ∃ y, hx = y + 1 := ⟨hx - 1, by omega⟩
      rw [nI_p1, nI_toInt (by omega)]
      omega
  rw [Int32.le_iff_toInt_le, Int32.lt_iff_toInt_lt, e1, nI_toInt (by omega)]
  constructor <;> constructor <;> intro <;> omega
theorem RBm {n q : Nat} {en e e2 po : Int32} (h : RB n q en e po) (he : e2 = 0 → e = 0) : RB n q en e2 po := by
  obtain ⟨p, p1, p2, p3⟩ := h
  exact ⟨p, p1, p2, fun r => p3 (he r)⟩
theorem RAm {q q' : Nat} {en e e2 po ts tk le nu : Int32} {wo : Int64} (h : RA N n B text q en e po ts tk le nu wo) (he : e2 = 0 → e = 0) (hq : q' ≤ q) : RA N n B text q' en e2 po ts tk le nu wo := by
  obtain ⟨p, p1, p2, p3⟩ := h
  exact ⟨p, p1, p2, fun r => ⟨Nat.le_trans hq (p3 (he r)).1, (p3 (he r)).2⟩⟩
/-- a number on the class's side, a look at it on the model's -/
theorem lk_n {q lo hx : Nat} {k s en va e es po ts tk le nu i1 i2 : Int32} {wo : Int64} (H : RA N n B text q en e po ts tk le nu wo) (g1 : i1 = nI lo) (g2 : i2 = nI hx - 1) (b1 : lo < 2 ^ 20) (b2 : hx ≤ 1000003) :
    ∃ v k' s' en' va' e' es', fX3_readNumber N (nI n) k s en va e es text i1 i2 = some (v, k', s', en', va', e', es') ∧ fX7_look ts tk nu e es i1 i2 = some (e', es') ∧ (e' = 0 → e = 0 ∧ v = nu ∧ s' = ts ∧ ∃ c, lo ≤ c ∧ c < hx ∧ v = nI c) ∧ RB n (q + 1) en' e' po := by
  obtain ⟨p, p1, p2, p3⟩ := H
  subst p2 g1 g2
  by_cases c : e = 0
  · subst c
    obtain ⟨p4, k1, st1, en1, va1, q1, s1, e1, r1, r2, r3, r4, r5, r6, r7, r8⟩ := p3 rfl
    have non : ¬ k1 = 2 → ¬ tk = 3 → ∃ v k' s' en' va' e' es', fX3_readNumber N (nI n) k s (nI p) va 0 es text (nI lo) (nI hx - 1) = some (v, k', s', en', va', e', es') ∧ fX7_look ts tk nu 0 es (nI lo) (nI hx - 1) = some (e', es') ∧ (e' = 0 → (0 : Int32) = 0 ∧ v = nu ∧ s' = ts ∧ ∃ c, lo ≤ c ∧ c < hx ∧ v = nI c) ∧ RB n (q + 1) en' e' po := by
      intro a1 a2
      obtain ⟨b, hb⟩ := bt7 nu (nI lo) (nI hx - 1)
      have f2 : fX7_look ts tk nu 0 es (nI lo) (nI hx - 1) = some (1, ts) := by
        unfold fX7_look
        rw [if_neg a2, rn_bs, rq0, rn_bs, hb, rn_bs]
        dsimp only
        rw [rqe (by decide), rn_bs]
      have f1 : fX3_readNumber N (nI n) k s (nI p) va 0 es text (nI lo) (nI hx - 1) = some (-1, k1, st1, en1, va1, 1, st1) := by
        unfold fX3_readNumber
        rw [if_pos rfl, nt_u, q1, rn_bs]
        dsimp only
        rw [if_neg a1, fl0, rn_bs, rn_bs]
        dsimp only
        rw [if_neg (by decide)]
      refine ⟨_, _, _, _, _, _, _, f1, ?_, fun r => absurd r (by decide), e1, r3, r5, fun r => absurd r (by decide)⟩
      rw [f2, r4, r7]
    rcases r8 with ⟨a1, a2⟩ | ⟨a1, a2, -⟩ | ⟨a1, a2, a3, c, m, a4, a5, a6⟩ | ⟨a1, a2, -⟩ | ⟨a1, a2, -⟩
    · exact non (by rw [a1]; decide) (by rw [a2]; decide)
    · exact non (by rw [a1]; decide) (by rw [a2]; decide)
    · have hc : c < 2 ^ 30 := by rcases a4 with ⟨z1, z2⟩ | ⟨z1, z2, z3⟩ <;> omega
      have hm : m < 2 ^ 30 := by rcases a4 with ⟨z1, z2⟩ | ⟨z1, z2, z3⟩ <;> omega
      subst a1 a2 a5 a6
      have same : (lo ≤ c ∧ c < hx → c = m) ∧ (c < lo ↔ m < lo) ∧ (c < hx ↔ m < hx) := by
        rcases a4 with ⟨z1, z2⟩ | ⟨z1, z2, z3⟩
        · subst z2
          exact ⟨fun _ => rfl, Iff.rfl, Iff.rfl⟩
        · omega
      rcases Nat.lt_or_ge c lo with d | d
      · have f1 : fX3_readNumber N (nI n) k s (nI p) va 0 es text (nI lo) (nI hx - 1) = some (-1, 2, st1, en1, nI c, 2, st1) := by
          unfold fX3_readNumber
          rw [if_pos rfl, nt_u, q1, rn_bs]
          dsimp only
          rw [if_pos rfl, if_pos (nI_lt d (by omega)), fl0, rn_bs, rn_bs]
          dsimp only
          rw [if_neg (by decide)]
        have f2 : fX7_look ts 3 (nI m) 0 es (nI lo) (nI hx - 1) = some (2, ts) := by
          unfold fX7_look fX7_isBetween
          rw [if_pos rfl, rn_bs, rq1, rn_bs, if_pos (nI_lt (same.2.1.mp d) (by omega)), rn_bs]
          dsimp only
          rw [rq0, rn_bs]
        refine ⟨_, _, _, _, _, _, _, f1, ?_, fun r => absurd r (by decide), e1, r3, r5, fun r => absurd r (by decide)⟩
        rw [f2, r4, r7]
      · rcases Nat.lt_or_ge c hx with d2 | d2
        · have cm := same.1 ⟨d, d2⟩
          subst cm
          have f1 : fX3_readNumber N (nI n) k s (nI p) va 0 es text (nI lo) (nI hx - 1) = some (nI c, 2, st1, en1, nI c, 0, es) := by
            unfold fX3_readNumber
            rw [if_pos rfl, nt_u, q1, rn_bs]
            dsimp only
            rw [if_pos rfl, if_neg (nI_nlt d (by omega)), if_pos ((rgl hc b2).1.mpr d2), rn_bs]
            dsimp only
            rw [if_pos rfl]
          have f2 : fX7_look ts 3 (nI c) 0 es (nI lo) (nI hx - 1) = some (0, es) := by
            unfold fX7_look fX7_isBetween
            rw [if_pos rfl, rn_bs, rq1, rn_bs, if_neg (nI_nlt d (by omega)), if_neg (fun r => (rgl hc b2).2.mp r d2), rn_bs]
            dsimp only
            rw [rq1, rn_bs]
          exact ⟨_, _, _, _, _, _, _, f1, f2, fun _ => ⟨rfl, rfl, r4.trans r7.symm, c, d, d2, rfl⟩, e1, r3, r5, fun _ => ⟨by omega, r6⟩⟩
        · have f1 : fX3_readNumber N (nI n) k s (nI p) va 0 es text (nI lo) (nI hx - 1) = some (-1, 2, st1, en1, nI c, 2, st1) := by
            unfold fX3_readNumber
            rw [if_pos rfl, nt_u, q1, rn_bs]
            dsimp only
            rw [if_pos rfl, if_neg (nI_nlt d (by omega)), if_neg (fun r => absurd ((rgl hc b2).1.mp r) (by omega)), fl0, rn_bs, rn_bs]
            dsimp only
            rw [if_neg (by decide)]
          have f2 : fX7_look ts 3 (nI m) 0 es (nI lo) (nI hx - 1) = some (2, ts) := by
            unfold fX7_look fX7_isBetween
            rw [if_pos rfl, rn_bs, rq1, rn_bs, if_neg (nI_nlt (by omega) (by omega)), if_pos ((rgl hm b2).2.mpr (by omega)), rn_bs]
            dsimp only
            rw [rq0, rn_bs]
          refine ⟨_, _, _, _, _, _, _, f1, ?_, fun r => absurd r (by decide), e1, r3, r5, fun r => absurd r (by decide)⟩
          rw [f2, r4, r7]
    · exact non (by rw [a1]; decide) (by rw [a2]; decide)
    · exact non (by rw [a1]; decide) (by rw [a2]; decide)
  · refine ⟨-1, k, s, nI p, va, e, es, ?_, lke c, fun r => absurd r c, p, p1, rfl, fun r => absurd r c⟩
    unfold fX3_readNumber
    rw [if_neg c]
theorem ad_n (hN : 6000 ≤ N) (h : tx n B text mt) {q : Nat} {en e po : Int32} (H : RB n q en e po) (ts tk le nu : Int32) (wo : Int64) :
    ∃ po' ts' tk' le' nu' wo', fX7_advance N (nI n) po ts tk le nu e wo mt = some (po', ts', tk', le', nu', wo') ∧ RA N n B text q en e po' ts' tk' le' nu' wo' := by
  obtain ⟨p, p1, p2, p3⟩ := H
  by_cases c : e = 0
  · subst c
    obtain ⟨p4, p5⟩ := p3 rfl
    subst p5
    obtain ⟨k, st, en1, va, po', ts', tk', le', nu', wo', a1, a2, a3⟩ := tkn hN h p1 0 0 0 ts tk le nu wo
    refine ⟨po', ts', tk', le', nu', wo', ?_, p, p1, p2, fun _ => ⟨p4, k, st, en1, va, a1, a3⟩⟩
    unfold fX7_advance fX7_isFine
    rw [if_pos rfl, rn_bs, if_neg (by decide), a2, rn_bs]
  · exact ⟨_, _, _, _, _, _, ade c, p, p1, p2, fun r => absurd r c⟩
theorem nm_n (hN : 6000 ≤ N) (h : tx n B text mt) {q lo hx : Nat} {en e po ts tk le nu i1 i2 : Int32} {wo : Int64} (H : RA N n B text q en e po ts tk le nu wo) (k s va es : Int32) (g1 : i1 = nI lo) (g2 : i2 = nI hx - 1) (b1 : lo < 2 ^ 20) (b2 : hx ≤ 1000003) :
    ∃ v k' s' en' va' e' es' po' ts' tk' le' nu' wo', fX3_readNumber N (nI n) k s en va e es text i1 i2 = some (v, k', s', en', va', e', es') ∧ fX7_parseNumber N (nI n) po ts tk le nu e es wo mt i1 i2 = some (nu, po', ts', tk', le', nu', e', es', wo') ∧ (e' = 0 → e = 0 ∧ v = nu ∧ ∃ c, lo ≤ c ∧ c < hx ∧ v = nI c) ∧ RA N n B text (q + 1) en' e' po' ts' tk' le' nu' wo' := by
  obtain ⟨v, k', s', en', va', e', es', a1, a2, a3, a4⟩ := lk_n (k := k) (s := s) (va := va) (es := es) H g1 g2 b1 b2
  obtain ⟨po', ts', tk', le', nu', wo', a5, a6⟩ := ad_n hN h a4 ts tk le nu wo
  refine ⟨v, k', s', en', va', e', es', po', ts', tk', le', nu', wo', a1, ?_, fun r => ⟨(a3 r).1, (a3 r).2.1, (a3 r).2.2.2⟩, a6⟩
  unfold fX7_parseNumber
  rw [a2, rn_bs]
  dsimp only
  rw [a5, rn_bs]
end QQ
