/-! numbers within bounds; hours ahead -/
theorem zc (z : Int32) : z < 0 ∨ ∃ n, n < 2 ^ 31 ∧ z = nI n := by
  by_cases h : z < 0
  · exact Or.inl h
  · right
    have h1 : 0 ≤ z.toInt := by
      have := Int32.not_lt.mp h
      rw [Int32.le_iff_toInt_le] at this
      exact this
    have h2 : z.toInt < 2 ^ 31 := Int32.toInt_lt z
    refine ⟨z.toInt.toNat, by omega, ?_⟩
    apply Int32.toInt_inj.mp
    rw [nI_toInt (by omega)]
    omega
theorem neg_lt {z : Int32} {n : Nat} (h : z < 0) (hn : n < 2 ^ 31) : z < nI n := by
  rw [Int32.lt_iff_toInt_lt] at *
  rw [nI_toInt hn]
  have h : z.toInt < 0 := h
  omega
theorem nI_p1 {a : Nat} : nI (a + 1) - (1 : Int32) = nI a := by
  rw [← nI_1]
  exact Int32.add_sub_cancel _ _
theorem b7y {n lo hi : Nat} (h1 : lo ≤ n) (h2 : n ≤ hi) (h : hi < 2 ^ 31) : fX7_isBetween (nI n) (nI lo) (nI hi) = some 1 := by
  unfold fX7_isBetween
  rw [if_neg (nI_nlt h1 (by omega)), if_neg (nI_nlt h2 h)]
theorem b7n {z : Int32} {lo hi : Nat} (hz : ∀ n, lo ≤ n → n ≤ hi → z ≠ nI n) (h : hi < 2 ^ 31) (hl : lo < 2 ^ 31) : fX7_isBetween z (nI lo) (nI hi) = some 0 := by
  unfold fX7_isBetween
  rcases zc z with q | ⟨n, h1, rfl⟩
  · rw [if_pos (neg_lt q hl)]
  · rcases Nat.lt_or_ge n lo with c | c
    · rw [if_pos (nI_lt c hl)]
    · rw [if_neg (nI_nlt c h1)]
      rcases Nat.lt_or_ge hi n with d | d
      · rw [if_pos (nI_lt d h1)]
      · exact absurd rfl (hz n c d)
theorem b7a {n a : Nat} (h1 : n < a) (h : a < 2 ^ 31) : fX7_isBetween (nI n) (0 : Int32) (nI a - (1 : Int32)) = some 1 := by
  obtain ⟨a', rfl⟩ : ∃ a', a = a' + 1 := ⟨a - 1, by omega⟩
  rw [nI_p1]
  exact b7y (lo := 0) (by omega) (by omega) (by omega)
theorem b7b {z : Int32} {a : Nat} (hz : ∀ n, n < a → z ≠ nI n) (h : a < 2 ^ 31) : fX7_isBetween z (0 : Int32) (nI a - (1 : Int32)) = some 0 := by
  rcases Nat.eq_zero_or_pos a with q | q
  · subst q
    unfold fX7_isBetween
    rcases zc z with q | ⟨n, h1, rfl⟩
    · rw [if_pos q]
    · rw [if_neg (nI_pos h1), if_pos (show nI 0 - (1 : Int32) < nI n by
        rw [Int32.lt_iff_toInt_lt, nI_toInt h1]
        have : (nI 0 - (1 : Int32)).toInt = -1 := by decide
        omega)]
  · obtain ⟨a', rfl⟩ : ∃ a', a = a' + 1 := ⟨a - 1, by omega⟩
    rw [nI_p1]
    exact b7n (lo := 0) (fun n _ h2 => hz n (by omega)) (by omega) (by omega)
theorem cxy {α : Type} {n h : Nat} {u v w : α} (h1 : n < h) (hh : h < 2 ^ 31) : (if nI n < 0 then u else if nI h ≤ nI n then v else w) = w := by
  rw [if_neg (nI_pos (by omega)), if_neg (nI_ge h1 hh)]
theorem cxn {α : Type} {z : Int32} {h : Nat} {u w : α} (hz : ∀ n, n < h → z ≠ nI n) (hh : h < 2 ^ 31) : (if z < 0 then u else if nI h ≤ z then u else w) = u := by
  rcases zc z with q | ⟨n, h1, rfl⟩
  · rw [if_pos q]
  · rw [if_neg (nI_pos h1)]
    rcases Nat.lt_or_ge n h with c | c
    · exact absurd rfl (hz n c)
    · rw [if_pos (nI_le c h1)]
theorem rg_em (z : Int32) (lo hi : Nat) : (∃ n, lo ≤ n ∧ n ≤ hi ∧ z = nI n) ∨ ∀ n, lo ≤ n → n ≤ hi → z ≠ nI n := by
  by_cases c : ∃ n, lo ≤ n ∧ n ≤ hi ∧ z = nI n
  · exact Or.inl c
  · exact Or.inr (fun n h1 h2 h3 => c ⟨n, h1, h2, h3⟩)
theorem rg_eb (z : Int32) (a : Nat) : (∃ n, n < a ∧ z = nI n) ∨ ∀ n, n < a → z ≠ nI n := by
  by_cases c : ∃ n, n < a ∧ z = nI n
  · exact Or.inl c
  · exact Or.inr (fun n h1 h3 => c ⟨n, h1, h3⟩)
section QA
variable {N t : Nat} {sc lc mc tm life tries x : Int32} {stations links messages copies : Nat → Int32} {first size : Int32} {events st : Nat → Int32} {heard : Nat → Int64}
theorem co_run (hN : 6000 ≤ N) (ht : t ≤ 90000) (h : rl_net t sc lc mc tm life tries x stations links messages copies first size events heard st) (z thr c7 ar fe nx : Int32) (F A K I T D : Nat → Int32) :
    ∃ (k : Nat) (kI v tm' x' : Int32) (stations' links' messages' copies' : Nat → Int32) (first' size' : Int32) (events' : Nat → Int32) (w : Int32 × Int32 × Int32 × (Nat → Int32)) (y : Int32) (st' : Nat → Int32) (zz : (Nat → Int32) × (Nat → Int32) × (Nat → Int32) × (Nat → Int32) × (Nat → Int32)), fX6_run N sc lc mc tm life tries x stations links messages copies first size events ar fe nx heard F z = some (k, v, tm', x', stations', links', messages', copies', first', size', events', w) ∧ fX7_run N thr c7 st A K I T D z = some (v, kI, y, st', zz) ∧ ((k = 0 ∧ kI = 0) ∨ (k = 1 ∧ kI = 1)) ∧ rl_net (t + 73) sc lc mc tm' life tries x' stations' links' messages' copies' first' size' events' heard st' := by
  unfold fX6_run fX7_run
  rw [show fX6_isHours z = fX7_isBetween z (nI 1) (nI 72) from rfl, show fX7_isBetween z (1 : Int32) (72 : Int32) = fX7_isBetween z (nI 1) (nI 72) from rfl]
  rcases rg_em z 1 72 with ⟨H, h1, h2, rfl⟩ | q
  · rw [b7y h1 h2 (by decide), rn_bs, rn_bs, if_neg (show ¬ (1 : Int32) = 0 by decide), if_neg (show ¬ (1 : Int32) = 0 by decide)]
    obtain ⟨v0, m1, -, m2⟩ := ms_eq hN (by omega) h
    obtain ⟨st', tm', x', stations', links', messages', copies', first', size', events', y, ⟨z1, z2, z3, z4, z5⟩, ⟨w1, w2, w3, w4⟩, p1, p2, p3⟩ := rn_l hN (show H ≤ 100 by omega) N 0 t tm x stations links messages copies first size events st ar fe nx c7 F A K I T D (by omega) (by omega) (by omega) h
    obtain ⟨v1, m3, -, m4⟩ := ms_eq hN (by omega) p3
    rw [m1, m2, rn_bs, rn_bs, show lX7_run_30 N (nI H) N (0 : Int32) c7 st A K I T D = _ from p1, show lX6_run_28 N sc lc mc life tries heard (nI H) N (0 : Int32) tm x stations links messages copies first size events ar fe nx F = _ from p2, rn_bs, rn_bs, m3, m4, rn_bs, rn_bs]
    exact ⟨0, 0, v1 - v0, tm', x', stations', links', messages', copies', first', size', events', (w1, w2, w3, w4), y, st', (z1, z2, z3, z4, z5), rfl, rfl, Or.inl ⟨rfl, rfl⟩, rl_t (by omega) p3⟩
  · rw [b7n q (by decide) (by decide), rn_bs, rn_bs, if_pos rfl, if_pos rfl]
    exact ⟨1, 1, 0, tm, x, stations, links, messages, copies, first, size, events, _, _, st, _, rfl, rfl, Or.inr ⟨rfl, rfl⟩, rl_t (by omega) h⟩
/-- the state of a message, on both sides -/
theorem so_eq (hN : 6000 ≤ N) (ht : t + 1 < 1000000) (h : rl_net t sc lc mc tm life tries x stations links messages copies first size events heard st) {k m : Nat} (hm : mc = nI m) (hm2 : m < 2 ^ 31) (hk : k < m) : ∃ v, fX2_messageState N sc messages copies (nI k) = some v ∧ fX7_stateOf N st (nI k) = some v := by
  obtain ⟨a, b, m', e, tt, h0, eH⟩ := h
  obtain ⟨hA, hZ⟩ := rlA_iff.mp h0
  obtain ⟨ha, hb, hm', he, htt⟩ := hA.1.1.1
  have sce : sc = nI a := hA.1.2.1.trans hA.1.1.2.1
  have mce : mc = nI m' := hA.1.2.2.2.1.trans hA.1.1.2.2.2.1
  have : m = m' := (nI_eq hm2 (by omega)).mp (hm.symm.trans mce)
  subst this
  subst sce
  exact ⟨_, st2 hN ha hm' hk hA.2.2.2.1.1 hA.2.2.2.2.1.1 (by omega) hA.2.2.2.2.1.2.1 hA.2.2.2.2.2.1, st7 hN hA.1.1.2.1 ha (by omega)⟩
theorem co_stateAfter (hN : 6000 ≤ N) (ht : t ≤ 90000) (h : rl_net t sc lc mc tm life tries x stations links messages copies first size events heard st) (z z2 thr c7 : Int32) (as A K I T D : Nat → Int32) (sc0 lc0 mc0 tm0 life0 tries0 x0 : Int32) (s0 l0 m0 c0 : Nat → Int32) (f0 z0 : Int32) (e0 : Nat → Int32) (ar fe nx : Int32) (h0 : Nat → Int64) (F : Nat → Int32) :
    ∃ (k : Nat) (kI v : Int32) (w : _) (y : Int32) (st' : Nat → Int32) (zz : _), fX6_stateAfter N sc lc mc tm life tries x stations links messages copies first size events heard sc0 lc0 mc0 tm0 life0 tries0 x0 s0 l0 m0 c0 f0 z0 e0 ar fe nx h0 F z z2 = some (k, v, w) ∧ fX7_stateAfter N thr c7 st as A K I T D z z2 = some (v, kI, y, st', zz) ∧ ((k = 0 ∧ kI = 0) ∨ (k = 3 ∧ kI = 1) ∨ (k = 1 ∧ kI = 2)) ∧ rl_net (t + 73) sc lc mc tm life tries x stations links messages copies first size events heard st' := by
  have h' := h
  obtain ⟨a, b, m, e, tt, hh, eH⟩ := h'
  obtain ⟨hA, hZ⟩ := rlA_iff.mp hh
  obtain ⟨ha, hb, hm, he, htt⟩ := hA.1.1.1
  have mce : mc = nI m := hA.1.2.2.2.1.trans hA.1.1.2.2.2.1
  unfold fX6_stateAfter fX7_stateAfter fX6_isMessage fX7_isMessage fX2_messageCount
  rw [g2, cl2, hA.1.1.2.2.2.1, rn_bs, mce]
  rcases rg_eb z m with ⟨k, hk, rfl⟩ | q
  · rw [b7a hk (by omega), cxy hk (by omega), rn_bs, rn_bs, rn_bs, if_neg (show ¬ (1 : Int32) = 0 by decide), if_neg (show ¬ (1 : Int32) = 0 by decide)]
    rw [show fX6_isHours z2 = fX7_isBetween z2 (nI 1) (nI 72) from rfl, show fX7_isBetween z2 (1 : Int32) (72 : Int32) = fX7_isBetween z2 (nI 1) (nI 72) from rfl]
    rcases rg_em z2 1 72 with ⟨H, h1, h2, rfl⟩ | q
    · rw [b7y h1 h2 (by decide), rn_bs, rn_bs, if_neg (show ¬ (1 : Int32) = 0 by decide), if_neg (show ¬ (1 : Int32) = 0 by decide)]
      obtain ⟨s', l', m', c', ev', h', t1, t2⟩ := tf_eq h sc0 lc0 mc0 tm0 life0 tries0 x0 s0 l0 m0 c0 f0 z0 e0 h0
      rw [mce] at t1 t2
      obtain ⟨as', ca1, ca2, -⟩ := ca7 (i := 0) (j := 0) (n0 := 2888) (n2 := 2888) (g := as) hN (by decide) (by decide) (by decide) (by decide) st
      obtain ⟨st', tm', x', stations', links', messages', copies', first', size', events', y, ⟨z1, z2, z3, z4, z5⟩, ⟨w1, w2, w3, w4⟩, p1, p2, p3⟩ := rn_l hN (show H ≤ 100 by omega) N 0 t tm x s' l' m' c' first size ev' st ar fe nx c7 F A K I T D (by omega) (by omega) (by omega) t2
      obtain ⟨sv, so1, so2⟩ := so_eq hN (by omega) p3 rfl (by omega) hk
      obtain ⟨st3, cb1, cb2, -⟩ := ca7 (i := 0) (j := 0) (n0 := 2888) (n2 := 2888) (g := st') hN (by decide) (by decide) (by decide) (by decide) as'
      rw [t1, rn_bs, show fX7_copyAll N 2888 2888 st as (0 : Int32) (0 : Int32) = _ from ca1, rn_bs, sa7, sa6, show lX7_run_30 N (nI H) N (0 : Int32) c7 st A K I T D = _ from p1, rn_bs, so2, rn_bs, show fX7_copyAll N 2888 2888 as' st' (0 : Int32) (0 : Int32) = _ from cb1, rn_bs]
      rw [show lX6_run_28 N (sc, lc, nI m, tm, life, tries, x, s', l', m', c', first, size, ev', h').1 (sc, lc, nI m, tm, life, tries, x, s', l', m', c', first, size, ev', h').2.1 (sc, lc, nI m, tm, life, tries, x, s', l', m', c', first, size, ev', h').2.2.1 (sc, lc, nI m, tm, life, tries, x, s', l', m', c', first, size, ev', h').2.2.2.2.1 (sc, lc, nI m, tm, life, tries, x, s', l', m', c', first, size, ev', h').2.2.2.2.2.1 (sc, lc, nI m, tm, life, tries, x, s', l', m', c', first, size, ev', h').2.2.2.2.2.2.2.2.2.2.2.2.2.2 (nI H) N (0 : Int32) (sc, lc, nI m, tm, life, tries, x, s', l', m', c', first, size, ev', h').2.2.2.1 (sc, lc, nI m, tm, life, tries, x, s', l', m', c', first, size, ev', h').2.2.2.2.2.2.1 (sc, lc, nI m, tm, life, tries, x, s', l', m', c', first, size, ev', h').2.2.2.2.2.2.2.1 (sc, lc, nI m, tm, life, tries, x, s', l', m', c', first, size, ev', h').2.2.2.2.2.2.2.2.1 (sc, lc, nI m, tm, life, tries, x, s', l', m', c', first, size, ev', h').2.2.2.2.2.2.2.2.2.1 (sc, lc, nI m, tm, life, tries, x, s', l', m', c', first, size, ev', h').2.2.2.2.2.2.2.2.2.2.1 (sc, lc, nI m, tm, life, tries, x, s', l', m', c', first, size, ev', h').2.2.2.2.2.2.2.2.2.2.2.1 (sc, lc, nI m, tm, life, tries, x, s', l', m', c', first, size, ev', h').2.2.2.2.2.2.2.2.2.2.2.2.1 (sc, lc, nI m, tm, life, tries, x, s', l', m', c', first, size, ev', h').2.2.2.2.2.2.2.2.2.2.2.2.2.1 ar fe nx F = _ from p2, rn_bs, so1, rn_bs]
      refine ⟨0, 0, sv, _, _, st3, _, rfl, rfl, Or.inl ⟨rfl, rfl⟩, rl_t (t := t) (by omega) (rl_m (st := st) (fun i hi => ?_) (by rw [← mce]; exact h))⟩
      have r1 := cb2 i hi
      have r2 := ca2 i hi
      rw [Nat.zero_add] at r1 r2
      rw [r1, r2]
    · rw [b7n q (by decide) (by decide), rn_bs, rn_bs, if_pos rfl, if_pos rfl]
      exact ⟨1, 2, 0, _, _, st, _, rfl, rfl, Or.inr (Or.inr ⟨rfl, rfl⟩), rl_t (t := t) (by omega) (by rw [← mce]; exact h)⟩
  · rw [b7b q (by omega), cxn q (by omega), rn_bs, rn_bs, rn_bs, if_pos rfl, if_pos rfl]
    exact ⟨3, 1, 0, _, _, st, _, rfl, rfl, Or.inr (Or.inl ⟨rfl, rfl⟩), rl_t (t := t) (by omega) (by rw [← mce]; exact h)⟩
end QA
