/-! hours to so many deliveries -/
section QB
variable {N t : Nat} {sc lc mc tm life tries x : Int32} {stations links messages copies : Nat → Int32} {first size : Int32} {events st : Nat → Int32} {heard : Nat → Int64}
theorem ht_l {z : Int32} {t3 : Int32 × Int32 × Int32 × Int32 × Int32 × Int32 × Int32 × (Nat → Int32) × (Nat → Int32) × (Nat → Int32) × (Nat → Int32) × Int32 × Int32 × (Nat → Int32) × (Nat → Int64)} (hN : 6000 ≤ N) (e1 : t3.1 = sc) (e2 : t3.2.1 = lc) (e3 : t3.2.2.1 = mc) (e4 : t3.2.2.2.2.1 = life) (e5 : t3.2.2.2.2.2.1 = tries) (e6 : t3.2.2.2.2.2.2.2.2.2.2.2.2.2.2 = heard) : ∀ (n i t : Nat) (tm x : Int32) (stations links messages copies : Nat → Int32) (first size : Int32) (events st : Nat → Int32) (ar fe nx c7 : Int32) (F A K I T D : Nat → Int32), i ≤ 72 → 73 - i < n → t + 100 < 1000000 + i → rl_net t sc lc mc tm life tries x stations links messages copies first size events heard st →
    ∃ (p1 p2 p3 : Int32) (p4 p5 p6 p7 : Nat → Int32) (p8 : _) (q1 : Int32) (q2 : _), lX6_hoursTo_34 N z t3 n (nI i) tm x stations links messages copies first size events ar fe nx F = some (p1, p2, p3, p4, p5, p6, p7, p8) ∧ lX7_hoursTo_36 N z n (nI i) c7 st A K I T D = some (q1, q2) ∧ ∃ v, fX2_messagesInState N sc mc p6 p7 (1 : Int32) = some v ∧ (z ≤ v → p1 = q1 ∧ ¬ (72 : Int32) < q1) ∧ (¬ z ≤ v → (72 : Int32) < q1) := by
  intro n
  induction n with
  | zero => intro i t tm x stations links messages copies first size events st ar fe nx c7 F A K I T D _ h; omega
  | succ n ih =>
    intro i t tm x stations links messages copies first size events st ar fe nx c7 F A K I T D hi hn ht h
    rw [lX7_hoursTo_36, lX6_hoursTo_34, e1, e2, e3, e4, e5, e6]
    obtain ⟨v, m1, m2, -⟩ := ms_eq hN (by omega) h
    rw [if_neg (show ¬ (72 : Int32) < nI i from nI_nlt (a := 72) hi (by decide)), m2, rn_bs]
    obtain ⟨st', tm', x', stations', links', messages', copies', first', size', events', y, ⟨z1, z2, z3, z4, z5⟩, ⟨w1, w2, w3, w4⟩, p1, p2, p3⟩ := ph_eq hN (show t + 1 < 1000000 by omega) h ar fe nx c7 F A K I T D
    rcases Nat.lt_or_ge i 72 with c | c
    · rw [if_neg (show ¬ (72 : Int32) ≤ nI i from nI_ge (b := 72) c (by decide)), m1, rn_bs]
      by_cases d : z ≤ v
      · rw [if_pos d, if_pos d]
        exact ⟨_, _, _, _, _, _, _, _, _, _, rfl, rfl, v, m1, fun _ => ⟨rfl, nI_nlt (a := 72) hi (by decide)⟩, fun q => absurd d q⟩
      · rw [if_neg d, if_neg d, p1, p2, rn_bs, rn_bs, nI_1]
        exact ih (i + 1) (t + 1) tm' x' stations' links' messages' copies' first' size' events' st' w1 w2 w3 y w4 z1 z2 z3 z4 z5 (by omega) (by omega) (by omega) p3
    · have : i = 72 := by omega
      subst this
      rw [if_pos (show (72 : Int32) ≤ nI 72 by decide)]
      by_cases d : z ≤ v
      · rw [if_pos d]
        exact ⟨_, _, _, _, _, _, _, _, _, _, rfl, rfl, v, m1, fun _ => ⟨rfl, by decide⟩, fun q => absurd d q⟩
      · rw [if_neg d, p1, rn_bs]
        obtain ⟨n', rfl⟩ : ∃ n', n = n' + 1 := ⟨n - 1, by omega⟩
        rw [lX7_hoursTo_36, if_pos (show (72 : Int32) < nI 72 + (1 : Int32) by decide)]
        exact ⟨_, _, _, _, _, _, _, _, _, _, rfl, rfl, v, m1, fun q => absurd q d, fun _ => by decide⟩
theorem co_hoursTo (hN : 6000 ≤ N) (ht : t ≤ 90000) (h : rl_net t sc lc mc tm life tries x stations links messages copies first size events heard st) (z thr c7 : Int32) (as A K I T D : Nat → Int32) (sc0 lc0 mc0 tm0 life0 tries0 x0 : Int32) (s0 l0 m0 c0 : Nat → Int32) (f0 z0 : Int32) (e0 : Nat → Int32) (ar fe nx : Int32) (h0 : Nat → Int64) (F : Nat → Int32) :
    ∃ (k : Nat) (kI v : Int32) (w : _) (y : Int32) (st' : Nat → Int32) (zz : _), fX6_hoursTo N sc lc mc tm life tries x stations links messages copies first size events heard sc0 lc0 mc0 tm0 life0 tries0 x0 s0 l0 m0 c0 f0 z0 e0 ar fe nx h0 F z = some (k, v, w) ∧ fX7_hoursTo N thr c7 st as A K I T D z = some (v, kI, y, st', zz) ∧ ((k = 0 ∧ kI = 0) ∨ (k = 1 ∧ kI = 1)) ∧ rl_net (t + 73) sc lc mc tm life tries x stations links messages copies first size events heard st' := by
  unfold fX6_hoursTo fX7_hoursTo
  rw [show fX7_isBetween z (1 : Int32) (24 : Int32) = fX7_isBetween z (nI 1) (nI 24) from rfl]
  rcases rg_em z 1 24 with ⟨H, h1, h2, rfl⟩ | q
  · rw [b7y h1 h2 (by decide), rn_bs, if_neg (show ¬ (1 : Int32) = 0 by decide), if_neg (show ¬ nI H < (1 : Int32) from nI_nlt (b := 1) h1 (by omega)), if_pos (show nI H ≤ (24 : Int32) from nI_le (b := 24) h2 (by decide))]
    obtain ⟨s', l', m', c', ev', h', t1, t2⟩ := tf_eq h sc0 lc0 mc0 tm0 life0 tries0 x0 s0 l0 m0 c0 f0 z0 e0 h0
    obtain ⟨as', ca1, ca2, -⟩ := ca7 (i := 0) (j := 0) (n0 := 2888) (n2 := 2888) (g := as) hN (by decide) (by decide) (by decide) (by decide) st
    obtain ⟨p1, p2, p3, p4, p5, p6, p7, p8, q1, ⟨q2, q3, q4⟩, r1, r2, v, r3, r4, r5⟩ := ht_l (z := nI H) (t3 := (sc, lc, mc, tm, life, tries, x, s', l', m', c', first, size, ev', h')) (heard := h') hN rfl rfl rfl rfl rfl rfl N 0 t tm x s' l' m' c' first size ev' st ar fe nx c7 F A K I T D (by omega) (by omega) (by omega) t2
    obtain ⟨st3, cb1, cb2, -⟩ := ca7 (i := 0) (j := 0) (n0 := 2888) (n2 := 2888) (g := q3) hN (by decide) (by decide) (by decide) (by decide) as'
    have hst : rl_net (t + 73) sc lc mc tm life tries x stations links messages copies first size events heard st3 := rl_t (t := t) (by omega) (rl_m (st := st) (fun i hi => by
      have r1 := cb2 i hi
      have r2 := ca2 i hi
      rw [Nat.zero_add] at r1 r2
      rw [r1, r2]) h)
    rw [t1, rn_bs, show fX7_copyAll N 2888 2888 st as (0 : Int32) (0 : Int32) = _ from ca1, rn_bs, show lX7_hoursTo_36 N (nI H) N (0 : Int32) c7 st A K I T D = _ from r2, rn_bs, show fX7_copyAll N 2888 2888 as' (q1, q2, q3, q4).2.2.1 (0 : Int32) (0 : Int32) = _ from cb1, rn_bs]
    have rr : ∀ y, lX6_hoursTo_34 N (nI H) (sc, lc, mc, tm, life, tries, x, s', l', m', c', first, size, ev', h') N (0 : Int32) tm x s' l' m' c' first size ev' ar fe nx F = some y → y = (p1, p2, p3, p4, p5, p6, p7, p8) := fun y hy => Option.some.inj (hy.symm.trans r1)
    rw [show lX6_hoursTo_34 N (nI H) (sc, lc, mc, tm, life, tries, x, s', l', m', c', first, size, ev', h') N (0 : Int32) (sc, lc, mc, tm, life, tries, x, s', l', m', c', first, size, ev', h').2.2.2.1 (sc, lc, mc, tm, life, tries, x, s', l', m', c', first, size, ev', h').2.2.2.2.2.2.1 (sc, lc, mc, tm, life, tries, x, s', l', m', c', first, size, ev', h').2.2.2.2.2.2.2.1 (sc, lc, mc, tm, life, tries, x, s', l', m', c', first, size, ev', h').2.2.2.2.2.2.2.2.1 (sc, lc, mc, tm, life, tries, x, s', l', m', c', first, size, ev', h').2.2.2.2.2.2.2.2.2.1 (sc, lc, mc, tm, life, tries, x, s', l', m', c', first, size, ev', h').2.2.2.2.2.2.2.2.2.2.1 (sc, lc, mc, tm, life, tries, x, s', l', m', c', first, size, ev', h').2.2.2.2.2.2.2.2.2.2.2.1 (sc, lc, mc, tm, life, tries, x, s', l', m', c', first, size, ev', h').2.2.2.2.2.2.2.2.2.2.2.2.1 (sc, lc, mc, tm, life, tries, x, s', l', m', c', first, size, ev', h').2.2.2.2.2.2.2.2.2.2.2.2.2.1 ar fe nx F = _ from r1, rn_bs, show fX2_messagesInState N (sc, lc, mc, tm, life, tries, x, s', l', m', c', first, size, ev', h').1 (sc, lc, mc, tm, life, tries, x, s', l', m', c', first, size, ev', h').2.2.1 (p1, p2, p3, p4, p5, p6, p7, p8).2.2.2.2.2.1 (p1, p2, p3, p4, p5, p6, p7, p8).2.2.2.2.2.2.1 (1 : Int32) = _ from r3, rn_bs]
    by_cases d : nI H ≤ v
    · rw [if_pos d, if_neg (show ¬ (72 : Int32) < (q1, q2, q3, q4).1 from (r4 d).2)]
      have e := (r4 d).1
      subst e
      exact ⟨0, 0, p1, _, _, st3, _, rfl, rfl, Or.inl ⟨rfl, rfl⟩, hst⟩
    · rw [if_neg d, if_pos (show (72 : Int32) < (q1, q2, q3, q4).1 from r5 d)]
      exact ⟨0, 0, -1, _, _, st3, _, rfl, rfl, Or.inl ⟨rfl, rfl⟩, hst⟩
  · rw [b7n q (by decide) (by decide), rn_bs, if_pos rfl]
    have cl : ∀ {α : Type} {u w : α}, (if z < (1 : Int32) then u else if z ≤ (24 : Int32) then w else u) = u := fun {α u w} => by
      rcases zc z with r | ⟨n, r1, rfl⟩
      · rw [if_pos (show z < (1 : Int32) from neg_lt (n := 1) r (by decide))]
      · rcases Nat.lt_or_ge n 1 with c | c
        · rw [if_pos (show nI n < (1 : Int32) from nI_lt (b := 1) c (by decide))]
        · rw [if_neg (show ¬ nI n < (1 : Int32) from nI_nlt (b := 1) c r1)]
          rcases Nat.lt_or_ge 24 n with d | d
          · rw [if_neg (show ¬ nI n ≤ (24 : Int32) from nI_ge (a := 24) d r1)]
          · exact absurd rfl (q n c d)
    rw [cl]
    exact ⟨1, 1, 0, _, _, st, _, rfl, rfl, Or.inr ⟨rfl, rfl⟩, rl_t (t := t) (by omega) h⟩
end QB
