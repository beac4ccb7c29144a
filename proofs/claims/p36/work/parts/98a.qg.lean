/-! what changes a net, on both sides -/
theorem hr_c (z : Int32) : (∃ n, n < 24 ∧ z = nI n ∧ fX6_isHour z = some 1 ∧ fX7_isHour z = some 1) ∨ (fX6_isHour z = some 0 ∧ fX7_isHour z = some 0) := by
  rcases rg_em z 0 23 with ⟨n, -, h2, rfl⟩ | q
  · refine Or.inl ⟨n, by omega, rfl, ?_, ?_⟩
    · exact cxy (h := 24) (by omega) (by decide)
    · unfold fX7_isHour
      rw [show fX7_isBetween (nI n) (0 : Int32) (23 : Int32) = some 1 from b7y (lo := 0) (hi := 23) (by omega) h2 (by decide), rn_bs]
  · refine Or.inr ⟨?_, ?_⟩
    · exact cxn (h := 24) (fun n h2 => q n (by omega) (by omega)) (by decide)
    · unfold fX7_isHour
      rw [show fX7_isBetween z (0 : Int32) (23 : Int32) = some 0 from b7n (lo := 0) (hi := 23) q (by decide) (by decide), rn_bs]
theorem rt_c (z : Int32) : (∃ n, 1 ≤ n ∧ n ≤ 9 ∧ z = nI n ∧ fX6_isRate z = some 1 ∧ fX7_isBetween z (1 : Int32) (9 : Int32) = some 1) ∨ (fX6_isRate z = some 0 ∧ fX7_isBetween z (1 : Int32) (9 : Int32) = some 0) := by
  rcases rg_em z 1 9 with ⟨n, h1, h2, rfl⟩ | q
  · exact Or.inl ⟨n, h1, h2, rfl, b7y (lo := 1) (hi := 9) h1 h2 (by decide), b7y (lo := 1) (hi := 9) h1 h2 (by decide)⟩
  · exact Or.inr ⟨b7n (lo := 1) (hi := 9) q (by decide) (by decide), b7n (lo := 1) (hi := 9) q (by decide) (by decide)⟩
theorem ql_c (z : Int32) : (∃ n, n ≤ 100 ∧ z = nI n ∧ fX6_isQuality z = some 1 ∧ fX7_isBetween z (0 : Int32) (100 : Int32) = some 1) ∨ (fX6_isQuality z = some 0 ∧ fX7_isBetween z (0 : Int32) (100 : Int32) = some 0) := by
  rcases rg_em z 0 100 with ⟨n, h1, h2, rfl⟩ | q
  · exact Or.inl ⟨n, h2, rfl, b7y (lo := 0) (hi := 100) h1 h2 (by decide), b7y (lo := 0) (hi := 100) h1 h2 (by decide)⟩
  · exact Or.inr ⟨b7n (lo := 0) (hi := 100) q (by decide) (by decide), b7n (lo := 0) (hi := 100) q (by decide) (by decide)⟩
theorem pr_c (z : Int32) : (∃ n, n ≤ 3 ∧ z = nI n ∧ fX6_isPriority z = some 1 ∧ fX7_isBetween z (0 : Int32) (3 : Int32) = some 1) ∨ (fX6_isPriority z = some 0 ∧ fX7_isBetween z (0 : Int32) (3 : Int32) = some 0) := by
  rcases rg_em z 0 3 with ⟨n, h1, h2, rfl⟩ | q
  · exact Or.inl ⟨n, h2, rfl, b7y (lo := 0) (hi := 3) h1 h2 (by decide), b7y (lo := 0) (hi := 3) h1 h2 (by decide)⟩
  · exact Or.inr ⟨b7n (lo := 0) (hi := 3) q (by decide) (by decide), b7n (lo := 0) (hi := 3) q (by decide) (by decide)⟩
/-- a station, by its number, on both sides -/
theorem sn_c {a : Nat} {st : Nat → Int32} (z : Int32) (h0 : st 0 = nI a) (ha : a ≤ 8) : (∃ n, n < a ∧ z = nI n ∧ fX6_isStation (nI a) z = some 1 ∧ fX7_isStation st z = some 1) ∨ (fX6_isStation (nI a) z = some 0 ∧ fX7_isStation st z = some 0) := by
  unfold fX6_isStation fX7_isStation fX2_stationCount
  rw [g0, cl0, h0]
  rcases rg_eb z a with ⟨n, h1, rfl⟩ | q
  · refine Or.inl ⟨n, h1, rfl, ?_, ?_⟩
    · exact cxy h1 (by omega)
    · rw [b7a h1 (by omega), rn_bs]
  · refine Or.inr ⟨?_, ?_⟩
    · exact cxn q (by omega)
    · rw [b7b q (by omega), rn_bs]
theorem mn_c {a : Nat} {st : Nat → Int32} (z : Int32) (h0 : st 2 = nI a) (ha : a ≤ 24) : (∃ n, n < a ∧ z = nI n ∧ fX6_isMessage (nI a) z = some 1 ∧ fX7_isMessage st z = some 1) ∨ (fX6_isMessage (nI a) z = some 0 ∧ fX7_isMessage st z = some 0) := by
  unfold fX6_isMessage fX7_isMessage fX2_messageCount
  rw [g2, cl2, h0]
  rcases rg_eb z a with ⟨n, h1, rfl⟩ | q
  · refine Or.inl ⟨n, h1, rfl, ?_, ?_⟩
    · exact cxy h1 (by omega)
    · rw [b7a h1 (by omega), rn_bs]
  · refine Or.inr ⟨?_, ?_⟩
    · exact cxn q (by omega)
    · rw [b7b q (by omega), rn_bs]
section QI
variable {N t : Nat} {sc lc mc tm life tries x : Int32} {stations links messages copies : Nat → Int32} {first size : Int32} {events st : Nat → Int32} {heard : Nat → Int64}
theorem co_addStation (ht : t ≤ 90000) (h : rl_net t sc lc mc tm life tries x stations links messages copies first size events heard st) (z z2 z3 thr : Int32) : ∃ (k : Nat) (kI v sc' : Int32) (s' st' : Nat → Int32), fX6_addStation sc stations z z2 z3 = some (k, v, sc', s') ∧ fX7_addStation thr st z z2 z3 = some (v, kI, st') ∧ ((k = 0 ∧ kI = 0) ∨ (k = 1 ∧ kI = 1) ∨ (k = 2 ∧ kI = 2)) ∧ rl_net (t + 73) sc' lc mc tm life tries x s' links messages copies first size events heard st' := by
  have hN0 := h
  obtain ⟨a, b, m, e, tt, h0, eH⟩ := h
  obtain ⟨hA, hZ⟩ := rlA_iff.mp h0
  obtain ⟨ha, hb, hm, he, htt⟩ := hA.1.1.1
  obtain ⟨-, z0', z1', z2', z3', z7', z6'⟩ := hA.1.1
  have sce : sc = nI a := hA.1.2.1.trans z0'
  have lce : lc = nI b := hA.1.2.2.1.trans z1'
  have mce : mc = nI m := hA.1.2.2.2.1.trans z2'
  have tme : tm = nI tt := hA.1.2.2.2.2.1.trans z3'
  subst sce lce mce tme
  unfold fX6_addStation fX7_addStation
  rcases hr_c z with ⟨f, hf, rfl, c1, c2⟩ | ⟨c1, c2⟩
  · rw [c1, c2, rn_bs, rn_bs, if_neg (show ¬ (1 : Int32) = 0 by decide), if_neg (show ¬ (1 : Int32) = 0 by decide)]
    rcases hr_c z2 with ⟨g, hg, rfl, c1, c2⟩ | ⟨c1, c2⟩
    · rw [c1, c2, rn_bs, rn_bs, if_neg (show ¬ (1 : Int32) = 0 by decide), if_neg (show ¬ (1 : Int32) = 0 by decide)]
      rcases rt_c z3 with ⟨r, hr1, hr, rfl, c1, c2⟩ | ⟨c1, c2⟩
      · rw [c1, c2, rn_bs, rn_bs, if_neg (show ¬ (1 : Int32) = 0 by decide), if_neg (show ¬ (1 : Int32) = 0 by decide), g0, cl0, z0']
        unfold fX2_stationCount
        rw [rn_bs]
        rcases Nat.lt_or_ge a 8 with d | d
        · obtain ⟨s', st', n1, n2, n3, n4, n5⟩ := ns_eq hA hZ d hf hg (show r < 10 by omega)
          rw [if_pos (show nI a < (8 : Int32) from nI_lt (b := 8) d (by decide)), if_neg (show ¬ nI a = (8 : Int32) from fun q => by have := (nI_eq (b := 8) (by omega) (by decide)).mp q; omega), n1, n2, rn_bs, rn_bs]
          exact ⟨0, 0, _, _, _, _, rfl, rfl, Or.inl ⟨rfl, rfl⟩, rl_t (t := t) (by omega) ⟨a + 1, b, m, e, tt, rlA_iff.mpr ⟨n3, n4⟩, n5 heard eH⟩⟩
        · have d8 : a = 8 := by omega
          rw [if_neg (show ¬ nI a < (8 : Int32) from nI_nlt (b := 8) d (by omega)), if_pos (show nI a = (8 : Int32) by rw [d8]; rfl)]
          exact ⟨2, 2, 0, _, _, st, rfl, rfl, Or.inr (Or.inr ⟨rfl, rfl⟩), rl_t (t := t) (by omega) hN0⟩
      · rw [c1, c2, rn_bs, rn_bs, if_pos rfl, if_pos rfl]
        exact ⟨1, 1, 0, _, _, st, rfl, rfl, Or.inr (Or.inl ⟨rfl, rfl⟩), rl_t (t := t) (by omega) hN0⟩
    · rw [c1, c2, rn_bs, rn_bs, if_pos rfl, if_pos rfl]
      exact ⟨1, 1, 0, _, _, st, rfl, rfl, Or.inr (Or.inl ⟨rfl, rfl⟩), rl_t (t := t) (by omega) hN0⟩
  · rw [c1, c2, rn_bs, rn_bs, if_pos rfl, if_pos rfl]
    exact ⟨1, 1, 0, _, _, st, rfl, rfl, Or.inr (Or.inl ⟨rfl, rfl⟩), rl_t (t := t) (by omega) hN0⟩
theorem co_addLink (hN : 6000 ≤ N) (ht : t ≤ 90000) (h : rl_net t sc lc mc tm life tries x stations links messages copies first size events heard st) (z z2 z3 z4 z5 thr : Int32) : ∃ (k : Nat) (kI v lc' : Int32) (l' : Nat → Int32) (h' : Nat → Int64) (st' : Nat → Int32), fX6_addLink N sc lc stations links heard z z2 z3 z4 z5 = some (k, v, lc', l', h') ∧ fX7_addLink N thr st z z2 z3 z4 z5 = some (v, kI, st') ∧ ((k = 0 ∧ kI = 0) ∨ (k = 3 ∧ kI = 1) ∨ (k = 1 ∧ kI = 2) ∨ (k = 2 ∧ kI = 3)) ∧ rl_net (t + 73) sc lc' mc tm life tries x stations l' messages copies first size events h' st' := by
  have hN0 := h
  obtain ⟨a, b, m, e, tt, h0, eH⟩ := h
  obtain ⟨hA, hZ⟩ := rlA_iff.mp h0
  obtain ⟨ha, hb, hm, he, htt⟩ := hA.1.1.1
  obtain ⟨-, z0', z1', z2', z3', z7', z6'⟩ := hA.1.1
  have sce : sc = nI a := hA.1.2.1.trans z0'
  have lce : lc = nI b := hA.1.2.2.1.trans z1'
  have mce : mc = nI m := hA.1.2.2.2.1.trans z2'
  have tme : tm = nI tt := hA.1.2.2.2.2.1.trans z3'
  subst sce lce mce tme
  unfold fX6_addLink fX7_addLink
  have bad1 : ∃ (k : Nat) (kI v lc' : Int32) (l' : Nat → Int32) (h' : Nat → Int64) (st' : Nat → Int32), some ((3 : Nat), (0 : Int32), nI b, links, heard) = some (k, v, lc', l', h') ∧ ((fX7_fail (0 : Int32) (1 : Int32)).bind fun t3 => some (t3.1, t3.2, st)) = some (v, kI, st') ∧ ((k = 0 ∧ kI = 0) ∨ (k = 3 ∧ kI = 1) ∨ (k = 1 ∧ kI = 2) ∨ (k = 2 ∧ kI = 3)) ∧ rl_net (t + 73) (nI a) lc' (nI m) (nI tt) life tries x stations l' messages copies first size events h' st' := ⟨3, 1, 0, _, _, _, st, rfl, rfl, Or.inr (Or.inl ⟨rfl, rfl⟩), rl_t (t := t) (by omega) hN0⟩
  have bad2 : ∃ (k : Nat) (kI v lc' : Int32) (l' : Nat → Int32) (h' : Nat → Int64) (st' : Nat → Int32), some ((1 : Nat), (0 : Int32), nI b, links, heard) = some (k, v, lc', l', h') ∧ ((fX7_fail (0 : Int32) (2 : Int32)).bind fun t3 => some (t3.1, t3.2, st)) = some (v, kI, st') ∧ ((k = 0 ∧ kI = 0) ∨ (k = 3 ∧ kI = 1) ∨ (k = 1 ∧ kI = 2) ∨ (k = 2 ∧ kI = 3)) ∧ rl_net (t + 73) (nI a) lc' (nI m) (nI tt) life tries x stations l' messages copies first size events h' st' := ⟨1, 2, 0, _, _, _, st, rfl, rfl, Or.inr (Or.inr (Or.inl ⟨rfl, rfl⟩)), rl_t (t := t) (by omega) hN0⟩
  have bad3 : ∃ (k : Nat) (kI v lc' : Int32) (l' : Nat → Int32) (h' : Nat → Int64) (st' : Nat → Int32), some ((2 : Nat), (0 : Int32), nI b, links, heard) = some (k, v, lc', l', h') ∧ ((fX7_fail (0 : Int32) (3 : Int32)).bind fun t3 => some (t3.1, t3.2, st)) = some (v, kI, st') ∧ ((k = 0 ∧ kI = 0) ∨ (k = 3 ∧ kI = 1) ∨ (k = 1 ∧ kI = 2) ∨ (k = 2 ∧ kI = 3)) ∧ rl_net (t + 73) (nI a) lc' (nI m) (nI tt) life tries x stations l' messages copies first size events h' st' := ⟨2, 3, 0, _, _, _, st, rfl, rfl, Or.inr (Or.inr (Or.inr ⟨rfl, rfl⟩)), rl_t (t := t) (by omega) hN0⟩
  rcases sn_c z z0' ha with ⟨f, hf, rfl, c1, c2⟩ | ⟨c1, c2⟩
  · rw [c1, c2, rn_bs, rn_bs, if_neg (show ¬ (1 : Int32) = 0 by decide), if_neg (show ¬ (1 : Int32) = 0 by decide)]
    rcases sn_c z2 z0' ha with ⟨g, hg, rfl, c1, c2⟩ | ⟨c1, c2⟩
    · rw [c1, c2, rn_bs, rn_bs, if_neg (show ¬ (1 : Int32) = 0 by decide), if_neg (show ¬ (1 : Int32) = 0 by decide)]
      by_cases c : f = g
      · rw [if_pos (by rw [c]), if_pos (by rw [c])]
        exact bad2
      · have cn : ¬ nI f = nI g := fun q => c ((nI_eq (by omega) (by omega)).mp q)
        rw [if_neg cn, if_neg cn]
        rcases hr_c z3 with ⟨u, hu, rfl, c1, c2⟩ | ⟨c1, c2⟩
        · rw [c1, c2, rn_bs, rn_bs, if_neg (show ¬ (1 : Int32) = 0 by decide), if_neg (show ¬ (1 : Int32) = 0 by decide)]
          rcases hr_c z4 with ⟨v, hv, rfl, c1, c2⟩ | ⟨c1, c2⟩
          · rw [c1, c2, rn_bs, rn_bs, if_neg (show ¬ (1 : Int32) = 0 by decide), if_neg (show ¬ (1 : Int32) = 0 by decide)]
            rcases ql_c z5 with ⟨r, hr, rfl, c1, c2⟩ | ⟨c1, c2⟩
            · rw [c1, c2, rn_bs, rn_bs, if_neg (show ¬ (1 : Int32) = 0 by decide), if_neg (show ¬ (1 : Int32) = 0 by decide), lk2 hN hA.2.2.1.2.2 hb, lk7 hN z1' hb, rn_bs, rn_bs]
              by_cases d : q_lk st b (nI f) (nI g) = -1
              · unfold fX2_linkCount
                rw [if_pos d, if_pos d, rn_bs, g1, cl1, z1']
                rcases Nat.lt_or_ge b 16 with d8 | d8
                · obtain ⟨l', st', n1, n2, n3, n4⟩ := nl_eq hA hZ d8 hf hg c hu hv (show r < 101 by omega) d
                  obtain ⟨h', o1, o2⟩ := fo_eq hN n3 heard
                  rw [if_pos (show nI b < (16 : Int32) from nI_lt (b := 16) d8 (by decide)), if_neg (show ¬ nI b = (16 : Int32) from fun q => by have := (nI_eq (b := 16) (by omega) (by decide)).mp q; omega), n1, n2, rn_bs, rn_bs, show fX2_findOpenLinks N (nI b, nI b + 1, l').2.1 stations (nI b, nI b + 1, l').2.2 heard = _ from o1, rn_bs]
                  exact ⟨0, 0, _, _, _, _, _, rfl, rfl, Or.inl ⟨rfl, rfl⟩, rl_t (t := t) (by omega) ⟨a, b + 1, m, e, tt, rlA_iff.mpr ⟨n3, n4⟩, o2⟩⟩
                · have d9 : b = 16 := by omega
                  rw [if_neg (show ¬ nI b < (16 : Int32) from nI_nlt (b := 16) d8 (by omega)), if_pos (show nI b = (16 : Int32) by rw [d9]; rfl)]
                  exact bad3
              · rw [if_neg d, if_neg d]
                exact bad3
            · rw [c1, c2, rn_bs, rn_bs, if_pos rfl, if_pos rfl]
              exact bad2
          · rw [c1, c2, rn_bs, rn_bs, if_pos rfl, if_pos rfl]
            exact bad2
        · rw [c1, c2, rn_bs, rn_bs, if_pos rfl, if_pos rfl]
          exact bad2
    · rw [c1, c2, rn_bs, rn_bs, if_pos rfl, if_pos rfl]
      exact bad1
  · rw [c1, c2, rn_bs, rn_bs, if_pos rfl, if_pos rfl]
    exact bad1
end QI
