/-! copies, paths, events, frames, ways, on both sides -/
theorem cby {α : Type} {n h : Nat} {u w : α} (h1 : n ≤ h) (hh : h < 2 ^ 31) : (if nI n < 0 then u else if nI h < nI n then u else w) = w := by
  rw [if_neg (nI_pos (by omega)), if_neg (nI_nlt h1 hh)]
theorem cbn {α : Type} {z : Int32} {h : Nat} {u w : α} (hz : ∀ n, n ≤ h → z ≠ nI n) (hh : h < 2 ^ 31) : (if z < 0 then u else if nI h < z then u else w) = u := by
  rcases zc z with q | ⟨n, h1, rfl⟩
  · rw [if_pos q]
  · rw [if_neg (nI_pos h1)]
    rcases Nat.lt_or_ge h n with c | c
    · rw [if_pos (nI_lt c h1)]
    · exact absurd rfl (hz n c)
section QD
variable {N t : Nat} {sc lc mc tm life tries x : Int32} {stations links messages copies : Nat → Int32} {first size : Int32} {events st : Nat → Int32} {heard : Nat → Int64}
theorem co_copy (hN : 6000 ≤ N) (ht : t ≤ 90000) (h : rl_net t sc lc mc tm life tries x stations links messages copies first size events heard st) (z z2 z3 thr ar fe nx : Int32) (A K I : Nat → Int32) : ∃ (k : Nat) (kI v : Int32) (w : _) (w2 : _), fX6_copy N sc mc tm messages copies ar fe nx heard z z2 z3 = some (k, v, w) ∧ fX7_copy N thr st A K I z z2 z3 = some (v, kI, w2) ∧ ((k = 0 ∧ kI = 0) ∨ (k = 3 ∧ kI = 1) ∨ (k = 1 ∧ kI = 2)) := by
  obtain ⟨a, b, m, e, tt, h0, eH⟩ := h
  obtain ⟨hA, hZ⟩ := rlA_iff.mp h0
  obtain ⟨ha, hb, hm, he, htt⟩ := hA.1.1.1
  obtain ⟨-, z0, z1', z2', z3', z7, z6⟩ := hA.1.1
  have sce : sc = nI a := hA.1.2.1.trans z0
  have lce : lc = nI b := hA.1.2.2.1.trans z1'
  have mce : mc = nI m := hA.1.2.2.2.1.trans z2'
  have tme : tm = nI tt := hA.1.2.2.2.2.1.trans z3'
  subst sce lce mce tme
  unfold fX6_copy fX7_copy fX6_isMessage fX7_isMessage fX2_messageCount fX6_isStation fX7_isStation fX2_stationCount
  rw [g2, cl2, z2', rn_bs]
  rcases rg_eb z m with ⟨k, hk, rfl⟩ | q
  · rw [b7a hk (by omega), cxy hk (by omega), rn_bs, rn_bs, rn_bs, rn_bs, if_neg (show ¬ (1 : Int32) = 0 by decide), if_neg (show ¬ (1 : Int32) = 0 by decide), g0, cl0, z0]
    rcases rg_eb z2 a with ⟨s, hs, rfl⟩ | q
    · rw [b7a hs (by omega), cxy hs (by omega), rn_bs, rn_bs, rn_bs, if_neg (show ¬ (1 : Int32) = 0 by decide), if_neg (show ¬ (1 : Int32) = 0 by decide)]
      have c0 : copies (5 * (8 * k + s) + 0) = qC st k s 0 := hA.2.2.2.2.1.2.1 k s 0 (by omega) (by omega) (by decide)
      have tk : ∀ n : Nat, n < 4 → fX4_get (192 : Int32) (5 : Int32) 960 copies (nI (8 * k + s)) (nI n) = some (qC st k s n) := fun n hn => (tC (by omega) (by omega)).trans (congrArg some (hA.2.2.2.2.1.2.1 k s n (by omega) (by omega) hn))
      rcases rg_em z3 0 4 with ⟨n, -, h2, rfl⟩ | q
      · rw [show (4 : Int32) = nI 4 from rfl, cly h2 (by decide), show fX7_isBetween (nI n) (0 : Int32) (nI 4) = some 1 from b7y (lo := 0) (by omega) h2 (by decide), rn_bs, if_neg (show ¬ (1 : Int32) = 0 by decide)]
        unfold fX2_copyNumber
        rw [rw2, rn_bs, show fX7_ofCopy st (nI k) (nI s) (0 : Int32) = some (qC st k s 0) from oC (q := 0) (by omega) (by omega) (by decide), rn_bs, show fX4_get (192 : Int32) (5 : Int32) 960 copies (nI (8 * k + s)) (0 : Int32) = some (qC st k s 0) from tk 0 (by decide)]
        rcases Nat.eq_zero_or_pos n with r | r
        · subst r
          rw [if_pos (show nI 0 = 0 by decide), if_pos (show nI 0 = 0 by decide), if_neg (show ¬ nI 0 = (4 : Int32) by decide), tk 0 (by decide), rn_bs, rn_bs]
          exact ⟨0, 0, _, _, _, rfl, rfl, Or.inl ⟨rfl, rfl⟩⟩
        · rw [if_neg (show ¬ nI n = 0 from fun q => by have := (nI_eq (b := 0) (by omega) (by decide)).mp q; omega), if_neg (show ¬ nI n = 0 from fun q => by have := (nI_eq (b := 0) (by omega) (by decide)).mp q; omega), rn_bs]
          by_cases c : qC st k s 0 = 0
          · rw [if_pos c, if_pos c, rn_bs]
            exact ⟨0, 0, _, _, _, rfl, rfl, Or.inl ⟨rfl, rfl⟩⟩
          · rw [if_neg c, if_neg c]
            by_cases r4 : n = 4
            · subst r4
              rw [if_pos (show nI 4 = (4 : Int32) by decide), if_pos (show nI 4 = nI 4 from rfl)]
              by_cases c1 : qC st k s 0 = 1
              · obtain ⟨nv, hv⟩ := nvs hN hA (show t < 1000000 by omega) eH hs
                obtain ⟨v1, v2, -, -⟩ := hv k hk
                obtain ⟨y1, e1⟩ := v1 ar fe nx
                have hc := ((hA.2.2.2.2.1.1 k s (by omega) (by omega)).resolve_left (fun q => c q.1)).2.2
                obtain ⟨u, u1, u2⟩ := hc.2.2.1
                obtain ⟨⟨y2, y3, y4⟩, e2⟩ := v2 ⟨c1, by rw [u2]; exact nI_le (by omega) (by omega)⟩ A K I
                rw [if_pos c1, e1, e2, rn_bs, rn_bs, rn_bs]
                exact ⟨0, 0, _, _, _, rfl, rfl, Or.inl ⟨rfl, rfl⟩⟩
              · rw [if_neg c1]
                unfold fX2_nextOf
                rw [rw2, rn_bs, show fX4_get (192 : Int32) (5 : Int32) 960 copies (nI (8 * k + s)) (0 : Int32) = some (qC st k s 0) from tk 0 (by decide), rn_bs, if_neg c1, rn_bs, rn_bs]
                exact ⟨0, 0, _, _, _, rfl, rfl, Or.inl ⟨rfl, rfl⟩⟩
            · have r5 : ¬ nI n = nI 4 := fun q => r4 ((nI_eq (by omega) (by decide)).mp q)
              rw [if_neg (show ¬ nI n = (4 : Int32) from r5), if_neg r5, tk n (by omega), rn_bs, rn_bs, oC (by omega) (by omega) (by omega), rn_bs]
              exact ⟨0, 0, _, _, _, rfl, rfl, Or.inl ⟨rfl, rfl⟩⟩
      · rw [show (4 : Int32) = nI 4 from rfl, cln (fun n h2 => q n (by omega) h2) (by decide), show fX7_isBetween z3 (0 : Int32) (nI 4) = some 0 from b7n (lo := 0) q (by decide) (by decide), rn_bs, if_pos rfl]
        exact ⟨1, 2, 0, _, _, rfl, rfl, Or.inr (Or.inr ⟨rfl, rfl⟩)⟩
    · rw [b7b q (by omega), cxn q (by omega), rn_bs, rn_bs, rn_bs, if_pos rfl, if_pos rfl]
      exact ⟨3, 1, 0, _, _, rfl, rfl, Or.inr (Or.inl ⟨rfl, rfl⟩)⟩
  · rw [b7b q (by omega), cxn q (by omega), rn_bs, rn_bs, rn_bs, rn_bs, if_pos rfl, if_pos rfl]
    exact ⟨3, 1, 0, _, _, rfl, rfl, Or.inr (Or.inl ⟨rfl, rfl⟩)⟩
theorem co_path (ht : t ≤ 90000) (h : rl_net t sc lc mc tm life tries x stations links messages copies first size events heard st) (z z2 z3 thr : Int32) : ∃ (k : Nat) (kI v : Int32), fX6_path sc mc copies z z2 z3 = some (k, v) ∧ fX7_path thr st z z2 z3 = some (v, kI) ∧ ((k = 0 ∧ kI = 0) ∨ (k = 3 ∧ kI = 1)) := by
  obtain ⟨a, b, m, e, tt, h0, eH⟩ := h
  obtain ⟨hA, hZ⟩ := rlA_iff.mp h0
  obtain ⟨ha, hb, hm, he, htt⟩ := hA.1.1.1
  obtain ⟨-, z0, z1', z2', z3', z7, z6⟩ := hA.1.1
  have sce : sc = nI a := hA.1.2.1.trans z0
  have lce : lc = nI b := hA.1.2.2.1.trans z1'
  have mce : mc = nI m := hA.1.2.2.2.1.trans z2'
  have tme : tm = nI tt := hA.1.2.2.2.2.1.trans z3'
  subst sce lce mce tme
  unfold fX6_path fX7_path fX6_isMessage fX7_isMessage fX2_messageCount fX6_isStation fX7_isStation fX2_stationCount
  rw [g2, cl2, z2', rn_bs, g0, cl0, z0]
  rcases rg_eb z m with ⟨k, hk, rfl⟩ | q
  · rw [b7a hk (by omega), cxy hk (by omega), rn_bs, rn_bs, rn_bs, rn_bs, if_neg (show ¬ (1 : Int32) = 0 by decide), if_neg (show ¬ (1 : Int32) = 0 by decide)]
    rcases rg_eb z2 a with ⟨s, hs, rfl⟩ | q
    · rw [b7a hs (by omega), cxy hs (by omega), rn_bs, rn_bs, rn_bs, if_neg (show ¬ (1 : Int32) = 0 by decide), if_neg (show ¬ (1 : Int32) = 0 by decide)]
      have c0 : copies (5 * (8 * k + s) + 0) = qC st k s 0 := hA.2.2.2.2.1.2.1 k s 0 (by omega) (by omega) (by decide)
      have c3 : copies (5 * (8 * k + s) + 3) = qC st k s 3 := hA.2.2.2.2.1.2.1 k s 3 (by omega) (by omega) (by decide)
      unfold fX2_pathStation
      rw [rw2, rn_bs, show fX7_ofCopy st (nI k) (nI s) (0 : Int32) = some (qC st k s 0) from oC (q := 0) (by omega) (by omega) (by decide), rn_bs, show fX4_get (192 : Int32) (5 : Int32) 960 copies (nI (8 * k + s)) (0 : Int32) = some (qC st k s 0) from (tC (q := 0) (by omega) (by omega)).trans (congrArg some c0), rn_bs]
      by_cases c : qC st k s 0 = 0
      · rw [if_pos c, if_pos c, rn_bs, rn_bs, if_pos rfl, if_pos rfl]
        exact ⟨3, 1, 0, rfl, rfl, Or.inr ⟨rfl, rfl⟩⟩
      · obtain ⟨L, f, f1, f2, f3, f4⟩ := hA.2.2.2.2.1.2.2 k s (by omega) (by omega) c
        rw [if_neg c, if_neg c, rn_bs, if_neg (show ¬ (1 : Int32) = 0 by decide), show fX7_ofCopy st (nI k) (nI s) (3 : Int32) = some (nI L) from (oC (q := 3) (by omega) (by omega) (by decide)).trans (congrArg some f2), rn_bs, show fX4_get (192 : Int32) (5 : Int32) 960 copies (nI (8 * k + s)) (3 : Int32) = some (nI L) from (tC (q := 3) (by omega) (by omega)).trans (congrArg some (c3.trans f2)), rn_bs, show fX4_get (192 : Int32) (5 : Int32) 960 copies (nI (8 * k + s)) (4 : Int32) = some (nI (q_pk f L)) from (tC (q := 4) (by omega) (by omega)).trans (congrArg some f4), rn_bs]
        rcases rg_eb z3 L with ⟨i, hi, rfl⟩ | q
        · rw [b7a hi (by omega), rn_bs, if_neg (show ¬ (1 : Int32) = 0 by decide), if_neg (nI_pos (by omega)), if_pos (nI_lt hi (by omega)), pk_at f1 (fun i hi => (f3 i hi).1) hi, rn_bs, if_neg (fun r => by
            have := nI_pos (n := f i) (by have := (f3 i hi).1; omega)
            rw [r] at this
            exact this (by decide)), show (4 : Int32) + nI i = nI (4 + i) by rw [show (4 : Int32) = nI 4 from rfl, nI_add], show fX7_ofCopy st (nI k) (nI s) (nI (4 + i)) = some (nI (f i)) from (oC (by omega) (by omega) (by omega)).trans (congrArg some (f3 i hi).2), rn_bs]
          exact ⟨0, 0, _, rfl, rfl, Or.inl ⟨rfl, rfl⟩⟩
        · have e : (if z3 < 0 then some (-1 : Int32) else if z3 < nI L then some ((nI (q_pk f L) >>> ((z3 * (3 : Int32)) &&& (31 : Int32))) &&& (7 : Int32)) else some (-1 : Int32)) = some (-1) := by
            rcases zc z3 with r | ⟨n, r1, rfl⟩
            · rw [if_pos r]
            · rw [if_neg (nI_pos r1)]
              rcases Nat.lt_or_ge n L with d | d
              · exact absurd rfl (q n d)
              · rw [if_neg (nI_nlt d r1)]
          rw [b7b q (by omega), rn_bs, if_pos rfl, e, rn_bs, if_pos rfl]
          exact ⟨3, 1, 0, rfl, rfl, Or.inr ⟨rfl, rfl⟩⟩
    · rw [b7b q (by omega), cxn q (by omega), rn_bs, rn_bs, rn_bs, if_pos rfl, if_pos rfl, rn_bs, if_pos rfl]
      exact ⟨3, 1, 0, rfl, rfl, Or.inr ⟨rfl, rfl⟩⟩
  · rw [b7b q (by omega), cxn q (by omega), rn_bs, rn_bs, rn_bs, rn_bs, if_pos rfl, if_pos rfl, rn_bs, if_pos rfl]
    exact ⟨3, 1, 0, rfl, rfl, Or.inr ⟨rfl, rfl⟩⟩
theorem ePl (j q : Nat) : ((2688 : Int32) + (5 : Int32) * nI j) + nI q = nI (2688 + 5 * j + q) := by
  rw [show (2688 : Int32) = nI 2688 from rfl, show (5 : Int32) = nI 5 from rfl, pk_mul, nI_add, nI_add]
/-- a number of an event -/
theorem ev2 {e j q f : Nat} (E2 : ∀ j q, j < e → q < 5 → events (5 * ((f + j) % 40) + q) = qE st j q) (he : e ≤ 40) (hf : f < 40) (hj : j < e) (hq : q < 5) : fX2_eventNumber (nI f) events (nI j) (nI q) = some (qE st j q) := by
  unfold fX2_eventNumber fX0_number
  rw [nI_add, show rn_rem (nI (f + j)) (40 : Int32) = nI ((f + j) % 40) from nI_rem (d := 40) (by omega) (by decide) (by decide), tE (Nat.mod_lt _ (by decide)) hq, rn_bs, rn_bs, E2 j q hj hq]
theorem co_event (ht : t ≤ 90000) (h : rl_net t sc lc mc tm life tries x stations links messages copies first size events heard st) (z z2 thr : Int32) : ∃ (k : Nat) (kI v : Int32), fX6_event first size events z z2 = some (k, v) ∧ fX7_event thr st z z2 = some (v, kI) ∧ ((k = 0 ∧ kI = 0) ∨ (k = 3 ∧ kI = 1) ∨ (k = 1 ∧ kI = 2)) := by
  obtain ⟨a, b, m, e, tt, h0, eH⟩ := h
  obtain ⟨hA, hZ⟩ := rlA_iff.mp h0
  obtain ⟨ha, hb, hm, he, htt⟩ := hA.1.1.1
  obtain ⟨-, z0, z1, z2', z3, z7, z6⟩ := hA.1.1
  have sce : sc = nI a := hA.1.2.1.trans z0
  have lce : lc = nI b := hA.1.2.2.1.trans z1
  have mce : mc = nI m := hA.1.2.2.2.1.trans z2'
  have tme : tm = nI tt := hA.1.2.2.2.2.1.trans z3
  subst sce lce mce tme
  obtain ⟨f, hf, ef, E2⟩ := hA.2.2.2.2.2.2.2
  have se : size = nI e := hA.1.2.2.2.2.2.2.2.2.trans z7
  subst ef se
  unfold fX6_event fX7_event fX6_isEvent fX2_eventCount fX0_size
  rw [g7, cl7, z7, rn_bs, rn_bs]
  rcases rg_eb z e with ⟨j, hj, rfl⟩ | q
  · rw [b7a hj (by omega), cxy hj (by omega), rn_bs, rn_bs, if_neg (show ¬ (1 : Int32) = 0 by decide), if_neg (show ¬ (1 : Int32) = 0 by decide)]
    rcases rg_em z2 0 4 with ⟨n, -, h2, rfl⟩ | q
    · rw [show (4 : Int32) = nI 4 from rfl, cly h2 (by decide), show fX7_isBetween (nI n) (0 : Int32) (nI 4) = some 1 from b7y (lo := 0) (by omega) h2 (by decide), rn_bs, if_neg (show ¬ (1 : Int32) = 0 by decide), ev2 E2 he hf hj (by omega), rn_bs, ePl, rn_gI (by omega) (by decide), nI_clamp (by omega)]
      exact ⟨0, 0, _, rfl, rfl, Or.inl ⟨rfl, rfl⟩⟩
    · rw [show (4 : Int32) = nI 4 from rfl, cln (fun n h2 => q n (by omega) h2) (by decide), show fX7_isBetween z2 (0 : Int32) (nI 4) = some 0 from b7n (lo := 0) q (by decide) (by decide), rn_bs, if_pos rfl]
      exact ⟨1, 2, 0, rfl, rfl, Or.inr (Or.inr ⟨rfl, rfl⟩)⟩
  · rw [b7b q (by omega), cxn q (by omega), rn_bs, rn_bs, if_pos rfl, if_pos rfl]
    exact ⟨3, 1, 0, rfl, rfl, Or.inr (Or.inl ⟨rfl, rfl⟩)⟩
theorem co_sends (hN : 6000 ≤ N) (ht : t ≤ 90000) (h : rl_net t sc lc mc tm life tries x stations links messages copies first size events heard st) (z z2 thr c7 ar fe nx : Int32) (F A K I T D : Nat → Int32) : ∃ (k : Nat) (kI v : Int32) (w : _) (w2 : _), fX6_sends N sc mc tm stations messages copies ar fe nx heard F z z2 = some (k, v, w) ∧ fX7_sends N thr c7 st A K I T D z z2 = some (v, kI, w2) ∧ ((k = 0 ∧ kI = 0) ∨ (k = 3 ∧ kI = 1)) := by
  obtain ⟨a, b, m, e, tt, h0, eH⟩ := h
  obtain ⟨hA, hZ⟩ := rlA_iff.mp h0
  obtain ⟨ha, hb, hm, he, htt⟩ := hA.1.1.1
  obtain ⟨-, z0, z1, z2', z3, z7, z6⟩ := hA.1.1
  have sce : sc = nI a := hA.1.2.1.trans z0
  have lce : lc = nI b := hA.1.2.2.1.trans z1
  have mce : mc = nI m := hA.1.2.2.2.1.trans z2'
  have tme : tm = nI tt := hA.1.2.2.2.2.1.trans z3
  subst sce lce mce tme
  unfold fX6_sends fX7_sends fX6_isStation fX7_isStation fX2_stationCount
  rw [g0, cl0, z0, rn_bs]
  rcases rg_eb z a with ⟨s, hs, rfl⟩ | q
  · rw [b7a hs (by omega), cxy hs (by omega), rn_bs, rn_bs, rn_bs, if_neg (show ¬ (1 : Int32) = 0 by decide), if_neg (show ¬ (1 : Int32) = 0 by decide)]
    rcases zc z2 with r | ⟨i, r1, rfl⟩
    · rw [if_neg (Int32.not_le.mpr r), if_neg (Int32.not_le.mpr r)]
      exact ⟨3, 1, 0, _, _, rfl, rfl, Or.inr ⟨rfl, rfl⟩⟩
    · rw [if_pos (Int32.not_lt.mp (nI_pos r1)), if_pos (Int32.not_lt.mp (nI_pos r1))]
      obtain ⟨nv, l, ar', fe', nx', F', A', K', I', T', D', u1, u2, u3, u4, u5, u6, u7⟩ := lu_eq hN hA (show t < 1000000 by omega) eH hs ar fe nx c7 F A K I T D
      unfold fX2_messageToSend
      rw [u1, u2, rn_bs, rn_bs]
      rcases Nat.lt_or_ge i l.length with d | d
      · obtain ⟨k, hk⟩ : ∃ k, l[i]? = some k := ⟨_, List.getElem?_eq_getElem d⟩
        have f1 := u5 i k hk
        have t1 := u6 i k hk
        rw [if_neg (show ¬ (nI l.length, ar', fe', nx', F').1 ≤ nI i from nI_ge d (by omega)), if_neg (show ¬ (nI l.length, A', K', I', T', D').1 ≤ nI i from nI_ge d (by omega)), show fX4_get (9 : Int32) (2 : Int32) 18 (nI l.length, ar', fe', nx', F').2.2.2.2 (nI i) (0 : Int32) = some (nI k) from (tF (q := 0) (by omega) (by decide)).trans (congrArg some f1.1), rn_bs, rn_bs, rn_gI (by omega) (by decide), nI_clamp (by omega), show (nI l.length, A', K', I', T', D').2.2.2.2.1 i = nI k from t1.1]
        exact ⟨0, 0, _, _, _, rfl, rfl, Or.inl ⟨rfl, rfl⟩⟩
      · rw [if_pos (show (nI l.length, ar', fe', nx', F').1 ≤ nI i from nI_le d r1), if_pos (show (nI l.length, A', K', I', T', D').1 ≤ nI i from nI_le d r1), rn_bs]
        exact ⟨0, 0, _, _, _, rfl, rfl, Or.inl ⟨rfl, rfl⟩⟩
  · rw [b7b q (by omega), cxn q (by omega), rn_bs, rn_bs, rn_bs, if_pos rfl, if_pos rfl]
    exact ⟨3, 1, 0, _, _, rfl, rfl, Or.inr ⟨rfl, rfl⟩⟩
theorem co_way (hN : 6000 ≤ N) (ht : t ≤ 90000) (h : rl_net t sc lc mc tm life tries x stations links messages copies first size events heard st) (z z2 z3 z4 thr ar fe nx : Int32) (A K I : Nat → Int32) : ∃ (k : Nat) (kI v : Int32) (w : _) (w2 : _), fX6_way N sc ar fe nx heard z z2 z3 z4 = some (k, v, w) ∧ fX7_way N thr st A K I z z2 z3 z4 = some (v, kI, w2) ∧ ((k = 0 ∧ kI = 0) ∨ (k = 3 ∧ kI = 1) ∨ (k = 1 ∧ kI = 2)) := by
  obtain ⟨a, b, m, e, tt, h0, eH⟩ := h
  obtain ⟨hA, hZ⟩ := rlA_iff.mp h0
  obtain ⟨ha, hb, hm, he, htt⟩ := hA.1.1.1
  obtain ⟨-, z0, z1', z2', z3', z7, z6⟩ := hA.1.1
  have sce : sc = nI a := hA.1.2.1.trans z0
  have lce : lc = nI b := hA.1.2.2.1.trans z1'
  have mce : mc = nI m := hA.1.2.2.2.1.trans z2'
  have tme : tm = nI tt := hA.1.2.2.2.2.1.trans z3'
  subst sce lce mce tme
  unfold fX6_way fX7_way fX6_isStation fX7_isStation fX2_stationCount
  rw [g0, cl0, z0, rn_bs]
  rcases rg_eb z a with ⟨f, hf, rfl⟩ | q
  · rw [b7a hf (by omega), cxy hf (by omega), rn_bs, rn_bs, rn_bs, rn_bs, if_neg (show ¬ (1 : Int32) = 0 by decide), if_neg (show ¬ (1 : Int32) = 0 by decide)]
    rcases rg_eb z2 a with ⟨g, hg, rfl⟩ | q
    · rw [b7a hg (by omega), cxy hg (by omega), rn_bs, rn_bs, g0, rn_bs, if_neg (show ¬ (1 : Int32) = 0 by decide), if_neg (show ¬ (1 : Int32) = 0 by decide)]
      by_cases c : f = g
      · subst c
        rw [if_pos rfl, if_pos rfl]
        exact ⟨1, 2, 0, _, _, rfl, rfl, Or.inr (Or.inr ⟨rfl, rfl⟩)⟩
      · have cn : ¬ nI f = nI g := fun q => c ((nI_eq (by omega) (by omega)).mp q)
        rw [if_neg cn, if_neg cn, show (100000 : Int32) = nI 100000 from rfl, show (2 : Int32) = nI 2 from rfl]
        rcases rg_em z3 0 100000 with ⟨p, -, p2, rfl⟩ | q
        · rw [cby p2 (by decide), show fX7_isBetween (nI p) (0 : Int32) (nI 100000) = some 1 from b7y (lo := 0) (by omega) p2 (by decide), rn_bs, if_neg (show ¬ (1 : Int32) = 0 by decide)]
          rcases rg_em z4 0 2 with ⟨n, -, n2, rfl⟩ | q
          · rw [cly n2 (by decide), show fX7_isBetween (nI n) (0 : Int32) (nI 2) = some 1 from b7y (lo := 0) (by omega) n2 (by decide), rn_bs, if_neg (show ¬ (1 : Int32) = 0 by decide)]
            obtain ⟨I0, a1, a2⟩ := av7 (isA := I) hN
            have hv : is8 (0 : Int32) (Av I0) := is8_w is8_0 (fun j hj => ⟨fun q => q.elim, fun q => q (a2 j hj)⟩)
            obtain ⟨A', K', l1, l2⟩ := srch (A := A) (K := K) (ar := ar) (fe := fe) (nx := nx) (isA := I0) hN hA.2.1.1 hA.2.2.1.1 hA.2.2.1.2.1 eH z0 z1' ha hb (τ := p) (by omega) (show f < 8 by omega) (show g < 8 by omega) c hv
            unfold fX2_wayNumber
            rw [a1, rn_bs, l1, rn_bs, rn_gI (by omega) (by decide), rn_gI (by omega) (by decide), rn_gI (by omega) (by decide), nI_clamp (by omega)]
            rcases l2 with ⟨f1, f2, f3⟩ | ⟨v, w, x', f1, f2, f3, f4, f5, -⟩
            · rw [f1, rn_bs, if_pos (show ((0 : Int32), ar, fe, nx).1 = 0 from rfl), rn_bs, if_pos (show (A', K').1 f = (1000000000 : Int32) from f2)]
              exact ⟨0, 0, _, _, _, rfl, rfl, Or.inl ⟨rfl, rfl⟩⟩
            · rw [f1, rn_bs, if_neg (show ¬ ((1 : Int32), v, w, x').1 = 0 from show ¬ (1 : Int32) = 0 by decide), if_neg (show ¬ (A', K').1 f = (1000000000 : Int32) from f2)]
              have hn : n = 0 ∨ n = 1 ∨ n = 2 := by omega
              rcases hn with rfl | rfl | rfl
              · rw [if_pos (show nI 0 = (0 : Int32) by decide), if_pos (show nI 0 = (0 : Int32) by decide), show fX5_arrival ((1 : Int32), v, w, x').2.1 = some v from rfl, rn_bs, rn_bs, show (A', K').1 f = v from f3]
                exact ⟨0, 0, _, _, _, rfl, rfl, Or.inl ⟨rfl, rfl⟩⟩
              · rw [if_neg (show ¬ nI 1 = (0 : Int32) by decide), if_neg (show ¬ nI 1 = (0 : Int32) by decide), if_pos (show nI 1 = (1 : Int32) by decide), if_pos (show nI 1 = (1 : Int32) by decide), show fX5_fewest ((1 : Int32), v, w, x').2.2.1 = some w from rfl, rn_bs, rn_bs, show (A', K').2 f = w from f4]
                exact ⟨0, 0, _, _, _, rfl, rfl, Or.inl ⟨rfl, rfl⟩⟩
              · rw [if_neg (show ¬ nI 2 = (0 : Int32) by decide), if_neg (show ¬ nI 2 = (0 : Int32) by decide), if_neg (show ¬ nI 2 = (1 : Int32) by decide), if_neg (show ¬ nI 2 = (1 : Int32) by decide), show fX5_next ((1 : Int32), v, w, x').2.2.2 = some x' from rfl, rn_bs, rn_bs, show fX7_firstStep N st (A', K').1 (A', K').2 I0 (nI f) (nI p) = some x' from f5, rn_bs]
                exact ⟨0, 0, _, _, _, rfl, rfl, Or.inl ⟨rfl, rfl⟩⟩
          · rw [cln (fun n h2 => q n (by omega) h2) (by decide), show fX7_isBetween z4 (0 : Int32) (nI 2) = some 0 from b7n (lo := 0) q (by decide) (by decide), rn_bs, if_pos rfl]
            exact ⟨1, 2, 0, _, _, rfl, rfl, Or.inr (Or.inr ⟨rfl, rfl⟩)⟩
        · rw [cbn (fun n h2 => q n (by omega) h2) (by decide), show fX7_isBetween z3 (0 : Int32) (nI 100000) = some 0 from b7n (lo := 0) q (by decide) (by decide), rn_bs, if_pos rfl]
          exact ⟨1, 2, 0, _, _, rfl, rfl, Or.inr (Or.inr ⟨rfl, rfl⟩)⟩
    · rw [b7b q (by omega), cxn q (by omega), rn_bs, rn_bs, g0, rn_bs, if_pos rfl, if_pos rfl]
      exact ⟨3, 1, 0, _, _, rfl, rfl, Or.inr (Or.inl ⟨rfl, rfl⟩)⟩
  · rw [b7b q (by omega), cxn q (by omega), rn_bs, rn_bs, rn_bs, rn_bs, if_pos rfl, if_pos rfl]
    exact ⟨3, 1, 0, _, _, rfl, rfl, Or.inr (Or.inl ⟨rfl, rfl⟩)⟩
end QD
