/-! windows of links, rules, messages, on both sides -/
theorem ln_c {a : Nat} {st : Nat → Int32} (z : Int32) (ha : a ≤ 16) : (∃ n, n < a ∧ z = nI n ∧ fX6_isLink (nI a) z = some 1 ∧ fX7_isBetween z (0 : Int32) (nI a - (1 : Int32)) = some 1) ∨ (fX6_isLink (nI a) z = some 0 ∧ fX7_isBetween z (0 : Int32) (nI a - (1 : Int32)) = some 0) := by
  unfold fX6_isLink fX2_linkCount
  rcases rg_eb z a with ⟨n, h1, rfl⟩ | q
  · exact Or.inl ⟨n, h1, rfl, cxy h1 (by omega), b7a h1 (by omega)⟩
  · exact Or.inr ⟨cxn q (by omega), b7b q (by omega)⟩
section QJ
variable {N t : Nat} {sc lc mc tm life tries x : Int32} {stations links messages copies : Nat → Int32} {first size : Int32} {events st : Nat → Int32} {heard : Nat → Int64}
theorem cb3 {α : Type} {z : Int32} {lo hi : Nat} {u w : α} (hz : ∀ n, lo ≤ n → n ≤ hi → z ≠ nI n) (h : hi < 2 ^ 31) (hl : lo < 2 ^ 31) : (if z < nI lo then u else if nI hi < z then u else w) = u := by
  rcases zc z with q | ⟨n, h1, rfl⟩
  · rw [if_pos (neg_lt q hl)]
  · rcases Nat.lt_or_ge n lo with c | c
    · rw [if_pos (nI_lt c hl)]
    · rw [if_neg (nI_nlt c h1)]
      rcases Nat.lt_or_ge hi n with d | d
      · rw [if_pos (nI_lt d h1)]
      · exact absurd rfl (hz n c d)
theorem cy3 {α : Type} {n lo hi : Nat} {u w : α} (h1 : lo ≤ n) (h2 : n ≤ hi) (h : hi < 2 ^ 31) : (if nI n < nI lo then u else if nI hi < nI n then u else w) = w := by
  rw [if_neg (nI_nlt h1 (by omega)), if_neg (nI_nlt h2 h)]
theorem co_setRules (ht : t ≤ 90000) (h : rl_net t sc lc mc tm life tries x stations links messages copies first size events heard st) (z z2 z3 thr : Int32) : ∃ (k : Nat) (kI f' g' x' : Int32) (st' : Nat → Int32), fX6_setRules life tries x z z2 z3 = some (k, f', g', x') ∧ fX7_setRules thr st z z2 z3 = some (kI, st') ∧ ((k = 0 ∧ kI = 0) ∨ (k = 1 ∧ kI = 1)) ∧ rl_net (t + 73) sc lc mc tm f' g' x' stations links messages copies first size events heard st' := by
  have hN0 := h
  obtain ⟨a, b, m, e, tt, h0, eH⟩ := h
  obtain ⟨hA, hZ⟩ := rlA_iff.mp h0
  obtain ⟨ha, hb, hm, he, htt⟩ := hA.1.1.1
  obtain ⟨-, z0', z1', z2', z3', z7', z6'⟩ := hA.1.1
  have sce : sc = nI a := hA.1.2.1.trans z0'
  have lce : lc = nI b := hA.1.2.2.1.trans z1'
  have mce : mc = nI m := hA.1.2.2.2.1.trans z2'
  have tme : tm = nI tt := hA.1.2.2.2.2.1.trans z3'
  subst sce lce mce tme
  have badE : ∃ (k : Nat) (kI f' g' x' : Int32) (st' : Nat → Int32), some ((1 : Nat), life, tries, x) = some (k, f', g', x') ∧ some ((1 : Int32), st) = some (kI, st') ∧ ((k = 0 ∧ kI = 0) ∨ (k = 1 ∧ kI = 1)) ∧ rl_net (t + 73) (nI a) (nI b) (nI m) (nI tt) f' g' x' stations links messages copies first size events heard st' := ⟨1, 1, _, _, _, st, rfl, rfl, Or.inr ⟨rfl, rfl⟩, rl_t (t := t) (by omega) hN0⟩
  unfold fX6_setRules fX7_setRules
  rw [show (1 : Int32) = nI 1 from rfl, show (200 : Int32) = nI 200 from rfl, show (9 : Int32) = nI 9 from rfl, show (1000002 : Int32) = nI 1000002 from rfl]
  rcases rg_em z 1 200 with ⟨u, u1, u2, rfl⟩ | q
  · rw [cy3 u1 u2 (by decide), b7y u1 u2 (by decide), rn_bs, if_neg (show ¬ (1 : Int32) = 0 by decide)]
    rcases rg_em z2 1 9 with ⟨v, v1, v2, rfl⟩ | q
    · rw [cy3 v1 v2 (by decide), b7y v1 v2 (by decide), rn_bs, if_neg (show ¬ (1 : Int32) = 0 by decide)]
      rcases rg_em z3 0 1000002 with ⟨w, w1, w2, rfl⟩ | q
      · rw [cly w2 (by decide), show fX7_isBetween (nI w) (0 : Int32) (nI 1000002) = some 1 from b7y (lo := 0) w1 w2 (by decide), rn_bs, if_neg (show ¬ (1 : Int32) = 0 by decide), rn_bs, if_pos rfl]
        unfold fX2_setLife fX2_setTries fX2_setX
        obtain ⟨p1, p2⟩ := p_R (v := nI u) (w := nI v) (u := nI w) hA hZ ⟨w, by omega, rfl⟩
        rw [rn_bs, rn_bs, rn_bs, g4, cl4, rn_lt, g5, cl5, rn_lt, g6, cl6, rn_lt]
        refine ⟨0, 0, _, _, _, _, rfl, rfl, Or.inl ⟨rfl, rfl⟩, rl_t (t := t) (by omega) ⟨a, b, m, e, tt, rlA_iff.mpr ⟨p1, p2⟩, ?_⟩⟩
        exact evH_c (st := st) hb ha hA.2.2.1.1 (fun i q h1 h2 => by unfold qL; rw [pk_un (by omega), pk_un (by omega), pk_un (by omega)]) (fun i q h1 h2 => by unfold qS; rw [pk_un (by omega), pk_un (by omega), pk_un (by omega)]) eH
      · rw [cln (fun n h2 => q n (by omega) h2) (by decide), show fX7_isBetween z3 (0 : Int32) (nI 1000002) = some 0 from b7n (lo := 0) q (by decide) (by decide), rn_bs, if_pos rfl, rn_bs, if_neg (show ¬ nI 1 = 0 by decide)]
        exact badE
    · rw [cb3 q (by decide) (by decide), b7n q (by decide) (by decide), rn_bs, if_pos rfl, rn_bs, if_neg (show ¬ nI 1 = 0 by decide)]
      exact badE
  · rw [cb3 q (by decide) (by decide), b7n q (by decide) (by decide), rn_bs, if_pos rfl, rn_bs, if_neg (show ¬ nI 1 = 0 by decide)]
    exact badE
theorem co_send (hN : 6000 ≤ N) (ht : t ≤ 90000) (h : rl_net t sc lc mc tm life tries x stations links messages copies first size events heard st) (z z2 z3 thr : Int32) : ∃ (k : Nat) (kI v mc' : Int32) (m' c' : Nat → Int32) (f' s' : Int32) (e' st' : Nat → Int32), fX6_send sc mc tm messages copies first size events z z2 z3 = some (k, v, mc', m', c', f', s', e') ∧ fX7_send N thr st z z2 z3 = some (v, kI, st') ∧ ((k = 0 ∧ kI = 0) ∨ (k = 3 ∧ kI = 1) ∨ (k = 1 ∧ kI = 2) ∨ (k = 2 ∧ kI = 3)) ∧ rl_net (t + 73) sc lc mc' tm life tries x stations links m' c' f' s' e' heard st' := by
  have hN0 := h
  obtain ⟨a, b, m, e, tt, h0, eH⟩ := h
  obtain ⟨hA, hZ⟩ := rlA_iff.mp h0
  obtain ⟨ha, hb, hm, he, htt⟩ := hA.1.1.1
  obtain ⟨-, z0', z1', z2', z3', z7', z6'⟩ := hA.1.1
  have sce : sc = nI a := hA.1.2.1.trans z0'
  have lce : lc = nI b := hA.1.2.2.1.trans z1'
  have mce : mc = nI m := hA.1.2.2.2.1.trans z2'
  have tme : tm = nI tt := hA.1.2.2.2.2.1.trans z3'
  subst sce lce mce tme
  unfold fX6_send fX7_send
  have badE : ∀ (k0 : Nat) (k1 : Int32), ((k0 = 3 ∧ k1 = 1) ∨ (k0 = 1 ∧ k1 = 2) ∨ (k0 = 2 ∧ k1 = 3)) → ∃ (k : Nat) (kI v mc' : Int32) (m' c' : Nat → Int32) (f' s' : Int32) (e' st' : Nat → Int32), some (k0, (0 : Int32), nI m, messages, copies, first, size, events) = some (k, v, mc', m', c', f', s', e') ∧ ((fX7_fail (0 : Int32) k1).bind fun t3 => some (t3.1, t3.2, st)) = some (v, kI, st') ∧ ((k = 0 ∧ kI = 0) ∨ (k = 3 ∧ kI = 1) ∨ (k = 1 ∧ kI = 2) ∨ (k = 2 ∧ kI = 3)) ∧ rl_net (t + 73) (nI a) (nI b) mc' (nI tt) life tries x stations links m' c' f' s' e' heard st' := fun k0 k1 hk => ⟨k0, k1, 0, _, _, _, _, _, _, st, rfl, rfl, Or.inr hk, rl_t (t := t) (by omega) hN0⟩
  rcases sn_c z z0' ha with ⟨f, hf, rfl, c1, c2⟩ | ⟨c1, c2⟩
  · rw [c1, c2, rn_bs, rn_bs, if_neg (show ¬ (1 : Int32) = 0 by decide), if_neg (show ¬ (1 : Int32) = 0 by decide)]
    rcases sn_c z2 z0' ha with ⟨g, hg, rfl, c1, c2⟩ | ⟨c1, c2⟩
    · rw [c1, c2, rn_bs, rn_bs, if_neg (show ¬ (1 : Int32) = 0 by decide), if_neg (show ¬ (1 : Int32) = 0 by decide)]
      by_cases c : f = g
      · rw [if_pos (by rw [c]), if_pos (by rw [c])]
        exact badE 1 2 (Or.inr (Or.inl ⟨rfl, rfl⟩))
      · have cn : ¬ nI f = nI g := fun q => c ((nI_eq (by omega) (by omega)).mp q)
        rw [if_neg cn, if_neg cn]
        rcases pr_c z3 with ⟨r, hr, rfl, c1, c2⟩ | ⟨c1, c2⟩
        · unfold fX2_messageCount
          rw [c1, c2, rn_bs, rn_bs, rn_bs, if_neg (show ¬ (1 : Int32) = 0 by decide), if_neg (show ¬ (1 : Int32) = 0 by decide), g2, cl2, z2']
          rcases Nat.lt_or_ge m 24 with d8 | d8
          · obtain ⟨m', c', f', s', e', e1, st', n1, n2, n3, n4, n5⟩ := nm_eq hN hA hZ (show t < 1000000 by omega) (show tt < tt + 1 by omega) d8 hf hg c (show r < 4 by omega)
            rw [if_pos (show nI m < (24 : Int32) from nI_lt (b := 24) d8 (by decide)), if_neg (show ¬ nI m = (24 : Int32) from fun q => by have := (nI_eq (b := 24) (by omega) (by decide)).mp q; omega), n1, n2, rn_bs, rn_bs]
            exact ⟨0, 0, _, _, _, _, _, _, _, _, rfl, rfl, Or.inl ⟨rfl, rfl⟩, rl_t (t := t) (by omega) ⟨a, b, m + 1, e1, tt, rlA_iff.mpr ⟨n3, n4⟩, n5 heard eH⟩⟩
          · have d9 : m = 24 := by omega
            rw [if_neg (show ¬ nI m < (24 : Int32) from nI_nlt (b := 24) d8 (by omega)), if_pos (show nI m = (24 : Int32) by rw [d9]; rfl)]
            exact badE 2 3 (Or.inr (Or.inr ⟨rfl, rfl⟩))
        · rw [c1, c2, rn_bs, rn_bs, if_pos rfl, if_pos rfl]
          exact badE 1 2 (Or.inr (Or.inl ⟨rfl, rfl⟩))
    · rw [c1, c2, rn_bs, rn_bs, if_pos rfl, if_pos rfl]
      exact badE 3 1 (Or.inl ⟨rfl, rfl⟩)
  · rw [c1, c2, rn_bs, rn_bs, if_pos rfl, if_pos rfl]
    exact badE 3 1 (Or.inl ⟨rfl, rfl⟩)
theorem tb_l {a b m tt τ k : Nat} (hN : 6000 ≤ N) (ht : t < 1000000) (hk : k < m) :
    ∀ (n s e : Nat) (cnt : Int32) (messages copies : Nat → Int32) (first size : Int32) (events st : Nat → Int32), s ≤ a → a - s < n → rlA t a b m e tt τ sc lc mc tm life tries x stations links messages copies first size events st → gd_Z st → ev_H b heard st →
    ∃ cnt' st' e' messages' copies' first' size' events', lX7_takeBack_23 N (nI k) n cnt (nI s) st = some (cnt', st') ∧ lX2_takeCopiesBack_4 sc tm (nI k) n cnt (nI s) messages copies first size events = some (cnt', messages', copies', first', size', events') ∧ rlA t a b m e' tt τ sc lc mc tm life tries x stations links messages' copies' first' size' events' st' ∧ gd_Z st' ∧ ev_H b heard st' := by
  intro n
  induction n with
  | zero => intro s e cnt messages copies first size events st _ h; omega
  | succ n ih =>
    intro s e cnt messages copies first size events st hs hn h hZ eH
    obtain ⟨ha, hb, hm, he, htt⟩ := h.1.1.1
    have sce : sc = nI a := h.1.2.1.trans h.1.1.2.1
    rw [lX7_takeBack_23, lX2_takeCopiesBack_4, g0, cl0, h.1.1.2.1, sce]
    rcases Nat.lt_or_ge s a with c | c
    · rw [if_neg (nI_ge c (by omega)), if_neg (nI_ge c (by omega)), show fX7_ofCopy st (nI k) (nI s) (0 : Int32) = some (qC st k s 0) from oC (q := 0) (by omega) (by omega) (by decide), rn_bs, wt2 h.2.2.2.2.1.2.1 (by omega) (by omega), rn_bs, ow_if]
      by_cases w : qC st k s 0 = 1
      · have hc := ((h.2.2.2.2.1.1 k s (by omega) (by omega)).resolve_left (fun q => by rw [q.1] at w; exact absurd w (by decide))).2.2
        obtain ⟨st', e', messages', copies', first', size', events', n1, n2, n3, n4, n5, -, -⟩ := en_eq (w := 3) (kd := 8) (o := -1) hN h hZ ht (by decide) hk c (Or.inl rfl) (by rw [w]; decide) (fun q => by have := hc.2.1.mpr q; rw [w] at this; exact absurd this (by decide)) (by decide) (by decide)
        rw [if_pos w, if_pos w, show fX7_endCopy N st (nI k) (nI s) (3 : Int32) (8 : Int32) (-1 : Int32) = _ from n1, show fX2_endCopy tm messages copies first size events (nI k) (nI s) (-1 : Int32) (3 : Int32) (8 : Int32) = _ from n2, rn_bs, rn_bs, nI_1]
        have := ih (s + 1) e' (cnt + 1) messages' copies' first' size' events' st' (by omega) (by omega) n3 n4 (evH_c hb ha h.2.2.1.1 (fun i q h1 h2 => n5.2.1 i q (by omega) (by omega)) (fun i q h1 h2 => n5.1 i q (by omega) (by omega)) eH)
        rw [sce] at this
        exact this
      · rw [if_neg w, if_neg w, nI_1]
        have := ih (s + 1) e cnt messages copies first size events st (by omega) (by omega) h hZ eH
        rw [sce] at this
        exact this
    · have : s = a := by omega
      subst this
      rw [if_pos (nI_le (Nat.le_refl _) (by omega)), if_pos (nI_le (Nat.le_refl _) (by omega))]
      exact ⟨cnt, st, e, messages, copies, first, size, events, rfl, rfl, by rw [← sce]; exact h, hZ, eH⟩
theorem co_takeBack (hN : 6000 ≤ N) (ht : t ≤ 90000) (h : rl_net t sc lc mc tm life tries x stations links messages copies first size events heard st) (z thr : Int32) : ∃ (k : Nat) (kI v : Int32) (m' c' : Nat → Int32) (f' s' : Int32) (e' st' : Nat → Int32), fX6_takeBack N sc mc tm messages copies first size events z = some (k, v, m', c', f', s', e') ∧ fX7_takeBack N thr st z = some (v, kI, st') ∧ ((k = 0 ∧ kI = 0) ∨ (k = 3 ∧ kI = 1)) ∧ rl_net (t + 73) sc lc mc tm life tries x stations links m' c' f' s' e' heard st' := by
  have hN0 := h
  obtain ⟨a, b, m, e, tt, h0, eH⟩ := h
  obtain ⟨hA, hZ⟩ := rlA_iff.mp h0
  obtain ⟨ha, hb, hm, he, htt⟩ := hA.1.1.1
  obtain ⟨-, z0', z1', z2', z3', z7', z6'⟩ := hA.1.1
  have sce : sc = nI a := hA.1.2.1.trans z0'
  have lce : lc = nI b := hA.1.2.2.1.trans z1'
  have mce : mc = nI m := hA.1.2.2.2.1.trans z2'
  have tme : tm = nI tt := hA.1.2.2.2.2.1.trans z3'
  subst sce lce mce tme
  unfold fX6_takeBack fX7_takeBack
  rcases mn_c z z2' hm with ⟨i, hi, rfl, c1, c2⟩ | ⟨c1, c2⟩
  · obtain ⟨cnt', st', e1, m', c', f', s', e', n1, n2, n3, n4, n5⟩ := tb_l hN (show t < 1000000 by omega) hi N 0 e 0 messages copies first size events st (by omega) (by omega) hA hZ eH
    unfold fX2_takeCopiesBack
    rw [c1, c2, rn_bs, rn_bs, if_neg (show ¬ (1 : Int32) = 0 by decide), if_neg (show ¬ (1 : Int32) = 0 by decide), show lX7_takeBack_23 N (nI i) N (0 : Int32) (0 : Int32) st = _ from n1, show lX2_takeCopiesBack_4 (nI a) (nI tt) (nI i) N (0 : Int32) (0 : Int32) messages copies first size events = _ from n2, rn_bs, rn_bs, rn_bs]
    exact ⟨0, 0, _, _, _, _, _, _, _, rfl, rfl, Or.inl ⟨rfl, rfl⟩, rl_t (t := t) (by omega) ⟨a, b, m, e1, tt, rlA_iff.mpr ⟨n3, n4⟩, n5⟩⟩
  · rw [c1, c2, rn_bs, rn_bs, if_pos rfl, if_pos rfl]
    exact ⟨3, 1, 0, _, _, _, _, _, st, rfl, rfl, Or.inr ⟨rfl, rfl⟩, rl_t (t := t) (by omega) hN0⟩
end QJ
