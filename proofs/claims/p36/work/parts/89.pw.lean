/-! an hour, on both sides -/
section PY
variable {N t a b m e tt τ : Nat} {sc lc mc tm life tries x : Int32} {stations links messages copies : Nat → Int32} {first size : Int32} {events st : Nat → Int32} {heard : Nat → Int64}
theorem ex42 {k : Nat} (hN : 6000 ≤ N) (ht : t < 1000000) (hk : k < m) :
    ∀ (n s e : Nat) (messages copies : Nat → Int32) (first size : Int32) (events st : Nat → Int32), s ≤ a → a - s < n → rlA t a b m e tt τ sc lc mc tm life tries x stations links messages copies first size events st → gd_Z st → ev_H b heard st →
    ∃ st' e' messages' copies' first' size' events', lX7_expire_42 N (nI k) (1 : Int32) n (nI s) st = some st' ∧ lX2_expireCopies_33 sc tm (nI k) n (nI s) messages copies first size events = some (messages', copies', first', size', events') ∧ rlA t a b m e' tt τ sc lc mc tm life tries x stations links messages' copies' first' size' events' st' ∧ gd_Z st' ∧ ev_H b heard st' := by
  intro n
  induction n with
  | zero => intro s e messages copies first size events st _ h; omega
  | succ n ih =>
    intro s e messages copies first size events st hs hn h hZ eH
    obtain ⟨ha, hb, hm, he, htt⟩ := h.1.1.1
    have sce : sc = nI a := h.1.2.1.trans h.1.1.2.1
    rw [lX7_expire_42, lX2_expireCopies_33, g0, cl0, h.1.1.2.1, sce]
    rcases Nat.lt_or_ge s a with c | c
    · rw [if_neg (nI_ge c (by omega)), if_neg (nI_ge c (by omega)), if_neg (show ¬ (1 : Int32) = 0 by decide), show fX7_ofCopy st (nI k) (nI s) (0 : Int32) = some (qC st k s 0) from oC (q := 0) (by omega) (by omega) (by decide), rn_bs, wt2 h.2.2.2.2.1.2.1 (by omega) (by omega), rn_bs, ow_if]
      by_cases w : qC st k s 0 = 1
      · have hc := ((h.2.2.2.2.1.1 k s (by omega) (by omega)).resolve_left (fun q => by rw [q.1] at w; exact absurd w (by decide))).2.2
        obtain ⟨st', e', messages', copies', first', size', events', n1, n2, n3, n4, n5, -, -⟩ := en_eq (w := 4) (kd := 7) (o := -1) hN h hZ ht (by decide) hk c (Or.inl rfl) (by rw [w]; decide) (fun q => by have := hc.2.1.mpr q; rw [w] at this; exact absurd this (by decide)) (by decide) (by decide)
        rw [if_pos w, if_pos w, show fX7_endCopy N st (nI k) (nI s) (4 : Int32) (7 : Int32) (-1 : Int32) = _ from n1, show fX2_endCopy tm messages copies first size events (nI k) (nI s) (-1 : Int32) (4 : Int32) (7 : Int32) = _ from n2, rn_bs, rn_bs, nI_1]
        have := ih (s + 1) e' messages' copies' first' size' events' st' (by omega) (by omega) n3 n4 (evH_c hb ha h.2.2.1.1 (fun i q h1 h2 => n5.2.1 i q (by omega) (by omega)) (fun i q h1 h2 => n5.1 i q (by omega) (by omega)) eH)
        rw [sce] at this
        exact this
      · rw [if_neg w, if_neg w, nI_1]
        have := ih (s + 1) e messages copies first size events st (by omega) (by omega) h hZ eH
        rw [sce] at this
        exact this
    · have : s = a := by omega
      subst this
      rw [if_pos (nI_le (Nat.le_refl _) (by omega)), if_pos (nI_le (Nat.le_refl _) (by omega))]
      exact ⟨st, e, messages, copies, first, size, events, rfl, rfl, by rw [← sce]; exact h, hZ, eH⟩
theorem ex2 (hN : 6000 ≤ N) (ht : t < 1000000) :
    ∀ (n k e : Nat) (messages copies : Nat → Int32) (first size : Int32) (events st : Nat → Int32), k ≤ m → m - k < n → rlA t a b m e tt τ sc lc mc tm life tries x stations links messages copies first size events st → gd_Z st → ev_H b heard st →
    ∃ st' e' messages' copies' first' size' events', lX7_expire_2 N n (nI k) st = some st' ∧ lX2_expireCopies_2 N sc mc tm life n (nI k) messages copies first size events = some (messages', copies', first', size', events') ∧ rlA t a b m e' tt τ sc lc mc tm life tries x stations links messages' copies' first' size' events' st' ∧ gd_Z st' ∧ ev_H b heard st' := by
  intro n
  induction n with
  | zero => intro k e messages copies first size events st _ h; omega
  | succ n ih =>
    intro k e messages copies first size events st hk hn h hZ eH
    obtain ⟨ha, hb, hm, he, htt⟩ := h.1.1.1
    have mce : mc = nI m := h.1.2.2.2.1.trans h.1.1.2.2.2.1
    have tme : st 3 = tm := h.1.2.2.2.2.1.symm
    have lfe : st 4 = life := h.1.2.2.2.2.2.1.symm
    rw [lX7_expire_2, lX2_expireCopies_2, g2, cl2, h.1.1.2.2.2.1, mce, g3, cl3, cl4, tme, lfe]
    rcases Nat.lt_or_ge k m with c | c
    · rw [if_neg (nI_ge c (by omega)), if_neg (nI_ge c (by omega)), show fX7_ofMessage st (nI k) (3 : Int32) = some (qM st k 3) from oM (q := 3) (by omega) (by decide), rn_bs, g4, show fX4_get (24 : Int32) (12 : Int32) 288 messages (nI k) (3 : Int32) = some (qM st k 3) from (tM (q := 3) (by omega) (by decide)).trans (congrArg some (h.2.2.2.1.2 k 3 (by omega) (by decide))), rn_bs]
      by_cases w : tm - qM st k 3 < life
      · rw [if_pos w, if_pos w, rn_bs]
        have e42 : lX7_expire_42 N (nI k) (0 : Int32) N (0 : Int32) st = some st := by
          obtain ⟨N', rfl⟩ : ∃ N', N = N' + 1 := ⟨N - 1, by omega⟩
          rw [lX7_expire_42]
          rw [g0]
          split
          · rfl
          · rw [if_pos rfl]
        rw [e42, rn_bs, nI_1]
        have := ih (k + 1) e messages copies first size events st (by omega) (by omega) h hZ eH
        rw [mce] at this
        exact this
      · rw [if_neg w, if_neg w, rn_bs]
        obtain ⟨st', e', messages', copies', first', size', events', n1, n2, n3, n4, n5⟩ := ex42 hN ht c N 0 e messages copies first size events st (by omega) (by omega) h hZ eH
        rw [show lX7_expire_42 N (nI k) (1 : Int32) N (0 : Int32) st = _ from n1, show lX2_expireCopies_33 sc tm (nI k) N (0 : Int32) messages copies first size events = _ from n2, rn_bs, rn_bs, nI_1]
        have := ih (k + 1) e' messages' copies' first' size' events' st' (by omega) (by omega) n3 n4 n5
        rw [mce] at this
        exact this
    · have : k = m := by omega
      subst this
      rw [if_pos (nI_le (Nat.le_refl _) (by omega)), if_pos (nI_le (Nat.le_refl _) (by omega))]
      exact ⟨st, e, messages, copies, first, size, events, rfl, rfl, by rw [← mce]; exact h, hZ, eH⟩
theorem p_w {τ' : Nat} (hτ : τ ≤ τ') (h : rlA t a b m e tt τ sc lc mc tm life tries x stations links messages copies first size events st) : rlA t a b m e tt τ' sc lc mc tm life tries x stations links messages copies first size events st := by
  obtain ⟨n, S, L, M, ⟨C1, C2⟩, D, E⟩ := h
  refine ⟨n, S, L, M, ⟨fun k s hk hs => ?_, C2⟩, D, E⟩
  rcases C1 k s hk hs with r | ⟨r1, r2, r3, r4, ⟨v, v1, v2⟩, r6⟩
  · exact Or.inl r
  · exact Or.inr ⟨r1, r2, r3, r4, ⟨v, by omega, v2⟩, r6⟩
theorem p_t {t' : Nat} (htt : t ≤ t') (h : rlA t a b m e tt τ sc lc mc tm life tries x stations links messages copies first size events st) : rlA t' a b m e tt τ sc lc mc tm life tries x stations links messages copies first size events st := by
  obtain ⟨⟨⟨⟨n1, n2, n3, n4, n5⟩, n6⟩, n7⟩, h2⟩ := h
  exact ⟨⟨⟨⟨n1, n2, n3, n4, by omega⟩, n6⟩, n7⟩, h2⟩
theorem p_T (h : rlA t a b m e tt τ sc lc mc tm life tries x stations links messages copies first size events st) : rlA (t + 1) a b m e (tt + 1) τ sc lc mc (tm + 1) life tries x stations links messages copies first size events (upd st 3 (st 3 + 1)) := by
  obtain ⟨⟨n1, n2⟩, ⟨S1, S2⟩, ⟨L1, L2, L3⟩, ⟨M1, M2⟩, ⟨C1, C2, C3⟩, D, E1, E2⟩ := h
  obtain ⟨ha, hb, hm, he, htt⟩ := n1.1
  refine ⟨⟨?_, ?_⟩, ⟨gS_c (uSr (by omega)) S1, evS_c (uSr (by omega)) S2⟩, ⟨gL_c (uLr (by omega)) L1, gU_c hb (uLr (by omega)) L2, evL_c (uLr (by omega)) L3⟩, ⟨gM_c hm (uMr (by omega)) M1, evM_c (uMr (by omega)) M2⟩, ⟨gC_c (uCr (by omega)) (uMr (by omega)) C1, evC_c (uCr (by omega)) C2, evP_c (uCr (by omega)) C3⟩, evD_c hm (uCr (by omega)) (uMr (by omega)) D, gE_c he (uEr (by omega)) E1, evE_c he (uEr (by omega)) E2⟩
  · unfold gd_n at *
    rw [pk_un (by decide), pk_un (by decide), pk_un (by decide), pk_us, pk_un (by decide), pk_un (by decide), n1.2.2.2.2.1]
    exact ⟨⟨ha, hb, hm, he, by omega⟩, n1.2.1, n1.2.2.1, n1.2.2.2.1, nI_1 tt, n1.2.2.2.2.2.1, n1.2.2.2.2.2.2⟩
  · unfold ev_n at *
    rw [pk_un (by decide), pk_un (by decide), pk_un (by decide), pk_us, pk_un (by decide), pk_un (by decide), pk_un (by decide), pk_un (by decide), n2.2.2.2.1]
    exact ⟨n2.1, n2.2.1, n2.2.2.1, rfl, n2.2.2.2.2⟩
theorem ph_eq (hN : 6000 ≤ N) (ht : t + 1 < 1000000) (h : rl_net t sc lc mc tm life tries x stations links messages copies first size events heard st) (ar fe nx c7 : Int32) (F A K I T D : Nat → Int32) :
    ∃ st' tm' x' stations' links' messages' copies' first' size' events' y z w, fX7_passHour N c7 st A K I T D = some (y, st', z) ∧ fX2_passHour N sc lc mc tm life tries x stations links messages copies first size events ar fe nx heard F = some (tm', x', stations', links', messages', copies', first', size', events', w) ∧ rl_net (t + 1) sc lc mc tm' life tries x' stations' links' messages' copies' first' size' events' heard st' := by
  obtain ⟨a, b, m, e, tt, h0, eH⟩ := h
  obtain ⟨hA, hZ⟩ := rlA_iff.mp h0
  obtain ⟨ha, hb, hm, he, htt⟩ := hA.1.1.1
  obtain ⟨st1, e1, messages1, copies1, first1, size1, events1, w1, w2, w3, w4, w5⟩ := ex2 (τ := tt + 2) hN (show t < 1000000 by omega) N 0 e messages copies first size events st (by omega) (by omega) (p_w (by omega) hA) hZ eH
  obtain ⟨st2, e2, x2, stations2, links2, messages2, copies2, first2, size2, events2, y, z, v1, ⟨ar', fe', nx', F', v2⟩, v3, v4, v5⟩ := ps_eq hN (show t < 1000000 by omega) (show tt + 1 < tt + 2 by omega) N 0 e1 x stations links messages1 copies1 first1 size1 events1 st1 ar fe nx c7 F A K I T D (by omega) (by omega) w3 w4 w5
  refine ⟨upd st2 3 (st2 3 + 1), tm + 1, x2, stations2, links2, messages2, copies2, first2, size2, events2, y, z, (ar', fe', nx', F'), ?_, ?_, a, b, m, e2, tt + 1, rlA_iff.mpr ⟨p_T v3, ?_⟩, ?_⟩
  · unfold fX7_passHour fX7_expire
    rw [show lX7_expire_2 N N (0 : Int32) st = _ from w1, rn_bs, rn_bs, show lX7_passHour_6 N N (0 : Int32) c7 st1 A K I T D = _ from v1, rn_bs, g3, g3, rn_lt, cl3]
  · unfold fX2_passHour fX2_expireCopies
    rw [show lX2_expireCopies_2 N sc mc tm life N (0 : Int32) messages copies first size events = _ from w2, rn_bs, rn_bs, show lX2_passHour_6 N sc lc mc tm tries heard N (0 : Int32) x stations links messages1 copies1 first1 size1 events1 ar fe nx F = _ from v2, rn_bs]
  · refine gZ_g (st := st2) (fun i hi => pk_un (by omega)) (fun i hi => pk_un (by omega)) (fun j hj => pk_un (by omega)) (fun k' hk' => ?_) v4
    have e0 : ∀ s', s' < 8 → qC (upd st2 3 (st2 3 + 1)) k' s' 0 = qC st2 k' s' 0 := fun s' hs' => pk_un (by omega)
    exact ⟨fun ⟨s', a1, a2⟩ => ⟨s', a1, by rw [e0 s' a1] at a2; exact a2⟩, fun ⟨s', a1, a2⟩ => ⟨s', a1, by rw [e0 s' a1]; exact a2⟩⟩
  · exact evH_c (st := st2) hb ha v3.2.2.1.1 (fun i q h1 h2 => pk_un (by omega)) (fun i q h1 h2 => pk_un (by omega)) v5
/-- the number of messages that are delivered -/
theorem dl_sum (hN : 6000 ≤ N) (hA : rlA t a b m e tt τ sc lc mc tm life tries x stations links messages copies first size events st) (hZ : gd_Z st) : sm (fun k => ow (q_st st a k = 1)) 0 m = sm (fun i => qS st i 6) 0 a := by
  obtain ⟨ha, hb, hm, he, htt⟩ := hA.1.1.1
  have e1 : isum (fun i => qS st i 6) 8 = sm (fun i => qS st i 6) 0 a := by rw [sm_isum, smS hA.2.1.1 ha (by decide)]
  have e2 : isum (fun k => if q_dl st k = true then (1 : Int32) else 0) 24 = sm (fun k => ow (q_st st a k = 1)) 0 m := by
    rw [sm_isum]
    have h := sm_app (fun k => if q_dl st k = true then (1 : Int32) else 0) m 0 (24 - m)
    rw [show m + (24 - m) = 24 by omega] at h
    rw [h, sm_0 (k := 0 + m) (c := 24 - m) (fun k h1 h2 => ?_), Int32.add_zero]
    · refine sm_congr m 0 (fun k _ hk => ?_)
      obtain ⟨-, ⟨g, hg, eg⟩, -⟩ := hA.2.2.2.1.1 k (by omega)
      have q1 := q_st1 hA.2.2.2.2.1.1 ha (show k < 24 by omega) hg eg
      have q2 : q_dl st k = true ↔ q_st st a k = 1 := by
        rw [dl_iff, q1]
        constructor
        · rintro ⟨s, s1, s2⟩
          have := dl_goal hA.2.2.2.2.1.1 (show k < 24 by omega) (show g < 8 by omega) eg s s1 s2
          subst this
          exact s2
        · intro q
          exact ⟨g, by omega, q⟩
      show (if q_dl st k = true then (1 : Int32) else 0) = ow (q_st st a k = 1)
      unfold ow
      by_cases c : q_st st a k = 1
      · rw [if_pos c, if_pos (q2.mpr c)]
      · rw [if_neg c, if_neg (fun q => c (q2.mp q))]
    · refine if_neg (fun q => ?_)
      obtain ⟨s, s1, s2⟩ := dl_iff.mp q
      rcases hA.2.2.2.2.1.1 k s (by omega) s1 with r | r
      · rw [r.1] at s2
        exact absurd s2 (by decide)
      · omega
  rw [← e2, ← hZ.2, e1]
end PY
