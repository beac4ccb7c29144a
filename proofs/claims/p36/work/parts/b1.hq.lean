/-! an hour of the law: true -/
section B1
variable {N t a b m e tt : Nat} {sc lc mc tm life tries x : Int32} {stations links messages copies : Nat → Int32} {first size : Int32} {events st : Nat → Int32} {heard : Nat → Int64}
def zf : Nat → Int32 := fun _ => 0
theorem mq (hN : 6000 ≤ N) (ht : t ≤ 100000) (h0 : rl0 t a b m e tt (tt + 1) sc lc mc tm life tries x stations links messages copies first size events st) (eH : ev_H b heard st) : fX2_messagesInState N sc mc messages copies (1 : Int32) = some (isum (fun i => qS st i 6) 8) ∧ fX7_sumOfStations N st (6 : Int32) = some (isum (fun i => qS st i 6) 8) ∧ sm (fun k => ow (q_st st a k = 1)) 0 m = isum (fun i => qS st i 6) 8 := by
  have h : rl_net t sc lc mc tm life tries x stations links messages copies first size events heard st := ⟨a, b, m, e, tt, h0, eH⟩
  obtain ⟨⟨ha, hb, hm, he, htt⟩, z0, z1, z2, z3, z7, z6⟩ := h0.1.1
  obtain ⟨v, v1, v2, v3⟩ := ms_eq hN (show t + 1 < 1000000 by omega) h
  have e6 : fX7_sumOfStations N st (6 : Int32) = some (isum (fun i => qS st i 6) 8) := by
    rw [show fX7_sumOfStations N st (6 : Int32) = _ from ss7 (q := 6) hN z0 ha (by decide), sm_isum, smS h0.1.2.1 ha (by decide)]
  have ev : v = isum (fun i => qS st i 6) 8 := Option.some.inj (v3.symm.trans e6)
  subst ev
  refine ⟨v1, e6, ?_⟩
  rw [mi7 hN z0 z2 ha hm] at v2
  exact Option.some.inj v2
theorem k8_ (hN : 6000 ≤ N) (ht : t ≤ 90000) (h0 : rl0 t a b m e tt (tt + 1) sc lc mc tm life tries x stations links messages copies first size events st) (eH : ev_H b heard st) : fL_count N sc lc mc tm life tries x stations links messages copies size (8 : Int32) = some (0, isum (fun i => qS st i 6) 8) := by
  have h : rl_net t sc lc mc tm life tries x stations links messages copies first size events heard st := ⟨a, b, m, e, tt, h0, eH⟩
  obtain ⟨⟨ha, hb, hm, he, htt⟩, z0, z1, z2, z3, z7, z6⟩ := h0.1.1
  rw [rd_count hN ht h (c7_8 hN z0 z2 ha hm), (mq hN (by omega) h0 eH).2.2]
/-- one hour by run -/
theorem run_1 {c0 : Nat} (hN : 6000 ≤ N) (ht : t ≤ 90000) (h0 : rl0 t a b m e tt (tt + 1) sc lc mc tm life tries x stations links messages copies first size events st) (eH : ev_H b heard st) (X : xI a b m tt c0 st) (ar fe nx : Int32) (F : Nat → Int32) :
    ∃ (st' : Nat → Int32) (tm' x' : Int32) (stations' links' messages' copies' : Nat → Int32) (first' size' : Int32) (events' : Nat → Int32) (ar' fe' nx' : Int32) (F' : Nat → Int32) (f g : Nat) (y : Int32) (z : _),
      fX7_passHour N 0 st zf zf zf zf zf = some (y, st', z) ∧ fL_run N sc lc mc tm life tries x stations links messages copies first size events ar fe nx heard F (1 : Int32) = some (0, nI g, tm', x', stations', links', messages', copies', first', size', events', ar', fe', nx', F') ∧ (∃ e', rl0 (t + 1) a b m e' (tt + 1) (tt + 1 + 1) sc lc mc tm' life tries x' stations' links' messages' copies' first' size' events' st') ∧ ev_H b heard st' ∧ xI a b m (tt + 1) (c0 + 72) st' ∧ stt st st' ∧ (∀ i, i < 8 → ∃ d, qS st' i 3 = qS st i 3 + nI d ∧ ∀ r, r ≤ 9 → qS st i 2 = nI r → d ≤ r) ∧ (f ≤ 72 ∧ g ≤ f) ∧ (∀ lo, st 7 = nI lo → lo ≤ 40 → LG lo tt f g st') ∧ isum (fun i => qS st' i 3) 8 = isum (fun i => qS st i 3) 8 + nI f ∧ isum (fun i => qS st' i 6) 8 = isum (fun i => qS st i 6) 8 + nI g := by
  obtain ⟨ha, hb, hm, he, htt⟩ := h0.1.1.1
  obtain ⟨st', tm', x', stations', links', messages', copies', first', size', events', y, z, ⟨ar', fe', nx', F'⟩, p1, p2, p3, p4, p5, s1, s2, f, g, s3, s4, s5, s6⟩ := hr_x hN (by omega) h0 eH X ar fe nx 0 F zf zf zf zf zf
  refine ⟨st', tm', x', stations', links', messages', copies', first', size', events', ar', fe', nx', F', f, g, y, z, p1, ?_, p3, p4, p5, s1, s2, s3, s4, s5, s6⟩
  obtain ⟨e', h1⟩ := p3
  have lp : ∀ n, 2 ≤ n → lX6_run_28 N sc lc mc life tries heard (1 : Int32) n (0 : Int32) tm x stations links messages copies first size events ar fe nx F = some (tm', x', stations', links', messages', copies', first', size', events', ar', fe', nx', F') := fun n hn => by
    obtain ⟨n', rfl⟩ : ∃ n', n = n' + 1 + 1 := ⟨n - 2, by omega⟩
    rw [lX6_run_28, if_neg (by decide), p2, rn_bs, lX6_run_28, if_pos (by decide)]
  unfold fL_run fX6_run
  rw [show fX6_isHours (1 : Int32) = some 1 by decide, rn_bs, if_neg n10, (mq hN (by omega) h0 eH).1, rn_bs, lp N (by omega), rn_bs]
  dsimp only
  rw [(mq hN (by omega) h1 p4).1, rn_bs, rn_bs, s6, sub_l]
  exact if_pos rfl
theorem hour_ok {c0 : Nat} (hN : 6000 ≤ N) (ht : t + 1 ≤ 90000) (h0 : rl0 t a b m e tt (tt + 1) sc lc mc tm life tries x stations links messages copies first size events st) (eH : ev_H b heard st) (X : xI a b m tt c0 st) (ar fe nx : Int32) (F B : Nat → Int32) :
    ∃ (st' : Nat → Int32) (tm' x' : Int32) (stations' links' messages' copies' : Nat → Int32) (first' size' : Int32) (events' : Nat → Int32) (ar' fe' nx' : Int32) (F' B' : Nat → Int32),
      fL_hour N sc lc mc tm life tries x stations links messages copies first size events ar fe nx heard F B = some (tm', x', stations', links', messages', copies', first', size', events', ar', fe', nx', F', B') ∧ (∃ e', rl0 (t + 1) a b m e' (tt + 1) (tt + 1 + 1) sc lc mc tm' life tries x' stations' links' messages' copies' first' size' events' st') ∧ ev_H b heard st' ∧ xI a b m (tt + 1) (c0 + 72) st' := by
  have h : rl_net t sc lc mc tm life tries x stations links messages copies first size events heard st := ⟨a, b, m, e, tt, h0, eH⟩
  obtain ⟨⟨ha, hb, hm, he, htt⟩, z0, z1, z2, z3, z7, z6⟩ := h0.1.1
  have gS : gd_S a st := h0.1.2.1
  have k0 : fL_count N sc lc mc tm life tries x stations links messages copies size (0 : Int32) = some (0, nI a) := by rw [rd_count hN (by omega) h c7_0, z0]
  have k3 : fL_count N sc lc mc tm life tries x stations links messages copies size (3 : Int32) = some (0, nI tt) := by rw [rd_count hN (by omega) h c7_3, z3]
  have k13 : fL_count N sc lc mc tm life tries x stations links messages copies size (13 : Int32) = some (0, nI e) := by rw [rd_count hN (by omega) h c7_13, z7]
  have k11 := rd_count hN (by omega) h (c7_11 hN z0 ha gS)
  obtain ⟨ar1, fe1, nx1, F1, B1, q53, qB⟩ := l53 (t1 := (0, nI a)) hN (by omega) h0 eH rfl N 0 ar fe nx F B (by omega) (by omega) (fun i hi => by omega)
  obtain ⟨st', tm', x', stations', links', messages', copies', first', size', events', ar', fe', nx', F', f, g, y, z, -, r1, ⟨e', h1⟩, eH', X', s1, s2, ⟨s3, s3'⟩, s4, s5, s6⟩ := run_1 hN (by omega) h0 eH X ar1 fe1 nx1 F1
  have h' : rl_net (t + 1) sc lc mc tm' life tries x' stations' links' messages' copies' first' size' events' heard st' := ⟨a, b, m, e', tt + 1, h1, eH'⟩
  obtain ⟨⟨-, -, -, he', -⟩, z0', z1', z2', z3', z7', z6'⟩ := h1.1.1
  have k3' : fL_count N sc lc mc tm' life tries x' stations' links' messages' copies' size' (3 : Int32) = some (0, nI (tt + 1)) := by rw [rd_count hN ht h' c7_3, z3']
  have k13' : fL_count N sc lc mc tm' life tries x' stations' links' messages' copies' size' (13 : Int32) = some (0, nI e') := by rw [rd_count hN ht h' c7_13, z7']
  have k11' := rd_count hN ht h' (c7_11 hN z0' ha h1.1.2.1)
  obtain ⟨e2, T, K, g1, g2, g3, g4, g5⟩ := s4 e z7 he
  have ee : e2 = e' := (nI_eq (by omega) (by omega)).mp (g1.symm.trans z7')
  subst ee
  have q191 := l191 (st0 := st) (t1 := (0, nI a)) (t11 := (ar1, fe1, nx1, F1, B1)) (t28 := (0, nI g, tm', x', stations', links', messages', copies', first', size', events', ar', fe', nx', F')) hN ht h1 eH' rfl rfl rfl rfl rfl qB (fun i hi => by
    obtain ⟨d, d1, d2⟩ := s2 i hi
    exact ⟨d, d1, fun r hr q => d2 r hr ((s1.1 i 2 hi (by decide)).symm.trans q)⟩) N 0 (by omega) (by omega)
  have q264 := l264 (T := T) (K := K) (τ := tt) (t3 := (0, nI tt)) (t45 := (0, nI e2)) (t28 := (0, nI g, tm', x', stations', links', messages', copies', first', size', events', ar', fe', nx', F')) ht h' z7' he' (by omega) rfl rfl rfl rfl rfl g3 g4 N 0 (by omega) (by omega)
  have E0 : ∀ j, j < e2 → fL_event first' size' events' (nI j) (0 : Int32) = some (0, nI (T j)) := fun j hj => by
    rw [← (g3 j hj).1]
    exact rd_event ht h' (e7_q (q := 0) z7' he' hj (by decide))
  unfold fL_hour
  rw [bz k0, bz k3, bz k13, bz (k8_ hN (by omega) h0 eH), bz k11, show lL_hour_53 N sc lc mc tm stations links messages copies heard (0, nI a) N (0 : Int32) ar fe nx F B = _ from q53, rn_bs]
  dsimp only
  rw [bz r1]
  dsimp only
  rw [bz k3']
  dsimp only
  rw [if_pos (nI_1 tt).symm, bz (k8_ hN ht h1 eH')]
  dsimp only
  rw [if_pos s6, if_pos (show (0 : Int32) ≤ nI g from nI_le (a := 0) (Nat.zero_le _) (by omega)), show lL_hour_191 N sc lc mc (0, nI a) (ar1, fe1, nx1, F1, B1) (0, nI g, tm', x', stations', links', messages', copies', first', size', events', ar', fe', nx', F') N (0 : Int32) = _ from q191, rn_bs, bz k13']
  dsimp only
  rw [if_pos (nI_le (show e ≤ e2 by omega) (by omega)), show lL_hour_264 (0, nI tt) (0, nI g, tm', x', stations', links', messages', copies', first', size', events', ar', fe', nx', F') (0, nI e2) N (0 : Int32) (0 : Int32) (0 : Int32) = _ from q264, rn_bs]
  dsimp only
  have fin : (e2 = 40 ∧ T 0 = tt) ∨ (nI (cn (fun j => decide (T j = tt) && fkd (K j)) e2) = isum (fun i => qS st' i 3) 8 - isum (fun i => qS st i 3) 8 ∧ nI (cn (fun j => decide (T j = tt) && dkd (K j)) e2) = nI g) := by
    rcases g5 with q | ⟨q1, q2⟩
    · exact Or.inl q
    · right
      rw [q1, q2, s5, sub_l]
      exact ⟨rfl, rfl⟩
  by_cases c : e2 = 40
  · rw [if_pos (show nI e2 = (40 : Int32) by rw [c]; rfl), show fL_event first' size' events' (0 : Int32) (0 : Int32) = _ from E0 0 (by omega)]
    rw [bz rfl]
    dsimp only
    by_cases d : T 0 = tt
    · rw [if_pos (show nI (T 0) = nI tt by rw [d])]
      exact ⟨st', _, _, _, _, _, _, _, _, _, _, _, _, _, _, rfl, ⟨e2, h1⟩, eH', X'⟩
    · have fin := fin.resolve_left (fun q => d q.2)
      have tb := (g3 0 (by omega)).2.1
      rw [if_neg (show ¬ nI (T 0) = nI tt from fun q => d ((nI_eq (by omega) (by omega)).mp q)), bz k11']
      dsimp only
      rw [if_pos fin.1, if_pos fin.2]
      exact ⟨st', _, _, _, _, _, _, _, _, _, _, _, _, _, _, rfl, ⟨e2, h1⟩, eH', X'⟩
  · have fin := fin.resolve_left (fun q => c q.1)
    rw [if_neg (show ¬ nI e2 = (40 : Int32) from fun q => c ((nI_eq (b := 40) (by omega) (by decide)).mp q)), bz k11']
    dsimp only
    rw [if_pos fin.1, if_pos fin.2]
    exact ⟨st', _, _, _, _, _, _, _, _, _, _, _, _, _, _, rfl, ⟨e2, h1⟩, eH', X'⟩
end B1
