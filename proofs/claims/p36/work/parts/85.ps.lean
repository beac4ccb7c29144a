/-! a frame that is sent, on both sides -/
section PT
variable {N t a b m e tt τ : Nat} {sc lc mc tm life tries x : Int32} {stations links messages copies : Nat → Int32} {first size : Int32} {events st : Nat → Int32}
theorem kp_cs {k : Nat} {st st' : Nat → Int32} (h : ∀ p, (p < 8 + 7 * 8 ∧ 8 ≤ p ∧ 3 ≤ (p - 8) % 7) ∨ (64 ≤ p ∧ p < 192 ∧ 5 ≤ (p - 64) % 8) ∨ (192 ≤ p ∧ p < 384 ∧ 4 ≤ (p - 192) % 8) ∨ p = 6 ∨ st' p = st p) : kp k st st' := by
  refine ⟨fun i q h1 h2 => ?_, fun i q h1 h2 => ?_, fun i q h1 h2 => ?_, fun j h1 => ?_, fun k' s q h1 h2 h3 _ => ?_⟩
  · rcases h (8 + 7 * i + q) with r | r | r | r | r
    · omega
    · omega
    · omega
    · omega
    · exact r
  · rcases h (64 + 8 * i + q) with r | r | r | r | r
    · omega
    · omega
    · omega
    · omega
    · exact r
  · rcases h (192 + 8 * i + q) with r | r | r | r | r
    · omega
    · omega
    · omega
    · omega
    · exact r
  · rcases h j with r | r | r | r | r
    · omega
    · omega
    · omega
    · omega
    · exact r
  · rcases h (384 + 12 * (8 * k' + s) + q) with r | r | r | r | r
    · omega
    · omega
    · omega
    · omega
    · exact r
theorem sf_eq {k s u : Nat} (hN : 6000 ≤ N) (h : rlA t a b m e tt τ sc lc mc tm life tries x stations links messages copies first size events st) (hZ : gd_Z st) (ht : t < 1000000) (hτ : tt + 1 < τ) (hk : k < m) (hs : s < a) (hu : u < a) (h0 : ¬ qC st k s 0 = 0) (hg : ¬ qM st k 1 = nI s) (hnp : ∀ i L, qC st k s 3 = nI L → L ≤ 8 → i < L → ¬ qC st k s (4 + i) = nI u) (hl : ∃ i, i < b ∧ ((qL st i 0 = nI s ∧ qL st i 1 = nI u) ∨ (qL st i 0 = nI u ∧ qL st i 1 = nI s))) :
    ∃ st' e' x' stations' links' messages' copies' first' size' events', fX7_sendFrame N st (nI k) (nI s) (nI u) = some st' ∧ fX2_sendFrame N lc tm tries x stations links messages copies first size events (nI k) (nI s) (nI u) = some (x', stations', links', messages', copies', first', size', events') ∧ rlA t a b m e' tt τ sc lc mc tm life tries x' stations' links' messages' copies' first' size' events' st' ∧ gd_Z st' ∧ kp k st st' := by
  obtain ⟨ha, hb, hm, he, htt⟩ := h.1.1.1
  have lce : lc = nI b := h.1.2.2.1.trans h.1.1.2.2.1
  obtain ⟨l, l1, l2, l3⟩ : ∃ l, l < b ∧ ((qL st l 0 = nI s ∧ qL st l 1 = nI u) ∨ (qL st l 0 = nI u ∧ qL st l 1 = nI s)) ∧ q_lk st b (nI s) (nI u) = nI l := by
    rcases q_lk_s (b := b) (st := st) (x := nI s) (y := nI u) with ⟨-, q⟩ | q
    · obtain ⟨i, i1, i2⟩ := hl
      exact absurd i2 (q i i1)
    · exact q
  have hsu : ¬ s = u := fun q => by
    subst q
    have g := ((h.2.2.1.1 l (by omega)).1 l1).2.2.1
    rcases l2 with r | r <;> exact g (r.1.trans r.2.symm)
  have lk7' := lk7 (x := nI s) (y := nI u) hN h.1.1.2.2.1 hb
  have lk2' := lk2 (x := nI s) (y := nI u) hN h.2.2.1.2.2 hb
  rw [l3] at lk7' lk2'
  have ql : links (9 * l + 4) = qL st l 4 := h.2.2.1.2.2 l 4 (by omega) (by decide)
  obtain ⟨A1, A2, A3⟩ := pS_a (q := 3) h hs (by decide) (by decide)
  obtain ⟨B1, B2, B3⟩ := pM_a (i := k) (q := 4) A3 (by omega) (by decide) (by decide)
  obtain ⟨D1, D2, D3⟩ := pL_a (q := 5) B3 l1 (by decide) (by decide)
  -- the state when the frame is counted
  obtain ⟨s1, hs1⟩ : ∃ s1, s1 = upd (upd (upd st (8 + 7 * s + 3) (st (8 + 7 * s + 3) + 1)) (192 + 8 * k + 4) ((upd st (8 + 7 * s + 3) (st (8 + 7 * s + 3) + 1)) (192 + 8 * k + 4) + 1)) (64 + 8 * l + 5) ((upd (upd st (8 + 7 * s + 3) (st (8 + 7 * s + 3) + 1)) (192 + 8 * k + 4) ((upd st (8 + 7 * s + 3) (st (8 + 7 * s + 3) + 1)) (192 + 8 * k + 4) + 1)) (64 + 8 * l + 5) + 1) := ⟨_, rfl⟩
  rw [← hs1] at D2 D3
  have un : ∀ p, ¬ p = 8 + 7 * s + 3 → ¬ p = 192 + 8 * k + 4 → ¬ p = 64 + 8 * l + 5 → s1 p = st p := fun p a1 a2 a3 => by rw [hs1, pk_un a3, pk_un a2, pk_un a1]
  have Z1 : gd_Z s1 := by
    refine gZ_s1 (s := s) (l := l) (by omega) (by omega) (fun i hi hne => un _ (by omega) (by omega) (by omega)) ?_ (fun j hj hne => un _ (by omega) (by omega) (by omega)) ?_ (fun i hi => un _ (by omega) (by omega) (by omega)) (fun k' s' q a1 a2 a3 => un _ (by omega) (by omega) (by omega)) hZ
    · unfold qS
      rw [hs1, pk_un (by omega), pk_un (by omega), pk_us]
    · unfold qL
      rw [hs1, pk_us, pk_un (by omega), pk_un (by omega)]
  obtain ⟨d, w, r1, r2, r3, r4⟩ := dr_eq D3 Z1
  have un2 : ∀ p, ¬ p = 8 + 7 * s + 3 → ¬ p = 192 + 8 * k + 4 → ¬ p = 64 + 8 * l + 5 → ¬ p = 6 → upd s1 6 (nI w) p = st p := fun p a1 a2 a3 a4 => by rw [pk_un a4, un p a1 a2 a3]
  have K1 : kp k st (upd s1 6 (nI w)) := kp_cs (fun p => by
    by_cases c : ¬ p = 8 + 7 * s + 3 ∧ ¬ p = 192 + 8 * k + 4 ∧ ¬ p = 64 + 8 * l + 5 ∧ ¬ p = 6
    · exact Or.inr (Or.inr (Or.inr (Or.inr (un2 p c.1 c.2.1 c.2.2.1 c.2.2.2))))
    · omega)
  have cc : ∀ k' s' q, k' < 24 → s' < 8 → q < 12 → qC (upd s1 6 (nI w)) k' s' q = qC st k' s' q := fun k' s' q a1 a2 a3 => un2 _ (by omega) (by omega) (by omega) (by omega)
  have mm : qM (upd s1 6 (nI w)) k 1 = qM st k 1 := un2 _ (by omega) (by omega) (by omega) (by omega)
  have h0' : ¬ qC (upd s1 6 (nI w)) k s 0 = 0 := by rw [cc k s 0 (by omega) (by omega) (by decide)]; exact h0
  have hg' : ¬ qM (upd s1 6 (nI w)) k 1 = nI s := by rw [mm]; exact hg
  have hnp' : ∀ i L, qC (upd s1 6 (nI w)) k s 3 = nI L → L ≤ 8 → i < L → ¬ qC (upd s1 6 (nI w)) k s (4 + i) = nI u := fun i L a1 a2 a3 => by
    rw [cc k s 3 (by omega) (by omega) (by decide)] at a1
    rw [cc k s (4 + i) (by omega) (by omega) (by omega)]
    exact hnp i L a1 a2 a3
  have ou : nI u = -1 ∨ rg (nI u) 8 := Or.inr ⟨u, by omega, rfl⟩
  have q4 : fX7_ofLink (upd s1 6 (nI w)) (nI l) (4 : Int32) = some (qL st l 4) := (oL (q := 4) (by omega) (by decide)).trans (congrArg some (un2 _ (by omega) (by omega) (by omega) (by omega)))
  have mh : ∀ o, (if d < qL st l 4 then (fX7_get N (upd s1 6 (nI w)) (nI k) (nI s) (nI u)).bind fun t8 => (fX7_draw t8).bind fun t9 => (fX7_ofLink t9.2 (nI l) (4 : Int32)).bind fun t10 => if t10 ≤ t9.1 then (fX7_add t9.2 (((64 : Int32) + ((8 : Int32) * nI l)) + (7 : Int32))).bind fun t12 => (fX7_note N t12 (3 : Int32) (nI k) (nI s) (nI u)).bind fun t13 => (fX7_tryAgain N t13 (nI k) (nI s) (nI u)).bind fun t14 => some t14 else (fX7_copyPlace (nI k) (nI s)).bind fun t15 => rn_g (t15 + (0 : Int32)) 2888 <| rn_let (upd t9.2 (t15 + (0 : Int32)).toNatClampNeg (2 : Int32)) fun w17 => (fX7_note N w17 (1 : Int32) (nI k) (nI s) (nI u)).bind fun t18 => some t18 else (fX7_add (upd s1 6 (nI w)) (((64 : Int32) + ((8 : Int32) * nI l)) + (6 : Int32))).bind fun t19 => (fX7_note N t19 (2 : Int32) (nI k) (nI s) (nI u)).bind fun t20 => (fX7_tryAgain N t20 (nI k) (nI s) (nI u)).bind fun t21 => some t21) = some o → fX7_sendFrame N st (nI k) (nI s) (nI u) = some o := fun o ho => by
    unfold fX7_sendFrame
    rw [lk7', rn_bs, show fX7_add st (((8 : Int32) + ((7 : Int32) * nI s)) + (3 : Int32)) = _ from A2, rn_bs, show fX7_add _ (((192 : Int32) + ((8 : Int32) * nI k)) + (4 : Int32)) = _ from B2, rn_bs, show fX7_add _ (((64 : Int32) + ((8 : Int32) * nI l)) + (5 : Int32)) = _ from D2, rn_bs, r1, rn_bs, q4, rn_bs]
    exact ho
  have ch : ∀ o, (if d < qL st l 4 then (fX2_takeFrame tm (upd stations (10 * s + sC 3) (st (8 + 7 * s + 3) + 1)) (upd messages (12 * k + mC 4) ((upd st (8 + 7 * s + 3) (st (8 + 7 * s + 3) + 1)) (192 + 8 * k + 4) + 1)) copies first size events (nI k) (nI s) (nI u)).bind fun t8 => (fX2_draw (nI w)).bind fun t9 => if t9.1 < qL st l 4 then (fX2_copyRow (nI k) (nI s)).bind fun t11 => (fX4_set (192 : Int32) (5 : Int32) 960 t8.2.2.1 t11 (0 : Int32) (2 : Int32)).bind fun t12 => (fX0_add t8.2.2.2.1 t8.2.2.2.2.1 t8.2.2.2.2.2 tm (1 : Int32) (nI k) (nI s) (nI u)).bind fun t13 => some (t9.2, t8.1, upd links (9 * l + lC 5) ((upd (upd st (8 + 7 * s + 3) (st (8 + 7 * s + 3) + 1)) (192 + 8 * k + 4) ((upd st (8 + 7 * s + 3) (st (8 + 7 * s + 3) + 1)) (192 + 8 * k + 4) + 1)) (64 + 8 * l + 5) + 1), t8.2.1, t12, t13.1, t13.2.1, t13.2.2) else (fX4_add (16 : Int32) (9 : Int32) 144 (upd links (9 * l + lC 5) ((upd (upd st (8 + 7 * s + 3) (st (8 + 7 * s + 3) + 1)) (192 + 8 * k + 4) ((upd st (8 + 7 * s + 3) (st (8 + 7 * s + 3) + 1)) (192 + 8 * k + 4) + 1)) (64 + 8 * l + 5) + 1)) (nI l) (8 : Int32) (1 : Int32)).bind fun t14 => (fX0_add t8.2.2.2.1 t8.2.2.2.2.1 t8.2.2.2.2.2 tm (3 : Int32) (nI k) (nI s) (nI u)).bind fun t15 => (fX2_addTry tm tries t8.2.1 t8.2.2.1 t15.1 t15.2.1 t15.2.2 (nI k) (nI s) (nI u)).bind fun t16 => some (t9.2, t8.1, t14, t16.1, t16.2.1, t16.2.2.1, t16.2.2.2.1, t16.2.2.2.2) else (fX4_add (16 : Int32) (9 : Int32) 144 (upd links (9 * l + lC 5) ((upd (upd st (8 + 7 * s + 3) (st (8 + 7 * s + 3) + 1)) (192 + 8 * k + 4) ((upd st (8 + 7 * s + 3) (st (8 + 7 * s + 3) + 1)) (192 + 8 * k + 4) + 1)) (64 + 8 * l + 5) + 1)) (nI l) (7 : Int32) (1 : Int32)).bind fun t17 => (fX0_add first size events tm (2 : Int32) (nI k) (nI s) (nI u)).bind fun t18 => (fX2_addTry tm tries (upd messages (12 * k + mC 4) ((upd st (8 + 7 * s + 3) (st (8 + 7 * s + 3) + 1)) (192 + 8 * k + 4) + 1)) copies t18.1 t18.2.1 t18.2.2 (nI k) (nI s) (nI u)).bind fun t19 => some (nI w, upd stations (10 * s + sC 3) (st (8 + 7 * s + 3) + 1), t17, t19.1, t19.2.1, t19.2.2.1, t19.2.2.2.1, t19.2.2.2.2)) = some o → fX2_sendFrame N lc tm tries x stations links messages copies first size events (nI k) (nI s) (nI u) = some o := fun o ho => by
    unfold fX2_sendFrame
    rw [lce, lk2', rn_bs, show fX4_get (16 : Int32) (9 : Int32) 144 links (nI l) (4 : Int32) = some (qL st l 4) from (tL (q := 4) (by omega) (by decide)).trans (congrArg some ql), rn_bs, show fX4_add (8 : Int32) (10 : Int32) 80 stations (nI s) (5 : Int32) (1 : Int32) = _ from A1, rn_bs, show fX4_add (16 : Int32) (9 : Int32) 144 links (nI l) (6 : Int32) (1 : Int32) = _ from D1, rn_bs, show fX4_add (24 : Int32) (12 : Int32) 288 messages (nI k) (7 : Int32) (1 : Int32) = _ from B1, rn_bs, r2, rn_bs]
    exact ho
  by_cases c : d < qL st l 4
  · simp only [if_pos c] at mh ch
    obtain ⟨s2, e2, stations2, messages2, copies2, first2, size2, events2, g1, g2, g3, g4, g5, g6⟩ := gt_eq hN r3 r4 ht hτ hk hs hu hsu h0' hnp'
    obtain ⟨d', w', v1, v2, v3, v4⟩ := dr_eq g3 g4
    have K2 : kp k st (upd s2 6 (nI w')) := kp_t (kp_t K1 g5) kp_6
    have q4' : fX7_ofLink (upd s2 6 (nI w')) (nI l) (4 : Int32) = some (qL st l 4) := (oL (q := 4) (by omega) (by decide)).trans (congrArg some (K2.2.1 l 4 (by omega) (by decide)))
    have h02 : ¬ qC (upd s2 6 (nI w')) k s 0 = 0 := by
      rw [show qC (upd s2 6 (nI w')) k s 0 = qC s2 k s 0 from pk_un (by omega), g6 0 (by decide)]
      exact h0'
    have hg2 : ¬ qM (upd s2 6 (nI w')) k 1 = nI s := by
      rw [K2.2.2.1 k 1 (by omega) (by decide)]
      exact hg
    by_cases c2 : d' < qL st l 4
    · have P := p_C (w := 2) v3 hk hs h02 hg2 (by decide) (by decide)
      have KP : kp k (upd s2 6 (nI w')) (upd (upd s2 6 (nI w')) (384 + 12 * (8 * k + s)) (nI 2)) := kp_C (q := 0) (by omega) (by omega) (by decide)
      have ZP : gd_Z (upd (upd s2 6 (nI w')) (384 + 12 * (8 * k + s)) (nI 2)) := by
        refine gZ_g (st := upd s2 6 (nI w')) (fun i hi => pk_un (by omega)) (fun i hi => pk_un (by omega)) (fun j hj => pk_un (by omega)) (fun k' hk' => ?_) v4
        have s5 : ¬ qC (upd s2 6 (nI w')) k s 0 = 5 := fun q => by
          rcases v3.2.2.2.2.1.1 k s (by omega) (by omega) with r | ⟨_, _, _, r, _⟩
          · exact h02 r.1
          · exact hg2 (r.mp q)
        have cs : ∀ s', s' < 8 → ¬ (k' = k ∧ s' = s) → qC (upd (upd s2 6 (nI w')) (384 + 12 * (8 * k + s)) (nI 2)) k' s' 0 = qC (upd s2 6 (nI w')) k' s' 0 := fun s' a1 a2 => pk_un (by omega)
        constructor
        · rintro ⟨s', a1, a2⟩
          by_cases q : k' = k ∧ s' = s
          · obtain ⟨rfl, rfl⟩ := q
            exact absurd ((show qC (upd (upd s2 6 (nI w')) (384 + 12 * (8 * k' + s')) (nI 2)) k' s' 0 = nI 2 from pk_us).symm.trans a2) (by decide)
          · rw [cs s' a1 q] at a2
            exact ⟨s', a1, a2⟩
        · rintro ⟨s', a1, a2⟩
          by_cases q : k' = k ∧ s' = s
          · obtain ⟨rfl, rfl⟩ := q
            exact absurd a2 s5
          · exact ⟨s', a1, by rw [cs s' a1 q]; exact a2⟩
      obtain ⟨st', e', first', size', events', n1, n2, n3, n4⟩ := nt_eq (kd := 1) (k := k) (s := s) (o := nI u) hN P ht (by decide) (by omega) (by omega) ou
      refine ⟨st', e', _, _, _, _, _, _, _, _, mh _ ?_, ch _ ?_, n3, gZ_w n4 ZP, kp_t (kp_t K2 KP) (kp_w n4)⟩
      · rw [g1, rn_bs, v1, rn_bs, q4', rn_bs, if_neg (Int32.not_le.mpr c2), oP, rn_bs, Int32.add_zero, rn_gI (by omega) (by decide), rn_lt, nI_clamp (by omega)]
        show ((fX7_note N (upd (upd s2 6 (nI w')) (384 + 12 * (8 * k + s)) (nI 2)) (nI 1) (nI k) (nI s) (nI u)).bind fun t18 => some t18) = some st'
        rw [n1, rn_bs]
      · rw [g2, rn_bs, v2, rn_bs, if_pos c2, rw2, rn_bs, show fX4_set (192 : Int32) (5 : Int32) 960 copies2 (nI (8 * k + s)) (0 : Int32) (2 : Int32) = some (upd copies2 (5 * (8 * k + s)) (nI 2)) from uC (q := 0) (by omega) (by decide), rn_bs, show fX0_add first2 size2 events2 tm (1 : Int32) (nI k) (nI s) (nI u) = _ from n2, rn_bs]
    · obtain ⟨F1, F2, F3⟩ := pL_a (q := 7) v3 l1 (by decide) (by decide)
      obtain ⟨s3, e3, first3, size3, events3, n1, n2, n3, n4⟩ := nt_eq (kd := 3) (k := k) (s := s) (o := nI u) hN F3 ht (by decide) (by omega) (by omega) ou
      have KF : kp k (upd s2 6 (nI w')) s3 := kp_t (kp_L (q := 7) (by omega) (by decide) (by decide)) (kp_w n4)
      have Z3 : gd_Z s3 := by
        apply gZ_w n4
        refine gZ_g (st := upd s2 6 (nI w')) (fun i hi => pk_un (by omega)) (fun i hi => pk_un (by omega)) (fun j hj => pk_un (by omega)) (fun k' hk' => ?_) v4
        have qc : ∀ s', s' < 8 → qC (upd (upd s2 6 (nI w')) (64 + 8 * l + 7) ((upd s2 6 (nI w')) (64 + 8 * l + 7) + 1)) k' s' 0 = qC (upd s2 6 (nI w')) k' s' 0 := fun s' a1 => pk_un (by omega)
        exact ⟨fun ⟨s', a1, a2⟩ => ⟨s', a1, by rw [qc s' a1] at a2; exact a2⟩, fun ⟨s', a1, a2⟩ => ⟨s', a1, by rw [qc s' a1]; exact a2⟩⟩
      have h03 : ¬ qC s3 k s 0 = 0 := by
        rw [n4.2.2.1 k s 0 (by omega) (by omega) (by decide), show qC (upd (upd s2 6 (nI w')) (64 + 8 * l + 7) ((upd s2 6 (nI w')) (64 + 8 * l + 7) + 1)) k s 0 = qC (upd s2 6 (nI w')) k s 0 from pk_un (by omega)]
        exact h02
      have hg3 : ¬ qM s3 k 1 = nI s := by
        rw [KF.2.2.1 k 1 (by omega) (by decide)]
        exact hg2
      obtain ⟨st', e', messages', copies', first', size', events', y1, y2, y3, y4, y5⟩ := ty_eq hN n3 Z3 ht hk hs ou h03 hg3
      refine ⟨st', e', _, _, _, _, _, _, _, _, mh _ ?_, ch _ ?_, y3, y4, kp_t (kp_t K2 KF) y5⟩
      · rw [g1, rn_bs, v1, rn_bs, q4', rn_bs, if_pos (Int32.not_lt.mp c2), show fX7_add _ (((64 : Int32) + ((8 : Int32) * nI l)) + (7 : Int32)) = _ from F2, rn_bs, show fX7_note N _ (3 : Int32) (nI k) (nI s) (nI u) = _ from n1, rn_bs, y1, rn_bs]
      · rw [g2, rn_bs, v2, rn_bs, if_neg c2, show fX4_add (16 : Int32) (9 : Int32) 144 _ (nI l) (8 : Int32) (1 : Int32) = _ from F1, rn_bs, show fX0_add first2 size2 events2 tm (3 : Int32) (nI k) (nI s) (nI u) = _ from n2, rn_bs, y2, rn_bs]
  · simp only [if_neg c] at mh ch
    obtain ⟨F1, F2, F3⟩ := pL_a (q := 6) r3 l1 (by decide) (by decide)
    obtain ⟨s3, e3, first3, size3, events3, n1, n2, n3, n4⟩ := nt_eq (kd := 2) (k := k) (s := s) (o := nI u) hN F3 ht (by decide) (by omega) (by omega) ou
    have KF : kp k (upd s1 6 (nI w)) s3 := kp_t (kp_L (q := 6) (by omega) (by decide) (by decide)) (kp_w n4)
    have Z3 : gd_Z s3 := by
      apply gZ_w n4
      refine gZ_g (st := upd s1 6 (nI w)) (fun i hi => pk_un (by omega)) (fun i hi => pk_un (by omega)) (fun j hj => pk_un (by omega)) (fun k' hk' => ?_) r4
      have qc : ∀ s', s' < 8 → qC (upd (upd s1 6 (nI w)) (64 + 8 * l + 6) ((upd s1 6 (nI w)) (64 + 8 * l + 6) + 1)) k' s' 0 = qC (upd s1 6 (nI w)) k' s' 0 := fun s' a1 => pk_un (by omega)
      exact ⟨fun ⟨s', a1, a2⟩ => ⟨s', a1, by rw [qc s' a1] at a2; exact a2⟩, fun ⟨s', a1, a2⟩ => ⟨s', a1, by rw [qc s' a1]; exact a2⟩⟩
    have h03 : ¬ qC s3 k s 0 = 0 := by
      rw [n4.2.2.1 k s 0 (by omega) (by omega) (by decide), show qC (upd (upd s1 6 (nI w)) (64 + 8 * l + 6) ((upd s1 6 (nI w)) (64 + 8 * l + 6) + 1)) k s 0 = qC (upd s1 6 (nI w)) k s 0 from pk_un (by omega)]
      exact h0'
    have hg3 : ¬ qM s3 k 1 = nI s := by
      rw [KF.2.2.1 k 1 (by omega) (by decide)]
      exact hg'
    obtain ⟨st', e', messages', copies', first', size', events', y1, y2, y3, y4, y5⟩ := ty_eq hN n3 Z3 ht hk hs ou h03 hg3
    refine ⟨st', e', _, _, _, _, _, _, _, _, mh _ ?_, ch _ ?_, y3, y4, kp_t (kp_t K1 KF) y5⟩
    · rw [show fX7_add _ (((64 : Int32) + ((8 : Int32) * nI l)) + (6 : Int32)) = _ from F2, rn_bs, show fX7_note N _ (2 : Int32) (nI k) (nI s) (nI u) = _ from n1, rn_bs, y1, rn_bs]
    · rw [show fX4_add (16 : Int32) (9 : Int32) 144 _ (nI l) (7 : Int32) (1 : Int32) = _ from F1, rn_bs, show fX0_add first size events tm (2 : Int32) (nI k) (nI s) (nI u) = _ from n2, rn_bs, y2, rn_bs]
end PT
