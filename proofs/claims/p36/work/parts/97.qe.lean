/-! new messages, open links, changed hours, on both sides -/
section QG
variable {N t a b m e tt τ : Nat} {sc lc mc tm life tries x : Int32} {stations links messages copies : Nat → Int32} {first size : Int32} {events st : Nat → Int32} {heard : Nat → Int64}
theorem nm_eq {f g r : Nat} (hN : 6000 ≤ N) (h : rlA t a b m e tt τ sc lc mc tm life tries x stations links messages copies first size events st) (hZ : gd_Z st) (ht : t < 1000000) (hτ : tt < τ) (h8 : m < 24) (hf : f < a) (hg : g < a) (hfg : ¬ f = g) (hr : r < 4) :
    ∃ messages' copies' first' size' events' e' st', fX2_newMessage mc tm messages copies first size events (nI f) (nI g) (nI r) = some (mc, mc + 1, messages', copies', first', size', events') ∧ fX7_appendMessage N st (nI f) (nI g) (nI r) = some (mc, st') ∧ rlA t a b (m + 1) e' tt τ sc lc (mc + 1) tm life tries x stations links messages' copies' first' size' events' st' ∧ gd_Z st' ∧ ∀ heard, ev_H b heard st → ev_H b heard st' := by
  obtain ⟨⟨n1, n2⟩, ⟨S1, S2⟩, ⟨L1, L2, L3⟩, ⟨M1, M2⟩, ⟨C1, C2, C3⟩, D, E1, E2⟩ := h
  obtain ⟨ha, hb, hm, he, htt⟩ := n1.1
  have z2 := n1.2.2.2.1
  have z3 := n1.2.2.2.2.1
  have mce : mc = nI m := n2.2.2.1.trans z2
  have tme : tm = nI tt := n2.2.2.2.1.trans z3
  subst mce tme
  obtain ⟨s1, hs1⟩ : ∃ s1, s1 = upd (upd (upd (upd (upd (upd (upd st (192 + 8 * m + 0) (nI f)) (192 + 8 * m + 1) (nI g)) (192 + 8 * m + 2) (nI r)) (192 + 8 * m + 3) (nI tt)) (192 + 8 * m + 6) (-1)) (192 + 8 * m + 7) (-1)) 2 (nI (m + 1)) := ⟨_, rfl⟩
  have un : ∀ p, ¬ p = 2 → (p < 192 + 8 * m ∨ p = 192 + 8 * m + 4 ∨ p = 192 + 8 * m + 5 ∨ 192 + 8 * m + 8 ≤ p) → s1 p = st p := fun p a1 a2 => by rw [hs1, pk_un a1, pk_un (by omega), pk_un (by omega), pk_un (by omega), pk_un (by omega), pk_un (by omega), pk_un (by omega)]
  have v0 : s1 2 = nI (m + 1) := by rw [hs1, pk_us]
  have w0 : qM s1 m 0 = nI f := by unfold qM; rw [hs1, pk_un (by omega), pk_un (by omega), pk_un (by omega), pk_un (by omega), pk_un (by omega), pk_un (by omega), pk_us]
  have w1 : qM s1 m 1 = nI g := by unfold qM; rw [hs1, pk_un (by omega), pk_un (by omega), pk_un (by omega), pk_un (by omega), pk_un (by omega), pk_us]
  have w2 : qM s1 m 2 = nI r := by unfold qM; rw [hs1, pk_un (by omega), pk_un (by omega), pk_un (by omega), pk_un (by omega), pk_us]
  have w3 : qM s1 m 3 = nI tt := by unfold qM; rw [hs1, pk_un (by omega), pk_un (by omega), pk_un (by omega), pk_us]
  have w6 : qM s1 m 6 = -1 := by unfold qM; rw [hs1, pk_un (by omega), pk_un (by omega), pk_us]
  have w7 : qM s1 m 7 = -1 := by unfold qM; rw [hs1, pk_un (by omega), pk_us]
  have rS : sS st s1 := fun i q hi hq => un _ (by omega) (by omega)
  have rL : sL st s1 := fun i q hi hq => un _ (by omega) (by omega)
  have rC : sCc st s1 := fun k s q hk hs hq => un _ (by omega) (by omega)
  have rE : sE st s1 := fun i q hi hq => un _ (by omega) (by omega)
  have rM : ∀ i q, i < 24 → q < 8 → (i ≠ m ∨ q = 4 ∨ q = 5) → qM s1 i q = qM st i q := fun i q hi hq hn => un _ (by omega) (by omega)
  have cm : ∀ s, s < 8 → qC st m s 0 = 0 ∧ qC st m s 1 = 0 := fun s hs => by
    rcases C1 m s h8 hs with q | ⟨q, _⟩
    · exact q
    · omega
  obtain ⟨ms1, hms⟩ : ∃ ms1, ms1 = upd (upd (upd (upd (upd (upd (upd (upd messages (12 * m + 0) (nI f)) (12 * m + 1) (nI g)) (12 * m + 2) (nI r)) (12 * m + 3) (nI tt)) (12 * m + 5) (-1)) (12 * m + 6) (-1)) (12 * m + 10) (-1)) (12 * m + 11) (-1) := ⟨_, rfl⟩
  have hm0 : ms1 (12 * m + 0) = nI f := by rw [hms, pk_un (by omega), pk_un (by omega), pk_un (by omega), pk_un (by omega), pk_un (by omega), pk_un (by omega), pk_un (by omega), pk_us]
  have hm1 : ms1 (12 * m + 1) = nI g := by rw [hms, pk_un (by omega), pk_un (by omega), pk_un (by omega), pk_un (by omega), pk_un (by omega), pk_un (by omega), pk_us]
  have hm2 : ms1 (12 * m + 2) = nI r := by rw [hms, pk_un (by omega), pk_un (by omega), pk_un (by omega), pk_un (by omega), pk_un (by omega), pk_us]
  have hm3 : ms1 (12 * m + 3) = nI tt := by rw [hms, pk_un (by omega), pk_un (by omega), pk_un (by omega), pk_un (by omega), pk_us]
  have hm5 : ms1 (12 * m + 5) = -1 := by rw [hms, pk_un (by omega), pk_un (by omega), pk_un (by omega), pk_us]
  have hm6 : ms1 (12 * m + 6) = -1 := by rw [hms, pk_un (by omega), pk_un (by omega), pk_us]
  have hm10 : ms1 (12 * m + 10) = -1 := by rw [hms, pk_un (by omega), pk_us]
  have hm11 : ms1 (12 * m + 11) = -1 := by rw [hms, pk_us]
  have unm : ∀ p, (p < 12 * m ∨ p = 12 * m + 4 ∨ p = 12 * m + 7 ∨ p = 12 * m + 8 ∨ p = 12 * m + 9 ∨ 12 * m + 12 ≤ p) → ms1 p = messages p := fun p a2 => by rw [hms, pk_un (by omega), pk_un (by omega), pk_un (by omega), pk_un (by omega), pk_un (by omega), pk_un (by omega), pk_un (by omega), pk_un (by omega)]
  have h1 : rlA t a b (m + 1) e tt τ sc lc (nI m + 1) (nI tt) life tries x stations links ms1 copies first size events s1 := by
    refine ⟨⟨?_, ?_⟩, ⟨gS_c rS S1, evS_c rS S2⟩, ⟨gL_c rL L1, gU_c hb rL L2, evL_c rL L3⟩, ⟨fun k hk => ?_, fun k q hk hq => ?_⟩, ⟨fun k s hk hs => ?_, evC_c rC C2, evP_c rC C3⟩, fun k g' hk hg' hx => ?_, gE_c he rE E1, evE_c he rE E2⟩
    · unfold gd_n
      rw [v0, un 0 (by omega) (by omega), un 1 (by omega) (by omega), un 3 (by omega) (by omega), un 7 (by omega) (by omega), un 6 (by omega) (by omega)]
      exact ⟨⟨ha, hb, by omega, he, htt⟩, n1.2.1, n1.2.2.1, rfl, n1.2.2.2.2⟩
    · unfold ev_n at *
      rw [v0, un 0 (by omega) (by omega), un 1 (by omega) (by omega), un 3 (by omega) (by omega), un 4 (by omega) (by omega), un 5 (by omega) (by omega), un 7 (by omega) (by omega), un 6 (by omega) (by omega)]
      exact ⟨n2.1, n2.2.1, nI_1 m, n2.2.2.2⟩
    · by_cases c : k = m
      · subst c
        rw [w0, w1, w2]
        exact ⟨⟨f, hf, rfl⟩, ⟨g, hg, rfl⟩, fun q => hfg ((nI_eq (by omega) (by omega)).mp q), ⟨r, hr, rfl⟩⟩
      · rw [rM k 0 (by omega) (by decide) (by omega), rM k 1 (by omega) (by decide) (by omega), rM k 2 (by omega) (by decide) (by omega)]
        exact M1 k (by omega)
    · have hmC : mC q = (if q < 4 then q else if q < 6 then q + 3 else q + 4) := rfl
      have hm12 := mC_lt hq
      by_cases c : k = m
      · subst c
        have : q = 0 ∨ q = 1 ∨ q = 2 ∨ q = 3 ∨ q = 4 ∨ q = 5 ∨ q = 6 ∨ q = 7 := by omega
        rcases this with rfl | rfl | rfl | rfl | rfl | rfl | rfl | rfl
        · rw [w0]; exact hm0
        · rw [w1]; exact hm1
        · rw [w2]; exact hm2
        · rw [w3]; exact hm3
        · rw [rM k 4 hk (by decide) (by omega)]; exact (unm (12 * k + 7) (by omega)).trans (M2 k 4 hk (by decide))
        · rw [rM k 5 hk (by decide) (by omega)]; exact (unm (12 * k + 8) (by omega)).trans (M2 k 5 hk (by decide))
        · rw [w6]; exact hm10
        · rw [w7]; exact hm11
      · rw [rM k q hk hq (by omega), unm _ (by omega)]
        exact M2 k q hk hq
    · rw [rC k s 0 hk hs (by decide), rC k s 1 hk hs (by decide)]
      rcases C1 k s hk hs with q | ⟨q1, q2, q3⟩
      · exact Or.inl q
      · exact Or.inr ⟨by omega, q2, gc_c hk hs (fun q hq => rC k s q hk hs hq) (rM k 1 hk (by decide) (by omega)) q3⟩
    · rw [rC k g' 0 (by omega) hg' (by decide), rC k g' 2 (by omega) hg' (by decide), rC k g' 3 (by omega) hg' (by decide)]
      by_cases c : k = m
      · subst c
        rw [(cm g' hg').1, hm5, hm6]
        exact ⟨fun q => absurd q (by decide), fun _ => ⟨rfl, rfl⟩⟩
      · rw [rM k 1 (by omega) (by decide) (by omega)] at hx
        rw [unm _ (by omega), unm _ (by omega)]
        exact D k g' (by omega) hg' hx
  obtain ⟨y0, p1, p2⟩ := pc7 (T := tt) (v := 1) (f := fun _ => f) (t1 := s1) (show m < 24 by omega) (show f < 8 by omega)
  obtain ⟨y1, p3, p4⟩ := ex7 (show m < 24 by omega) (show f < 8 by omega) (show 0 < 8 by decide) p2
  obtain ⟨x1, x2, x3, x4, x5, x6⟩ := p4
  have h2 := p_N (k := m) (u := f) (v := 1) (L := 0) (T := tt) (f := fun _ => f) (st' := y1) h1 (by omega) hf (Or.inl ⟨rfl, by rw [w1]; exact fun q => hfg ((nI_eq (by omega) (by omega)).mp q).symm⟩) (by decide) (fun i hi => by omega) (fun i j hi => by omega) hτ x1 x2 x3 x4 x5 (fun i hi => by omega) (x6 0 (by omega))
  rw [if_neg (show ¬ (1 : Nat) = 5 by decide), show q_pk (fun _ => f) 0 + f * 8 ^ 0 = f by show 0 + f * 8 ^ 0 = f; omega] at h2
  have c1 : upd copies (5 * (8 * m + f)) (nI 1) (5 * (8 * m + f) + 1) = 0 := by
    rw [pk_un (by omega), C2 m f 1 h8 (by omega) (by decide)]
    exact (cm f (by omega)).2
  rw [upd_id c1] at h2
  obtain ⟨st', e', first', size', events', k1, k2, k3, k4⟩ := nt_eq (kd := 0) (k := m) (s := f) (o := -1) hN h2 ht (by decide) h8 (by omega) (Or.inl rfl)
  have cs : ∀ k' s' q, k' < 24 → s' < 8 → q < 12 → ¬ (k' = m ∧ s' = f) → qC y1 k' s' q = qC st k' s' q := fun k' s' q a1 a2 a3 a4 => (x1 _ (by omega)).trans (un _ (by omega) (by omega))
  refine ⟨ms1, _, first', size', events', e', st', ?_, ?_, k3, ?_, fun heard eH => ?_⟩
  · have um : ∀ (cc : Nat → Int32) (q : Nat) (w : Int32), q < 12 → fX4_set (24 : Int32) (12 : Int32) 288 cc (nI m) (nI q) w = some (upd cc (12 * m + q) w) := fun cc q w hq => uM h8 hq
    have uc : ∀ (cc : Nat → Int32) (q : Nat) (w : Int32), q < 5 → fX4_set (192 : Int32) (5 : Int32) 960 cc (nI (8 * m + f)) (nI q) w = some (upd cc (5 * (8 * m + f) + q) w) := fun cc q w hq => uC (by omega) hq
    unfold fX2_newMessage fX2_noteEnd
    rw [show fX4_set (24 : Int32) (12 : Int32) 288 messages (nI m) (0 : Int32) (nI f) = _ from um _ 0 _ (by decide), rn_bs, show ∀ cc, fX4_set (24 : Int32) (12 : Int32) 288 cc (nI m) (1 : Int32) (nI g) = _ from fun cc => um cc 1 _ (by decide), rn_bs, show ∀ cc, fX4_set (24 : Int32) (12 : Int32) 288 cc (nI m) (2 : Int32) (nI r) = _ from fun cc => um cc 2 _ (by decide), rn_bs, show ∀ cc, fX4_set (24 : Int32) (12 : Int32) 288 cc (nI m) (3 : Int32) (nI tt) = _ from fun cc => um cc 3 _ (by decide), rn_bs, show ∀ cc, fX4_set (24 : Int32) (12 : Int32) 288 cc (nI m) (5 : Int32) (-1 : Int32) = _ from fun cc => um cc 5 _ (by decide), rn_bs, show ∀ cc, fX4_set (24 : Int32) (12 : Int32) 288 cc (nI m) (6 : Int32) (-1 : Int32) = _ from fun cc => um cc 6 _ (by decide), rn_bs, show ∀ cc, fX4_set (24 : Int32) (12 : Int32) 288 cc (nI m) (10 : Int32) (-1 : Int32) = _ from fun cc => um cc 10 _ (by decide), rn_bs, show ∀ cc, fX4_set (24 : Int32) (12 : Int32) 288 cc (nI m) (11 : Int32) (-1 : Int32) = _ from fun cc => um cc 11 _ (by decide), rn_bs, rn_bs, ← hms, rw2, rn_bs, show fX4_set (192 : Int32) (5 : Int32) 960 copies (nI (8 * m + f)) (0 : Int32) (1 : Int32) = some (upd copies (5 * (8 * m + f)) (nI 1)) from uc copies 0 (nI 1) (by decide), rn_bs, show ∀ cc, fX4_set (192 : Int32) (5 : Int32) 960 cc (nI (8 * m + f)) (2 : Int32) (nI tt) = _ from fun cc => uc cc 2 _ (by decide), rn_bs, show ∀ cc, fX4_set (192 : Int32) (5 : Int32) 960 cc (nI (8 * m + f)) (3 : Int32) (1 : Int32) = some (upd cc (5 * (8 * m + f) + 3) (nI (0 + 1))) from fun cc => uc cc 3 (nI (0 + 1)) (by decide), rn_bs, show ∀ cc, fX4_set (192 : Int32) (5 : Int32) 960 cc (nI (8 * m + f)) (4 : Int32) (nI f) = _ from fun cc => uc cc 4 _ (by decide), rn_bs, show fX0_add first size events (nI tt) (0 : Int32) (nI m) (nI f) (-1 : Int32) = _ from k2, rn_bs]
  · have u3 : ∀ p, ¬ p = 192 + 8 * m + 0 → ¬ p = 192 + 8 * m + 1 → ¬ p = 192 + 8 * m + 2 → upd (upd (upd st (192 + 8 * m + 0) (nI f)) (192 + 8 * m + 1) (nI g)) (192 + 8 * m + 2) (nI r) p = st p := fun p a1 a2 a3 => by rw [pk_un a3, pk_un a2, pk_un a1]
    unfold fX7_appendMessage
    simp only [cl2, cl3, z2, rn_lt, show ((192 : Int32) + (8 : Int32) * nI m) + (0 : Int32) = nI (192 + 8 * m + 0) from mPl m 0, show ((192 : Int32) + (8 : Int32) * nI m) + (1 : Int32) = nI (192 + 8 * m + 1) from mPl m 1, show ((192 : Int32) + (8 : Int32) * nI m) + (2 : Int32) = nI (192 + 8 * m + 2) from mPl m 2, show ((192 : Int32) + (8 : Int32) * nI m) + (3 : Int32) = nI (192 + 8 * m + 3) from mPl m 3, show ((192 : Int32) + (8 : Int32) * nI m) + (6 : Int32) = nI (192 + 8 * m + 6) from mPl m 6, show ((192 : Int32) + (8 : Int32) * nI m) + (7 : Int32) = nI (192 + 8 * m + 7) from mPl m 7, nI_clamp (show 192 + 8 * m + 0 < 2 ^ 31 by omega), nI_clamp (show 192 + 8 * m + 1 < 2 ^ 31 by omega), nI_clamp (show 192 + 8 * m + 2 < 2 ^ 31 by omega), nI_clamp (show 192 + 8 * m + 3 < 2 ^ 31 by omega), nI_clamp (show 192 + 8 * m + 6 < 2 ^ 31 by omega), nI_clamp (show 192 + 8 * m + 7 < 2 ^ 31 by omega), g2, g3]
    rw [rn_gI (by omega) (by decide), rn_gI (by omega) (by decide), rn_gI (by omega) (by decide), rn_gI (by omega) (by decide), rn_gI (by omega) (by decide), rn_gI (by omega) (by decide), u3 3 (by omega) (by omega) (by omega), z3, pk_un (show (2 : Nat) ≠ 192 + 8 * m + 7 by omega), pk_un (show (2 : Nat) ≠ 192 + 8 * m + 6 by omega), pk_un (show (2 : Nat) ≠ 192 + 8 * m + 3 by omega), u3 2 (by omega) (by omega) (by omega), z2, nI_1, ← hs1, un 3 (by omega) (by omega), z3, show fX7_putCopy s1 (nI m) (nI f) (1 : Int32) (nI tt) = _ from p1, rn_bs, show fX7_extendPath y0 (nI m) (nI f) (nI f) = _ from p3, rn_bs, show fX7_note N y1 (0 : Int32) (nI m) (nI f) (-1 : Int32) = _ from k1, rn_bs]
  · apply gZ_w k4
    refine gZ_g (fun i hi => (x1 _ (by omega)).trans (rS i 3 hi (by decide))) (fun i hi => (x1 _ (by omega)).trans (rS i 6 hi (by decide))) (fun j hj => (x1 _ (by omega)).trans (rL j 5 hj (by decide))) (fun k' hk' => ?_) hZ
    constructor
    · rintro ⟨s', a1, a2⟩
      by_cases q : k' = m ∧ s' = f
      · obtain ⟨rfl, rfl⟩ := q
        exact absurd (x2.symm.trans a2) (by decide)
      · exact ⟨s', a1, by rw [← cs k' s' 0 hk' a1 (by decide) q]; exact a2⟩
    · rintro ⟨s', a1, a2⟩
      by_cases q : k' = m ∧ s' = f
      · obtain ⟨rfl, rfl⟩ := q
        exact absurd ((cm s' a1).1.symm.trans a2) (by decide)
      · exact ⟨s', a1, by rw [cs k' s' 0 hk' a1 (by decide) q]; exact a2⟩
  · exact evH_c hb ha L1 (fun i q h1 h2 => (k4.2.1 i q (by omega) (by omega)).trans ((x1 _ (by omega)).trans (rL i q (by omega) (by omega)))) (fun i q h1 h2 => (k4.1 i q (by omega) (by omega)).trans ((x1 _ (by omega)).trans (rS i q (by omega) (by omega)))) eH
end QG
