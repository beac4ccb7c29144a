/-! what is true of all copies -/
section A9
theorem ob {α : Type} {c : Prop} [Decidable c] {f : Int32 → Option α} : Option.bind (if c then some (1 : Int32) else some 0) f = f (ow c) := by
  unfold ow
  by_cases h : c
  · rw [if_pos h, if_pos h]
    rfl
  · rw [if_neg h, if_neg h]
    rfl
theorem ow_c {c d : Prop} [Decidable c] [Decidable d] (h : c ↔ d) : ow c = ow d := by
  unfold ow
  by_cases q : c
  · rw [if_pos q, if_pos (h.mp q)]
  · rw [if_neg q, if_neg (fun r => q (h.mpr r))]
theorem ow_0 {c : Prop} [Decidable c] (h : ¬ c) : ow c = 0 := if_neg h
variable {N t a b m e tt : Nat} {sc lc mc tm life tries x : Int32} {stations links messages copies : Nat → Int32} {first size : Int32} {events st : Nat → Int32} {heard : Nat → Int64}
theorem hr_on {h s u : Nat} (hs : s < 2 ^ 31) (hu : u < 2 ^ 31) (H : q_hr b st h s u) : q_on st s h = true ∧ q_on st u h = true ∧ jn b st (nI s) (nI u) := by
  obtain ⟨l, l1, l2, l3⟩ := H
  unfold q_op at l2
  have l4 := (Bool.and_eq_true _ _).mp l2
  have l5 := (Bool.and_eq_true _ _).mp l4.1
  rcases l3 with ⟨q1, q2⟩ | ⟨q1, q2⟩
  · rw [q1, nI_clamp hs] at l5
    rw [q2, nI_clamp hu] at l4
    exact ⟨l5.2, l4.2, l, l1, Or.inl ⟨q1, q2⟩⟩
  · rw [q1, nI_clamp hu] at l5
    rw [q2, nI_clamp hs] at l4
    exact ⟨l4.2, l5.2, l, l1, Or.inr ⟨q1, q2⟩⟩
theorem cp7_4 {k s : Nat} {A K I : Nat → Int32} (hN : 6000 ≤ N) (ht : t ≤ 90000) (h0 : rl0 t a b m e tt (tt + 1) sc lc mc tm life tries x stations links messages copies first size events st) (eH : ev_H b heard st) (hk : k < m) (hs : s < a) :
    ∃ v w, fX7_copy N 0 st A K I (nI k) (nI s) (4 : Int32) = some (v, 0, w) ∧ (v = -1 ∨ ∃ u, u < a ∧ v = nI u ∧ qC st k s 0 = 1 ∧ q_hr b st (tt % 24) s u ∧ ∀ i L, qC st k s 3 = nI L → L ≤ 8 → i < L → ¬ qC st k s (4 + i) = nI u) := by
  obtain ⟨⟨gn, gS, gL, gU, gM, gC, -, -⟩, -, -, -, eM, eC, eP, -, -⟩ := h0
  obtain ⟨⟨ha, hb, hm, he, htt⟩, z0, z1, z2, z3, z7, z6⟩ := gn
  unfold fX7_copy
  rw [imm7 z2 hm hk, rn_bs, if_neg n10, is7 z0 ha hs, rn_bs, if_neg n10, show fX7_isBetween (4 : Int32) (0 : Int32) (4 : Int32) = some 1 by decide, rn_bs, if_neg n10, show fX7_ofCopy st (nI k) (nI s) (0 : Int32) = _ from oC (q := 0) (by omega) (by omega) (by decide), rn_bs, if_neg (show ¬ (4 : Int32) = 0 by decide)]
  by_cases c0 : qC st k s 0 = 0
  · rw [if_pos c0]
    exact ⟨_, _, rfl, Or.inl rfl⟩
  · rw [if_neg c0, if_pos rfl]
    by_cases c1 : qC st k s 0 = (1 : Int32)
    · have hc := ((gC k s (by omega) (by omega)).resolve_left (fun q => c0 q.1)).2.2
      obtain ⟨u, hu, eu⟩ := hc.2.2.1
      obtain ⟨v, y1, y2, y3, A', K', I', -, n2, n3⟩ := nx_eq (A := A) (K := K) (isA := I) (ar := 0) (fe := 0) (nx := 0) hN (by exact ⟨⟨ha, hb, hm, he, htt⟩, z0, z1, z2, z3, z7, z6⟩) (show t < 1000000 by omega) gS gL gU gM eM eC eP eH hk hs hc c1 (by rw [eu]; exact nI_le (by omega) (by omega))
      rw [if_pos c1, n2, rn_bs]
      refine ⟨_, _, rfl, ?_⟩
      rcases n3 with n3 | ⟨u, u1, u2, u3, u4⟩
      · exact Or.inl n3
      · exact Or.inr ⟨u, u1, u2, c1, u3, u4⟩
    · rw [if_neg c1]
      exact ⟨_, _, rfl, Or.inl rfl⟩
theorem p322 {k s L : Nat} {f : Nat → Nat} {t19 : Nat × Int32 × Int32 × Int32 × Int32} (hN : 6000 ≤ N) (ht : t ≤ 90000) (h : rl_net t sc lc mc tm life tries x stations links messages copies first size events heard st) (z0 : st 0 = nI a) (ha : a ≤ 8) (z1 : st 1 = nI b) (hb : b ≤ 16) (z2 : st 2 = nI m) (hm : m ≤ 24) (hk : k < m) (hs : s < a) (c0 : ¬ qC st k s 0 = 0) (hL : L ≤ 8) (e3 : qC st k s 3 = nI L) (hf : ∀ i, i < L → f i < 8 ∧ qC st k s (4 + i) = nI (f i)) (inj : ∀ i j, i < L → j < L → f i = f j → i = j) (hj : ∀ i, i + 1 < L → jn b st (nI (f i)) (nI (f (i + 1)))) (e19 : t19.2.1 = nI L) :
    ∀ (n j : Nat) (w : Int32), j ≤ L → L - j < n → is8 w (fun t => ∃ i, i < j ∧ f i = t) → ∃ v, lL_copiesAreSo_322 N sc lc mc tm life tries x stations links messages copies size (nI k) (nI s) t19 n w (nI j) = some v ∧ is8 v (fun t => ∃ i, i < L ∧ f i = t) := by
  intro n
  induction n with
  | zero => intro j w _ h; omega
  | succ n ih =>
    intro j w hjL hn h1
    rw [lL_copiesAreSo_322, e19]
    rcases Nat.lt_or_ge j L with c | c
    · have nx : is8 (w ||| ((1 : Int32) <<< (nI (f j) &&& (31 : Int32)))) (fun t => ∃ i, i < j + 1 ∧ f i = t) := is8_w (is8_or h1 (is8_one (hf j c).1)) (fun t ht => by
        constructor
        · rintro (⟨i, a1, a2⟩ | q)
          · exact ⟨i, by omega, a2⟩
          · exact ⟨j, by omega, q.symm⟩
        · rintro ⟨i, a1, a2⟩
          rcases Nat.lt_or_ge i j with r | r
          · exact Or.inl ⟨i, r, a2⟩
          · have : i = j := by omega
            subst this
            exact Or.inr a2.symm)
      rw [if_neg (nI_ge c (by omega)), bz (rd_path ht h (p7_y z0 ha z2 hm hk hs c0 hL e3 c))]
      dsimp only
      rw [(hf j c).2, if_neg (fun q => by
        obtain ⟨i, i1, i2⟩ := (is8_bit h1 (hf j c).1).mp q
        have := inj i j (by omega) c i2
        omega)]
      by_cases d : j = 0
      · subst d
        rw [if_pos (show nI 0 ≤ 0 by decide), rn_bs, rn_lt, nI_1]
        exact ih 1 _ (by omega) (by omega) nx
      · obtain ⟨j', rfl⟩ : ∃ j', j = j' + 1 := ⟨j - 1, by omega⟩
        rw [if_neg (show ¬ nI (j' + 1) ≤ 0 from nI_ge (a := 0) (by omega) (by omega)), nI_p1, bz (rd_path ht h (p7_y z0 ha z2 hm hk hs c0 hL e3 (show j' < L by omega)))]
        dsimp only
        rw [(hf j' (by omega)).2, al_ok hN ht h z1 hb (hj j' c), rn_bs, rn_bs, rn_lt, nI_1]
        exact ih (j' + 1 + 1) _ (by omega) (by omega) nx
    · have : j = L := by omega
      subst this
      rw [if_pos (nI_le (Nat.le_refl _) (by omega))]
      exact ⟨w, rfl, h1⟩
theorem c90 {k : Nat} {t1 t3 t9 : Nat × Int32} (hN : 6000 ≤ N) (ht : t ≤ 90000) (h0 : rl0 t a b m e tt (tt + 1) sc lc mc tm life tries x stations links messages copies first size events st) (eH : ev_H b heard st) (X : xA a b m st) (hk : k < m) (e1 : t1.2 = nI a) (et : t3.2 = nI tt) (e9 : t9.2 = qM st k 1) :
    ∀ (n s : Nat) (ar fe nx : Int32), s ≤ a → a - s < n → ∃ ar' fe' nx', lL_copiesAreSo_90 N sc lc mc tm life tries x stations links messages copies size heard t1 t3 (nI k) t9 n (isum (fun s => ow (qC st k s 0 = 5)) s) (isum (fun s => ow (qC st k s 0 = 1)) s) (nI s) ar fe nx = some (isum (fun s => ow (qC st k s 0 = 5)) a, isum (fun s => ow (qC st k s 0 = 1)) a, ar', fe', nx') := by
  have h : rl_net t sc lc mc tm life tries x stations links messages copies first size events heard st := ⟨a, b, m, e, tt, h0, eH⟩
  obtain ⟨⟨ha, hb, hm, he, htt⟩, z0, z1, z2, z3, z7, z6⟩ := h0.1.1
  have gS : gd_S a st := h0.1.2.1
  have gM : gd_M a m st := h0.1.2.2.2.2.1
  have gC : gd_C a m (tt + 1) st := h0.1.2.2.2.2.2.1
  have E0 : fX7_isBetween (0 : Int32) (0 : Int32) (0 : Int32) = some 1 := by decide
  intro n
  induction n with
  | zero => intro s ar fe nx _ h; omega
  | succ n ih =>
    intro s ar fe nx hs hn
    rw [lL_copiesAreSo_90, e1]
    rcases Nat.lt_or_ge s a with c | c
    · rw [if_neg (nI_ge c (by omega))]
      obtain ⟨⟨y1, y2, y3⟩, r0⟩ := rd_copy hN ht h ar fe nx st st st (cp7_0 (A := st) (K := st) (I := st) z0 ha z2 hm hk c)
      rw [bz r0]
      dsimp only
      obtain ⟨⟨y4, y5, y6⟩, r3⟩ := rd_copy hN ht h y1 y2 y3 st st st (cp7_3 (A := st) (K := st) (I := st) z0 ha z2 hm hk c)
      rw [bz r3]
      dsimp only
      by_cases c0 : qC st k s 0 = 0
      · obtain ⟨⟨y7, y8, y9⟩, r1⟩ := rd_copy hN ht h y4 y5 y6 st st st (cp7_1 (A := st) (K := st) (I := st) z0 ha z2 hm hk c)
        rw [if_pos c0, if_pos (show (if qC st k s 0 = 0 then (-1 : Int32) else qC st k s 3) = -1 from if_pos c0), bz r1]
        dsimp only
        rw [if_pos (show (if qC st k s 0 = 0 then (-1 : Int32) else qC st k s 1) = -1 from if_pos c0), rd_path3 ht h (p7_n z0 ha z2 hm hk c c0), rn_bs]
        dsimp only
        rw [if_pos rfl, nI_1]
        have d5 : isum (fun s => ow (qC st k s 0 = 5)) (s + 1) = isum (fun s => ow (qC st k s 0 = 5)) s := by
          show isum _ s + ow (qC st k s 0 = 5) = _
          rw [ow_0 (by rw [c0]; decide), Int32.add_zero]
        have d1 : isum (fun s => ow (qC st k s 0 = 1)) (s + 1) = isum (fun s => ow (qC st k s 0 = 1)) s := by
          show isum _ s + ow (qC st k s 0 = 1) = _
          rw [ow_0 (by rw [c0]; decide), Int32.add_zero]
        have := ih (s + 1) y7 y8 y9 (by omega) (by omega)
        rw [d5, d1] at this
        exact this
      · have hc := ((gC k s (by omega) (by omega)).resolve_left (fun q => c0 q.1)).2.2
        obtain ⟨-, g5, ⟨u, hu, eu⟩, L, e3, hL, p1, p2, p3, p4⟩ := hc
        obtain ⟨x1, x2, bt, ct, x3, x4, x5, x6⟩ := X k s hk c c0
        have uc : nI u = nI ct := eu.symm.trans x6
        obtain ⟨f, hf⟩ : ∃ f : Nat → Nat, ∀ i, i < L → f i < 8 ∧ qC st k s (4 + i) = nI (f i) := ⟨fun i => (qC st k s (4 + i)).toNatClampNeg, fun i hi => by
          obtain ⟨v, hv, ev⟩ := p2 i hi
          have ev : qC st k s (4 + i) = nI v := ev
          refine ⟨?_, ?_⟩
          · show (qC st k s (4 + i)).toNatClampNeg < 8
            rw [ev, nI_clamp (by omega)]
            exact hv
          · show qC st k s (4 + i) = nI (qC st k s (4 + i)).toNatClampNeg
            rw [ev, nI_clamp (by omega)]⟩
        have inj : ∀ i j, i < L → j < L → f i = f j → i = j := fun i j hi hj hq => p3 i j hi hj (by
          show qC st k s (4 + i) = qC st k s (4 + j)
          rw [(hf i hi).2, (hf j hj).2, hq])
        obtain ⟨L', rfl⟩ : ∃ L', L = L' + 1 := ⟨L - 1, by omega⟩
        have ev3 : (if qC st k s 0 = 0 then (-1 : Int32) else qC st k s 3) = nI (L' + 1) := (if_neg c0).trans e3
        have ev2 : (if qC st k s 0 = 0 then (-1 : Int32) else qC st k s 2) = nI ct := (if_neg c0).trans x6
        have pth0 : fL_path sc mc copies (nI k) (nI s) (0 : Int32) = some (0, qC st k s 4) := rd_path ht h (p7_y (i := 0) z0 ha z2 hm hk c c0 hL e3 (by omega))
        have pthL : fL_path sc mc copies (nI k) (nI s) (nI L') = some (0, nI s) := by
          rw [rd_path ht h (p7_y (i := L') z0 ha z2 hm hk c c0 hL e3 (by omega))]
          exact congrArg (fun z => some (0, z)) p4
        obtain ⟨⟨y7, y8, y9⟩, r2⟩ := rd_copy hN ht h y4 y5 y6 st st st (cp7_2 (A := st) (K := st) (I := st) z0 ha z2 hm hk c)
        obtain ⟨⟨y10, y11, y12⟩, r2'⟩ := rd_copy hN ht h y7 y8 y9 st st st (cp7_2 (A := st) (K := st) (I := st) z0 ha z2 hm hk c)
        obtain ⟨v, v1, v2⟩ := p322 (t19 := (0, (if qC st k s 0 = 0 then (-1 : Int32) else qC st k s 3), y4, y5, y6)) hN ht h z0 ha z1 hb z2 hm hk c c0 hL e3 hf inj (fun i hi => by
          have := x2 (L' + 1) i hL e3 hi
          rw [(hf i (by omega)).2, (hf (i + 1) hi).2] at this
          exact this) ev3 N 0 0 (by omega) (by omega) (is8_w is8_0 (fun t _ => ⟨fun q => q.elim, fun ⟨i, q, _⟩ => by omega⟩))
        obtain ⟨v4, w4, n1, n2⟩ := cp7_4 (A := st) (K := st) (I := st) hN ht h0 eH hk c
        obtain ⟨⟨y13, y14, y15⟩, r4⟩ := rd_copy hN ht h y10 y11 y12 st st st ⟨w4, n1⟩
        rw [if_neg c0, ob, ob, ob, ob, e9, if_pos (ow_c ⟨fun q => (g5.mp q).symm, fun q => g5.mpr q.symm⟩), bz r2]
        dsimp only
        rw [ev2, et, if_neg (nI_nlt (show ct ≤ tt by have := (nI_eq (show u < 2 ^ 31 by omega) (show ct < 2 ^ 31 by omega)).mp uc; omega) (by omega)), bz r2', bz (rd_message hN ht h (m7_3 z2 hm hk))]
        dsimp only
        rw [ev2, x5, if_neg (nI_nlt x3 (by omega)), bz pth0, bz (rd_message hN ht h (m7_0 z2 hm hk))]
        dsimp only
        rw [if_pos x1, ev3, nI_p1, bz pthL]
        dsimp only
        rw [if_pos rfl]
        rw [ev3] at v1
        rw [show lL_copiesAreSo_322 N sc lc mc tm life tries x stations links messages copies size (nI k) (nI s) (0, nI (L' + 1), y4, y5, y6) N (0 : Int32) (0 : Int32) = some v from v1, rn_bs, bz r4]
        dsimp only
        rw [nI_1]
        rcases n2 with rfl | ⟨u', u1, rfl, u2, u3, u4⟩
        · rw [if_pos (by decide)]
          exact ih (s + 1) y13 y14 y15 (by omega) (by omega)
        · obtain ⟨o1, o2, o3⟩ := hr_on (by omega) (by omega) u3
          rw [if_neg (show ¬ nI u' < 0 from nI_nlt (b := 0) (Nat.zero_le _) (by omega)), if_neg (fun q => by
            obtain ⟨i, i1, i2⟩ := (is8_bit v2 (show u' < 8 by omega)).mp q
            exact u4 i (L' + 1) e3 hL i1 (by rw [(hf i i1).2, i2])), if_pos u2, al_ok hN ht h z1 hb o3, rn_bs, bz (rd_station hN ht h (s7_3 z0 z3 (by omega) gS ha c))]
          dsimp only
          rw [o1, if_neg (by decide), bz (rd_station hN ht h (s7_3 z0 z3 (by omega) gS ha u1))]
          dsimp only
          rw [o2, if_neg (by decide)]
          exact ih (s + 1) y13 y14 y15 (by omega) (by omega)
    · have : s = a := by omega
      subst this
      rw [if_pos (nI_le (Nat.le_refl _) (by omega))]
      exact ⟨ar, fe, nx, rfl⟩
theorem c26 {t1 t3 : Nat × Int32} (hN : 6000 ≤ N) (ht : t ≤ 90000) (h0 : rl0 t a b m e tt (tt + 1) sc lc mc tm life tries x stations links messages copies first size events st) (eH : ev_H b heard st) (X : xA a b m st) (e1 : t1.2 = nI a) (et : t3.2 = nI tt) :
    ∀ (n k : Nat) (ar fe nx : Int32), k ≤ m → m - k < n → ∃ ar' fe' nx', lL_copiesAreSo_26 N sc lc mc tm life tries x stations links messages copies size heard t1 t3 n (isum (fun k => qM st k 4) k) (isum (fun k => qM st k 5) k) (nI k) ar fe nx = some (isum (fun k => qM st k 4) m, isum (fun k => qM st k 5) m, ar', fe', nx') := by
  have h : rl_net t sc lc mc tm life tries x stations links messages copies first size events heard st := ⟨a, b, m, e, tt, h0, eH⟩
  obtain ⟨⟨ha, hb, hm, he, htt⟩, z0, z1, z2, z3, z7, z6⟩ := h0.1.1
  have gM : gd_M a m st := h0.1.2.2.2.2.1
  have gC : gd_C a m (tt + 1) st := h0.1.2.2.2.2.2.1
  have k2 : fL_count N sc lc mc tm life tries x stations links messages copies size (2 : Int32) = some (0, nI m) := by rw [rd_count hN ht h c7_2, z2]
  intro n
  induction n with
  | zero => intro s ar fe nx _ h; omega
  | succ n ih =>
    intro k ar fe nx hk hn
    rw [lL_copiesAreSo_26, bz k2]
    rcases Nat.lt_or_ge k m with c | c
    · obtain ⟨-, ⟨g, hg, eg⟩, -⟩ := gM k c
      obtain ⟨y1, y2, y3, q90⟩ := c90 (t1 := t1) (t3 := t3) (t9 := (0, qM st k 1)) hN ht h0 eH X c e1 et rfl 9 0 ar fe nx (by omega) (by omega)
      have eD : isum (fun s => ow (qC st k s 0 = 5)) a = ow (qC st k g 0 = 5) := by
        rw [sm_isum]
        by_cases P : qC st k g 0 = 5
        · rw [sm_congr (h := fun s => ow (s = g)) a 0 (fun s _ hs => ow_c ⟨fun q => dl_goal gC (by omega) (by omega) eg s (by omega) q, fun q => by rw [q]; exact P⟩), sm_one a 0 (by omega) (by omega), ow_1.mpr P]
        · rw [ow_0 P, sm_0 (fun s _ hs => ow_0 (fun q => P (by
            have := dl_goal gC (by omega) (by omega) eg s (by omega) q
            rw [← this]
            exact q)))]
      have eW : sm (fun s => ow (qC st k s 0 = 1)) 0 a = isum (fun s => ow (qC st k s 0 = 1)) a := (sm_isum _ _).symm
      have hq := q_st1 gC ha (show k < 24 by omega) hg eg
      rw [if_neg (nI_ge c (by omega)), bz (rd_message hN ht h (m7_1 z2 hm c)), bz (rd_message hN ht h (m7_7 z2 hm c)), bz (rd_message hN ht h (m7_8 z2 hm c)), show lL_copiesAreSo_90 N sc lc mc tm life tries x stations links messages copies size heard t1 t3 (nI k) (0, qM st k 1) 9 (0 : Int32) (0 : Int32) (0 : Int32) ar fe nx = _ from q90, rn_bs]
      dsimp only
      have m9 := rd_message hN ht h (m7_9 hN z0 ha z2 hm c)
      rw [eW] at m9
      have m4 := rd_message hN ht h (m7_4 hN z0 ha z2 hm c)
      have m5 := rd_message hN ht h (m7_5 z2 hm c (show g < 8 by omega) eg)
      have nx := ih (k + 1) y1 y2 y3 (by omega) (by omega)
      rw [eD, nI_1]
      by_cases P : qC st k g 0 = 5
      · obtain ⟨u, hu, eu⟩ := ((gC k g (by omega) (by omega)).resolve_left (fun q => by rw [q.1] at P; exact absurd P (by decide))).2.2.2.2.1
        rw [if_pos P, eu] at m5
        rw [hq.mpr P] at m4
        rw [ow_1.mpr P, if_neg (by decide), bz m9]
        dsimp only
        rw [if_pos rfl, bz m4]
        dsimp only
        rw [if_pos rfl, rn_bs, if_pos rfl, bz m5]
        dsimp only
        rw [if_neg (show ¬ nI u < 0 from nI_nlt (b := 0) (Nat.zero_le _) (by omega)), rn_bs, if_pos rfl, rn_bs, if_pos rfl]
        exact nx
      · have e4 : q_st st a k = if isum (fun s => ow (qC st k s 0 = 1)) a ≤ 0 then 2 else 0 := by
          unfold q_st
          rw [← sm_isum, eD, ow_0 P, if_pos (by decide), eW]
        rw [if_neg P] at m5
        rw [ow_0 P, if_neg (by decide), bz m9]
        dsimp only
        rw [if_pos rfl, bz m4]
        dsimp only
        rw [if_neg (show ¬ (0 : Int32) = 1 by decide), e4]
        by_cases w : isum (fun s => ow (qC st k s 0 = 1)) a ≤ 0
        · rw [if_pos w, if_pos w, rn_bs, if_pos rfl, bz m5]
          dsimp only
          rw [if_pos (by decide), rn_bs, if_neg (show ¬ (0 : Int32) = 1 by decide), rn_bs, if_pos rfl]
          exact nx
        · rw [if_neg w, if_neg w, rn_bs, if_pos rfl, bz m5]
          dsimp only
          rw [if_pos (by decide), rn_bs, if_neg (show ¬ (0 : Int32) = 1 by decide), rn_bs, if_pos rfl]
          exact nx
    · have : k = m := by omega
      subst this
      rw [if_pos (nI_le (Nat.le_refl _) (by omega))]
      exact ⟨ar, fe, nx, rfl⟩
theorem isum_z {g : Nat → Int32} {n k : Nat} (h : k ≤ n) (hz : ∀ i, k ≤ i → i < n → g i = 0) : isum g n = isum g k := by
  rw [sm_isum, sm_isum, show n = k + (n - k) by omega, sm_app, Nat.zero_add, sm_0 (fun i h1 h2 => hz i h1 (by omega)), Int32.add_zero]
theorem copies_ok (hN : 6000 ≤ N) (ht : t ≤ 90000) (h0 : rl0 t a b m e tt (tt + 1) sc lc mc tm life tries x stations links messages copies first size events st) (eH : ev_H b heard st) (X : xA a b m st) (xm : xM m tt st) (xs : xS st) (ar fe nx : Int32) : ∃ w, fL_copiesAreSo N sc lc mc tm life tries x stations links messages copies size ar fe nx heard = some w := by
  have h : rl_net t sc lc mc tm life tries x stations links messages copies first size events heard st := ⟨a, b, m, e, tt, h0, eH⟩
  obtain ⟨⟨ha, hb, hm, he, htt⟩, z0, z1, z2, z3, z7, z6⟩ := h0.1.1
  have gS : gd_S a st := h0.1.2.1
  have k0 : fL_count N sc lc mc tm life tries x stations links messages copies size (0 : Int32) = some (0, nI a) := by rw [rd_count hN ht h c7_0, z0]
  have k3 : fL_count N sc lc mc tm life tries x stations links messages copies size (3 : Int32) = some (0, nI tt) := by rw [rd_count hN ht h c7_3, z3]
  obtain ⟨y1, y2, y3, q26⟩ := c26 (t1 := (0, nI a)) (t3 := (0, nI tt)) hN ht h0 eH X rfl rfl 25 0 ar fe nx (by omega) (by omega)
  unfold fL_copiesAreSo
  rw [bz k0, bz k3, show lL_copiesAreSo_26 N sc lc mc tm life tries x stations links messages copies size heard (0, nI a) (0, nI tt) 25 (0 : Int32) (0 : Int32) (0 : Int32) ar fe nx = _ from q26, rn_bs, bz (rd_count hN ht h (c7_11 hN z0 ha gS))]
  dsimp only
  rw [if_pos (show isum (fun k => qM st k 4) m = isum (fun i => qS st i 3) 8 by rw [← xs.2.1]; exact (isum_z hm (fun i h1 h2 => ((xm i h2).2 h1).1)).symm), bz (rd_count hN ht h (c7_12 hN z0 ha gS))]
  dsimp only
  rw [if_pos (show isum (fun k => qM st k 5) m = isum (fun i => qS st i 5) 8 by rw [← xs.2.2]; exact (isum_z hm (fun i h1 h2 => ((xm i h2).2 h1).2)).symm)]
  exact ⟨_, rfl⟩
end A9
