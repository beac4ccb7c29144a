/-! draws; links between two; sums -/
section A8
theorem and31 (x : Int32) : ∃ u, u < 2 ^ 31 ∧ x &&& (2147483647 : Int32) = nI u := by
  refine ⟨(x &&& (2147483647 : Int32)).toBitVec.toNat, ?_, ?_⟩
  · rw [Int32.toBitVec_and, BitVec.toNat_and, show (2147483647 : Int32).toBitVec.toNat = 2147483647 by decide]
    have := @Nat.and_le_right x.toBitVec.toNat 2147483647
    omega
  · apply Int32.toBitVec_inj.mp
    apply BitVec.eq_of_toNat_eq
    exact (pk_tn (BitVec.isLt _)).symm
theorem at_s {ns : Nat} {ws : Nat → Int32} {k : Nat} (hn : ns < 2 ^ 31) (hk : k < 2 ^ 31) : ∃ z, fL_at ns ws (nI k) = some z := by
  have fin : ∀ t : Int32, ∃ z, (if t ≤ 0 then some t else if (512 : Int32) ≤ t then some t else some ((t * (-1640531535 : Int32)) ^^^ (nI k * (-2048144789 : Int32)))) = some z := fun t => by
    by_cases c : t ≤ 0
    · exact ⟨_, if_pos c⟩
    · rw [if_neg c]
      by_cases d : (512 : Int32) ≤ t
      · exact ⟨_, if_pos d⟩
      · exact ⟨_, if_neg d⟩
  unfold fL_at
  by_cases c : ns ≤ k
  · rw [if_pos (show Int32.ofNat ns ≤ nI k from nI_le c hk), rn_bs]
    exact fin _
  · rw [if_neg (show ¬ Int32.ofNat ns ≤ nI k from nI_ge (by omega) hn), rn_gI (by omega) hn, rn_bs]
    exact fin _
theorem dw {ns : Nat} {ws : Nat → Int32} {q n : Nat} (hs : ns ≤ 260) (hq : q < 100000) (h1 : 1 ≤ n) (hn : n < 2 ^ 31) : ∃ v, v < n ∧ fL_draw ns ws (nI q) (nI n) = some (nI v, nI (q + 1)) := by
  obtain ⟨M, hM, M1, M2⟩ : ∃ M, rn_max (1 : Int32) (Int32.ofNat ns) = nI M ∧ 1 ≤ M ∧ M ≤ 260 := by
    unfold rn_max
    by_cases c : 1 < ns
    · exact ⟨ns, if_pos (show (1 : Int32) < Int32.ofNat ns from nI_lt (a := 1) c (by omega)), by omega, hs⟩
    · exact ⟨1, if_neg (show ¬ (1 : Int32) < Int32.ofNat ns from nI_nlt (a := 1) (by omega) (by decide)), by decide, by decide⟩
  obtain ⟨z, hz⟩ := at_s (ns := ns) (ws := ws) (k := q % M) (by omega) (by have := Nat.mod_lt q (show 0 < M by omega); omega)
  have key : ∀ w : Int32, ∃ v, v < n ∧ rn_z (nI n = 0) (some (rn_rem (w &&& (2147483647 : Int32)) (nI n), nI q + (1 : Int32))) = some (nI v, nI (q + 1)) := fun w => by
    obtain ⟨u, hu, e⟩ := and31 w
    refine ⟨u % n, Nat.mod_lt _ (by omega), ?_⟩
    unfold rn_z
    rw [if_neg (fun z => by have := (nI_eq (b := 0) hn (by decide)).mp z; omega), e, nI_rem hu (by omega) hn, nI_1]
  have e : ∀ {α : Type} (o : Option α), rn_z (nI M = 0) o = o := fun o => if_neg (fun z => by have := (nI_eq (b := 0) (show M < 2 ^ 31 by omega) (by decide)).mp z; omega)
  unfold fL_draw
  rw [hM, e, nI_rem (by omega) (by omega) (by omega), hz, rn_bs, rn_lt, rn_lt]
  exact key _
/-- one index among several -/
theorem sm_one {u : Nat} : ∀ (c k : Nat), k ≤ u → u < k + c → sm (fun i => ow (i = u)) k c = 1 := by
  intro c
  induction c with
  | zero => intro k h1 h2; omega
  | succ c ih =>
    intro k h1 h2
    show ow (k = u) + sm (fun i => ow (i = u)) (k + 1) c = 1
    by_cases d : k = u
    · rw [ow_1.mpr d, sm_0 (fun i a1 a2 => ((ow_01 (i = u)).resolve_right (fun q => by have := ow_1.mp q; omega)))]
      rfl
    · rw [ih (k + 1) (by omega) (by omega), (ow_01 (k = u)).resolve_right (fun q => d (ow_1.mp q))]
      rfl
theorem sm_k (v : Nat) : ∀ (c k : Nat), sm (fun _ => nI v) k c = nI (v * c) := by
  intro c
  induction c with
  | zero => intro k; rfl
  | succ c ih =>
    intro k
    show nI v + sm (fun _ => nI v) (k + 1) c = _
    rw [ih (k + 1), nI_add, Nat.mul_succ, Nat.add_comm]
variable {N t a b m e tt : Nat} {sc lc mc tm life tries x : Int32} {stations links messages copies : Nat → Int32} {first size : Int32} {events st : Nat → Int32} {heard : Nat → Int64}
theorem al_l {i1 i2 : Int32} (hN : 6000 ≤ N) (ht : t ≤ 90000) (h : rl_net t sc lc mc tm life tries x stations links messages copies first size events heard st) (z1 : st 1 = nI b) (hb : b ≤ 16) {j0 : Nat} (hj0 : j0 < b) (hj : (qL st j0 0 = i1 ∧ qL st j0 1 = i2) ∨ (qL st j0 0 = i2 ∧ qL st j0 1 = i1)) : ∀ n j, j ≤ j0 → j0 - j < n → lL_areLinked_2 N sc lc mc tm life tries x stations links messages copies size i1 i2 n (nI j) = some () := by
  intro n
  induction n with
  | zero => intro j _ h; omega
  | succ n ih =>
    intro j h1 h2
    have k1 : fL_count N sc lc mc tm life tries x stations links messages copies size (1 : Int32) = some (0, nI b) := by rw [rd_count hN ht h c7_1, z1]
    have l0 := rd_link ht h (l7_0 z1 hb (show j < b by omega))
    have l1 := rd_link ht h (l7_1 z1 hb (show j < b by omega))
    have nx : j ≠ j0 → lL_areLinked_2 N sc lc mc tm life tries x stations links messages copies size i1 i2 n (nI j + (1 : Int32)) = some () := fun q => by
      rw [nI_1]
      exact ih (j + 1) (by omega) (by omega)
    rw [lL_areLinked_2, bz k1, if_neg (nI_ge (by omega) (by omega)), bz l0]
    dsimp only
    by_cases c1 : qL st j 0 = i1
    · rw [if_pos c1, bz l1]
      dsimp only
      by_cases c2 : qL st j 1 = i2
      · rw [if_pos c2]
      · rw [if_neg c2, bz l0]
        dsimp only
        by_cases c3 : qL st j 0 = i2
        · rw [if_pos c3, bz l1]
          dsimp only
          by_cases c4 : qL st j 1 = i1
          · rw [if_pos c4]
          · rw [if_neg c4]
            exact nx (fun q => by subst q; rcases hj with r | r; exact c2 r.2; exact c4 r.2)
        · rw [if_neg c3]
          exact nx (fun q => by subst q; rcases hj with r | r; exact c2 r.2; exact c3 r.1)
    · rw [if_neg c1, bz l0]
      dsimp only
      by_cases c3 : qL st j 0 = i2
      · rw [if_pos c3, bz l1]
        dsimp only
        by_cases c4 : qL st j 1 = i1
        · rw [if_pos c4]
        · rw [if_neg c4]
          exact nx (fun q => by subst q; rcases hj with r | r; exact c1 r.1; exact c4 r.2)
      · rw [if_neg c3]
        exact nx (fun q => by subst q; rcases hj with r | r; exact c1 r.1; exact c3 r.1)
theorem al_ok {i1 i2 : Int32} (hN : 6000 ≤ N) (ht : t ≤ 90000) (h : rl_net t sc lc mc tm life tries x stations links messages copies first size events heard st) (z1 : st 1 = nI b) (hb : b ≤ 16) (hj : jn b st i1 i2) : fL_areLinked N sc lc mc tm life tries x stations links messages copies size i1 i2 = some () := by
  obtain ⟨j0, hj0, hj⟩ := hj
  unfold fL_areLinked
  rw [show lL_areLinked_2 N sc lc mc tm life tries x stations links messages copies size i1 i2 N (0 : Int32) = some () from al_l hN ht h z1 hb hj0 hj N 0 (by omega) (by omega), rn_bs]
theorem isum_a {g : Nat → Int32} {n k : Nat} (h : sm g 0 n = sm g 0 k) : isum g n = isum g k := by rw [sm_isum, sm_isum, h]
theorem qst_3 {k : Nat} : q_st st a k = 0 ∨ q_st st a k = 1 ∨ q_st st a k = 2 := by
  unfold q_st
  by_cases c : sm (fun s => ow (qC st k s 0 = 5)) 0 a ≤ 0
  · rw [if_pos c]
    by_cases d : sm (fun s => ow (qC st k s 0 = 1)) 0 a ≤ 0
    · exact Or.inr (Or.inr (if_pos d))
    · exact Or.inl (if_neg d)
  · exact Or.inr (Or.inl (if_neg c))
theorem sums_ok {c tt' : Nat} (hN : 6000 ≤ N) (ht : t ≤ 90000) (h0 : rl0 t a b m e tt (tt + 1) sc lc mc tm life tries x stations links messages copies first size events st) (eH : ev_H b heard st) (hc : c ≤ 100000) (xs : xS st) (xb : xB c st) : fL_sums N sc lc mc tm life tries x stations links messages copies size = some () := by
  have h : rl_net t sc lc mc tm life tries x stations links messages copies first size events heard st := ⟨a, b, m, e, tt, h0, eH⟩
  obtain ⟨hA, hZ⟩ := rlA_iff.mp h0
  obtain ⟨⟨ha, hb, hm, he, htt⟩, z0, z1, z2, z3, z7, z6⟩ := h0.1.1
  have gS : gd_S a st := h0.1.2.1
  have gL : gd_L a b st := h0.1.2.2.1
  have k0 : fL_count N sc lc mc tm life tries x stations links messages copies size (0 : Int32) = some (0, nI a) := by rw [rd_count hN ht h c7_0, z0]
  have k1 : fL_count N sc lc mc tm life tries x stations links messages copies size (1 : Int32) = some (0, nI b) := by rw [rd_count hN ht h c7_1, z1]
  have k2 : fL_count N sc lc mc tm life tries x stations links messages copies size (2 : Int32) = some (0, nI m) := by rw [rd_count hN ht h c7_2, z2]
  have k7 := rd_count hN ht h (c7_7 hN z0 z2 ha hm)
  have k8 := rd_count hN ht h (c7_8 hN z0 z2 ha hm)
  have k9 := rd_count hN ht h (c7_9 hN z0 z2 ha hm)
  obtain ⟨T, hT⟩ : ∃ T : Nat → Int32, T = fun i => sm (fun j => ow (qL st j 0 = nI i ∨ qL st j 1 = nI i)) 0 b := ⟨_, rfl⟩
  have lp1 : ∀ n i, i ≤ a → a - i < n → lL_sums_21 N sc lc mc tm life tries x stations links messages copies size n (isum (fun i => qS st i 3) i) (isum (fun i => qS st i 4) i) (isum (fun i => qS st i 6) i) (isum T i) (nI i) = some (isum (fun i => qS st i 3) a, isum (fun i => qS st i 4) a, isum (fun i => qS st i 6) a, isum T a) := by
    intro n
    induction n with
    | zero => intro i _ h; omega
    | succ n ih =>
      intro i hi hn
      rw [lL_sums_21, bz k0]
      rcases Nat.lt_or_ge i a with d | d
      · obtain ⟨n3, n4, n5, n6, e3, e4, e5, e6, b1, b2, b3⟩ := xb.1 i (by omega)
        rw [if_neg (nI_ge d (by omega)), bz (rd_station hN ht h (s7_5 z0 ha d)), bz (rd_station hN ht h (s7_6 z0 ha d)), bz (rd_station hN ht h (s7_8 z0 ha d)), bz (rd_station hN ht h (s7_9 hN z0 z1 hb ha d)), bz (rd_station hN ht h (s7_7 z0 ha d)), bz (rd_station hN ht h (s7_8 z0 ha d)), bz (rd_station hN ht h (s7_6 z0 ha d))]
        dsimp only
        rw [if_pos (show qS st i 5 + qS st i 6 ≤ qS st i 4 by rw [e4, e5, e6, nI_add]; exact nI_le b3 (by omega)), nI_1]
        have := ih (i + 1) (by omega) (by omega)
        rw [← this, hT]
        rfl
      · have : i = a := by omega
        subst this
        rw [if_pos (nI_le (Nat.le_refl _) (by omega))]
  have lp2 : ∀ n j, j ≤ b → b - j < n → lL_sums_141 N sc lc mc tm life tries x stations links messages copies size n (isum (fun i => qL st i 6) j) (isum (fun i => qL st i 6 + qL st i 7) j) (isum (fun i => qL st i 5) j) (nI j) = some (isum (fun i => qL st i 6) b, isum (fun i => qL st i 6 + qL st i 7) b, isum (fun i => qL st i 5) b) := by
    intro n
    induction n with
    | zero => intro i _ h; omega
    | succ n ih =>
      intro j hj hn
      rw [lL_sums_141, bz k1]
      rcases Nat.lt_or_ge j b with d | d
      · obtain ⟨n5, n6, n7, e5, e6, e7, b1, b2, b3⟩ := xb.2 j (by omega)
        have l6 := rd_link ht h (l7_6 z1 hb d)
        have l7 := rd_link ht h (l7_7 z1 hb d)
        have l8 := rd_link ht h (l7_8 z1 hb d)
        rw [if_neg (nI_ge d (by omega)), bz l6, bz l7, bz l7, bz l8, bz l7, bz l8, bz l6]
        dsimp only
        rw [if_neg (show ¬ qL st j 5 < qL st j 6 + qL st j 7 by rw [e5, e6, e7, nI_add]; exact nI_nlt b2 (by omega)), bz (rd_link ht h (l7_4 z1 hb d))]
        dsimp only
        have nx := ih (j + 1) (by omega) (by omega)
        rw [nI_1]
        by_cases w : qL st j 4 = (100 : Int32)
        · obtain ⟨r1, r2⟩ := b3 w
          rw [if_pos w, bz l7, bz l8]
          dsimp only
          rw [if_pos (show qL st j 6 + qL st j 7 ≤ 0 by rw [e6, e7, r1, r2]; decide)]
          exact nx
        · rw [if_neg w]
          exact nx
      · have : j = b := by omega
        subst this
        rw [if_pos (nI_le (Nat.le_refl _) (by omega))]
  have aS : ∀ q, q < 7 → isum (fun i => qS st i q) a = isum (fun i => qS st i q) 8 := fun q hq => isum_a (smS gS ha hq).symm
  have aL : ∀ q, q < 8 → isum (fun i => qL st i q) b = isum (fun i => qL st i q) 16 := fun q hq => isum_a (smL gL hb hq).symm
  have q1 : isum (fun i => qS st i 3) a = isum (fun i => qL st i 5) b := by rw [aS 3 (by decide), aL 5 (by decide)]; exact hZ.1
  have q2 : isum (fun i => qS st i 4) a + isum (fun i => qL st i 6) b = isum (fun i => qS st i 3) a := by rw [aS 3 (by decide), aS 4 (by decide), aL 6 (by decide)]; exact xs.1
  have q3 : isum (fun i => qS st i 6) a = sm (fun k => ow (q_st st a k = 1)) 0 m := by
    obtain ⟨v, -, v2, v3⟩ := ms_eq hN (by omega) h
    rw [mi7 hN z0 z2 ha hm] at v2
    rw [show fX7_sumOfStations N st (6 : Int32) = _ from ss7 (q := 6) hN z0 ha (by decide)] at v3
    rw [sm_isum]
    exact (Option.some.inj v3).trans (Option.some.inj v2).symm
  have q4 : isum T a = (2 : Int32) * nI b := by
    rw [sm_isum, hT, sm_swap (fun i j => ow (qL st j 0 = nI i ∨ qL st j 1 = nI i)) b a 0, sm_congr (h := fun _ => nI 2) b 0 (fun j _ hj => ?_), sm_k]
    · exact (nI_m 2 b).symm
    · obtain ⟨⟨u, hu, eu⟩, ⟨v, hv, ev⟩, hne, -⟩ := (gL j (by omega)).1 (by omega)
      have uv : u ≠ v := fun q => hne (by rw [eu, ev, q])
      rw [sm_congr (h := fun i => ow (i = u) + ow (i = v)) a 0 (fun i _ hi => ?_), sm_add, sm_one a 0 (by omega) (by omega), sm_one a 0 (by omega) (by omega)]
      · rfl
      · have e1 : (qL st j 0 = nI i) ↔ i = u := by rw [eu]; exact ⟨fun q => ((nI_eq (by omega) (by omega)).mp q).symm, fun q => by rw [q]⟩
        have e2 : (qL st j 1 = nI i) ↔ i = v := by rw [ev]; exact ⟨fun q => ((nI_eq (by omega) (by omega)).mp q).symm, fun q => by rw [q]⟩
        show ow (qL st j 0 = nI i ∨ qL st j 1 = nI i) = ow (i = u) + ow (i = v)
        unfold ow
        by_cases c1 : i = u
        · rw [if_pos (Or.inl (e1.mpr c1)), if_pos c1, if_neg (fun q => uv (c1.symm.trans q))]
          rfl
        · by_cases c2 : i = v
          · rw [if_pos (Or.inr (e2.mpr c2)), if_neg c1, if_pos c2]
            rfl
          · rw [if_neg (fun q => q.elim (fun r => c1 (e1.mp r)) (fun r => c2 (e2.mp r))), if_neg c1, if_neg c2]
            rfl
  have q5 : sm (fun k => ow (q_st st a k = 0)) 0 m + sm (fun k => ow (q_st st a k = 1)) 0 m + sm (fun k => ow (q_st st a k = 2)) 0 m = nI m := by
    rw [← sm_add, ← sm_add, sm_congr (h := fun _ => nI 1) m 0 (fun k _ _ => ?_), sm_k, Nat.one_mul]
    rcases qst_3 (st := st) (a := a) (k := k) with r | r | r
    · rw [r]; decide
    · rw [r]; decide
    · rw [r]; decide
  obtain ⟨v1, c1, d1⟩ := sm_bd (g := fun i => qL st i 5) (B := c) 16 0 (fun j _ hj => by
    obtain ⟨n5, n6, n7, e5, e6, e7, b1, b2, b3⟩ := xb.2 j (by omega)
    exact ⟨n5, b1, e5⟩)
  obtain ⟨v2, c2, d2⟩ := sm_bd (g := fun i => qL st i 6 + qL st i 7) (B := c) 16 0 (fun j _ hj => by
    obtain ⟨n5, n6, n7, e5, e6, e7, b1, b2, b3⟩ := xb.2 j (by omega)
    exact ⟨n6 + n7, by omega, by rw [e6, e7, nI_add]⟩)
  have w1 : isum (fun i => qS st i 3) a = nI v1 := by rw [q1, aL 5 (by decide), sm_isum]; exact d1
  have w2 : isum (fun i => qL st i 6 + qL st i 7) b = nI v2 := by
    rw [← d2, sm_isum, sm_add, sm_add, smL gL hb (by decide), smL gL hb (by decide)]
  have lr : fX6_lossRate N links = (rn_z (¬ nI v1 = 0 ∧ rn_nn (FP.fdiv (FP.i2f (nI v2)) (FP.i2f (nI v1))) = false) <| some (if nI v1 = 0 then FP.fconst0 else FP.fdiv (FP.i2f (nI v2)) (FP.i2f (nI v1)))) := by
    have s5 : fX2_framesSent N links = some (nI v1) := by
      unfold fX2_framesSent
      rw [show fX4_sum N (16 : Int32) (9 : Int32) 144 links (6 : Int32) = _ from sumL (q := 5) hN hA.2.2.1.2.2 (by decide), rn_bs, d1]
    have s6 : fX2_framesOrAnswersLost N links = some (nI v2) := by
      unfold fX2_framesOrAnswersLost
      rw [show fX4_sum N (16 : Int32) (9 : Int32) 144 links (7 : Int32) = _ from sumL (q := 6) hN hA.2.2.1.2.2 (by decide), rn_bs, show fX4_sum N (16 : Int32) (9 : Int32) 144 links (8 : Int32) = _ from sumL (q := 7) hN hA.2.2.1.2.2 (by decide), rn_bs, ← sm_add, d2]
    unfold fX6_lossRate
    rw [s5, rn_bs, s6, rn_bs]
  unfold fL_sums
  rw [show lL_sums_21 N sc lc mc tm life tries x stations links messages copies size N (0 : Int32) (0 : Int32) (0 : Int32) (0 : Int32) (0 : Int32) = _ from lp1 N 0 (by omega) (by omega), rn_bs, show lL_sums_141 N sc lc mc tm life tries x stations links messages copies size N (0 : Int32) (0 : Int32) (0 : Int32) (0 : Int32) = _ from lp2 N 0 (by omega) (by omega), rn_bs]
  dsimp only
  rw [if_pos q1, if_pos q2, bz k8]
  dsimp only
  rw [if_pos q3, bz k1]
  dsimp only
  rw [if_pos q4, bz k7, bz k8, bz k9, bz k2]
  dsimp only
  rw [if_pos q5, lr, w1, w2]
  have fin : ∀ r : UInt32, FP.fcmp r r = some .eq → (if (Op.cmpValue (FP.fcmp r r) .l) = 0 then some () else none) = some () := fun r hr => by
    rw [hr]
    exact if_pos rfl
  by_cases z : v1 = 0
  · have z' : nI v1 = 0 := by rw [z]; rfl
    unfold rn_z
    rw [if_neg (fun q => q.1 z'), if_pos z', rn_bs, if_pos z', rn_bs]
    exact fin _ (by decide)
  · have z' : ¬ nI v1 = 0 := fun q => z ((nI_eq (b := 0) (by omega) (by decide)).mp q)
    obtain ⟨u, u1, u2⟩ := F_div (n := v2) (d := v1) (by omega) (by omega) z
    have nn : ¬ rn_nn (FP.fdiv (FP.i2f (nI v2)) (FP.i2f (nI v1))) = false := by rw [u2, F_nn u1]; decide
    unfold rn_z
    rw [if_neg (fun q => nn q.2), if_neg z', rn_bs, if_neg z', if_neg nn, rn_bs]
    exact fin _ (by rw [u2]; exact F_eq u1)
end A8
