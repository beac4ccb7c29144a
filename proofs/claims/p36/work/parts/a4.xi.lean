/-! what holds of every net that was only asked and run: paths, times, counts -/
section A4
variable {N a b m tt : Nat} {st st1 st2 : Nat → Int32}
def jn (b : Nat) (st : Nat → Int32) (x y : Int32) : Prop := ∃ j, j < b ∧ ((qL st j 0 = x ∧ qL st j 1 = y) ∨ (qL st j 0 = y ∧ qL st j 1 = x))
def xA (a b m : Nat) (st : Nat → Int32) : Prop := ∀ k s, k < m → s < a → ¬ qC st k s 0 = 0 → qC st k s 4 = qM st k 0 ∧ (∀ L i, L ≤ 8 → qC st k s 3 = nI L → i + 1 < L → jn b st (qC st k s (4 + i)) (qC st k s (4 + (i + 1)))) ∧ ∃ bt ct, bt ≤ ct ∧ ct < 1000000 ∧ qM st k 3 = nI bt ∧ qC st k s 2 = nI ct
def xM (m tt : Nat) (st : Nat → Int32) : Prop := ∀ k, k < 24 → (k < m → ∃ bt, bt ≤ tt ∧ qM st k 3 = nI bt) ∧ (m ≤ k → qM st k 4 = 0 ∧ qM st k 5 = 0)
def xB (c : Nat) (st : Nat → Int32) : Prop := (∀ i, i < 8 → ∃ n3 n4 n5 n6, qS st i 3 = nI n3 ∧ qS st i 4 = nI n4 ∧ qS st i 5 = nI n5 ∧ qS st i 6 = nI n6 ∧ n3 ≤ c ∧ n4 ≤ c ∧ n5 + n6 ≤ n4) ∧
  ∀ j, j < 16 → ∃ n5 n6 n7, qL st j 5 = nI n5 ∧ qL st j 6 = nI n6 ∧ qL st j 7 = nI n7 ∧ n5 ≤ c ∧ n6 + n7 ≤ n5 ∧ (qL st j 4 = nI 100 → n6 = 0 ∧ n7 = 0)
def xS (st : Nat → Int32) : Prop := isum (fun i => qS st i 4) 8 + isum (fun j => qL st j 6) 16 = isum (fun i => qS st i 3) 8 ∧ isum (fun k => qM st k 4) 24 = isum (fun i => qS st i 3) 8 ∧ isum (fun k => qM st k 5) 24 = isum (fun i => qS st i 5) 8
theorem onn_q {n i q i' q' : Nat} (h : ¬ q' = q) : onn n i q i' q' = 0 := if_neg (fun r => h r.2)
theorem onn_y {n i q : Nat} : onn n i q i q = n := if_pos ⟨rfl, rfl⟩
theorem onn_x {n i q i' q' : Nat} (h : ¬ i' = i) : onn n i q i' q' = 0 := if_neg (fun r => h r.1)
def ns (d : Nat → Nat) : Nat → Nat
  | 0 => 0
  | n + 1 => ns d n + d n
theorem isum_ns {g g' : Nat → Int32} {d : Nat → Nat} : ∀ n, (∀ i, i < n → g' i = g i + nI (d i)) → isum g' n = isum g n + nI (ns d n)
  | 0, _ => (nI_z _).symm
  | n + 1, h => by
    show isum g' n + g' n = (isum g n + g n) + nI (ns d n + d n)
    rw [isum_ns n (fun i hi => h i (by omega)), h n (by omega), ← nI_add, Int32.add_assoc, Int32.add_assoc]
    congr 1
    rw [← Int32.add_assoc, ← Int32.add_assoc, Int32.add_comm (nI (ns d n)) (g n)]
theorem ns_0 {d : Nat → Nat} : ∀ n, (∀ i, i < n → d i = 0) → ns d n = 0
  | 0, _ => rfl
  | n + 1, h => by
    show ns d n + d n = 0
    rw [ns_0 n (fun i hi => h i (by omega)), h n (by omega)]
theorem ns_1 {d : Nat → Nat} {u : Nat} : ∀ n, u < n → (∀ i, i < n → i ≠ u → d i = 0) → ns d n = d u
  | 0, h, _ => by omega
  | n + 1, h, hd => by
    show ns d n + d n = d u
    by_cases c : n = u
    · subst c
      rw [ns_0 n (fun i hi => hd i (by omega) (by omega)), Nat.zero_add]
    · rw [ns_1 n (by omega) (fun i hi hne => hd i (by omega) hne), hd n (by omega) c, Nat.add_zero]
theorem jn_c (hb : b ≤ 16) (h : ∀ i q, i < 16 → q < 5 → qL st2 i q = qL st1 i q) {x y : Int32} (g : jn b st1 x y) : jn b st2 x y := by
  obtain ⟨j, hj, g⟩ := g
  refine ⟨j, hj, ?_⟩
  rw [h j 0 (by omega) (by decide), h j 1 (by omega) (by decide)]
  exact g
theorem xA_c {k0 s0 : Nat} (hb : b ≤ 16) (ha : a ≤ 8) (hm : m ≤ 24) (hL : ∀ i q, i < 16 → q < 5 → qL st2 i q = qL st1 i q) (hM : ∀ k q, k < 24 → q < 4 → qM st2 k q = qM st1 k q) (hC : ∀ k' s' q, k' < 24 → s' < 8 → q < 12 → ¬ (k' = k0 ∧ s' = s0 ∧ q = 0) → qC st2 k' s' q = qC st1 k' s' q) (h0 : ¬ qC st1 k0 s0 0 = 0) (g : xA a b m st1) : xA a b m st2 := by
  intro k s hk hs h0'
  have n0 : ¬ qC st1 k s 0 = 0 := by
    by_cases c : k = k0 ∧ s = s0
    · obtain ⟨rfl, rfl⟩ := c
      exact h0
    · rw [← hC k s 0 (by omega) (by omega) (by decide) (fun q => c ⟨q.1, q.2.1⟩)]
      exact h0'
  obtain ⟨g1, g2, bt, ct, g3, g4, g5, g6⟩ := g k s hk hs n0
  have e : ∀ q, 1 ≤ q → q < 12 → qC st2 k s q = qC st1 k s q := fun q h1 h2 => hC k s q (by omega) (by omega) h2 (by omega)
  refine ⟨by rw [e 4 (by decide) (by decide), hM k 0 (by omega) (by decide)]; exact g1, fun L i h8 h3 hi => ?_, bt, ct, g3, g4, by rw [hM k 3 (by omega) (by decide)]; exact g5, by rw [e 2 (by decide) (by decide)]; exact g6⟩
  rw [e 3 (by decide) (by decide)] at h3
  rw [e (4 + i) (by omega) (by omega), e (4 + (i + 1)) (by omega) (by omega)]
  exact jn_c hb hL (g2 L i h8 h3 hi)
theorem xA_SF {k s u L : Nat} {f : Nat → Nat} (hb : b ≤ 16) (ha : a ≤ 8) (hm : m ≤ 24) (ht : tt + 1 < 1000000) (g : xA a b m st1) (gm : xM m tt st1) (hk : k < m) (hs : s < a) (hu : u < a) (h0 : ¬ qC st1 k s 0 = 0) (h1 : 1 ≤ L) (h8 : L < 8) (f2 : qC st1 k s 3 = nI L) (f3 : ∀ i, i < L → f i < 8 ∧ qC st1 k s (4 + i) = nI (f i)) (fl : qC st1 k s (4 + (L - 1)) = nI s) (K : kp k st1 st2) (S : SF b tt k s u L f st1 st2) : xA a b m st2 := by
  obtain ⟨l, G, D, A, L6, L7, s1, s2, -, -, -, -, -, -, C1, C2, C3, C4, -⟩ := S
  have hL : ∀ i q, i < 16 → q < 5 → qL st2 i q = qL st1 i q := K.2.1
  have hM : ∀ k q, k < 24 → q < 4 → qM st2 k q = qM st1 k q := K.2.2.1
  obtain ⟨p1, p2, -⟩ := g k s hk hs h0
  have same : ∀ k' s', k' < m → s' < a → ¬ qC st1 k' s' 0 = 0 → (∀ q, 2 ≤ q → q < 12 → qC st2 k' s' q = qC st1 k' s' q) → qC st2 k' s' 4 = qM st2 k' 0 ∧ (∀ L i, L ≤ 8 → qC st2 k' s' 3 = nI L → i + 1 < L → jn b st2 (qC st2 k' s' (4 + i)) (qC st2 k' s' (4 + (i + 1)))) ∧ ∃ bt ct, bt ≤ ct ∧ ct < 1000000 ∧ qM st2 k' 3 = nI bt ∧ qC st2 k' s' 2 = nI ct := fun k' s' hk' hs' n0 e => by
    obtain ⟨g1, g2, bt, ct, g3, g4, g5, g6⟩ := g k' s' hk' hs' n0
    refine ⟨by rw [e 4 (by decide) (by decide), hM k' 0 (by omega) (by decide)]; exact g1, fun L i h8 h3 hi => ?_, bt, ct, g3, g4, by rw [hM k' 3 (by omega) (by decide)]; exact g5, by rw [e 2 (by decide) (by decide)]; exact g6⟩
    rw [e 3 (by decide) (by decide)] at h3
    rw [e (4 + i) (by omega) (by omega), e (4 + (i + 1)) (by omega) (by omega)]
    exact jn_c hb hL (g2 L i h8 h3 hi)
  intro k' s' hk' hs' h0'
  by_cases c1 : k' = k ∧ s' = u
  · obtain ⟨rfl, rfl⟩ := c1
    rcases C4 with q | ⟨q0, q1, q2, q3, q4, q5⟩
    · exact same k' s' hk' hs' (by rw [← q 0 (by decide)]; exact h0') (fun j _ hj => q j hj)
    · refine ⟨?_, fun L' i hL8 h3 hi => ?_, ?_⟩
      · have e1 := q4 0 (by omega)
        have e2 := (f3 0 (by omega)).2
        rw [hM k' 0 (by omega) (by decide), ← p1]
        exact e1.trans e2.symm
      · have eL : L' = L + 1 := (nI_eq (by omega) (by omega)).mp (h3.symm.trans q3)
        subst eL
        rcases Nat.lt_or_ge (i + 1) L with c | c
        · rw [q4 i (by omega), q4 (i + 1) c, ← (f3 i (by omega)).2, ← (f3 (i + 1) c).2]
          exact jn_c hb hL (p2 L i (by omega) f2 c)
        · have ei : i = L - 1 := by omega
          have ei2 : i + 1 = L := by omega
          rw [ei2, q5, q4 i (by omega), ← (f3 i (by omega)).2, ei, fl]
          exact jn_c hb hL ⟨l, s1, s2⟩
      · obtain ⟨bt, b1, b2⟩ := (gm k' (by omega)).1 hk'
        exact ⟨bt, tt + 1, by omega, ht, by rw [hM k' 3 (by omega) (by decide)]; exact b2, q2⟩
  · by_cases c2 : k' = k ∧ s' = s
    · obtain ⟨rfl, rfl⟩ := c2
      exact same k' s' hk' hs' h0 C2
    · have e := fun q hq => C1 k' s' q (by omega) (by omega) hq (fun r => r.2.elim (fun z => c2 ⟨r.1, z⟩) (fun z => c1 ⟨r.1, z⟩))
      exact same k' s' hk' hs' (by rw [← e 0 (by decide)]; exact h0') (fun q _ hq => e q hq)
theorem xB_dl {c : Nat} (h : dl nat0 nat0 nat0 st1 st2) (g : xB c st1) : xB c st2 := by
  have eS : ∀ i q, i < 8 → q < 7 → qS st2 i q = qS st1 i q := fun i q a1 a2 => (h.1 i q a1 a2).trans (nI_z _)
  have eL : ∀ i q, i < 16 → q < 8 → qL st2 i q = qL st1 i q := fun i q a1 a2 => (h.2.1 i q a1 a2).trans (nI_z _)
  refine ⟨fun i hi => ?_, fun j hj => ?_⟩
  · rw [eS i 3 hi (by decide), eS i 4 hi (by decide), eS i 5 hi (by decide), eS i 6 hi (by decide)]
    exact g.1 i hi
  · rw [eL j 4 hj (by decide), eL j 5 hj (by decide), eL j 6 hj (by decide), eL j 7 hj (by decide)]
    exact g.2 j hj
theorem xS_dl (h : dl nat0 nat0 nat0 st1 st2) (g : xS st1) : xS st2 := by
  have eS : ∀ q, q < 7 → isum (fun i => qS st2 i q) 8 = isum (fun i => qS st1 i q) 8 := fun q a2 => isum_c 8 (fun i hi => (h.1 i q hi a2).trans (nI_z _))
  have eL : isum (fun i => qL st2 i 6) 16 = isum (fun i => qL st1 i 6) 16 := isum_c 16 (fun i hi => (h.2.1 i 6 hi (by decide)).trans (nI_z _))
  have eM : ∀ q, q < 6 → isum (fun i => qM st2 i q) 24 = isum (fun i => qM st1 i q) 24 := fun q a2 => isum_c 24 (fun i hi => (h.2.2.1 i q hi a2).trans (nI_z _))
  unfold xS
  rw [eS 3 (by decide), eS 4 (by decide), eS 5 (by decide), eL, eM 4 (by decide), eM 5 (by decide)]
  exact g
theorem xB_SF {c k s u L : Nat} {f : Nat → Nat} (hsu : ¬ s = u) (g : xB c st1) (K : kp k st1 st2) (S : SF b tt k s u L f st1 st2) : xB (c + 1) st2 := by
  obtain ⟨l, G, D, A, L6, L7, s1, s2, s3, s4, s5, s6, dd, -⟩ := S
  refine ⟨fun i hi => ?_, fun j hj => ?_⟩
  · obtain ⟨n3, n4, n5, n6, e3, e4, e5, e6, h1, h2, h3⟩ := g.1 i hi
    have d3 := dd.1 i 3 hi (by decide)
    have d4 := dd.1 i 4 hi (by decide)
    have d5 := dd.1 i 5 hi (by decide)
    have d6 := dd.1 i 6 hi (by decide)
    simp only [onn_1, onn_q (show ¬ (3 : Nat) = 4 by decide), onn_q (show ¬ (3 : Nat) = 5 by decide), onn_q (show ¬ (3 : Nat) = 6 by decide), Nat.add_zero] at d3
    simp only [onn_1, onn_q (show ¬ (4 : Nat) = 3 by decide), onn_q (show ¬ (4 : Nat) = 5 by decide), onn_q (show ¬ (4 : Nat) = 6 by decide), Nat.add_zero, Nat.zero_add] at d4
    simp only [onn_1, onn_q (show ¬ (5 : Nat) = 3 by decide), onn_q (show ¬ (5 : Nat) = 4 by decide), onn_q (show ¬ (5 : Nat) = 6 by decide), Nat.add_zero, Nat.zero_add] at d5
    simp only [onn_1, onn_q (show ¬ (6 : Nat) = 3 by decide), onn_q (show ¬ (6 : Nat) = 4 by decide), onn_q (show ¬ (6 : Nat) = 5 by decide), Nat.add_zero, Nat.zero_add] at d6
    rw [e3, nI_add] at d3
    rw [e4, nI_add] at d4
    rw [e5, nI_add] at d5
    rw [e6, nI_add] at d6
    refine ⟨_, _, _, _, d3, d4, d5, d6, ?_, ?_, ?_⟩
    · have : onn 1 s 3 i 3 ≤ 1 := by unfold onn; split <;> omega
      omega
    · have : onn G u 4 i 4 ≤ 1 := by unfold onn; split <;> omega
      omega
    · by_cases c : i = u
      · subst c
        rw [onn_y, onn_y, onn_y]
        omega
      · rw [onn_x c, onn_x c, onn_x c]
        omega
  · obtain ⟨n5, n6, n7, e5, e6, e7, h1, h2, h3⟩ := g.2 j hj
    have d5 := dd.2.1 j 5 hj (by decide)
    have d6 := dd.2.1 j 6 hj (by decide)
    have d7 := dd.2.1 j 7 hj (by decide)
    simp only [onn_1, onn_q (show ¬ (5 : Nat) = 6 by decide), onn_q (show ¬ (5 : Nat) = 7 by decide), Nat.add_zero] at d5
    simp only [onn_1, onn_q (show ¬ (6 : Nat) = 5 by decide), onn_q (show ¬ (6 : Nat) = 7 by decide), Nat.add_zero, Nat.zero_add] at d6
    simp only [onn_1, onn_q (show ¬ (7 : Nat) = 5 by decide), onn_q (show ¬ (7 : Nat) = 6 by decide), Nat.add_zero, Nat.zero_add] at d7
    rw [e5, nI_add] at d5
    rw [e6, nI_add] at d6
    rw [e7, nI_add] at d7
    refine ⟨_, _, _, d5, d6, d7, ?_, ?_, fun q => ?_⟩
    · have : onn 1 l 5 j 5 ≤ 1 := by unfold onn; split <;> omega
      omega
    · by_cases c : j = l
      · subst c
        rw [onn_y, onn_y, onn_y]
        omega
      · rw [onn_x c, onn_x c, onn_x c]
        omega
    · rw [K.2.1 j 4 hj (by decide)] at q
      obtain ⟨r1, r2⟩ := h3 q
      by_cases c : j = l
      · subst c
        obtain ⟨t1, t2⟩ := s6 q
        rw [onn_y, onn_y]
        omega
      · rw [onn_x c, onn_x c]
        omega
/-- the sums of the stations' and the links' counts -/
theorem SF_sum {k s u L : Nat} {f : Nat → Nat} (hk : k < 24) (hs : s < 8) (hu : u < 8) (hb : b ≤ 16) (S : SF b tt k s u L f st1 st2) : ∃ A, A ≤ 1 ∧ isum (fun i => qS st2 i 3) 8 = isum (fun i => qS st1 i 3) 8 + nI 1 ∧ isum (fun i => qS st2 i 6) 8 = isum (fun i => qS st1 i 6) 8 + nI A ∧ (xS st1 → xS st2) ∧ ∀ lo F0 d0, LG lo tt F0 d0 st1 → LG lo tt (F0 + 1) (d0 + A) st2 := by
  obtain ⟨l, G, D, A, L6, L7, s1, s2, s3, s4, s5, s6, dd, -, -, -, -, -, lg⟩ := S
  have S3 : isum (fun i => qS st2 i 3) 8 = isum (fun i => qS st1 i 3) 8 + nI 1 := by
    have := isum_ns (d := fun i => onn 1 s 3 i 3) 8 (g := fun i => qS st1 i 3) (g' := fun i => qS st2 i 3) (fun i hi => by
      have d3 := dd.1 i 3 hi (by decide)
      simp only [onn_1, onn_q (show ¬ (3 : Nat) = 4 by decide), onn_q (show ¬ (3 : Nat) = 5 by decide), onn_q (show ¬ (3 : Nat) = 6 by decide), Nat.add_zero] at d3
      exact d3)
    rw [ns_1 (u := s) 8 hs (fun i _ hne => onn_x hne), onn_y] at this
    exact this
  have S4 : isum (fun i => qS st2 i 4) 8 = isum (fun i => qS st1 i 4) 8 + nI G := by
    have := isum_ns (d := fun i => onn G u 4 i 4) 8 (g := fun i => qS st1 i 4) (g' := fun i => qS st2 i 4) (fun i hi => by
      have d4 := dd.1 i 4 hi (by decide)
      simp only [onn_1, onn_q (show ¬ (4 : Nat) = 3 by decide), onn_q (show ¬ (4 : Nat) = 5 by decide), onn_q (show ¬ (4 : Nat) = 6 by decide), Nat.add_zero, Nat.zero_add] at d4
      exact d4)
    rw [ns_1 (u := u) 8 hu (fun i _ hne => onn_x hne), onn_y] at this
    exact this
  have S5 : isum (fun i => qS st2 i 5) 8 = isum (fun i => qS st1 i 5) 8 + nI D := by
    have := isum_ns (d := fun i => onn D u 5 i 5) 8 (g := fun i => qS st1 i 5) (g' := fun i => qS st2 i 5) (fun i hi => by
      have d5 := dd.1 i 5 hi (by decide)
      simp only [onn_1, onn_q (show ¬ (5 : Nat) = 3 by decide), onn_q (show ¬ (5 : Nat) = 4 by decide), onn_q (show ¬ (5 : Nat) = 6 by decide), Nat.add_zero, Nat.zero_add] at d5
      exact d5)
    rw [ns_1 (u := u) 8 hu (fun i _ hne => onn_x hne), onn_y] at this
    exact this
  have S6 : isum (fun i => qS st2 i 6) 8 = isum (fun i => qS st1 i 6) 8 + nI A := by
    have := isum_ns (d := fun i => onn A u 6 i 6) 8 (g := fun i => qS st1 i 6) (g' := fun i => qS st2 i 6) (fun i hi => by
      have d6 := dd.1 i 6 hi (by decide)
      simp only [onn_1, onn_q (show ¬ (6 : Nat) = 3 by decide), onn_q (show ¬ (6 : Nat) = 4 by decide), onn_q (show ¬ (6 : Nat) = 5 by decide), Nat.add_zero, Nat.zero_add] at d6
      exact d6)
    rw [ns_1 (u := u) 8 hu (fun i _ hne => onn_x hne), onn_y] at this
    exact this
  have L6s : isum (fun j => qL st2 j 6) 16 = isum (fun j => qL st1 j 6) 16 + nI L6 := by
    have := isum_ns (d := fun j => onn L6 l 6 j 6) 16 (g := fun j => qL st1 j 6) (g' := fun j => qL st2 j 6) (fun j hj => by
      have d6 := dd.2.1 j 6 hj (by decide)
      simp only [onn_1, onn_q (show ¬ (6 : Nat) = 5 by decide), onn_q (show ¬ (6 : Nat) = 7 by decide), Nat.add_zero, Nat.zero_add] at d6
      exact d6)
    rw [ns_1 (u := l) 16 (by omega) (fun i _ hne => onn_x hne), onn_y] at this
    exact this
  have M4 : isum (fun j => qM st2 j 4) 24 = isum (fun j => qM st1 j 4) 24 + nI 1 := by
    have := isum_ns (d := fun j => onn 1 k 4 j 4) 24 (g := fun j => qM st1 j 4) (g' := fun j => qM st2 j 4) (fun j hj => by
      have d4 := dd.2.2.1 j 4 hj (by decide)
      simp only [onn_1, onn_q (show ¬ (4 : Nat) = 5 by decide), Nat.add_zero] at d4
      exact d4)
    rw [ns_1 (u := k) 24 hk (fun i _ hne => onn_x hne), onn_y] at this
    exact this
  have M5 : isum (fun j => qM st2 j 5) 24 = isum (fun j => qM st1 j 5) 24 + nI D := by
    have := isum_ns (d := fun j => onn D k 5 j 5) 24 (g := fun j => qM st1 j 5) (g' := fun j => qM st2 j 5) (fun j hj => by
      have d5 := dd.2.2.1 j 5 hj (by decide)
      simp only [onn_1, onn_q (show ¬ (5 : Nat) = 4 by decide), Nat.zero_add] at d5
      exact d5)
    rw [ns_1 (u := k) 24 hk (fun i _ hne => onn_x hne), onn_y] at this
    exact this
  refine ⟨A, by omega, S3, S6, fun g => ?_, lg⟩
  obtain ⟨g1, g2, g3⟩ := g
  refine ⟨?_, by rw [M4, S3, g2], by rw [M5, S5, g3]⟩
  rw [S4, L6s, S3, ← g1, ← s3, ← nI_add, Int32.add_assoc, Int32.add_assoc]
  congr 1
  rw [← Int32.add_assoc, ← Int32.add_assoc, Int32.add_comm (nI G)]
end A4
