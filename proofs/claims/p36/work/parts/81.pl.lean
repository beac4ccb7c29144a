/-! the picture when a copy changes, when a draw is made, when an event is noted -/
theorem q5 {q : Nat} (h : q < 5) : q = 0 ∨ q = 1 ∨ q = 2 ∨ q = 3 ∨ q = 4 := by omega
section PM
variable {t a b m e tt τ : Nat} {sc lc mc tm life tries x : Int32} {stations links messages copies : Nat → Int32} {first size : Int32} {events st : Nat → Int32}
/-- what a step leaves of the state for the sums and the open links -/
def low (st st' : Nat → Int32) : Prop := sS st st' ∧ sL st st' ∧ sCc st st' ∧ sM st st' ∧ ∀ j, j < 7 → st' j = st j
/-- a copy that is there and not at its goal: another state -/
theorem p_C (h : rlA t a b m e tt τ sc lc mc tm life tries x stations links messages copies first size events st) {k s w : Nat} (hk : k < m) (hs : s < a) (h0 : ¬ qC st k s 0 = 0) (hg : ¬ qM st k 1 = nI s) (hw : 1 ≤ w) (hw4 : w ≤ 4) : rlA t a b m e tt τ sc lc mc tm life tries x stations links messages (upd copies (5 * (8 * k + s)) (nI w)) first size events (upd st (384 + 12 * (8 * k + s)) (nI w)) := by
  obtain ⟨⟨n1, n2⟩, ⟨S1, S2⟩, ⟨L1, L2, L3⟩, ⟨M1, M2⟩, ⟨C1, C2, C3⟩, D, E1, E2⟩ := h
  obtain ⟨ha, hb, hm, he, -⟩ := n1.1
  have cs : ∀ k' s' q, k' < 24 → s' < 8 → q < 12 → ¬ (k' = k ∧ s' = s ∧ q = 0) → qC (upd st (384 + 12 * (8 * k + s)) (nI w)) k' s' q = qC st k' s' q := fun k' s' q h1 h2 h3 h4 => pk_un (by omega)
  have c0 : qC (upd st (384 + 12 * (8 * k + s)) (nI w)) k s 0 = nI w := pk_us
  have m1 : ∀ k' q, k' < 24 → q < 8 → qM (upd st (384 + 12 * (8 * k + s)) (nI w)) k' q = qM st k' q := fun k' q h1 h2 => pk_un (by omega)
  have w5 : ¬ nI w = 5 := fun q => by have := (nI_eq (b := 5) (by omega) (by decide)).mp q; omega
  have s5 : ¬ qC st k s 0 = 5 := fun q => by
    rcases C1 k s (by omega) (by omega) with r | ⟨_, _, _, r, _⟩
    · exact h0 r.1
    · exact hg (r.mp q)
  refine ⟨⟨gn_c (uN (by omega)) n1, evn_c (uN (by omega)) n2⟩, ⟨gS_c (uSr (by omega)) S1, evS_c (uSr (by omega)) S2⟩, ⟨gL_c (uLr (by omega)) L1, gU_c hb (uLr (by omega)) L2, evL_c (uLr (by omega)) L3⟩, ⟨gM_c hm (fun i q hi hq => m1 i q hi hq) M1, evM_c (fun i q hi hq => m1 i q hi hq) M2⟩, ⟨fun k' s' hk' hs' => ?_, fun k' s' q hk' hs' hq => ?_, fun k' s' hk' hs' h0' => ?_⟩, fun k' g hk' hg' hx => ?_, gE_c he (uEr (by omega)) E1, evE_c he (uEr (by omega)) E2⟩
  · by_cases c : k' = k ∧ s' = s
    · obtain ⟨rfl, rfl⟩ := c
      right
      rcases C1 k' s' hk' hs' with r | ⟨r1, r2, r3⟩
      · exact absurd r.1 h0
      · refine ⟨r1, r2, ⟨w, hw, by omega, c0⟩, ?_, ?_, ?_⟩
        · rw [c0, m1 k' 1 hk' (by decide)]
          exact ⟨fun q => absurd q w5, fun q => absurd q hg⟩
        · rw [cs k' s' 2 hk' hs' (by decide) (by omega)]
          exact r3.2.2.1
        · obtain ⟨L, l1, l2, l3⟩ := r3.2.2.2
          refine ⟨L, by rw [cs k' s' 3 hk' hs' (by decide) (by omega)]; exact l1, l2, l3.1, fun i hi => ?_, fun i j hi hj he => ?_, ?_⟩
          · show rg (qC _ k' s' (4 + i)) 8
            rw [cs k' s' (4 + i) hk' hs' (by omega) (by omega)]
            exact l3.2.1 i hi
          · have he : qC (upd st (384 + 12 * (8 * k' + s')) (nI w)) k' s' (4 + i) = qC (upd st (384 + 12 * (8 * k' + s')) (nI w)) k' s' (4 + j) := he
            rw [cs k' s' (4 + i) hk' hs' (by omega) (by omega), cs k' s' (4 + j) hk' hs' (by omega) (by omega)] at he
            exact l3.2.2.1 i j hi hj he
          · show qC (upd st (384 + 12 * (8 * k' + s')) (nI w)) k' s' (4 + (L - 1)) = nI s'
            have := l3.1
            rw [cs k' s' (4 + (L - 1)) hk' hs' (by omega) (by omega)]
            exact l3.2.2.2
    · rw [cs k' s' 0 hk' hs' (by decide) (by omega), cs k' s' 1 hk' hs' (by decide) (by omega)]
      rcases C1 k' s' hk' hs' with r | ⟨r1, r2, r3⟩
      · exact Or.inl r
      · exact Or.inr ⟨r1, r2, gc_c hk' hs' (fun q hq => cs k' s' q hk' hs' hq (by omega)) (m1 k' 1 hk' (by decide)) r3⟩
  · by_cases c : k' = k ∧ s' = s ∧ q = 0
    · obtain ⟨rfl, rfl, rfl⟩ := c
      rw [c0]
      exact pk_us
    · rw [cs k' s' q hk' hs' (by omega) c, pk_un (by omega)]
      exact C2 k' s' q hk' hs' hq
  · have h0'' : ¬ qC st k' s' 0 = 0 := by
      by_cases c : k' = k ∧ s' = s
      · obtain ⟨rfl, rfl⟩ := c
        exact h0
      · rw [cs k' s' 0 hk' hs' (by decide) (by omega)] at h0'
        exact h0'
    obtain ⟨L, f, l1, l2, l3, l4⟩ := C3 k' s' hk' hs' h0''
    exact ⟨L, f, l1, by rw [cs k' s' 3 hk' hs' (by decide) (by omega)]; exact l2, fun i hi => ⟨(l3 i hi).1, by rw [cs k' s' (4 + i) hk' hs' (by omega) (by omega)]; exact (l3 i hi).2⟩, by rw [pk_un (by omega)]; exact l4⟩
  · rw [m1 k' 1 (by omega) (by decide)] at hx
    have d := D k' g hk' hg' hx
    by_cases c : k' = k ∧ g = s
    · obtain ⟨rfl, rfl⟩ := c
      exact absurd hx hg
    · rw [cs k' g 0 (by omega) hg' (by decide) (by omega), cs k' g 2 (by omega) hg' (by decide) (by omega), cs k' g 3 (by omega) hg' (by decide) (by omega)]
      exact d
/-- .. another number of tries -/
theorem p_Ct (h : rlA t a b m e tt τ sc lc mc tm life tries x stations links messages copies first size events st) {k s : Nat} {v : Int32} (hk : k < m) (hs : s < a) (h0 : ¬ qC st k s 0 = 0) : rlA t a b m e tt τ sc lc mc tm life tries x stations links messages (upd copies (5 * (8 * k + s) + 1) v) first size events (upd st (384 + 12 * (8 * k + s) + 1) v) := by
  obtain ⟨⟨n1, n2⟩, ⟨S1, S2⟩, ⟨L1, L2, L3⟩, ⟨M1, M2⟩, ⟨C1, C2, C3⟩, D, E1, E2⟩ := h
  obtain ⟨ha, hb, hm, he, -⟩ := n1.1
  have cs : ∀ k' s' q, k' < 24 → s' < 8 → q < 12 → ¬ (k' = k ∧ s' = s ∧ q = 1) → qC (upd st (384 + 12 * (8 * k + s) + 1) v) k' s' q = qC st k' s' q := fun k' s' q h1 h2 h3 h4 => pk_un (by omega)
  have m1 : ∀ k' q, k' < 24 → q < 8 → qM (upd st (384 + 12 * (8 * k + s) + 1) v) k' q = qM st k' q := fun k' q h1 h2 => pk_un (by omega)
  refine ⟨⟨gn_c (uN (by omega)) n1, evn_c (uN (by omega)) n2⟩, ⟨gS_c (uSr (by omega)) S1, evS_c (uSr (by omega)) S2⟩, ⟨gL_c (uLr (by omega)) L1, gU_c hb (uLr (by omega)) L2, evL_c (uLr (by omega)) L3⟩, ⟨gM_c hm (fun i q hi hq => m1 i q hi hq) M1, evM_c (fun i q hi hq => m1 i q hi hq) M2⟩, ⟨fun k' s' hk' hs' => ?_, fun k' s' q hk' hs' hq => ?_, fun k' s' hk' hs' h0' => ?_⟩, fun k' g hk' hg' hx => ?_, gE_c he (uEr (by omega)) E1, evE_c he (uEr (by omega)) E2⟩
  · have gc : gd_c τ st k' s' → gd_c τ (upd st (384 + 12 * (8 * k + s) + 1) v) k' s' := by
      rintro ⟨g1, g2, g3, L, g4, g5, g6⟩
      refine ⟨by rw [cs k' s' 0 hk' hs' (by decide) (by omega)]; exact g1, by rw [cs k' s' 0 hk' hs' (by decide) (by omega), m1 k' 1 hk' (by decide)]; exact g2, by rw [cs k' s' 2 hk' hs' (by decide) (by omega)]; exact g3, L, by rw [cs k' s' 3 hk' hs' (by decide) (by omega)]; exact g4, g5, g6.1, fun i hi => ?_, fun i j hi hj he => ?_, ?_⟩
      · show rg (qC _ k' s' (4 + i)) 8
        rw [cs k' s' (4 + i) hk' hs' (by omega) (by omega)]
        exact g6.2.1 i hi
      · have he : qC (upd st (384 + 12 * (8 * k + s) + 1) v) k' s' (4 + i) = qC (upd st (384 + 12 * (8 * k + s) + 1) v) k' s' (4 + j) := he
        rw [cs k' s' (4 + i) hk' hs' (by omega) (by omega), cs k' s' (4 + j) hk' hs' (by omega) (by omega)] at he
        exact g6.2.2.1 i j hi hj he
      · show qC (upd st (384 + 12 * (8 * k + s) + 1) v) k' s' (4 + (L - 1)) = nI s'
        have := g6.1
        rw [cs k' s' (4 + (L - 1)) hk' hs' (by omega) (by omega)]
        exact g6.2.2.2
    by_cases c : k' = k ∧ s' = s
    · obtain ⟨rfl, rfl⟩ := c
      rcases C1 k' s' hk' hs' with r | ⟨r1, r2, r3⟩
      · exact absurd r.1 h0
      · exact Or.inr ⟨r1, r2, gc r3⟩
    · rw [cs k' s' 0 hk' hs' (by decide) (by omega), cs k' s' 1 hk' hs' (by decide) (by omega)]
      rcases C1 k' s' hk' hs' with r | ⟨r1, r2, r3⟩
      · exact Or.inl r
      · exact Or.inr ⟨r1, r2, gc r3⟩
  · by_cases c : k' = k ∧ s' = s ∧ q = 1
    · obtain ⟨rfl, rfl, rfl⟩ := c
      exact (pk_us).trans (pk_us).symm
    · rw [cs k' s' q hk' hs' (by omega) c, pk_un (by omega)]
      exact C2 k' s' q hk' hs' hq
  · rw [cs k' s' 0 hk' hs' (by decide) (by omega)] at h0'
    obtain ⟨L, f, l1, l2, l3, l4⟩ := C3 k' s' hk' hs' h0'
    exact ⟨L, f, l1, by rw [cs k' s' 3 hk' hs' (by decide) (by omega)]; exact l2, fun i hi => ⟨(l3 i hi).1, by rw [cs k' s' (4 + i) hk' hs' (by omega) (by omega)]; exact (l3 i hi).2⟩, by rw [pk_un (by omega)]; exact l4⟩
  · rw [m1 k' 1 (by omega) (by decide)] at hx
    have d := D k' g hk' hg' hx
    rw [cs k' g 0 (by omega) hg' (by decide) (by omega), cs k' g 2 (by omega) hg' (by decide) (by omega), cs k' g 3 (by omega) hg' (by decide) (by omega)]
    exact d
/-- a draw -/
theorem p_x (h : rlA t a b m e tt τ sc lc mc tm life tries x stations links messages copies first size events st) {v : Int32} (hv : rg v 1000003) : rlA t a b m e tt τ sc lc mc tm life tries v stations links messages copies first size events (upd st 6 v) := by
  obtain ⟨⟨n1, n2⟩, ⟨S1, S2⟩, ⟨L1, L2, L3⟩, ⟨M1, M2⟩, ⟨C1, C2, C3⟩, D, E1, E2⟩ := h
  obtain ⟨ha, hb, hm, he, -⟩ := n1.1
  refine ⟨⟨?_, ?_⟩, ⟨gS_c (uSr (by omega)) S1, evS_c (uSr (by omega)) S2⟩, ⟨gL_c (uLr (by omega)) L1, gU_c hb (uLr (by omega)) L2, evL_c (uLr (by omega)) L3⟩, ⟨gM_c hm (uMr (by omega)) M1, evM_c (uMr (by omega)) M2⟩, ⟨gC_c (uCr (by omega)) (uMr (by omega)) C1, evC_c (uCr (by omega)) C2, evP_c (uCr (by omega)) C3⟩, evD_c hm (uCr (by omega)) (uMr (by omega)) D, gE_c he (uEr (by omega)) E1, evE_c he (uEr (by omega)) E2⟩
  · unfold gd_n at *
    rw [pk_un (by decide), pk_un (by decide), pk_un (by decide), pk_un (by decide), pk_un (by decide), pk_us]
    exact ⟨n1.1, n1.2.1, n1.2.2.1, n1.2.2.2.1, n1.2.2.2.2.1, n1.2.2.2.2.2.1, hv⟩
  · unfold ev_n at *
    rw [pk_un (by decide), pk_un (by decide), pk_un (by decide), pk_un (by decide), pk_un (by decide), pk_un (by decide), pk_us, pk_un (by decide)]
    exact ⟨n2.1, n2.2.1, n2.2.2.1, n2.2.2.2.1, n2.2.2.2.2.1, n2.2.2.2.2.2.1, rfl, n2.2.2.2.2.2.2.2⟩
/-- noting an event -/
theorem nt_eq {N kd k s : Nat} {o : Int32} (hN : 6000 ≤ N) (h : rlA t a b m e tt τ sc lc mc tm life tries x stations links messages copies first size events st) (ht : t < 1000000) (hkd : kd < 9) (hk : k < 24) (hs : s < 8) (ho : o = -1 ∨ rg o 8) :
    ∃ st' e' first' size' events', fX7_note N st (nI kd) (nI k) (nI s) o = some st' ∧ fX0_add first size events tm (nI kd) (nI k) (nI s) o = some (first', size', events') ∧ rlA t a b m e' tt τ sc lc mc tm life tries x stations links messages copies first' size' events' st' ∧ low st st' := by
  obtain ⟨⟨n1, n2⟩, ⟨S1, S2⟩, ⟨L1, L2, L3⟩, ⟨M1, M2⟩, ⟨C1, C2, C3⟩, D, E1, f, hf, ef, E2⟩ := h
  obtain ⟨⟨ha, hb, hm, he, htt⟩, z0, z1, z2, z3, z7, z6⟩ := n1
  obtain ⟨y0, y1, y2, y3, y4, y5, y6, y7⟩ := n2
  -- the model
  have shift : ∀ (n i : Nat) (y : Nat → Int32), i ≤ 195 → 195 - i < n → (∀ j, (j < 2688 ∨ 2688 + i ≤ j) → y j = st j) → (∀ j, j < i → y (2688 + j) = st (2688 + j + 5)) → ∃ y', lX7_note_15 n (nI i) y = some y' ∧ (∀ j, j < 2688 → y' j = st j) ∧ ∀ j, j < 195 → y' (2688 + j) = st (2688 + j + 5) := by
    intro n
    induction n with
    | zero => intro i y _ h; omega
    | succ n ih =>
      intro i y hi hn h1 h2
      rw [lX7_note_15]
      rcases Nat.lt_or_ge i 195 with h | h
      · have e1 : (2688 : Int32) + nI i = nI (2688 + i) := by rw [show (2688 : Int32) = nI 2688 from rfl, nI_add]
        have e2 : nI (2688 + i) + (5 : Int32) = nI (2688 + i + 5) := by rw [show (5 : Int32) = nI 5 from rfl, nI_add]
        rw [if_neg (show ¬ (195 : Int32) ≤ nI i from nI_ge (b := 195) h (by decide)), e1, e2, rn_gI (by omega) (by decide), rn_gI (by omega) (by decide), rn_lt, nI_clamp (by omega), nI_clamp (by omega), nI_1]
        refine ih (i + 1) _ (by omega) (by omega) (fun j hj => ?_) (fun j hj => ?_)
        · rw [pk_un (by omega)]
          exact h1 j (by omega)
        · by_cases q : j = i
          · subst q
            rw [pk_us]
            exact h1 _ (by omega)
          · rw [pk_un (by omega)]
            exact h2 j (by omega)
      · have : i = 195 := by omega
        subst this
        rw [if_pos (show (195 : Int32) ≤ nI 195 from nI_le (a := 195) (Nat.le_refl _) (by decide))]
        exact ⟨y, rfl, fun j hj => h1 j (by omega), h2⟩
  have mid : ∃ st0 e0, e0 < 40 ∧ (if st 7 = (40 : Int32) then (lX7_note_15 N (0 : Int32) st).bind fun t4 => rn_let (upd t4 7 ((t4 7) - (1 : Int32))) fun w11 => some w11 else some st) = some st0 ∧ st0 7 = nI e0 ∧ (∀ j, j < 2688 → j ≠ 7 → st0 j = st j) ∧ (if e = 40 then e0 = 39 ∧ ∀ j q, j < 39 → q < 5 → qE st0 j q = qE st (j + 1) q else e0 = e ∧ ∀ j q, j < e → q < 5 → qE st0 j q = qE st j q) := by
    by_cases c : e = 40
    · obtain ⟨y', w1, w2, w3⟩ := shift N 0 st (by omega) (by omega) (fun j _ => rfl) (fun j hj => by omega)
      refine ⟨upd y' 7 (y' 7 - 1), 39, by decide, ?_, ?_, fun j hj hj7 => by rw [pk_un hj7]; exact w2 j hj, ?_⟩
      · rw [if_pos (by rw [z7, c]; rfl), show lX7_note_15 N (0 : Int32) st = some y' from w1, rn_bs, rn_lt]
      · rw [pk_us, w2 7 (by decide), z7, c]
        rfl
      · rw [if_pos c]
        refine ⟨rfl, fun j q hj hq => ?_⟩
        unfold qE
        rw [pk_un (by omega), show 2688 + 5 * j + q = 2688 + (5 * j + q) by omega, w3 _ (by omega)]
        exact congrArg st (by omega)
    · refine ⟨st, e, by omega, ?_, z7, fun j _ _ => rfl, ?_⟩
      · rw [if_neg (fun q => by
          rw [z7] at q
          have := (nI_eq (b := 40) (by omega) (by decide)).mp q
          omega)]
      · rw [if_neg c]
        exact ⟨rfl, fun j q _ _ => rfl⟩
  obtain ⟨st0, e0, b1, b2, b3, b4, b5⟩ := mid
  have p0 : (2688 : Int32) + (5 : Int32) * nI e0 = nI (2688 + 5 * e0) := by rw [show (5 : Int32) = nI 5 from rfl, pk_mul, show (2688 : Int32) = nI 2688 from rfl, nI_add]
  have c0 : (nI (2688 + 5 * e0)).toNatClampNeg = 2688 + 5 * e0 := nI_clamp (by omega)
  have pp : ∀ q : Nat, q < 5 → (nI (2688 + 5 * e0 + q)).toNatClampNeg = 2688 + 5 * e0 + q := fun q hq => nI_clamp (by omega)
  have gg : ∀ q : Nat, q < 5 → ∀ {α : Type} {o : Option α}, rn_g (nI (2688 + 5 * e0 + q)) 2888 o = o := fun q hq => rn_gI (by omega) (by decide)
  have a1 : nI (2688 + 5 * e0) + (1 : Int32) = nI (2688 + 5 * e0 + 1) := nI_add _ 1
  have a2 : nI (2688 + 5 * e0) + (2 : Int32) = nI (2688 + 5 * e0 + 2) := nI_add _ 2
  have a3 : nI (2688 + 5 * e0) + (3 : Int32) = nI (2688 + 5 * e0 + 3) := nI_add _ 3
  have a4 : nI (2688 + 5 * e0) + (4 : Int32) = nI (2688 + 5 * e0 + 4) := nI_add _ 4
  have fin7 : ∃ st', fX7_note N st (nI kd) (nI k) (nI s) o = some st' ∧ st' 7 = nI (e0 + 1) ∧ (∀ j, j < 2688 → j ≠ 7 → st' j = st j) ∧ (∀ j q, j ≠ e0 → j < 40 → q < 5 → qE st' j q = qE st0 j q) ∧ qE st' e0 0 = nI tt ∧ qE st' e0 1 = nI kd ∧ qE st' e0 2 = nI k ∧ qE st' e0 3 = nI s ∧ qE st' e0 4 = o := by
    refine ⟨upd (upd (upd (upd (upd (upd st0 (2688 + 5 * e0) (nI tt)) (2688 + 5 * e0 + 1) (nI kd)) (2688 + 5 * e0 + 2) (nI k)) (2688 + 5 * e0 + 3) (nI s)) (2688 + 5 * e0 + 4) o) 7 (nI (e0 + 1)), ?_, pk_us, fun j hj hj7 => ?_, fun j q hj h40 hq => ?_, ?_, ?_, ?_, ?_, ?_⟩
    · unfold fX7_note
      simp only [g7, g3, cl7, cl3]
      rw [b2, rn_bs]
      simp only [rn_lt, b3, p0, a1, a2, a3, a4, c0, pp 1 (by decide), pp 2 (by decide), pp 3 (by decide), pp 4 (by decide), gg 1 (by decide), gg 2 (by decide), gg 3 (by decide), gg 4 (by decide)]
      rw [rn_gI (by omega) (by decide), b4 3 (by decide) (by decide), z3, pk_un (by omega), pk_un (by omega), pk_un (by omega), pk_un (by omega), pk_un (by omega), b3, nI_1]
    · rw [pk_un hj7, pk_un (by omega), pk_un (by omega), pk_un (by omega), pk_un (by omega), pk_un (by omega)]
      exact b4 j hj hj7
    · unfold qE
      rw [pk_un (by omega), pk_un (by omega), pk_un (by omega), pk_un (by omega), pk_un (by omega), pk_un (by omega)]
    · unfold qE
      rw [pk_un (by omega), pk_un (by omega), pk_un (by omega), pk_un (by omega), pk_un (by omega), Nat.add_zero, pk_us]
    · unfold qE
      rw [pk_un (by omega), pk_un (by omega), pk_un (by omega), pk_un (by omega), pk_us]
    · unfold qE
      rw [pk_un (by omega), pk_un (by omega), pk_un (by omega), pk_us]
    · unfold qE
      rw [pk_un (by omega), pk_un (by omega), pk_us]
    · unfold qE
      rw [pk_un (by omega), pk_us]
  obtain ⟨st', d1, d2, d3, d4, d5, d6, d7, d8, d9⟩ := fin7
  -- the class
  have row : rn_rem (first + size) (40 : Int32) = nI ((f + e) % 40) := by
    rw [ef, y7, z7, nI_add]
    exact nI_rem (d := 40) (by omega) (by decide) (by decide)
  have hr : (f + e) % 40 < 40 := Nat.mod_lt _ (by decide)
  refine ⟨st', e0 + 1, nI (if e = 40 then (f + 1) % 40 else f), nI (e0 + 1), upd (upd (upd (upd (upd events (5 * ((f + e) % 40)) tm) (5 * ((f + e) % 40) + 1) (nI kd)) (5 * ((f + e) % 40) + 2) (nI k)) (5 * ((f + e) % 40) + 3) (nI s)) (5 * ((f + e) % 40) + 4) o, d1, ?_, ?_, ?_⟩
  · unfold fX0_add
    rw [row]
    have first' : (if (40 : Int32) ≤ size then rn_let (rn_rem (first + (1 : Int32)) (40 : Int32)) fun v3 => some (v3, size) else some (first, (size + (1 : Int32)))) = some (nI (if e = 40 then (f + 1) % 40 else f), nI (e0 + 1)) := by
      rw [y7, z7, ef]
      by_cases c : e = 40
      · rw [if_pos c] at b5
        rw [if_pos c, b5.1, c, if_pos (show (40 : Int32) ≤ nI 40 from nI_le (a := 40) (Nat.le_refl _) (by decide)), rn_lt, nI_1, show rn_rem (nI (f + 1)) (40 : Int32) = nI ((f + 1) % 40) from nI_rem (d := 40) (by omega) (by decide) (by decide)]
      · rw [if_neg c] at b5
        rw [if_neg c, b5.1, if_neg (show ¬ (40 : Int32) ≤ nI e from nI_ge (b := 40) (by omega) (by decide)), nI_1]
    rw [first', rn_bs, show fX4_set (40 : Int32) (5 : Int32) 200 events (nI ((f + e) % 40)) (0 : Int32) tm = some (upd events (5 * ((f + e) % 40)) tm) from uE (q := 0) hr (by decide), rn_bs, show ∀ c v, fX4_set (40 : Int32) (5 : Int32) 200 c (nI ((f + e) % 40)) (1 : Int32) v = some (upd c (5 * ((f + e) % 40) + 1) v) from fun c v => uE (q := 1) hr (by decide), rn_bs, show ∀ c v, fX4_set (40 : Int32) (5 : Int32) 200 c (nI ((f + e) % 40)) (2 : Int32) v = some (upd c (5 * ((f + e) % 40) + 2) v) from fun c v => uE (q := 2) hr (by decide), rn_bs, show ∀ c v, fX4_set (40 : Int32) (5 : Int32) 200 c (nI ((f + e) % 40)) (3 : Int32) v = some (upd c (5 * ((f + e) % 40) + 3) v) from fun c v => uE (q := 3) hr (by decide), rn_bs, show ∀ c v, fX4_set (40 : Int32) (5 : Int32) 200 c (nI ((f + e) % 40)) (4 : Int32) v = some (upd c (5 * ((f + e) % 40) + 4) v) from fun c v => uE (q := 4) hr (by decide), rn_bs]
  · have kS : sS st st' := fun i q hi hq => d3 _ (by omega) (by omega)
    have kL : sL st st' := fun i q hi hq => d3 _ (by omega) (by omega)
    have kM : sM st st' := fun i q hi hq => d3 _ (by omega) (by omega)
    have kC : sCc st st' := fun k s q hk hs hq => d3 _ (by omega) (by omega)
    have new : rg (qE st' e0 0) 1000000 ∧ rg (qE st' e0 1) 9 ∧ rg (qE st' e0 2) 24 ∧ rg (qE st' e0 3) 8 ∧ (qE st' e0 4 = -1 ∨ rg (qE st' e0 4) 8) := by
      rw [d5, d6, d7, d8, d9]
      exact ⟨⟨tt, by omega, rfl⟩, ⟨kd, hkd, rfl⟩, ⟨k, hk, rfl⟩, ⟨s, hs, rfl⟩, ho⟩
    refine ⟨⟨⟨⟨ha, hb, hm, by omega, htt⟩, by rw [d3 0 (by decide) (by decide)]; exact z0, by rw [d3 1 (by decide) (by decide)]; exact z1, by rw [d3 2 (by decide) (by decide)]; exact z2, by rw [d3 3 (by decide) (by decide)]; exact z3, d2, by rw [d3 6 (by decide) (by decide)]; exact z6⟩, by rw [d3 0 (by decide) (by decide)]; exact y0, by rw [d3 1 (by decide) (by decide)]; exact y1, by rw [d3 2 (by decide) (by decide)]; exact y2, by rw [d3 3 (by decide) (by decide)]; exact y3, by rw [d3 4 (by decide) (by decide)]; exact y4, by rw [d3 5 (by decide) (by decide)]; exact y5, by rw [d3 6 (by decide) (by decide)]; exact y6, d2.symm⟩, ⟨gS_c kS S1, evS_c kS S2⟩, ⟨gL_c kL L1, gU_c hb kL L2, evL_c kL L3⟩, ⟨gM_c hm kM M1, evM_c kM M2⟩, ⟨gC_c kC kM C1, evC_c kC C2, evP_c kC C3⟩, evD_c hm kC kM D, ?_, ?_⟩
    · intro j hj
      by_cases c : j = e0
      · subst c
        exact new
      · by_cases c4 : e = 40
        · rw [if_pos c4] at b5
          have q0 := fun q hq => (d4 j q c (by omega) hq).trans (b5.2 j q (by omega) hq)
          rw [q0 0 (by decide), q0 1 (by decide), q0 2 (by decide), q0 3 (by decide), q0 4 (by decide)]
          exact E1 (j + 1) (by omega)
        · rw [if_neg c4] at b5
          have q0 := fun q hq => (d4 j q c (by omega) hq).trans (b5.2 j q (by omega) hq)
          rw [q0 0 (by decide), q0 1 (by decide), q0 2 (by decide), q0 3 (by decide), q0 4 (by decide)]
          exact E1 j (by omega)
    · refine ⟨if e = 40 then (f + 1) % 40 else f, by split <;> omega, rfl, fun j q hj hq => ?_⟩
      have tmq : tm = nI tt := y3.trans z3
      by_cases c : j = e0
      · subst c
        have er : ((if e = 40 then (f + 1) % 40 else f) + j) % 40 = (f + e) % 40 := by
          by_cases c4 : e = 40
          · rw [if_pos c4] at b5 ⊢
            omega
          · rw [if_neg c4] at b5 ⊢
            rw [b5.1]
        rw [er]
        rcases q5 hq with rfl | rfl | rfl | rfl | rfl
        · rw [pk_un (by omega), pk_un (by omega), pk_un (by omega), pk_un (by omega), Nat.add_zero, pk_us, d5, tmq]
        · rw [pk_un (by omega), pk_un (by omega), pk_un (by omega), pk_us, d6]
        · rw [pk_un (by omega), pk_un (by omega), pk_us, d7]
        · rw [pk_un (by omega), pk_us, d8]
        · rw [pk_us, d9]
      · by_cases c4 : e = 40
        · rw [if_pos c4] at b5 ⊢
          rw [pk_un (by omega), pk_un (by omega), pk_un (by omega), pk_un (by omega), pk_un (by omega), (d4 j q c (by omega) hq).trans (b5.2 j q (by omega) hq), ← E2 (j + 1) q (by omega) hq]
          exact congrArg events (by omega)
        · rw [if_neg c4] at b5 ⊢
          rw [pk_un (by omega), pk_un (by omega), pk_un (by omega), pk_un (by omega), pk_un (by omega), (d4 j q c (by omega) hq).trans (b5.2 j q (by omega) hq)]
          exact E2 j q (by omega) hq
  · exact ⟨fun i q hi hq => d3 _ (by omega) (by omega), fun i q hi hq => d3 _ (by omega) (by omega), fun k s q hk hs hq => d3 _ (by omega) (by omega), fun i q hi hq => d3 _ (by omega) (by omega), fun j hj => d3 j (by omega) (by omega)⟩
end PM
