/-! the net beside another one: copies of it; several hours -/
section PZ
variable {N t : Nat} {sc lc mc tm life tries x : Int32} {stations links messages copies : Nat → Int32} {first size : Int32} {events st : Nat → Int32} {heard : Nat → Int64}
theorem sC_lt {q : Nat} (h : q < 7) : sC q < 10 := by unfold sC; split <;> omega
theorem lC_lt {q : Nat} (h : q < 8) : lC q < 9 := by unfold lC; split <;> omega
theorem mC_lt {q : Nat} (h : q < 8) : mC q < 12 := by
  unfold mC
  split
  · omega
  · split <;> omega
/-- the same tables, the same picture -/
theorem rl_x {s' l' m' c' ev' : Nat → Int32} {h' : Nat → Int64} (e1 : ∀ i, i < 80 → s' i = stations i) (e2 : ∀ i, i < 144 → l' i = links i) (e3 : ∀ i, i < 288 → m' i = messages i) (e4 : ∀ i, i < 960 → c' i = copies i) (e5 : ∀ i, i < 200 → ev' i = events i) (e6 : ∀ i, i < 24 → h' i = heard i) (h : rl_net t sc lc mc tm life tries x stations links messages copies first size events heard st) : rl_net t sc lc mc tm life tries x s' l' m' c' first size ev' h' st := by
  obtain ⟨a, b, m, e, tt, h0, eH⟩ := h
  obtain ⟨⟨⟨n1, n2⟩, ⟨S1, S2⟩, ⟨L1, L2, L3⟩, ⟨M1, M2⟩, ⟨C1, C2, C3⟩, D, E1, f, hf, ef, E2⟩, hZ⟩ := rlA_iff.mp h0
  obtain ⟨ha, hb, hm, he, htt⟩ := n1.1
  refine ⟨a, b, m, e, tt, rlA_iff.mpr ⟨⟨⟨n1, n2⟩, ⟨S1, fun i q hi hq => ?_⟩, ⟨L1, L2, fun i q hi hq => ?_⟩, ⟨M1, fun i q hi hq => ?_⟩, ⟨C1, fun k s q hk hs hq => ?_, fun k s hk hs h0 => ?_⟩, fun k g hk hg hx => ?_, E1, f, hf, ef, fun j q hj hq => ?_⟩, hZ⟩, fun h i j hh hi hj => ?_⟩
  · have := sC_lt hq
    rw [e1 _ (by omega)]
    exact S2 i q hi hq
  · have := lC_lt hq
    rw [e2 _ (by omega)]
    exact L3 i q hi hq
  · have := mC_lt hq
    rw [e3 _ (by omega)]
    exact M2 i q hi hq
  · rw [e4 _ (by omega)]
    exact C2 k s q hk hs hq
  · rw [e4 _ (by omega)]
    exact C3 k s hk hs h0
  · rw [e3 _ (by omega), e3 _ (by omega)]
    exact D k g hk hg hx
  · have := Nat.mod_lt (f + j) (show 0 < 40 by decide)
    rw [e5 _ (by omega)]
    exact E2 j q hj hq
  · rw [e6 h hh]
    exact eH h i j hh hi hj
theorem rl_m {st' : Nat → Int32} (e1 : ∀ i, i < 2888 → st' i = st i) (h : rl_net t sc lc mc tm life tries x stations links messages copies first size events heard st) : rl_net t sc lc mc tm life tries x stations links messages copies first size events heard st' := by
  obtain ⟨a, b, m, e, tt, h0, eH⟩ := h
  obtain ⟨⟨⟨n1, n2⟩, ⟨S1, S2⟩, ⟨L1, L2, L3⟩, ⟨M1, M2⟩, ⟨C1, C2, C3⟩, D, E1, E2⟩, hZ⟩ := rlA_iff.mp h0
  obtain ⟨ha, hb, hm, he, htt⟩ := n1.1
  have rN : sN st st' := fun i hi => e1 i (by omega)
  have rS : sS st st' := fun i q hi hq => e1 _ (by omega)
  have rL : sL st st' := fun i q hi hq => e1 _ (by omega)
  have rM : sM st st' := fun i q hi hq => e1 _ (by omega)
  have rC : sCc st st' := fun k s q hk hs hq => e1 _ (by omega)
  have rE : sE st st' := fun i q hi hq => e1 _ (by omega)
  exact ⟨a, b, m, e, tt, rlA_iff.mpr ⟨⟨⟨gn_c rN n1, evn_c rN n2⟩, ⟨gS_c rS S1, evS_c rS S2⟩, ⟨gL_c rL L1, gU_c hb rL L2, evL_c rL L3⟩, ⟨gM_c hm rM M1, evM_c rM M2⟩, ⟨gC_c rC rM C1, evC_c rC C2, evP_c rC C3⟩, evD_c hm rC rM D, gE_c he rE E1, evE_c he rE E2⟩, gZ_c rS rL rC hZ⟩, evH_c hb ha L1 (fun i q h1 h2 => rL i q (by omega) (by omega)) (fun i q h1 h2 => rS i q (by omega) (by omega)) eH⟩
theorem rl_t {t' : Nat} (htt : t ≤ t') (h : rl_net t sc lc mc tm life tries x stations links messages copies first size events heard st) : rl_net t' sc lc mc tm life tries x stations links messages copies first size events heard st := by
  obtain ⟨a, b, m, e, tt, h0, eH⟩ := h
  obtain ⟨hA, hZ⟩ := rlA_iff.mp h0
  exact ⟨a, b, m, e, tt, rlA_iff.mpr ⟨p_t htt hA, hZ⟩, eH⟩
/-- copies of tables, of a net, of a state -/
theorem cpy0 {α : Type} (f g : Nat → α) (n i : Nat) (h : i < n) : va_cpy f g 0 0 n i = f i := by
  unfold va_cpy
  rw [if_pos (by omega)]
  exact congrArg f (by omega)
theorem tk4 {A B : Int32} {n : Nat} {c p : Nat → Int32} (hn : n < 2 ^ 30) : fX4_takeFrom A B n A B n c p = some (va_cpy p c 0 0 n) := by
  unfold fX4_takeFrom rn_ag
  have e : rn_min (Int32.ofNat n) (Int32.ofNat n) = nI n := (rn_minI (u := n) (v := n) (by omega) (by omega)).trans (by rw [Nat.min_self])
  rw [e, nI_clamp (by omega), if_pos ⟨by decide, by decide, nI_pos (by omega), by rw [cl0]; omega, by rw [cl0]; omega⟩]
  rfl
theorem tf_eq (h : rl_net t sc lc mc tm life tries x stations links messages copies first size events heard st) (sc0 lc0 mc0 tm0 life0 tries0 x0 : Int32) (s0 l0 m0 c0 : Nat → Int32) (f0 z0 : Int32) (e0 : Nat → Int32) (h0 : Nat → Int64) :
    ∃ s' l' m' c' ev' h', fX2_takeFrom sc0 lc0 mc0 tm0 life0 tries0 x0 s0 l0 m0 c0 f0 z0 e0 h0 sc lc mc tm life tries x stations links messages copies first size events heard = some (sc, lc, mc, tm, life, tries, x, s', l', m', c', first, size, ev', h') ∧ rl_net t sc lc mc tm life tries x s' l' m' c' first size ev' h' st := by
  refine ⟨va_cpy stations s0 0 0 80, va_cpy links l0 0 0 144, va_cpy messages m0 0 0 288, va_cpy copies c0 0 0 960, va_cpy events e0 0 0 200, va_cpy heard h0 0 0 24, ?_, rl_x (fun i hi => cpy0 _ _ _ _ hi) (fun i hi => cpy0 _ _ _ _ hi) (fun i hi => cpy0 _ _ _ _ hi) (fun i hi => cpy0 _ _ _ _ hi) (fun i hi => cpy0 _ _ _ _ hi) (fun i hi => cpy0 _ _ _ _ hi) h⟩
  have h5 : fX5_takeFrom h0 heard = some (va_cpy heard h0 0 0 24) := by
    unfold fX5_takeFrom rn_ag
    have e : rn_min (Int32.ofNat 24) (Int32.ofNat 24) = nI 24 := (rn_minI (u := 24) (v := 24) (by omega) (by omega)).trans (by rw [Nat.min_self])
    rw [e, nI_clamp (by omega), if_pos ⟨by decide, by decide, nI_pos (by omega), by rw [cl0]; omega, by rw [cl0]; omega⟩]
    rfl
  unfold fX2_takeFrom fX0_takeFrom
  rw [tk4 (by decide), rn_bs, tk4 (by decide), rn_bs, tk4 (by decide), rn_bs, tk4 (by decide), rn_bs, tk4 (by decide), rn_bs, rn_bs, h5, rn_bs]
theorem ca7 {n0 n2 i j : Nat} {g : Nat → Int32} (hN : 6000 ≤ N) (h0 : i + 2888 ≤ n0) (h2 : j + 2888 ≤ n2) (b0 : n0 < 2 ^ 30) (b2 : n2 < 2 ^ 30) (f : Nat → Int32) : ∃ g', fX7_copyAll N n0 n2 f g (nI i) (nI j) = some g' ∧ (∀ p, p < 2888 → g' (j + p) = f (i + p)) ∧ ∀ p, (p < j ∨ j + 2888 ≤ p) → g' p = g p := by
  have lp : ∀ (n k : Nat) (y : Nat → Int32), k ≤ 2888 → 2888 - k < n → (∀ p, p < k → y (j + p) = f (i + p)) → (∀ p, (p < j ∨ j + 2888 ≤ p) → y p = g p) → ∃ g', lX7_copyAll_3 n0 n2 f (nI i) (nI j) n (nI k) y = some g' ∧ (∀ p, p < 2888 → g' (j + p) = f (i + p)) ∧ ∀ p, (p < j ∨ j + 2888 ≤ p) → g' p = g p := by
    intro n
    induction n with
    | zero => intro k y _ h; omega
    | succ n ih =>
      intro k y hk hn h1 h2'
      rw [lX7_copyAll_3]
      rcases Nat.lt_or_ge k 2888 with c | c
      · rw [if_neg (show ¬ (2888 : Int32) ≤ nI k from nI_ge (b := 2888) c (by decide)), nI_add, nI_add, rn_gI (by omega) (by omega), rn_gI (by omega) (by omega), rn_lt, nI_clamp (by omega), nI_clamp (by omega), nI_1]
        refine ih (k + 1) _ (by omega) (by omega) (fun p hp => ?_) (fun p hp => ?_)
        · by_cases q : p = k
          · subst q
            exact pk_us
          · rw [pk_un (by omega)]
            exact h1 p (by omega)
        · rw [pk_un (by omega)]
          exact h2' p hp
      · have : k = 2888 := by omega
        subst this
        rw [if_pos (show (2888 : Int32) ≤ nI 2888 from nI_le (a := 2888) (Nat.le_refl _) (by decide))]
        exact ⟨y, rfl, h1, h2'⟩
  obtain ⟨g', w1, w2⟩ := lp N 0 g (by omega) (by omega) (fun p q => by omega) (fun p _ => rfl)
  refine ⟨g', ?_, w2⟩
  unfold fX7_copyAll
  rw [show lX7_copyAll_3 n0 n2 f (nI i) (nI j) N (0 : Int32) g = some g' from w1, rn_bs]
/-- several hours -/
theorem rn_l {H : Nat} (hN : 6000 ≤ N) (hH : H ≤ 100) : ∀ (n i t : Nat) (tm x : Int32) (stations links messages copies : Nat → Int32) (first size : Int32) (events st : Nat → Int32) (ar fe nx c7 : Int32) (F A K I T D : Nat → Int32), i ≤ H → H - i < n → t + (H - i) < 1000000 → rl_net t sc lc mc tm life tries x stations links messages copies first size events heard st →
    ∃ st' tm' x' stations' links' messages' copies' first' size' events' y z w, lX7_run_30 N (nI H) n (nI i) c7 st A K I T D = some (y, st', z) ∧ lX6_run_28 N sc lc mc life tries heard (nI H) n (nI i) tm x stations links messages copies first size events ar fe nx F = some (tm', x', stations', links', messages', copies', first', size', events', w) ∧ rl_net (t + (H - i)) sc lc mc tm' life tries x' stations' links' messages' copies' first' size' events' heard st' := by
  intro n
  induction n with
  | zero => intro i t tm x stations links messages copies first size events st ar fe nx c7 F A K I T D _ h; omega
  | succ n ih =>
    intro i t tm x stations links messages copies first size events st ar fe nx c7 F A K I T D hi hn ht h
    rw [lX7_run_30, lX6_run_28]
    rcases Nat.lt_or_ge i H with c | c
    · rw [if_neg (nI_ge c (by omega)), if_neg (nI_ge c (by omega))]
      obtain ⟨st', tm', x', stations', links', messages', copies', first', size', events', y, ⟨z1, z2, z3, z4, z5⟩, ⟨w1, w2, w3, w4⟩, p1, p2, p3⟩ := ph_eq hN (show t + 1 < 1000000 by omega) h ar fe nx c7 F A K I T D
      rw [p1, p2, rn_bs, rn_bs, nI_1]
      have := ih (i + 1) (t + 1) tm' x' stations' links' messages' copies' first' size' events' st' w1 w2 w3 y w4 z1 z2 z3 z4 z5 (by omega) (by omega) (by omega) p3
      rw [show t + 1 + (H - (i + 1)) = t + (H - i) by omega] at this
      exact this
    · have : i = H := by omega
      subst this
      rw [if_pos (nI_le (Nat.le_refl _) (by omega)), if_pos (nI_le (Nat.le_refl _) (by omega)), Nat.sub_self]
      exact ⟨st, tm, x, stations, links, messages, copies, first, size, events, _, _, _, rfl, rfl, h⟩
theorem sa7 {i2 : Int32} : ∀ (n : Nat) (i c7 : Int32) (st A K I T D : Nat → Int32), lX7_stateAfter_50 N i2 n i c7 st A K I T D = lX7_run_30 N i2 n i c7 st A K I T D := by
  intro n
  induction n with
  | zero => intros; rfl
  | succ n ih =>
    intro i c7 st A K I T D
    rw [lX7_stateAfter_50, lX7_run_30]
    simp only [ih]
theorem sa6 {i2 : Int32} {t5 : Int32 × Int32 × Int32 × Int32 × Int32 × Int32 × Int32 × (Nat → Int32) × (Nat → Int32) × (Nat → Int32) × (Nat → Int32) × Int32 × Int32 × (Nat → Int32) × (Nat → Int64)} : ∀ (n : Nat) (i tm x : Int32) (stations links messages copies : Nat → Int32) (first size : Int32) (events : Nat → Int32) (ar fe nx : Int32) (F : Nat → Int32), lX6_stateAfter_48 N i2 t5 n i tm x stations links messages copies first size events ar fe nx F = lX6_run_28 N t5.1 t5.2.1 t5.2.2.1 t5.2.2.2.2.1 t5.2.2.2.2.2.1 t5.2.2.2.2.2.2.2.2.2.2.2.2.2.2 i2 n i tm x stations links messages copies first size events ar fe nx F := by
  intro n
  induction n with
  | zero => intros; rfl
  | succ n ih =>
    intro i tm x stations links messages copies first size events ar fe nx F
    rw [lX6_stateAfter_48, lX6_run_28]
    simp only [ih]
/-- the delivered messages, on both sides -/
theorem ms_eq (hN : 6000 ≤ N) (ht : t + 1 < 1000000) (h : rl_net t sc lc mc tm life tries x stations links messages copies first size events heard st) : ∃ v, fX2_messagesInState N sc mc messages copies (1 : Int32) = some v ∧ fX7_messagesIn N st (1 : Int32) = some v ∧ fX7_sumOfStations N st (6 : Int32) = some v := by
  obtain ⟨a, b, m, e, tt, h0, eH⟩ := h
  obtain ⟨hA, hZ⟩ := rlA_iff.mp h0
  obtain ⟨ha, hb, hm, he, htt⟩ := hA.1.1.1
  have sce : sc = nI a := hA.1.2.1.trans hA.1.1.2.1
  have mce : mc = nI m := hA.1.2.2.2.1.trans hA.1.1.2.2.2.1
  subst sce mce
  refine ⟨_, mi2 hN ha hm hA.2.2.2.1.1 hA.2.2.2.2.1.1 (by omega) hA.2.2.2.2.1.2.1 hA.2.2.2.2.2.1, mi7 hN hA.1.1.2.1 hA.1.1.2.2.2.1 ha hm, ?_⟩
  rw [dl_sum hN hA hZ]
  exact ss7 hN hA.1.1.2.1 ha (by decide)
end PZ
