/-! the picture when a place of the state changes: regions -/
def sN (st st' : Nat → Int32) : Prop := ∀ j, j < 8 → st' j = st j
def sS (st st' : Nat → Int32) : Prop := ∀ i q, i < 8 → q < 7 → qS st' i q = qS st i q
def sL (st st' : Nat → Int32) : Prop := ∀ i q, i < 16 → q < 8 → qL st' i q = qL st i q
def sM (st st' : Nat → Int32) : Prop := ∀ i q, i < 24 → q < 8 → qM st' i q = qM st i q
def sCc (st st' : Nat → Int32) : Prop := ∀ k s q, k < 24 → s < 8 → q < 12 → qC st' k s q = qC st k s q
def sE (st st' : Nat → Int32) : Prop := ∀ j q, j < 40 → q < 5 → qE st' j q = qE st j q
section PK
variable {st st' : Nat → Int32} {j : Nat} {v : Int32}
theorem uN (h : 8 ≤ j) : sN st (upd st j v) := fun i hi => pk_un (by omega)
theorem uSr (h : j < 8 ∨ 64 ≤ j) : sS st (upd st j v) := fun i q hi hq => pk_un (by omega)
theorem uLr (h : j < 64 ∨ 192 ≤ j) : sL st (upd st j v) := fun i q hi hq => pk_un (by omega)
theorem uMr (h : j < 192 ∨ 384 ≤ j) : sM st (upd st j v) := fun i q hi hq => pk_un (by omega)
theorem uCr (h : j < 384 ∨ 2688 ≤ j) : sCc st (upd st j v) := fun k s q hk hs hq => pk_un (by omega)
theorem uEr (h : j < 2688) : sE st (upd st j v) := fun i q hi hq => pk_un (by omega)
theorem gn_c {t a b m e tt : Nat} (h : sN st st') (g : gd_n t a b m e tt st) : gd_n t a b m e tt st' := by
  unfold gd_n at *
  rw [h 0 (by decide), h 1 (by decide), h 2 (by decide), h 3 (by decide), h 7 (by decide), h 6 (by decide)]
  exact g
theorem gS_c {a : Nat} (h : sS st st') (g : gd_S a st) : gd_S a st' := fun i hi => by
  refine ⟨fun q => ?_, fun q p hp => (h i p hi hp).trans ((g i hi).2 q p hp)⟩
  rw [h i 0 hi (by decide), h i 1 hi (by decide), h i 2 hi (by decide)]
  exact (g i hi).1 q
theorem gL_c {a b : Nat} (h : sL st st') (g : gd_L a b st) : gd_L a b st' := fun i hi => by
  refine ⟨fun q => ?_, fun q p hp => (h i p hi hp).trans ((g i hi).2 q p hp)⟩
  rw [h i 0 hi (by decide), h i 1 hi (by decide), h i 2 hi (by decide), h i 3 hi (by decide), h i 4 hi (by decide)]
  exact (g i hi).1 q
theorem gU_c {b : Nat} (hb : b ≤ 16) (h : sL st st') (g : gd_U b st) : gd_U b st' := fun i k hi hk q => by
  rw [h i 0 (by omega) (by decide), h i 1 (by omega) (by decide), h k 0 (by omega) (by decide), h k 1 (by omega) (by decide)] at q
  exact g i k hi hk q
theorem gM_c {a m : Nat} (hm : m ≤ 24) (h : sM st st') (g : gd_M a m st) : gd_M a m st' := fun k hk => by
  rw [h k 0 (by omega) (by decide), h k 1 (by omega) (by decide), h k 2 (by omega) (by decide)]
  exact g k hk
theorem gc_c {τ k s : Nat} (hk : k < 24) (hs : s < 8) (h : ∀ q, q < 12 → qC st' k s q = qC st k s q) (h2 : qM st' k 1 = qM st k 1) (g : gd_c τ st k s) : gd_c τ st' k s := by
  unfold gd_c at *
  rw [h 0 (by decide), h 2 (by decide), h 3 (by decide), h2]
  obtain ⟨g1, g2, g3, L, g4, g5, g6⟩ := g
  refine ⟨g1, g2, g3, L, g4, g5, g6.1, fun i hi => ?_, fun i j hi hj he => ?_, ?_⟩
  · show rg (qC st' k s (4 + i)) 8
    rw [h (4 + i) (by omega)]
    exact g6.2.1 i hi
  · have he : qC st' k s (4 + i) = qC st' k s (4 + j) := he
    rw [h (4 + i) (by omega), h (4 + j) (by omega)] at he
    exact g6.2.2.1 i j hi hj he
  · show qC st' k s (4 + (L - 1)) = nI s
    have := g6.1
    rw [h (4 + (L - 1)) (by omega)]
    exact g6.2.2.2
theorem gC_c {a m τ : Nat} (h : sCc st st') (h2 : sM st st') (g : gd_C a m τ st) : gd_C a m τ st' := fun k s hk hs => by
  rw [h k s 0 hk hs (by decide), h k s 1 hk hs (by decide)]
  rcases g k s hk hs with q | ⟨q1, q2, q3⟩
  · exact Or.inl q
  · exact Or.inr ⟨q1, q2, gc_c hk hs (fun q hq => h k s q hk hs hq) (h2 k 1 hk (by decide)) q3⟩
theorem gE_c {e T : Nat} (he : e ≤ 40) (h : sE st st') (g : gd_E e T st) : gd_E e T st' := fun j hj => by
  rw [h j 0 (by omega) (by decide), h j 1 (by omega) (by decide), h j 2 (by omega) (by decide), h j 3 (by omega) (by decide), h j 4 (by omega) (by decide)]
  exact g j hj
theorem dl_c (h : sCc st st') {k : Nat} (hk : k < 24) : q_dl st' k = q_dl st k := by
  unfold q_dl
  have e : ∀ s, s ∈ List.range 8 → (qC st' k s 0 == 5) = (qC st k s 0 == 5) := fun s hs => by
    rw [h k s 0 hk (List.mem_range.mp hs) (by decide)]
  rw [Bool.eq_iff_iff, List.any_eq_true, List.any_eq_true]
  exact ⟨fun ⟨s, a, b⟩ => ⟨s, a, by rw [← e s a]; exact b⟩, fun ⟨s, a, b⟩ => ⟨s, a, by rw [e s a]; exact b⟩⟩
theorem isum_c {f g : Nat → Int32} (n : Nat) (h : ∀ i, i < n → f i = g i) : isum f n = isum g n := by
  rw [sm_isum, sm_isum]
  exact sm_congr n 0 (fun i _ hi => h i (by omega))
theorem gZ_c (hS : sS st st') (hL : sL st st') (hC : sCc st st') (g : gd_Z st) : gd_Z st' := by
  unfold gd_Z at *
  rw [isum_c 8 (fun i hi => hS i 3 hi (by decide)), isum_c 16 (fun i hi => hL i 5 hi (by decide)), isum_c 8 (fun i hi => hS i 6 hi (by decide)), isum_c (f := fun k => if q_dl st' k = true then (1 : Int32) else 0) 24 (fun k hk => by show (if q_dl st' k = true then (1 : Int32) else 0) = if q_dl st k = true then 1 else 0; rw [dl_c hC hk])]
  exact g
theorem evn_c {sc lc mc tm life tries x size : Int32} (h : sN st st') (g : ev_n sc lc mc tm life tries x size st) : ev_n sc lc mc tm life tries x size st' := by
  unfold ev_n at *
  rw [h 0 (by decide), h 1 (by decide), h 2 (by decide), h 3 (by decide), h 4 (by decide), h 5 (by decide), h 6 (by decide), h 7 (by decide)]
  exact g
theorem evS_c {c : Nat → Int32} (h : sS st st') (g : ev_S c st) : ev_S c st' := fun i q hi hq => (g i q hi hq).trans (h i q hi hq).symm
theorem evL_c {c : Nat → Int32} (h : sL st st') (g : ev_L c st) : ev_L c st' := fun i q hi hq => (g i q hi hq).trans (h i q hi hq).symm
theorem evM_c {c : Nat → Int32} (h : sM st st') (g : ev_M c st) : ev_M c st' := fun i q hi hq => (g i q hi hq).trans (h i q hi hq).symm
theorem evC_c {c : Nat → Int32} (h : sCc st st') (g : ev_C c st) : ev_C c st' := fun k s q hk hs hq => (g k s q hk hs hq).trans (h k s q hk hs (by omega)).symm
theorem evP_c {c : Nat → Int32} (h : sCc st st') (g : ev_P c st) : ev_P c st' := fun k s hk hs h0 => by
  rw [h k s 0 hk hs (by decide)] at h0
  obtain ⟨L, f, g1, g2, g3, g4⟩ := g k s hk hs h0
  refine ⟨L, f, g1, (h k s 3 hk hs (by decide)).trans g2, fun i hi => ⟨(g3 i hi).1, (h k s (4 + i) hk hs (by omega)).trans (g3 i hi).2⟩, g4⟩
theorem evD_c {m : Nat} {c : Nat → Int32} (hm : m ≤ 24) (h : sCc st st') (h2 : sM st st') (g : ev_D m c st) : ev_D m c st' := fun k x hk hx he => by
  rw [h2 k 1 (by omega) (by decide)] at he
  rw [h k x 0 (by omega) hx (by decide), h k x 2 (by omega) hx (by decide), h k x 3 (by omega) hx (by decide)]
  exact g k x hk hx he
theorem evE_c {e : Nat} {first : Int32} {c : Nat → Int32} (he : e ≤ 40) (h : sE st st') (g : ev_E e first c st) : ev_E e first c st' := by
  obtain ⟨f, g1, g2, g3⟩ := g
  exact ⟨f, g1, g2, fun j q hj hq => (g3 j q hj hq).trans (h j q (by omega) hq).symm⟩
theorem qop_c {a b : Nat} (hb : b ≤ 16) (ha : a ≤ 8) (gL : gd_L a b st) (hL : ∀ i q, i < b → q < 4 → qL st' i q = qL st i q) (hS : ∀ i q, i < a → q < 2 → qS st' i q = qS st i q) {l h : Nat} (hl : l < b) : q_op st' l h = q_op st l h := by
  have g := (gL l (by omega)).1 hl
  have e0 := rg_cl g.1 (by omega)
  have e1 := rg_cl g.2.1 (by omega)
  unfold q_op q_on
  rw [hL l 0 hl (by decide), hL l 1 hl (by decide), hL l 2 hl (by decide), hL l 3 hl (by decide), hS _ 0 e0.1 (by decide), hS _ 1 e0.1 (by decide), hS _ 0 e1.1 (by decide), hS _ 1 e1.1 (by decide)]
theorem evH_c {a b : Nat} {heard : Nat → Int64} (hb : b ≤ 16) (ha : a ≤ 8) (gL : gd_L a b st) (hL : ∀ i q, i < b → q < 4 → qL st' i q = qL st i q) (hS : ∀ i q, i < a → q < 2 → qS st' i q = qS st i q) (g : ev_H b heard st) : ev_H b heard st' := fun h i j hh hi hj => by
  rw [g h i j hh hi hj]
  unfold q_hr
  constructor
  · rintro ⟨l, l1, l2, l3⟩
    exact ⟨l, l1, by rw [qop_c hb ha gL hL hS l1]; exact l2, by rw [hL l 0 l1 (by decide), hL l 1 l1 (by decide)]; exact l3⟩
  · rintro ⟨l, l1, l2, l3⟩
    exact ⟨l, l1, by rw [qop_c hb ha gL hL hS l1] at l2; exact l2, by rw [hL l 0 l1 (by decide), hL l 1 l1 (by decide)] at l3; exact l3⟩
end PK
/-- all but the sums and the sets of open links -/
def rlA (t a b m e tt τ : Nat) (sc lc mc tm life tries x : Int32) (stations links messages copies : Nat → Int32) (first size : Int32) (events st : Nat → Int32) : Prop :=
  (gd_n t a b m e tt st ∧ ev_n sc lc mc tm life tries x size st) ∧ (gd_S a st ∧ ev_S stations st) ∧ (gd_L a b st ∧ gd_U b st ∧ ev_L links st) ∧ (gd_M a m st ∧ ev_M messages st) ∧ (gd_C a m τ st ∧ ev_C copies st ∧ ev_P copies st) ∧ ev_D m messages st ∧ (gd_E e 1000000 st ∧ ev_E e first events st)
theorem rlA_iff {t a b m e tt τ : Nat} {sc lc mc tm life tries x : Int32} {stations links messages copies : Nat → Int32} {first size : Int32} {events st : Nat → Int32} : rl0 t a b m e tt τ sc lc mc tm life tries x stations links messages copies first size events st ↔ rlA t a b m e tt τ sc lc mc tm life tries x stations links messages copies first size events st ∧ gd_Z st :=
  ⟨fun ⟨⟨h1, h2, h3, h4, h5, h6, h7, h8⟩, k1, k2, k3, k4, k5, k6, k7, k8⟩ => ⟨⟨⟨h1, k1⟩, ⟨h2, k2⟩, ⟨h3, h4, k3⟩, ⟨h5, k4⟩, ⟨h6, k5, k6⟩, k7, h7, k8⟩, h8⟩,
   fun ⟨⟨⟨h1, k1⟩, ⟨h2, k2⟩, ⟨h3, h4, k3⟩, ⟨h5, k4⟩, ⟨h6, k5, k6⟩, k7, h7, k8⟩, h8⟩ => ⟨⟨h1, h2, h3, h4, h5, h6, h7, h8⟩, k1, k2, k3, k4, k5, k6, k7, k8⟩⟩
section PL
variable {t a b m e tt τ : Nat} {sc lc mc tm life tries x : Int32} {stations links messages copies : Nat → Int32} {first size : Int32} {events st : Nat → Int32}
/-- a number of a station that isn't an hour or a rate -/
theorem p_S (h : rlA t a b m e tt τ sc lc mc tm life tries x stations links messages copies first size events st) {i q : Nat} {v : Int32} (hi : i < a) (hq : 3 ≤ q) (hq7 : q < 7) : rlA t a b m e tt τ sc lc mc tm life tries x (upd stations (10 * i + sC q) v) links messages copies first size events (upd st (8 + 7 * i + q) v) := by
  obtain ⟨⟨n1, n2⟩, ⟨S1, S2⟩, ⟨L1, L2, L3⟩, ⟨M1, M2⟩, ⟨C1, C2, C3⟩, D, E1, E2⟩ := h
  obtain ⟨ha, hb, hm, he, -⟩ := n1.1
  refine ⟨⟨gn_c (uN (by omega)) n1, evn_c (uN (by omega)) n2⟩, ⟨fun k hk => ⟨fun r => ?_, fun r p hp => ?_⟩, fun k p hk hp => ?_⟩, ⟨gL_c (uLr (by omega)) L1, gU_c hb (uLr (by omega)) L2, evL_c (uLr (by omega)) L3⟩, ⟨gM_c hm (uMr (by omega)) M1, evM_c (uMr (by omega)) M2⟩, ⟨gC_c (uCr (by omega)) (uMr (by omega)) C1, evC_c (uCr (by omega)) C2, evP_c (uCr (by omega)) C3⟩, evD_c hm (uCr (by omega)) (uMr (by omega)) D, gE_c he (uEr (by omega)) E1, evE_c he (uEr (by omega)) E2⟩
  · unfold qS
    rw [pk_un (by omega), pk_un (by omega), pk_un (by omega)]
    exact (S1 k hk).1 r
  · unfold qS
    rw [pk_un (by omega)]
    exact (S1 k hk).2 r p hp
  · have hs : ∀ p, p < 7 → sC p = (if p < 3 then p else p + 2) := fun _ _ => rfl
    unfold qS
    by_cases c : k = i ∧ p = q
    · obtain ⟨rfl, rfl⟩ := c
      rw [pk_us, pk_us]
    · rw [pk_un, pk_un]
      · exact S2 k p hk hp
      · omega
      · unfold sC
        split <;> split <;> omega
theorem p_L (h : rlA t a b m e tt τ sc lc mc tm life tries x stations links messages copies first size events st) {i q : Nat} {v : Int32} (hi : i < b) (hq : 5 ≤ q) (hq7 : q < 8) : rlA t a b m e tt τ sc lc mc tm life tries x stations (upd links (9 * i + lC q) v) messages copies first size events (upd st (64 + 8 * i + q) v) := by
  obtain ⟨⟨n1, n2⟩, ⟨S1, S2⟩, ⟨L1, L2, L3⟩, ⟨M1, M2⟩, ⟨C1, C2, C3⟩, D, E1, E2⟩ := h
  obtain ⟨ha, hb, hm, he, -⟩ := n1.1
  refine ⟨⟨gn_c (uN (by omega)) n1, evn_c (uN (by omega)) n2⟩, ⟨gS_c (uSr (by omega)) S1, evS_c (uSr (by omega)) S2⟩, ⟨fun k hk => ⟨fun r => ?_, fun r p hp => ?_⟩, fun k l hk hl r => ?_, fun k p hk hp => ?_⟩, ⟨gM_c hm (uMr (by omega)) M1, evM_c (uMr (by omega)) M2⟩, ⟨gC_c (uCr (by omega)) (uMr (by omega)) C1, evC_c (uCr (by omega)) C2, evP_c (uCr (by omega)) C3⟩, evD_c hm (uCr (by omega)) (uMr (by omega)) D, gE_c he (uEr (by omega)) E1, evE_c he (uEr (by omega)) E2⟩
  · unfold qL
    rw [pk_un (by omega), pk_un (by omega), pk_un (by omega), pk_un (by omega), pk_un (by omega)]
    exact (L1 k hk).1 r
  · unfold qL
    rw [pk_un (by omega)]
    exact (L1 k hk).2 r p hp
  · unfold qL at r
    rw [pk_un (by omega), pk_un (by omega), pk_un (by omega), pk_un (by omega)] at r
    exact L2 k l hk hl r
  · unfold qL
    by_cases c : k = i ∧ p = q
    · obtain ⟨rfl, rfl⟩ := c
      rw [pk_us, pk_us]
    · rw [pk_un, pk_un]
      · exact L3 k p hk hp
      · omega
      · unfold lC
        split <;> split <;> omega
/-- a number of a message: not its stations; a priority within 0 to 3 -/
theorem p_M (h : rlA t a b m e tt τ sc lc mc tm life tries x stations links messages copies first size events st) {i q : Nat} {v : Int32} (hi : i < 24) (hq : 2 ≤ q) (hq7 : q < 8) (hp : q = 2 → rg v 4) : rlA t a b m e tt τ sc lc mc tm life tries x stations links (upd messages (12 * i + mC q) v) copies first size events (upd st (192 + 8 * i + q) v) := by
  obtain ⟨⟨n1, n2⟩, ⟨S1, S2⟩, ⟨L1, L2, L3⟩, ⟨M1, M2⟩, ⟨C1, C2, C3⟩, D, E1, E2⟩ := h
  obtain ⟨ha, hb, hm, he, -⟩ := n1.1
  have hmC : mC q = 2 ∨ mC q = 3 ∨ 7 ≤ mC q := by
    unfold mC
    split
    · omega
    · split <;> omega
  have hmC2 : mC q < 12 := by
    unfold mC
    split
    · omega
    · split <;> omega
  have g1 : ∀ k, qM (upd st (192 + 8 * i + q) v) k 1 = qM st k 1 := fun k => pk_un (by omega)
  have g0 : ∀ k, qM (upd st (192 + 8 * i + q) v) k 0 = qM st k 0 := fun k => pk_un (by omega)
  have c0 : sCc st (upd st (192 + 8 * i + q) v) := uCr (by omega)
  refine ⟨⟨gn_c (uN (by omega)) n1, evn_c (uN (by omega)) n2⟩, ⟨gS_c (uSr (by omega)) S1, evS_c (uSr (by omega)) S2⟩, ⟨gL_c (uLr (by omega)) L1, gU_c hb (uLr (by omega)) L2, evL_c (uLr (by omega)) L3⟩, ⟨fun k hk => ?_, fun k p hk hp2 => ?_⟩, ⟨fun k s hk hs => ?_, evC_c c0 C2, evP_c c0 C3⟩, fun k g hk hg hx => ?_, gE_c he (uEr (by omega)) E1, evE_c he (uEr (by omega)) E2⟩
  · have g := M1 k hk
    rw [g0, g1]
    refine ⟨g.1, g.2.1, g.2.2.1, ?_⟩
    unfold qM
    by_cases c : k = i ∧ q = 2
    · obtain ⟨rfl, rfl⟩ := c
      rw [pk_us]
      exact hp rfl
    · rw [pk_un (by omega)]
      exact g.2.2.2
  · unfold qM
    by_cases c : k = i ∧ p = q
    · obtain ⟨rfl, rfl⟩ := c
      rw [pk_us, pk_us]
    · rw [pk_un, pk_un]
      · exact M2 k p hk hp2
      · omega
      · unfold mC
        split <;> split <;> (try split) <;> (try split) <;> omega
  · rw [c0 k s 0 hk hs (by decide), c0 k s 1 hk hs (by decide)]
    rcases C1 k s hk hs with r | ⟨r1, r2, r3⟩
    · exact Or.inl r
    · exact Or.inr ⟨r1, r2, gc_c hk hs (fun q hq => c0 k s q hk hs hq) (g1 k) r3⟩
  · rw [g1] at hx
    have d := D k g hk hg hx
    rw [c0 k g 0 (by omega) hg (by decide), c0 k g 2 (by omega) hg (by decide), c0 k g 3 (by omega) hg (by decide), pk_un (by omega), pk_un (by omega)]
    exact d
end PL
