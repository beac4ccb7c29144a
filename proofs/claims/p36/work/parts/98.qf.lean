/-! the sets of open links; changed hours, rates, qualities -/
section QH
variable {N t a b m e tt τ : Nat} {sc lc mc tm life tries x : Int32} {stations links messages copies : Nat → Int32} {first size : Int32} {events st : Nat → Int32} {heard : Nat → Int64}
theorem bs8_pt {u v : Nat} (hu : u < 8) (hv : v < 8) : bs8 (rn_lshl (1 : Int64) ((nI u * (8 : Int32)) + nI v)) (fun k j => k = u ∧ j = v) := by
  have e1 : (nI u * (8 : Int32)) + nI v = nI (8 * u + v) := by
    rw [show (8 : Int32) = nI 8 from rfl, pk_mul, nI_add, Nat.mul_comm]
  have e2 : nT (rn_lshl (1 : Int64) (nI (8 * u + v))) = 2 ^ (8 * u + v) := by
    rw [lshl_n (1 : Int64) (nI (8 * u + v)) (8 * u + v) (sl64 _ (by omega)), show nT (1 : Int64) = 1 by decide, Nat.one_mul]
    exact Nat.mod_eq_of_lt (Nat.pow_lt_pow_right (by decide) (by omega))
  intro k j hk hj
  rw [e1, e2, Nat.testBit_two_pow]
  simp only [decide_eq_true_eq]
  omega
theorem updL_s {f : Nat → Int64} {i : Nat} {v : Int64} : vp_updL f i v i = v := by
  unfold vp_updL
  exact if_pos rfl
theorem updL_n {f : Nat → Int64} {i j : Nat} {v : Int64} (h : ¬ j = i) : vp_updL f i v j = f j := by
  unfold vp_updL
  exact if_neg h
/-- between i and j one of the first l links is open in the hour h -/
def hrl (l : Nat) (st : Nat → Int32) (h i j : Nat) : Prop := q_hr l st h i j
theorem hrl_s {l h i j u v : Nat} (hi : i < 8) (hj : j < 8) (hu : u < 8) (hv : v < 8) (eu : qL st l 0 = nI u) (ev : qL st l 1 = nI v) : q_hr (l + 1) st h i j ↔ (q_hr l st h i j ∨ (q_op st l h = true ∧ ((i = u ∧ j = v) ∨ (i = v ∧ j = u)))) := by
  constructor
  · rintro ⟨k, k1, k2, k3⟩
    by_cases c : k = l
    · subst c
      refine Or.inr ⟨k2, ?_⟩
      rw [eu, ev] at k3
      rcases k3 with ⟨a1, a2⟩ | ⟨a1, a2⟩
      · exact Or.inl ⟨((nI_eq (by omega) (by omega)).mp a1).symm, ((nI_eq (by omega) (by omega)).mp a2).symm⟩
      · exact Or.inr ⟨((nI_eq (by omega) (by omega)).mp a2).symm, ((nI_eq (by omega) (by omega)).mp a1).symm⟩
    · exact Or.inl ⟨k, by omega, k2, k3⟩
  · rintro (⟨k, k1, k2, k3⟩ | ⟨k2, k3⟩)
    · exact ⟨k, by omega, k2, k3⟩
    · refine ⟨l, by omega, k2, ?_⟩
      rw [eu, ev]
      rcases k3 with ⟨rfl, rfl⟩ | ⟨rfl, rfl⟩
      · exact Or.inl ⟨rfl, rfl⟩
      · exact Or.inr ⟨rfl, rfl⟩
theorem fo_eq (hN : 6000 ≤ N) (h : rlA t a b m e tt τ sc lc mc tm life tries x stations links messages copies first size events st) (h0 : Nat → Int64) : ∃ h', fX2_findOpenLinks N lc stations links h0 = some h' ∧ ev_H b h' st := by
  obtain ⟨ha, hb, hm, he, htt⟩ := h.1.1.1
  have lce : lc = nI b := h.1.2.2.1.trans h.1.1.2.2.1
  subst lce
  have cl : ∀ (n k : Nat) (y : Nat → Int64), k ≤ 24 → 24 - k < n → (∀ i, i < k → y i = 0) → ∃ h', lX5_clear_2 n (nI k) y = some h' ∧ ∀ i, i < 24 → h' i = 0 := by
    intro n
    induction n with
    | zero => intro k y _ h; omega
    | succ n ih =>
      intro k y hk hn h1
      rw [lX5_clear_2]
      rcases Nat.lt_or_ge k 24 with c | c
      · rw [if_neg (show ¬ Int32.ofNat 24 ≤ nI k from nI_ge (b := 24) c (by decide)), rn_gI c (by decide), rn_lt, nI_clamp (by omega), nI_1]
        refine ih (k + 1) _ (by omega) (by omega) (fun i hi => ?_)
        by_cases q : i = k
        · rw [q, updL_s]
        · rw [updL_n q]
          exact h1 i (by omega)
      · have : k = 24 := by omega
        subst this
        rw [if_pos (show Int32.ofNat 24 ≤ nI 24 from nI_le (a := 24) (Nat.le_refl _) (by decide))]
        exact ⟨y, rfl, h1⟩
  obtain ⟨y0, c1, c2⟩ := cl N 0 h0 (by omega) (by omega) (fun i hi => by omega)
  have inn : ∀ (l : Nat), l < b → ∀ (n k : Nat) (y : Nat → Int64), k ≤ 24 → 24 - k < n → (∀ h, h < 24 → (h < k → bs8 (y h) (q_hr (l + 1) st h)) ∧ (k ≤ h → bs8 (y h) (q_hr l st h))) → ∃ h', lX2_findOpenLinks_19 stations links (nI l) n (nI k) y = some h' ∧ ∀ h, h < 24 → bs8 (h' h) (q_hr (l + 1) st h) := by
    intro l hl n
    have g := (h.2.2.1.1 l (by omega)).1 hl
    obtain ⟨⟨u, hu, eu⟩, ⟨v, hv, ev⟩, -⟩ := g
    have l0 : links (9 * l + 0) = nI u := (h.2.2.1.2.2 l 0 (by omega) (by decide)).trans eu
    have l1 : links (9 * l + 1) = nI v := (h.2.2.1.2.2 l 1 (by omega) (by decide)).trans ev
    induction n with
    | zero => intro k y _ h; omega
    | succ n ih =>
      intro k y hk hn h1
      rw [lX2_findOpenLinks_19]
      rcases Nat.lt_or_ge k 24 with c | c
      · rw [if_neg (show ¬ (24 : Int32) ≤ nI k from nI_ge (b := 24) c (by decide)), op2 h.2.1.2 h.2.2.1.2.2 h.2.1.1 h.2.2.1.1 hl ha hb c, rn_bs, nI_1]
        by_cases d : q_op st l k = true
        · rw [d, if_neg (show ¬ b2 true = 0 by decide), show fX4_get (16 : Int32) (9 : Int32) 144 links (nI l) (0 : Int32) = some (nI u) from (tL (q := 0) (by omega) (by decide)).trans (congrArg some l0), rn_bs, show fX4_get (16 : Int32) (9 : Int32) 144 links (nI l) (1 : Int32) = some (nI v) from (tL (q := 1) (by omega) (by decide)).trans (congrArg some l1), rn_bs]
          have cn : fX5_connect y (nI k) (nI u) (nI v) = some (vp_updL y k (y k ||| ((rn_lshl (1 : Int64) ((nI u * (8 : Int32)) + nI v)) ||| (rn_lshl (1 : Int64) ((nI v * (8 : Int32)) + nI u))))) := by
            unfold fX5_connect
            rw [if_neg (nI_pos (by omega)), if_neg (show ¬ Int32.ofNat 24 ≤ nI k from nI_ge (b := 24) c (by decide)), rn_gI c (by decide), rn_gI c (by decide), rn_lt, nI_clamp (by omega)]
          rw [cn, rn_bs]
          refine ih (k + 1) _ (by omega) (by omega) (fun h' hh' => ⟨fun q => ?_, fun q => ?_⟩)
          · by_cases c3 : h' = k
            · rw [c3, updL_s]
              refine bs8_w (bs8_or ((h1 k c).2 (Nat.le_refl _)) (bs8_or (bs8_pt (show u < 8 by omega) (show v < 8 by omega)) (bs8_pt (show v < 8 by omega) (show u < 8 by omega)))) (fun i j hi hj => ?_)
              rw [hrl_s hi hj (show u < 8 by omega) (show v < 8 by omega) eu ev]
              exact ⟨fun r => r.elim Or.inl (fun r => Or.inr ⟨d, r⟩), fun r => r.elim Or.inl (fun r => Or.inr r.2)⟩
            · rw [updL_n c3]
              exact (h1 h' hh').1 (by omega)
          · rw [updL_n (by omega)]
            exact (h1 h' hh').2 (by omega)
        · have d : q_op st l k = false := by
            cases hq : q_op st l k with
            | true => exact absurd hq d
            | false => rfl
          rw [d, if_pos (show b2 false = 0 from rfl)]
          refine ih (k + 1) _ (by omega) (by omega) (fun h' hh' => ⟨fun q => ?_, fun q => (h1 h' hh').2 (by omega)⟩)
          by_cases c3 : h' = k
          · subst c3
            refine bs8_w ((h1 h' hh').2 (Nat.le_refl _)) (fun i j hi hj => ?_)
            rw [hrl_s hi hj (show u < 8 by omega) (show v < 8 by omega) eu ev, d]
            exact ⟨Or.inl, fun r => r.elim id (fun r => absurd r.1 (by decide))⟩
          · exact (h1 h' hh').1 (by omega)
      · have : k = 24 := by omega
        subst this
        rw [if_pos (show (24 : Int32) ≤ nI 24 by decide)]
        exact ⟨y, rfl, fun h' hh' => (h1 h' hh').1 hh'⟩
  have out : ∀ (n l : Nat) (y : Nat → Int64), l ≤ b → b - l < n → (∀ h, h < 24 → bs8 (y h) (q_hr l st h)) → ∃ h', lX2_findOpenLinks_9 N (nI b) stations links n (nI l) y = some h' ∧ ∀ h, h < 24 → bs8 (h' h) (q_hr b st h) := by
    intro n
    induction n with
    | zero => intro l y _ h; omega
    | succ n ih =>
      intro l y hl hn h1
      rw [lX2_findOpenLinks_9]
      rcases Nat.lt_or_ge l b with c | c
      · obtain ⟨y', w1, w2⟩ := inn l c N 0 y (by omega) (by omega) (fun h hh => ⟨fun q => by omega, fun _ => h1 h hh⟩)
        rw [if_neg (nI_ge c (by omega)), show lX2_findOpenLinks_19 stations links (nI l) N (0 : Int32) y = _ from w1, rn_bs, nI_1]
        exact ih (l + 1) y' (by omega) (by omega) w2
      · have : l = b := by omega
        subst this
        rw [if_pos (nI_le (Nat.le_refl _) (by omega))]
        exact ⟨y, rfl, h1⟩
  obtain ⟨h', o1, o2⟩ := out N 0 y0 (by omega) (by omega) (fun h hh => by
    rw [c2 h hh]
    exact bs8_w bs8_0 (fun k j _ _ => ⟨fun q => q.elim, fun ⟨l, l1, _⟩ => by omega⟩))
  refine ⟨h', ?_, fun h i j hh hi hj => o2 h hh i j hi hj⟩
  unfold fX2_findOpenLinks fX5_clear
  rw [show lX5_clear_2 N (0 : Int32) h0 = _ from c1, rn_bs, rn_bs, show lX2_findOpenLinks_9 N (nI b) stations links N (0 : Int32) y0 = _ from o1, rn_bs]
/-- hours and rate of a station -/
theorem p_S2 (h : rlA t a b m e tt τ sc lc mc tm life tries x stations links messages copies first size events st) (hZ : gd_Z st) {i q : Nat} {v : Int32} (hi : i < a) (hq : q < 3) (hv : rg v 24) (hv2 : q = 2 → rg v 10) : rlA t a b m e tt τ sc lc mc tm life tries x (upd stations (10 * i + q) v) links messages copies first size events (upd st (8 + 7 * i + q) v) ∧ gd_Z (upd st (8 + 7 * i + q) v) := by
  obtain ⟨⟨n1, n2⟩, ⟨S1, S2⟩, ⟨L1, L2, L3⟩, ⟨M1, M2⟩, ⟨C1, C2, C3⟩, D, E1, E2⟩ := h
  obtain ⟨ha, hb, hm, he, -⟩ := n1.1
  refine ⟨⟨⟨gn_c (uN (by omega)) n1, evn_c (uN (by omega)) n2⟩, ⟨fun k hk => ⟨fun r => ?_, fun r p hp => ?_⟩, fun k p hk hp => ?_⟩, ⟨gL_c (uLr (by omega)) L1, gU_c hb (uLr (by omega)) L2, evL_c (uLr (by omega)) L3⟩, ⟨gM_c hm (uMr (by omega)) M1, evM_c (uMr (by omega)) M2⟩, ⟨gC_c (uCr (by omega)) (uMr (by omega)) C1, evC_c (uCr (by omega)) C2, evP_c (uCr (by omega)) C3⟩, evD_c hm (uCr (by omega)) (uMr (by omega)) D, gE_c he (uEr (by omega)) E1, evE_c he (uEr (by omega)) E2⟩, ?_⟩
  · have g := (S1 k hk).1 r
    unfold qS at *
    refine ⟨?_, ?_, ?_⟩
    · by_cases c : k = i ∧ q = 0
      · obtain ⟨rfl, rfl⟩ := c
        rw [pk_us]; exact hv
      · rw [pk_un (by omega)]; exact g.1
    · by_cases c : k = i ∧ q = 1
      · obtain ⟨rfl, rfl⟩ := c
        rw [pk_us]; exact hv
      · rw [pk_un (by omega)]; exact g.2.1
    · by_cases c : k = i ∧ q = 2
      · obtain ⟨rfl, rfl⟩ := c
        rw [pk_us]; exact hv2 rfl
      · rw [pk_un (by omega)]; exact g.2.2
  · unfold qS
    rw [pk_un (by omega)]
    exact (S1 k hk).2 r p hp
  · have hsc : sC p = (if p < 3 then p else p + 2) := rfl
    have h10 := sC_lt hp
    unfold qS
    by_cases c : k = i ∧ p = q
    · obtain ⟨rfl, rfl⟩ := c
      rw [pk_us, show sC p = p from if_pos hq, pk_us]
    · rw [pk_un (show 10 * k + sC p ≠ 10 * i + q by rw [hsc]; split <;> omega), pk_un (by omega)]
      exact S2 k p hk hp
  · refine gZ_g (st := st) (fun k hk => pk_un (by omega)) (fun k hk => pk_un (by omega)) (fun j hj => pk_un (by omega)) (fun k' hk' => ?_) hZ
    have e0 : ∀ s', s' < 8 → qC (upd st (8 + 7 * i + q) v) k' s' 0 = qC st k' s' 0 := fun s' hs' => pk_un (by omega)
    exact ⟨fun ⟨s', a1, a2⟩ => ⟨s', a1, by rw [e0 s' a1] at a2; exact a2⟩, fun ⟨s', a1, a2⟩ => ⟨s', a1, by rw [e0 s' a1]; exact a2⟩⟩
/-- hours and quality of a link -/
theorem p_L2 (h : rlA t a b m e tt τ sc lc mc tm life tries x stations links messages copies first size events st) (hZ : gd_Z st) {i q : Nat} {v : Int32} (hi : i < b) (hq2 : 2 ≤ q) (hq : q < 5) (hv : q < 4 → rg v 24) (hv2 : q = 4 → rg v 101) : rlA t a b m e tt τ sc lc mc tm life tries x stations (upd links (9 * i + q) v) messages copies first size events (upd st (64 + 8 * i + q) v) ∧ gd_Z (upd st (64 + 8 * i + q) v) := by
  obtain ⟨⟨n1, n2⟩, ⟨S1, S2⟩, ⟨L1, L2, L3⟩, ⟨M1, M2⟩, ⟨C1, C2, C3⟩, D, E1, E2⟩ := h
  obtain ⟨ha, hb, hm, he, -⟩ := n1.1
  refine ⟨⟨⟨gn_c (uN (by omega)) n1, evn_c (uN (by omega)) n2⟩, ⟨gS_c (uSr (by omega)) S1, evS_c (uSr (by omega)) S2⟩, ⟨fun k hk => ⟨fun r => ?_, fun r p hp => ?_⟩, fun k l hk hl r => ?_, fun k p hk hp => ?_⟩, ⟨gM_c hm (uMr (by omega)) M1, evM_c (uMr (by omega)) M2⟩, ⟨gC_c (uCr (by omega)) (uMr (by omega)) C1, evC_c (uCr (by omega)) C2, evP_c (uCr (by omega)) C3⟩, evD_c hm (uCr (by omega)) (uMr (by omega)) D, gE_c he (uEr (by omega)) E1, evE_c he (uEr (by omega)) E2⟩, ?_⟩
  · have g := (L1 k hk).1 r
    unfold qL at *
    rw [pk_un (by omega), pk_un (by omega)]
    refine ⟨g.1, g.2.1, g.2.2.1, ?_, ?_, ?_⟩
    · by_cases c : k = i ∧ q = 2
      · obtain ⟨rfl, rfl⟩ := c
        rw [pk_us]; exact hv (by decide)
      · rw [pk_un (by omega)]; exact g.2.2.2.1
    · by_cases c : k = i ∧ q = 3
      · obtain ⟨rfl, rfl⟩ := c
        rw [pk_us]; exact hv (by decide)
      · rw [pk_un (by omega)]; exact g.2.2.2.2.1
    · by_cases c : k = i ∧ q = 4
      · obtain ⟨rfl, rfl⟩ := c
        rw [pk_us]; exact hv2 rfl
      · rw [pk_un (by omega)]; exact g.2.2.2.2.2
  · unfold qL
    rw [pk_un (by omega)]
    exact (L1 k hk).2 r p hp
  · unfold qL at r
    rw [pk_un (by omega), pk_un (by omega), pk_un (by omega), pk_un (by omega)] at r
    exact L2 k l hk hl r
  · have hlc : lC p = (if p < 5 then p else p + 1) := rfl
    have h9 := lC_lt hp
    unfold qL
    by_cases c : k = i ∧ p = q
    · obtain ⟨rfl, rfl⟩ := c
      rw [pk_us, show lC p = p from if_pos hq, pk_us]
    · rw [pk_un (show 9 * k + lC p ≠ 9 * i + q by rw [hlc]; split <;> omega), pk_un (by omega)]
      exact L3 k p hk hp
  · refine gZ_g (st := st) (fun k hk => pk_un (by omega)) (fun k hk => pk_un (by omega)) (fun j hj => pk_un (by omega)) (fun k' hk' => ?_) hZ
    have e0 : ∀ s', s' < 8 → qC (upd st (64 + 8 * i + q) v) k' s' 0 = qC st k' s' 0 := fun s' hs' => pk_un (by omega)
    exact ⟨fun ⟨s', a1, a2⟩ => ⟨s', a1, by rw [e0 s' a1] at a2; exact a2⟩, fun ⟨s', a1, a2⟩ => ⟨s', a1, by rw [e0 s' a1]; exact a2⟩⟩
/-- the rules -/
theorem p_R (h : rlA t a b m e tt τ sc lc mc tm life tries x stations links messages copies first size events st) (hZ : gd_Z st) {v w u : Int32} (hu : rg u 1000003) : rlA t a b m e tt τ sc lc mc tm v w u stations links messages copies first size events (upd (upd (upd st 4 v) 5 w) 6 u) ∧ gd_Z (upd (upd (upd st 4 v) 5 w) 6 u) := by
  obtain ⟨⟨n1, n2⟩, ⟨S1, S2⟩, ⟨L1, L2, L3⟩, ⟨M1, M2⟩, ⟨C1, C2, C3⟩, D, E1, E2⟩ := h
  obtain ⟨ha, hb, hm, he, -⟩ := n1.1
  have un : ∀ p, 8 ≤ p → (upd (upd (upd st 4 v) 5 w) 6 u) p = st p := fun p hp => by rw [pk_un (by omega), pk_un (by omega), pk_un (by omega)]
  have rS : sS st (upd (upd (upd st 4 v) 5 w) 6 u) := fun i q hi hq => un _ (by omega)
  have rL : sL st (upd (upd (upd st 4 v) 5 w) 6 u) := fun i q hi hq => un _ (by omega)
  have rM : sM st (upd (upd (upd st 4 v) 5 w) 6 u) := fun i q hi hq => un _ (by omega)
  have rC : sCc st (upd (upd (upd st 4 v) 5 w) 6 u) := fun k s q hk hs hq => un _ (by omega)
  have rE : sE st (upd (upd (upd st 4 v) 5 w) 6 u) := fun i q hi hq => un _ (by omega)
  refine ⟨⟨⟨?_, ?_⟩, ⟨gS_c rS S1, evS_c rS S2⟩, ⟨gL_c rL L1, gU_c hb rL L2, evL_c rL L3⟩, ⟨gM_c hm rM M1, evM_c rM M2⟩, ⟨gC_c rC rM C1, evC_c rC C2, evP_c rC C3⟩, evD_c hm rC rM D, gE_c he rE E1, evE_c he rE E2⟩, gZ_c rS rL rC hZ⟩
  · unfold gd_n at *
    rw [pk_un (by decide), pk_un (by decide), pk_un (by decide), pk_un (by decide), pk_un (by decide), pk_un (by decide), pk_un (by decide), pk_un (by decide), pk_un (by decide), pk_un (by decide), pk_un (by decide), pk_un (by decide), pk_un (by decide), pk_un (by decide), pk_un (by decide), pk_us]
    exact ⟨n1.1, n1.2.1, n1.2.2.1, n1.2.2.2.1, n1.2.2.2.2.1, n1.2.2.2.2.2.1, hu⟩
  · obtain ⟨a1, a2, a3, a4, a5, a6, a7, a8⟩ := n2
    refine ⟨?_, ?_, ?_, ?_, ?_, ?_, ?_, ?_⟩
    · rw [pk_un (by decide), pk_un (by decide), pk_un (by decide)]; exact a1
    · rw [pk_un (by decide), pk_un (by decide), pk_un (by decide)]; exact a2
    · rw [pk_un (by decide), pk_un (by decide), pk_un (by decide)]; exact a3
    · rw [pk_un (by decide), pk_un (by decide), pk_un (by decide)]; exact a4
    · rw [pk_un (by decide), pk_un (by decide), pk_us]
    · rw [pk_un (by decide), pk_us]
    · rw [pk_us]
    · rw [pk_un (by decide), pk_un (by decide), pk_un (by decide)]; exact a8
end QH
