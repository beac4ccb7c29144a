/-! the class's ways -/
section PF
variable {N : Nat} {heard : Nat → Int64} {E : Nat → Nat → Nat → Prop} {av : Nat → Prop}
theorem ht2 {n : Nat} (hn : n < 2 ^ 30) : fX5_heardAt heard (nI n) = some (heard (n % 24)) := by
  have e : rn_rem (nI n) (24 : Int32) = nI (n % 24) := nI_rem (d := 24) (by omega) (by omega) (by omega)
  have h : n % 24 < 24 := Nat.mod_lt _ (by decide)
  unfold fX5_heardAt
  rw [e, if_neg (nI_pos (by omega)), if_neg (show ¬ Int32.ofNat 24 ≤ nI (n % 24) from nI_ge (b := 24) h (by decide)), rn_gI h (by decide), nI_clamp (by omega)]
theorem or255 (a b : Int64) : (a ||| b).toInt32 &&& (255 : Int32) = (a.toInt32 &&& (255 : Int32)) ||| (b.toInt32 &&& (255 : Int32)) :=
  Int32.toBitVec_inj.mp (by rw [Int64.toInt32_or, Int32.toBitVec_and, Int32.toBitVec_or, Int32.toBitVec_or, Int32.toBitVec_and, Int32.toBitVec_and, BitVec.and_or_distrib_right])
theorem hb2 {x : Int64} {S : Nat → Prop} {R : Nat → Nat → Prop} {th : Int32} (hN : 6000 ≤ N) (h1 : is8 th S) (h2 : bs8 x R) : ∃ v, fX5_heardBy N th x = some v ∧ is8 v (fun j => ∃ s, s < 8 ∧ S s ∧ R s j) := by
  have lp : ∀ (n k : Nat) (acc : Int64), k ≤ 8 → 8 - k < n → is8 (acc.toInt32 &&& (255 : Int32)) (fun j => ∃ s, s < k ∧ S s ∧ R s j) → ∃ v, lX5_heardBy_5 th x n acc (nI k) = some v ∧ is8 (v.toInt32 &&& (255 : Int32)) (fun j => ∃ s, s < 8 ∧ S s ∧ R s j) := by
    intro n
    induction n with
    | zero => intro k acc _ h; omega
    | succ n ih =>
      intro k acc hk hn ha
      rw [lX5_heardBy_5]
      rcases Nat.lt_or_ge k 8 with h | h
      · rw [if_neg (show ¬ (8 : Int32) ≤ nI k from nI_ge (b := 8) h (by decide))]
        by_cases hc : (th >>> (nI k &&& (31 : Int32))) &&& (1 : Int32) = 1
        · have hs := (is8_bit h1 h).mp hc
          obtain ⟨v, e1, e2⟩ := setOf8 h2 h
          have e3 : (rn_lushr x (nI k * (8 : Int32))).toInt32 &&& (255 : Int32) = v := Option.some.inj e1
          subst e3
          rw [if_pos hc]
          show ∃ v, lX5_heardBy_5 th x n (acc ||| rn_lushr x (nI k * (8 : Int32))) (nI k + (1 : Int32)) = some v ∧ _
          rw [nI_1]
          have e4 := is8_or ha e2
          rw [← or255] at e4
          refine ih (k + 1) _ (by omega) (by omega) (is8_w e4 (fun j hj => ?_))
          constructor
          · rintro (⟨s, a, b, c⟩ | q)
            · exact ⟨s, by omega, b, c⟩
            · exact ⟨k, by omega, hs, q⟩
          · rintro ⟨s, a, b, c⟩
            rcases Nat.lt_or_ge s k with q | q
            · exact Or.inl ⟨s, q, b, c⟩
            · have : s = k := by omega
              subst this
              exact Or.inr c
        · have hs := mt (is8_bit h1 h).mpr hc
          rw [if_neg hc, nI_1]
          refine ih (k + 1) _ (by omega) (by omega) (is8_w ha (fun j hj => ?_))
          constructor
          · rintro ⟨s, a, b, c⟩
            exact ⟨s, by omega, b, c⟩
          · rintro ⟨s, a, b, c⟩
            refine ⟨s, ?_, b, c⟩
            rcases Nat.lt_or_ge s k with q | q
            · exact q
            · have : s = k := by omega
              subst this
              exact absurd b hs
      · have : k = 8 := by omega
        subst this
        rw [if_pos (show (8 : Int32) ≤ nI 8 from nI_le (a := 8) (Nat.le_refl _) (by decide))]
        exact ⟨acc, rfl, ha⟩
  have z0 : is8 ((0 : Int64).toInt32 &&& (255 : Int32)) (fun _ => False) := by
    rw [show (0 : Int64).toInt32 &&& (255 : Int32) = 0 from by decide]
    exact is8_0
  obtain ⟨v, e1, e2⟩ := lp N 0 0 (by omega) (by omega) (is8_w z0 (fun j _ => ⟨fun q => q.elim, fun ⟨s, a, _⟩ => by omega⟩))
  refine ⟨_, ?_, e2⟩
  unfold fX5_heardBy
  rw [show lX5_heardBy_5 th x N (0 : Int64) (0 : Int32) = some v from e1, rn_bs]
/-- one hour on -/
theorem hour2 {d f : Nat} {x : Int64} {th i4 : Int32} (hN : 6000 ≤ N) (hx : bs8 x (E d)) (hv : is8 i4 av) (ht : is8 th (wF E av f d)) : ∃ v, fX5_heardBy N th x = some v ∧ is8 (th ||| (v &&& (i4 ^^^ (-1 : Int32)))) (wF E av f (d + 1)) := by
  obtain ⟨v, e1, e2⟩ := hb2 hN ht hx
  refine ⟨v, e1, is8_w (is8_or ht (is8_andn e2 hv)) (fun j hj => ?_)⟩
  constructor
  · rintro (q | ⟨⟨s, a, b, c⟩, d⟩)
    · exact Or.inl q
    · exact Or.inr ⟨hj, d, s, a, b, c⟩
  · rintro (q | ⟨-, d, s, a, b, c⟩)
    · exact Or.inl q
    · exact Or.inr ⟨⟨s, a, b, c⟩, d⟩
theorem he2 {τ f g : Nat} {i4 : Int32} (hN : 6000 ≤ N) (hx : ∀ d, d < 24 → bs8 (heard ((τ + d) % 24)) (E d)) (hv : is8 i4 av) (hf : f < 8) (hg : g < 8) (ht : τ < 1000000) :
    (fX5_hoursOfEarliest N heard (nI f) (nI g) (nI τ) i4 = some (-1) ∧ ∀ d, d < 24 → ¬ wF E av f (d + 1) g) ∨
    ∃ H, H < 24 ∧ fX5_hoursOfEarliest N heard (nI f) (nI g) (nI τ) i4 = some (nI (H + 1)) ∧ wF E av f (H + 1) g ∧ ∀ d, d < H → ¬ wF E av f (d + 1) g := by
  have lp : ∀ (n d : Nat) (th : Int32), d ≤ 24 → 24 - d < n → is8 th (wF E av f d) → (∀ e, e < d → ¬ wF E av f (e + 1) g) →
      (lX5_hoursOfEarliest_8 N heard (nI g) (nI τ) i4 n th (nI d) = some (-1) ∧ ∀ d, d < 24 → ¬ wF E av f (d + 1) g) ∨
      ∃ H, H < 24 ∧ lX5_hoursOfEarliest_8 N heard (nI g) (nI τ) i4 n th (nI d) = some (nI (H + 1)) ∧ wF E av f (H + 1) g ∧ ∀ d, d < H → ¬ wF E av f (d + 1) g := by
    intro n
    induction n with
    | zero => intro d th _ h; omega
    | succ n ih =>
      intro d th hd hn ha hno
      rw [lX5_hoursOfEarliest_8]
      rcases Nat.lt_or_ge d 24 with h | h
      · rw [if_neg (show ¬ (24 : Int32) ≤ nI d from nI_ge (b := 24) h (by decide)), nI_add, ht2 (by omega), rn_bs]
        obtain ⟨v, e1, e2⟩ := hour2 hN (hx d h) hv ha
        rw [e1, rn_bs, rn_lt]
        by_cases hc : ((th ||| (v &&& (i4 ^^^ (-1 : Int32)))) >>> (nI g &&& (31 : Int32))) &&& (1 : Int32) = 1
        · rw [if_pos hc, nI_1]
          exact Or.inr ⟨d, h, rfl, (is8_bit e2 hg).mp hc, hno⟩
        · rw [if_neg hc, nI_1]
          refine ih (d + 1) _ (by omega) (by omega) e2 (fun e he => ?_)
          rcases Nat.lt_or_ge e d with q | q
          · exact hno e q
          · have : e = d := by omega
            subst this
            exact mt (is8_bit e2 hg).mpr hc
      · have : d = 24 := by omega
        subst this
        rw [if_pos (show (24 : Int32) ≤ nI 24 from nI_le (a := 24) (Nat.le_refl _) (by decide))]
        exact Or.inl ⟨rfl, hno⟩
  exact lp N 0 _ (by omega) (by omega) (is8_w (is8_one hf) (fun j _ => Iff.rfl)) (fun e he => by omega)
theorem rr2 {τ g H : Nat} {v1 : Int64} {al : Nat → Prop} (hN : 6000 ≤ N) (hx : ∀ d, d < 24 → bs8 (heard ((τ + d) % 24)) (E d)) (hsym : ∀ d s t, E d s t → E d t s) (hv : bs8 v1 (fun _ j => al j)) (ht : τ < 1000000) (hH : H ≤ 24) :
    ∀ (n p r : Nat) (x : Int64), p + r + 1 = H → p < n → bs8 x (fun k j => wR E al g H r j k) → ∃ y, lX5_restsAfterFirstHour_27 N heard (nI τ) v1 n x (nI p) = some y ∧ bs8 y (fun k j => wR E al g H (H - 1) j k) := by
  intro n
  induction n with
  | zero => intro p r x _ h; omega
  | succ n ih =>
    intro p r x hp hn hb
    rw [lX5_restsAfterFirstHour_27]
    cases p with
    | zero =>
      rw [show (0 : Int32) = nI 0 from rfl, if_pos (nI_le (Nat.le_refl _) (by decide))]
      refine ⟨x, rfl, ?_⟩
      rw [show H - 1 = r by omega]
      exact hb
    | succ p =>
      rw [if_neg (nI_nle (by omega) (by omega)), nI_add, ht2 (by omega), rn_bs]
      have hh := hx (p + 1) (by omega)
      have lp : ∀ (n s : Nat) (y : Int64), s ≤ 8 → 8 - s < n → bs8 y (fun k j => ∃ s', s' < s ∧ wR E al g H r s' k ∧ E (p + 1) s' j) → ∃ w, lX5_restsAfterFirstHour_48 x (heard ((τ + (p + 1)) % 24)) n y (nI s) = some w ∧ bs8 w (fun k j => ∃ s', s' < 8 ∧ wR E al g H r s' k ∧ E (p + 1) s' j) := by
        intro n
        induction n with
        | zero => intro s y _ h; omega
        | succ n ih2 =>
          intro s y hs hn hy
          rw [lX5_restsAfterFirstHour_48]
          rcases Nat.lt_or_ge s 8 with h | h
          · rw [if_neg (show ¬ (8 : Int32) ≤ nI s from nI_ge (b := 8) h (by decide))]
            obtain ⟨v, e1, e2⟩ := setOf8 hh h
            rw [e1, rn_bs, rn_lt, nI_1]
            refine ih2 (s + 1) _ (by omega) (by omega) (bs8_w (bs8_or hy (bs8_low hb e2 h)) (fun k j hk hj => ?_))
            constructor
            · rintro (⟨s', a, b, c⟩ | ⟨a, b⟩)
              · exact ⟨s', by omega, b, c⟩
              · exact ⟨s, by omega, a, b⟩
            · rintro ⟨s', a, b, c⟩
              rcases Nat.lt_or_ge s' s with q | q
              · exact Or.inl ⟨s', q, b, c⟩
              · have : s' = s := by omega
                subst this
                exact Or.inr ⟨b, c⟩
          · have : s = 8 := by omega
            subst this
            rw [if_pos (show (8 : Int32) ≤ nI 8 from nI_le (a := 8) (Nat.le_refl _) (by decide))]
            exact ⟨y, rfl, hy⟩
      obtain ⟨w, e1, e2⟩ := lp N 0 0 (by omega) (by omega) (bs8_w bs8_0 (fun k j _ _ => ⟨fun q => q.elim, fun ⟨s, a, _⟩ => by omega⟩))
      rw [show (0 : Int32) = nI 0 from rfl, e1, rn_bs, rn_lt, pk_m1]
      refine ih p (r + 1) _ (by omega) (by omega) (bs8_w (bs8_or hb (bs8_and (bs8_up e2) hv)) (fun k j hk hj => ?_))
      constructor
      · rintro (q | ⟨⟨k', h1, s', a, b, c⟩, d⟩)
        · exact Or.inl q
        · exact Or.inr ⟨hj, d, s', k', a, by rw [show H - (r + 1) = p + 1 by omega]; exact hsym _ _ _ c, h1, b⟩
      · rintro (q | ⟨-, d, s', k', a, b, c, e⟩)
        · exact Or.inl q
        · refine Or.inr ⟨⟨k', c, s', a, e, ?_⟩, d⟩
          rw [show H - (r + 1) = p + 1 by omega] at b
          exact hsym _ _ _ b
theorem wF_av {f : Nat} : ∀ (d t : Nat), wF E av f d t → t = f ∨ ¬ av t := by
  intro d
  induction d with
  | zero => intro t h; exact Or.inl h
  | succ d ih =>
    intro t h
    rcases h with h | ⟨_, h, _⟩
    · exact ih t h
    · exact Or.inr h
theorem wL_0 {g H : Nat} : ∀ (r s : Nat), wL E av g H r s 0 → s = g := by
  intro r
  induction r with
  | zero => intro s h; exact h
  | succ r ih =>
    intro s h
    rcases h with h | ⟨_, _, _, _, _, h, _⟩
    · exact ih s h
    · omega
/-- the search: no way; or the hour, the fewest links, the first station -/
def fdP (E : Nat → Nat → Nat → Prop) (av : Nat → Prop) (f g H m : Nat) (nx : Int32) : Prop :=
  (∃ t, t < 8 ∧ nx = nI t ∧ E 0 f t ∧ ¬ av t ∧ mnL E av g (H + 1) H t (m - 1) ∧ ∀ u, u < t → ¬ (E 0 f u ∧ ¬ av u ∧ mnL E av g (H + 1) H u (m - 1))) ∨
  (nx = -1 ∧ ∀ t, t < 8 → ¬ (E 0 f t ∧ ¬ av t ∧ mnL E av g (H + 1) H t (m - 1)))
theorem fd2 {τ f g : Nat} {i4 ar fe nx : Int32} (hN : 6000 ≤ N) (hx : ∀ d, d < 24 → bs8 (heard ((τ + d) % 24)) (E d)) (hsym : ∀ d s t, E d s t → E d t s) (hv : is8 i4 av) (hf : f < 8) (hg : g < 8) (hfg : f ≠ g) (ht : τ < 1000000) :
    (fX5_find N ar fe nx heard (nI f) (nI g) (nI τ) i4 = some (0, ar, fe, nx) ∧ ∀ d, d < 24 → ¬ wF E av f (d + 1) g) ∨
    ∃ H m nx', H < 24 ∧ fX5_find N ar fe nx heard (nI f) (nI g) (nI τ) i4 = some (1, nI (τ + (H + 1)), nI m, nx') ∧ wF E av f (H + 1) g ∧ (∀ d, d < H → ¬ wF E av f (d + 1) g) ∧ 0 < m ∧ m ≤ 7 ∧ mnL E av g (H + 1) (H + 1) f m ∧ fdP E av f g H m nx' := by
  rcases he2 hN hx hv hf hg ht with ⟨h1, h2⟩ | ⟨H, hH, h1, h2, h3⟩
  · left
    refine ⟨?_, h2⟩
    unfold fX5_find
    rw [h1, rn_bs, if_pos rfl]
  · right
    have hav : ¬ av g := by
      rcases wF_av _ _ h2 with q | q
      · exact absurd q.symm hfg
      · exact q
    obtain ⟨k0, hk0⟩ := (wF_iff hg hf).mp h2
    obtain ⟨m, hm1, hm2⟩ := least_of ⟨k0, hk0⟩
    have hm : mnL E av g (H + 1) (H + 1) f m := ⟨hm1, hm2⟩
    have m0 : 0 < m := by
      rcases Nat.eq_zero_or_pos m with q | q
      · subst q; exact absurd (wL_0 _ _ hm1) hfg
      · exact q
    have m7 := mnL_7 hf hm
    have al1 : ∀ s, ¬ av s → ¬ (av s ∧ ¬ s = f) := fun s h q => h q.1
    have al2 : ∀ s, ¬ (av s ∧ ¬ s = f) → av s → s = f := fun s h q => by
      by_cases e : s = f
      · exact e
      · exact absurd ⟨q, e⟩ h
    obtain ⟨w1, w2, w3⟩ := ways_eq (al := fun s => ¬ (av s ∧ ¬ s = f)) al1 al2 (fun q => q.2 rfl) hav hf rfl hm
    have hb1 : is8 ((255 : Int32) &&& ((i4 &&& (((1 : Int32) <<< (nI f &&& (31 : Int32))) ^^^ (-1 : Int32))) ^^^ (-1 : Int32))) (fun s => ¬ (av s ∧ ¬ s = f)) := is8_w (is8_andn is8_255 (is8_andn hv (is8_one hf))) (fun j _ => ⟨fun q => q.2, fun q => ⟨trivial, q⟩⟩)
    obtain ⟨y, y1, y2⟩ := rr2 (g := g) (H := H + 1) hN hx hsym (bs8_all hb1) ht (by omega) N H 0 _ (by omega) (by omega) (bs8_w (bs8_goal hg) (fun k j _ _ => Iff.rfl))
    rw [Nat.add_sub_cancel] at y2
    have h0 := hx 0 (by omega)
    rw [Nat.add_zero] at h0
    obtain ⟨fs, s1, s2⟩ := setOf8 h0 hf
    have s3 := is8_andn s2 hv
    have lp : ∀ (n k : Nat), k ≤ m → m + 1 - k < n → ∃ nx', lX5_find_74 (nI f) i4 fs y n (nI k) (-1) (-1) = some (nI m, nx') ∧ fdP E av f g H m nx' := by
      intro n
      induction n with
      | zero => intro k _ h; omega
      | succ n ih =>
        intro k hk hn
        rw [lX5_find_74, if_neg (show ¬ (8 : Int32) ≤ nI k from nI_ge (b := 8) (by omega) (by decide)), if_pos rfl]
        have done : ∀ nx', fdP E av f g H m nx' → k = m → ∃ nx'', lX5_find_74 (nI f) i4 fs y n (nI k + 1) (nI k) nx' = some (nI m, nx'') ∧ fdP E av f g H m nx'' := by
          intro nx' hp he
          subst he
          cases n with
          | zero => omega
          | succ n =>
            refine ⟨nx', ?_, hp⟩
            rw [lX5_find_74, nI_1]
            by_cases h8 : (8 : Int32) ≤ nI (k + 1)
            · rw [if_pos h8]
            · rw [if_neg h8, if_neg (fun q => by
                have := nI_pos (n := k) (by omega)
                rw [q] at this
                exact this (by decide))]
        obtain ⟨fk, f1, f2⟩ := setOf8 y2 (show k < 8 by omega)
        cases k with
        | zero =>
          rw [if_pos (show nI 0 = 0 from rfl), rn_bs, if_pos rfl, f1, rn_bs]
          have hno := (w1 0 m0).1
          rw [if_neg (mt (is8_bit f2 hf).mp hno), nI_1]
          exact ih 1 (by omega) (by omega)
        | succ k =>
          rw [if_neg (nI_ne0 (by omega) (by omega)), nI_pred]
          obtain ⟨fj, j1, j2⟩ := setOf8 y2 (show k < 8 by omega)
          rw [j1, rn_bs, rn_bs]
          have n1 := is8_and j2 s3
          by_cases hz : (fj &&& (fs &&& (i4 ^^^ (-1 : Int32)))) = 0
          · rw [if_pos hz, f1, rn_bs]
            have n2 := (is8_z n1).mp hz
            rcases Nat.lt_or_ge (k + 1) m with q | q
            · rw [if_neg (mt (is8_bit f2 hf).mp (w1 (k + 1) q).1), nI_1]
              exact ih (k + 1 + 1) (by omega) (by omega)
            · have e : k + 1 = m := by omega
              have hno : ∀ t, t < 8 → ¬ (E 0 f t ∧ ¬ av t ∧ mnL E av g (H + 1) H t (m - 1)) := fun t ht q => by
                refine n2 t ht ⟨?_, q.1, q.2.1⟩
                have := (w2 t ht q.1 q.2.1 m0).mpr q.2.2
                rw [show m - 1 = k by omega] at this
                exact this
              have hyes : wR E (fun s => ¬ (av s ∧ ¬ s = f)) g (H + 1) H f (k + 1) := by
                rw [e]
                rcases w3 with ⟨t, t1, t2, t3, t4, t5⟩ | q
                · exact absurd ⟨t2, t3, (w2 t t1 t2 t3 m0).mp t5⟩ (hno t t1)
                · exact q
              rw [if_pos ((is8_bit f2 hf).mpr hyes)]
              exact done (-1) (Or.inr ⟨rfl, hno⟩) e
          · rw [if_neg hz]
            obtain ⟨v, v1, v2, v3⟩ := n1
            rw [v2]
            have v0 : 0 < v := by
              rcases Nat.eq_zero_or_pos v with q | q
              · subst q; exact absurd v2 hz
              · exact q
            obtain ⟨t, t1, t2, t3, t4⟩ := tz8 v v1 v0
            rw [t2, rn_bs]
            have ht := (v3 t t1).mp t3
            have e : k + 1 = m := by
              rcases Nat.lt_or_ge (k + 1) m with q | q
              · exact absurd ht.1 ((w1 (k + 1) q).2 t t1 ht.2.1 ht.2.2 (by omega))
              · omega
            refine done (nI t) (Or.inl ⟨t, t1, rfl, ht.2.1, ht.2.2, ?_, fun u hu q => ?_⟩) e
            · have := (w2 t t1 ht.2.1 ht.2.2 m0)
              rw [show m - 1 = k by omega] at this ⊢
              exact this.mp ht.1
            · have h9 := (w2 u (by omega) q.1 q.2.1 m0).mpr q.2.2
              rw [show m - 1 = k by omega] at h9
              have := (v3 u (by omega)).mpr ⟨h9, q.1, q.2.1⟩
              rw [t4 u hu] at this
              exact absurd this (by decide)
    obtain ⟨nx', p1, p2⟩ := lp N 0 (by omega) (by omega)
    refine ⟨H, m, nx', hH, ?_, h2, h3, m0, m7, hm, p2⟩
    unfold fX5_find
    rw [h1, rn_bs, if_neg (fun q => by
      have := nI_pos (n := H + 1) (by omega)
      rw [q] at this
      exact this (by decide)), ht2 (by omega), rn_bs, s1, rn_bs]
    unfold fX5_restsAfterFirstHour
    rw [rn_lt, nI_pred, y1, rn_bs, rn_bs, show (0 : Int32) = nI 0 from rfl, p1, rn_bs, nI_add]
end PF
