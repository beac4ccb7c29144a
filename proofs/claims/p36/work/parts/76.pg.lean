/-! the model's ways: rows of arrivals and links, hour by hour from behind -/
def rp (τ : Nat) (A K : Nat → Int32) (i c : Nat) : Option (Nat × Nat) → Prop
  | none => A i = 1000000000 ∧ K i = 1000000000
  | some q => A i = nI (τ + q.1) ∧ K i = nI q.2 ∧ q.1 ≤ 24 ∧ q.2 ≤ c
def lx (q p : Nat × Nat) : Prop := q.1 < p.1 ∨ (q.1 = p.1 ∧ q.2 ≤ p.2)
def lxle (u : Option (Nat × Nat)) (p : Nat × Nat) : Prop := ∃ q, u = some q ∧ lx q p
theorem lx_t {a b c : Nat × Nat} (h1 : lx a b) (h2 : lx b c) : lx a c := by
  unfold lx at *
  omega
theorem far_nI : (1000000000 : Int32) = nI 1000000000 := rfl
theorem rp_c {τ i c c' : Nat} {A K : Nat → Int32} {u : Option (Nat × Nat)} (h : rp τ A K i c u) (hc : c ≤ c') : rp τ A K i c' u := by
  cases u with
  | none => exact h
  | some q => exact ⟨h.1, h.2.1, h.2.2.1, Nat.le_trans h.2.2.2 hc⟩
theorem rp_e {τ i c : Nat} {A K A' K' : Nat → Int32} {u : Option (Nat × Nat)} (h : rp τ A K i c u) (hA : A' i = A i) (hK : K' i = K i) : rp τ A' K' i c u := by
  cases u with
  | none => exact ⟨hA.trans h.1, hK.trans h.2⟩
  | some q => exact ⟨hA.trans h.1, hK.trans h.2.1, h.2.2⟩
theorem im7 {τ i c h κ : Nat} {A K : Nat → Int32} {u : Option (Nat × Nat)} (hi : i < 200) (hr : rp τ A K i c u) (hh : h ≤ 24) (hk : κ ≤ c) (hc : c ≤ 100) (hτ : τ < 1000000) :
    ∃ A' K', fX7_improve A K (nI i) (nI (τ + h)) (nI κ) = some (A', K') ∧ (∀ j, j ≠ i → A' j = A j ∧ K' j = K j) ∧ ∃ u', rp τ A' K' i c u' ∧ lxle u' (h, κ) ∧ (∀ p, lxle u p → lxle u' p) ∧ (u' = u ∨ u' = some (h, κ)) := by
  have set : fX7_improve A K (nI i) (nI (τ + h)) (nI κ) = some (upd A i (nI (τ + h)), upd K i (nI κ)) → (∀ p, lxle u p → lx (h, κ) p) → ∃ A' K', fX7_improve A K (nI i) (nI (τ + h)) (nI κ) = some (A', K') ∧ (∀ j, j ≠ i → A' j = A j ∧ K' j = K j) ∧ ∃ u', rp τ A' K' i c u' ∧ lxle u' (h, κ) ∧ (∀ p, lxle u p → lxle u' p) ∧ (u' = u ∨ u' = some (h, κ)) := fun e hl =>
    ⟨_, _, e, fun j hj => ⟨pk_un hj, pk_un hj⟩, some (h, κ), ⟨pk_us, pk_us, hh, hk⟩, ⟨_, rfl, Or.inr ⟨rfl, Nat.le_refl _⟩⟩, fun p hp => ⟨_, rfl, hl p hp⟩, Or.inr rfl⟩
  have gi : ∀ {α : Type} {o : Option α}, rn_g (nI i) 200 o = o := rn_gI hi (by decide)
  have ci : (nI i).toNatClampNeg = i := nI_clamp (by omega)
  unfold fX7_improve at set ⊢
  simp only [gi, ci, rn_lt] at set ⊢
  cases u with
  | none =>
    rw [hr.1, far_nI, if_pos (nI_lt (by omega) (by decide))] at set ⊢
    exact set rfl (fun p ⟨q, h1, _⟩ => by cases h1)
  | some q =>
    obtain ⟨h1, h2, h3, h4⟩ := hr
    rw [h1, h2] at set ⊢
    rcases Nat.lt_trichotomy h q.1 with a | a | a
    · rw [if_pos (nI_lt (by omega) (by omega))] at set ⊢
      exact set rfl (fun p ⟨q', e, hl⟩ => by
        cases e
        unfold lx at *
        simp only
        omega)
    · rw [if_neg (nI_nlt (by omega) (by omega)), if_pos (by rw [a])] at set ⊢
      rcases Nat.lt_or_ge κ q.2 with b | b
      · rw [if_neg (nI_ge b (by omega))] at set ⊢
        exact set rfl (fun p ⟨q', e, hl⟩ => by
          cases e
          unfold lx at *
          simp only
          omega)
      · rw [if_pos (nI_le b (by omega))]
        exact ⟨A, K, rfl, fun j _ => ⟨rfl, rfl⟩, some q, ⟨h1, h2, h3, h4⟩, ⟨q, rfl, by unfold lx; simp only; omega⟩, fun p hp => hp, Or.inl rfl⟩
    · rw [if_neg (nI_nlt (by omega) (by omega)), if_neg (fun e => by
        have := (nI_eq (by omega) (by omega)).mp e
        omega)]
      exact ⟨A, K, rfl, fun j _ => ⟨rfl, rfl⟩, some q, ⟨h1, h2, h3, h4⟩, ⟨q, rfl, by unfold lx; simp only; omega⟩, fun p hp => hp, Or.inl rfl⟩
theorem gb7 {τ d s t : Nat} {A K av : Nat → Int32} {u v : Option (Nat × Nat)} (hd : d < 24) (hs : s < 8) (ht : t < 8) (hu : rp τ A K (8 * d + s) (24 - d) u) (hv : rp τ A K (8 * (d + 1) + t) (24 - (d + 1)) v) (hτ : τ < 1000000) :
    ∃ A' K', fX7_goBy A K av (nI d) (nI s) (nI t) = some (A', K') ∧ (∀ j, j ≠ 8 * d + s → A' j = A j ∧ K' j = K j) ∧ ∃ u', rp τ A' K' (8 * d + s) (24 - d) u' ∧ (av t = 0 → ∀ q, v = some q → lxle u' (q.1, q.2 + 1)) ∧ (∀ p, lxle u p → lxle u' p) ∧ (u' = u ∨ (av t = 0 ∧ ∃ q, v = some q ∧ u' = some (q.1, q.2 + 1))) := by
  have e1 : (8 : Int32) * (nI d + (1 : Int32)) + nI t = nI (8 * (d + 1) + t) := by rw [nI_1, show (8 : Int32) = nI 8 from rfl, pk_mul, nI_add]
  have e2 : (8 : Int32) * nI d + nI s = nI (8 * d + s) := by rw [show (8 : Int32) = nI 8 from rfl, pk_mul, nI_add]
  have gj : ∀ {α : Type} {o : Option α}, rn_g (nI (8 * (d + 1) + t)) 200 o = o := rn_gI (by omega) (by decide)
  have cj : (nI (8 * (d + 1) + t)).toNatClampNeg = 8 * (d + 1) + t := nI_clamp (by omega)
  unfold fX7_goBy
  rw [e1, e2, rn_gI ht (by decide), nI_clamp (by omega), gj, gj, gj, cj]
  by_cases ha : av t = 0
  · rw [if_pos ha]
    cases v with
    | none =>
      rw [hv.1, if_pos (Int32.le_refl _)]
      exact ⟨A, K, rfl, fun j _ => ⟨rfl, rfl⟩, u, hu, fun _ q h => (nomatch h), fun p hp => hp, Or.inl rfl⟩
    | some q =>
      obtain ⟨h1, h2, h3, h4⟩ := hv
      rw [h1, h2, far_nI, if_neg (nI_ge (by omega) (by omega)), nI_1]
      obtain ⟨A', K', i1, i2, u', i3, i4, i5, i6⟩ := im7 (h := q.1) (κ := q.2 + 1) (by omega) hu h3 (by omega) (by omega) hτ
      rw [i1, rn_bs]
      refine ⟨A', K', rfl, i2, u', i3, fun _ q' h => by cases h; exact i4, i5, ?_⟩
      rcases i6 with r | r
      · exact Or.inl r
      · exact Or.inr ⟨ha, q, rfl, r⟩
  · rw [if_neg ha]
    exact ⟨A, K, rfl, fun j _ => ⟨rfl, rfl⟩, u, hu, fun h => absurd h ha, fun p hp => hp, Or.inl rfl⟩
/-- a row of the model: the earliest arrival, the fewest links -/
def lay (E : Nat → Nat → Nat → Prop) (av : Nat → Prop) (g d s : Nat) : Option (Nat × Nat) → Prop
  | none => ∀ h k, d ≤ h → h ≤ 24 → ¬ wL E av g h (h - d) s k
  | some q => d ≤ q.1 ∧ wL E av g q.1 (q.1 - d) s q.2 ∧ ∀ h k, d ≤ h → h ≤ 24 → wL E av g h (h - d) s k → lx q (h, k)
section PG
variable {N : Nat} {st isA : Nat → Int32} {a b τ g : Nat}
/-- the links, one by one, in one hour -/
theorem lw7 {d : Nat} {V : Nat → Option (Nat × Nat)} (hN : 6000 ≤ N) (gS : gd_S a st) (gL : gd_L a b st) (h1 : st 1 = nI b) (ha : a ≤ 8) (hb : b ≤ 16) (hd : d < 24) (hτ : τ < 1000000) (hV : ∀ s, s < 8 → lay (fun d => q_hr b st ((τ + d) % 24)) (fun t => isA t ≠ 0) g (d + 1) s (V s)) (hg : g < 8) :
    ∀ (n k : Nat) (A K : Nat → Int32) (U : Nat → Option (Nat × Nat)), k ≤ b → b - k < n → (∀ s, s < 8 → rp τ A K (8 * (d + 1) + s) (24 - (d + 1)) (V s)) → (∀ s, s < 8 → rp τ A K (8 * d + s) (24 - d) (U s)) →
      U g = some (d, 0) → (∀ s, s < 8 → ∀ q, U s = some q → d ≤ q.1 ∧ wL (fun d => q_hr b st ((τ + d) % 24)) (fun t => isA t ≠ 0) g q.1 (q.1 - d) s q.2) → (∀ s, s < 8 → ∀ p, V s = some p → lxle (U s) p) →
      (∀ s t l, s < 8 → t < 8 → l < k → q_op st l ((τ + d) % 24) = true → ((qL st l 0 = nI s ∧ qL st l 1 = nI t) ∨ (qL st l 0 = nI t ∧ qL st l 1 = nI s)) → isA t = 0 → ∀ p, V t = some p → lxle (U s) (p.1, p.2 + 1)) →
      ∃ A' K', lX7_layWays_134 st isA (nI τ) (nI d) n (nI k) A K = some (A', K') ∧ (∀ j, (∀ s, s < 8 → j ≠ 8 * d + s) → A' j = A j ∧ K' j = K j) ∧ ∃ U' : Nat → Option (Nat × Nat), (∀ s, s < 8 → rp τ A' K' (8 * d + s) (24 - d) (U' s)) ∧ ∀ s, s < 8 → lay (fun d => q_hr b st ((τ + d) % 24)) (fun t => isA t ≠ 0) g d s (U' s) := by
  intro n
  induction n with
  | zero => intro k A K U _ h; omega
  | succ n ih =>
    intro k A K U hk hn hr1 hr2 hgU hat hle hli
    rw [lX7_layWays_134, g1, cl1, h1]
    rcases Nat.lt_or_ge k b with h | h
    · rw [if_neg (nI_ge h (by omega)), if_neg (show ¬ (24 : Int32) ≤ nI d from nI_ge (b := 24) hd (by decide)), nI_add, op7 gS gL h ha hb (by omega), rn_bs, nI_1]
      cases ho : q_op st k ((τ + d) % 24) with
      | false =>
        rw [if_pos (show b2 false = 0 from rfl)]
        exact ih (k + 1) A K U (by omega) (by omega) hr1 hr2 hgU hat hle (fun s t l hs ht hl h2 h3 => by
          rcases Nat.lt_or_ge l k with q | q
          · exact hli s t l hs ht q h2 h3
          · have : l = k := by omega
            subst this
            rw [ho] at h2
            exact absurd h2 (by decide))
      | true =>
        rw [if_neg (show ¬ b2 true = 0 from by decide)]
        obtain ⟨⟨x, hx, ex⟩, ⟨y, hy, ey⟩, -⟩ := (gL k (by omega)).1 h
        rw [show fX7_ofLink st (nI k) (0 : Int32) = some (qL st k 0) from oL (q := 0) (by omega) (by omega), show fX7_ofLink st (nI k) (1 : Int32) = some (qL st k 1) from oL (q := 1) (by omega) (by omega), rn_bs, rn_bs, ex, ey]
        have hEx : q_hr b st ((τ + d) % 24) x y := ⟨k, h, ho, Or.inl ⟨ex, ey⟩⟩
        have hEy : q_hr b st ((τ + d) % 24) y x := ⟨k, h, ho, Or.inr ⟨ex, ey⟩⟩
        have one : ∀ (s t : Nat) (A K : Nat → Int32) (U : Nat → Option (Nat × Nat)), s < 8 → t < 8 → q_hr b st ((τ + d) % 24) s t → (∀ s, s < 8 → rp τ A K (8 * (d + 1) + s) (24 - (d + 1)) (V s)) → (∀ s, s < 8 → rp τ A K (8 * d + s) (24 - d) (U s)) → U g = some (d, 0) → (∀ s, s < 8 → ∀ q, U s = some q → d ≤ q.1 ∧ wL (fun d => q_hr b st ((τ + d) % 24)) (fun t => isA t ≠ 0) g q.1 (q.1 - d) s q.2) →
            ∃ A' K', fX7_goBy A K isA (nI d) (nI s) (nI t) = some (A', K') ∧ (∀ j, (∀ s, s < 8 → j ≠ 8 * d + s) → A' j = A j ∧ K' j = K j) ∧ ∃ U' : Nat → Option (Nat × Nat), (∀ s, s < 8 → rp τ A' K' (8 * (d + 1) + s) (24 - (d + 1)) (V s)) ∧ (∀ s, s < 8 → rp τ A' K' (8 * d + s) (24 - d) (U' s)) ∧ U' g = some (d, 0) ∧ (∀ s, s < 8 → ∀ q, U' s = some q → d ≤ q.1 ∧ wL (fun d => q_hr b st ((τ + d) % 24)) (fun t => isA t ≠ 0) g q.1 (q.1 - d) s q.2) ∧ (∀ s p, lxle (U s) p → lxle (U' s) p) ∧ (isA t = 0 → ∀ p, V t = some p → lxle (U' s) (p.1, p.2 + 1)) := by
          intro s t A K U hs ht hE hr1 hr2 hgU hat
          obtain ⟨A', K', e1, e2, u', e3, e4, e5, e6⟩ := gb7 (av := isA) hd hs ht (hr2 s hs) (hr1 t ht) hτ
          refine ⟨A', K', e1, fun j hj => e2 j (hj s hs), fun s' => if s' = s then u' else U s', fun s' hs' => ?_, fun s' hs' => ?_, ?_, fun s' hs' q hq => ?_, fun s' p hp => ?_, fun h0 p hp => ?_⟩
          · have := e2 (8 * (d + 1) + s') (by omega)
            exact rp_e (hr1 s' hs') this.1 this.2
          · show rp τ A' K' (8 * d + s') (24 - d) (if s' = s then u' else U s')
            by_cases q : s' = s
            · subst q
              rw [if_pos rfl]
              exact e3
            · rw [if_neg q]
              have := e2 (8 * d + s') (by omega)
              exact rp_e (hr2 s' hs') this.1 this.2
          · show (if g = s then u' else U g) = some (d, 0)
            by_cases q : g = s
            · subst q
              rw [if_pos rfl]
              rcases e6 with r | ⟨-, p, r1, r2⟩
              · rw [r, hgU]
              · exfalso
                have h5 := e5 (d, 0) ⟨(d, 0), hgU, Or.inr ⟨rfl, Nat.le_refl _⟩⟩
                rw [r2] at h5
                obtain ⟨q', h6, h7⟩ := h5
                cases h6
                have h8 := hV t ht
                rw [r1] at h8
                have h9 := h8.1
                unfold lx at h7
                simp only at h7
                omega
            · rw [if_neg q]
              exact hgU
          · have hq : (if s' = s then u' else U s') = some q := hq
            by_cases r : s' = s
            · subst r
              rw [if_pos rfl] at hq
              rcases e6 with r | ⟨h0, p, r1, r2⟩
              · rw [r] at hq
                exact hat s' hs' q hq
              · rw [r2] at hq
                cases hq
                have h8 := hV t ht
                rw [r1] at h8
                obtain ⟨h9, h10, -⟩ := h8
                refine ⟨by simp only; omega, ?_⟩
                show wL _ _ g p.1 (p.1 - d) s' (p.2 + 1)
                rw [show p.1 - d = (p.1 - (d + 1)) + 1 by omega]
                refine Or.inr ⟨t, p.2, ht, ?_, fun q => q h0, rfl, h10⟩
                show q_hr b st ((τ + (p.1 - (p.1 - (d + 1) + 1))) % 24) s' t
                rw [show p.1 - (p.1 - (d + 1) + 1) = d by omega]
                exact hE
            · rw [if_neg r] at hq
              exact hat s' hs' q hq
          · show lxle (if s' = s then u' else U s') p
            by_cases r : s' = s
            · subst r
              rw [if_pos rfl]
              exact e5 p hp
            · rw [if_neg r]
              exact hp
          · show lxle (if s = s then u' else U s) _
            rw [if_pos rfl]
            exact e4 h0 p hp
        obtain ⟨A1, K1, f1, f2, U1, f3, f4, f5, f6, f7, f8⟩ := one x y A K U (by omega) (by omega) hEx hr1 hr2 hgU hat
        obtain ⟨A2, K2, k1, k2, U2, k3, k4, k5, k6, k7, k8⟩ := one y x A1 K1 U1 (by omega) (by omega) hEy f3 f4 f5 f6
        rw [f1, rn_bs, rn_bs, rn_bs, k1, rn_bs]
        obtain ⟨A3, K3, j1, j2, j3⟩ := ih (k + 1) A2 K2 U2 (by omega) (by omega) k3 k4 k5 k6 (fun s hs p hp => k7 s p (f7 s p (hle s hs p hp))) (fun s t l hs ht hl h2 h3 h4 p hp => by
          rcases Nat.lt_or_ge l k with q | q
          · exact k7 s _ (f7 s _ (hli s t l hs ht q h2 h3 h4 p hp))
          · have : l = k := by omega
            subst this
            rcases h3 with ⟨a1, a2⟩ | ⟨a1, a2⟩
            · have b1 : x = s := (nI_eq (by omega) (by omega)).mp (ex.symm.trans a1)
              have b2 : y = t := (nI_eq (by omega) (by omega)).mp (ey.symm.trans a2)
              subst b1
              subst b2
              exact k7 _ _ (f8 h4 p hp)
            · have b1 : x = t := (nI_eq (by omega) (by omega)).mp (ex.symm.trans a1)
              have b2 : y = s := (nI_eq (by omega) (by omega)).mp (ey.symm.trans a2)
              subst b1
              subst b2
              exact k8 h4 p hp)
        refine ⟨A3, K3, j1, fun j hj => ?_, j3⟩
        have c1 := j2 j hj
        have c2 := k2 j hj
        have c3 := f2 j hj
        exact ⟨c1.1.trans (c2.1.trans c3.1), c1.2.trans (c2.2.trans c3.2)⟩
    · have : k = b := by omega
      subst this
      rw [if_pos (nI_le (Nat.le_refl _) (by omega))]
      refine ⟨A, K, rfl, fun j _ => ⟨rfl, rfl⟩, U, hr2, fun s hs => ?_⟩
      have best : ∀ h k', d ≤ h → h ≤ 24 → wL (fun d => q_hr k st ((τ + d) % 24)) (fun t => isA t ≠ 0) g h (h - d) s k' → lxle (U s) (h, k') := by
        intro h k' h1 h2 h3
        rcases Nat.lt_or_ge d h with q | q
        · rw [show h - d = (h - (d + 1)) + 1 by omega] at h3
          rcases h3 with h3 | ⟨t, k1, a1, a2, a3, a4, a5⟩
          · have h4 := hV s hs
            cases hv : V s with
            | none => rw [hv] at h4; exact absurd h3 (h4 h k' (by omega) h2)
            | some p =>
              rw [hv] at h4
              obtain ⟨q', c1, c2⟩ := hle s hs p hv
              exact ⟨q', c1, lx_t c2 (h4.2.2 h k' (by omega) h2 h3)⟩
          · have h4 := hV t a1
            have a2 : q_hr k st ((τ + (h - (h - (d + 1) + 1))) % 24) s t := a2
            rw [show h - (h - (d + 1) + 1) = d by omega] at a2
            obtain ⟨l, l1, l2, l3⟩ := a2
            cases hv : V t with
            | none => rw [hv] at h4; exact absurd a5 (h4 h k1 (by omega) h2)
            | some p =>
              rw [hv] at h4
              obtain ⟨q', c1, c2⟩ := hli s t l hs a1 l1 l2 l3 (Decidable.not_not.mp a3) p hv
              have c3 := h4.2.2 h k1 (by omega) h2 a5
              refine ⟨q', c1, lx_t c2 ?_⟩
              unfold lx at *
              simp only at *
              omega
        · have e : h = d := by omega
          subst e
          rw [Nat.sub_self] at h3
          have e2 : s = g := h3
          subst e2
          exact ⟨_, hgU, Or.inr ⟨rfl, Nat.zero_le _⟩⟩
      cases hu : U s with
      | none =>
        intro h k' h1 h2 h3
        obtain ⟨q, c1, -⟩ := best h k' h1 h2 h3
        rw [hu] at c1
        cases c1
      | some q =>
        have := hat s hs q hu
        refine ⟨this.1, this.2, fun h k' h1 h2 h3 => ?_⟩
        obtain ⟨q', c1, c2⟩ := best h k' h1 h2 h3
        rw [hu] at c1
        cases c1
        exact c2
end PG
