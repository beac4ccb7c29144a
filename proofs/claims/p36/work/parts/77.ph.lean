/-! the model's ways from an hour on; the first step; beside the class's search -/
section PH
variable {N : Nat} {st isA : Nat → Int32} {a b τ g : Nat}
abbrev Eh (b : Nat) (st : Nat → Int32) (τ : Nat) : Nat → Nat → Nat → Prop := fun d => q_hr b st ((τ + d) % 24)
abbrev Av (isA : Nat → Int32) : Nat → Prop := fun t => isA t ≠ 0
theorem l107 {d : Nat} {A K : Nat → Int32} (hN : 6000 ≤ N) (hd : d ≤ 24) : ∃ A' K', lX7_layWays_10 (nI d) N 0 A K = some (A', K') ∧ (∀ j, (∀ s, s < 8 → j ≠ 8 * d + s) → A' j = A j ∧ K' j = K j) ∧ ∀ s, s < 8 → (d < 24 → A' (8 * d + s) = A (8 * (d + 1) + s) ∧ K' (8 * d + s) = K (8 * (d + 1) + s)) ∧ (d = 24 → A' (8 * d + s) = 1000000000 ∧ K' (8 * d + s) = 1000000000) := by
  have lp : ∀ (n s : Nat) (B L : Nat → Int32), s ≤ 8 → 8 - s < n → (∀ j, (∀ s', s' < s → j ≠ 8 * d + s') → B j = A j ∧ L j = K j) → (∀ s', s' < s → (d < 24 → B (8 * d + s') = A (8 * (d + 1) + s') ∧ L (8 * d + s') = K (8 * (d + 1) + s')) ∧ (d = 24 → B (8 * d + s') = 1000000000 ∧ L (8 * d + s') = 1000000000)) →
      ∃ A' K', lX7_layWays_10 (nI d) n (nI s) B L = some (A', K') ∧ (∀ j, (∀ s, s < 8 → j ≠ 8 * d + s) → A' j = A j ∧ K' j = K j) ∧ ∀ s, s < 8 → (d < 24 → A' (8 * d + s) = A (8 * (d + 1) + s) ∧ K' (8 * d + s) = K (8 * (d + 1) + s)) ∧ (d = 24 → A' (8 * d + s) = 1000000000 ∧ K' (8 * d + s) = 1000000000) := by
    intro n
    induction n with
    | zero => intro s B L _ h; omega
    | succ n ih =>
      intro s B L hs hn h1 h2
      rw [lX7_layWays_10]
      rcases Nat.lt_or_ge s 8 with h | h
      · have e1 : (8 : Int32) * nI (d + 1) + nI s = nI (8 * (d + 1) + s) := by rw [show (8 : Int32) = nI 8 from rfl, pk_mul, nI_add]
        have e2 : (8 : Int32) * nI d + nI s = nI (8 * d + s) := by rw [show (8 : Int32) = nI 8 from rfl, pk_mul, nI_add]
        have c2 : (nI (8 * d + s)).toNatClampNeg = 8 * d + s := nI_clamp (by omega)
        have c1 : (nI (8 * (d + 1) + s)).toNatClampNeg = 8 * (d + 1) + s := nI_clamp (by omega)
        have gj : ∀ {α : Type} {o : Option α}, rn_g (nI (8 * d + s)) 200 o = o := rn_gI (by omega) (by decide)
        rw [if_neg (show ¬ (8 : Int32) ≤ nI s from nI_ge (b := 8) h (by decide))]
        by_cases hd24 : d = 24
        · rw [if_pos (show nI d = (24 : Int32) by rw [hd24]; rfl), rn_bs, rn_lt, if_neg (by decide), rn_bs, if_neg (by decide)]
          simp only [e2, gj, c2, rn_lt, rn_bs, nI_1]
          refine ih (s + 1) _ _ (by omega) (by omega) (fun j hj => ?_) (fun s' hs' => ?_)
          · have := hj s (by omega)
            rw [pk_un this, pk_un this]
            exact h1 j (fun s' q => hj s' (by omega))
          · refine ⟨fun q => by omega, fun q => ?_⟩
            rcases Nat.lt_or_ge s' s with r | r
            · rw [pk_un (by omega), pk_un (by omega)]
              exact (h2 s' r).2 q
            · have : s' = s := by omega
              subst this
              exact ⟨pk_us, pk_us⟩
        · have gk : ∀ {α : Type} {o : Option α}, rn_g (nI (8 * (d + 1) + s)) 200 o = o := rn_gI (by omega) (by decide)
          rw [if_neg (show ¬ nI d = (24 : Int32) from fun q => hd24 ((nI_eq (b := 24) (by omega) (by decide)).mp q)), rn_bs, rn_lt, if_pos rfl, if_pos rfl]
          simp only [e1, e2, gj, gk, c1, c2, rn_lt, rn_bs, nI_1]
          have o := h1 (8 * (d + 1) + s) (fun s' q => by omega)
          refine ih (s + 1) _ _ (by omega) (by omega) (fun j hj => ?_) (fun s' hs' => ?_)
          · have := hj s (by omega)
            rw [pk_un this, pk_un this]
            exact h1 j (fun s' q => hj s' (by omega))
          · refine ⟨fun q => ?_, fun q => absurd q hd24⟩
            rcases Nat.lt_or_ge s' s with r | r
            · rw [pk_un (by omega), pk_un (by omega)]
              exact (h2 s' r).1 q
            · have : s' = s := by omega
              subst this
              rw [pk_us, pk_us]
              exact o
      · have : s = 8 := by omega
        subst this
        rw [if_pos (show (8 : Int32) ≤ nI 8 from nI_le (a := 8) (Nat.le_refl _) (by decide))]
        exact ⟨B, L, rfl, h1, h2⟩
  exact lp N 0 A K (by omega) (by omega) (fun j _ => ⟨rfl, rfl⟩) (fun s' q => by omega)
/-- the rows at the hours from d on are laid -/
def laid (E : Nat → Nat → Nat → Prop) (av : Nat → Prop) (g τ : Nat) (A K : Nat → Int32) (d : Nat) : Prop := ∀ e, d ≤ e → e ≤ 24 → ∃ V : Nat → Option (Nat × Nat), ∀ s, s < 8 → rp τ A K (8 * e + s) (24 - e) (V s) ∧ lay E av g e s (V s)
theorem lay7 {A K : Nat → Int32} (hN : 6000 ≤ N) (gS : gd_S a st) (gL : gd_L a b st) (h1 : st 1 = nI b) (ha : a ≤ 8) (hb : b ≤ 16) (hτ : τ < 1000000) (hg : g < 8) : ∃ A' K', fX7_layWays N st A K isA (nI g) (nI τ) = some (A', K') ∧ laid (Eh b st τ) (Av isA) g τ A' K' 0 := by
  have row : ∀ (d : Nat) (A K : Nat → Int32), d ≤ 24 → laid (Eh b st τ) (Av isA) g τ A K (d + 1) → ∃ A1 K1 A2 K2, lX7_layWays_10 (nI d) N 0 A K = some (A1, K1) ∧ lX7_layWays_134 st isA (nI τ) (nI d) N 0 (upd A1 (8 * d + g) (nI (τ + d))) (upd K1 (8 * d + g) 0) = some (A2, K2) ∧ laid (Eh b st τ) (Av isA) g τ A2 K2 d := by
    intro d A K hd hl
    obtain ⟨A1, K1, e1, e2, e3⟩ := l107 (A := A) (K := K) hN hd
    refine ⟨A1, K1, ?_⟩
    rcases Nat.lt_or_ge d 24 with h | h
    · obtain ⟨V, hV⟩ := hl (d + 1) (by omega) (by omega)
      have keep : ∀ j, (∀ s, s < 8 → j ≠ 8 * d + s) → (upd A1 (8 * d + g) (nI (τ + d))) j = A j ∧ (upd K1 (8 * d + g) 0) j = K j := fun j hj => by
        rw [pk_un (hj g hg), pk_un (hj g hg)]
        exact e2 j hj
      have hgV : ∀ s, s < 8 → rp τ (upd A1 (8 * d + g) (nI (τ + d))) (upd K1 (8 * d + g) 0) (8 * d + s) (24 - d) (if s = g then some (d, 0) else V s) := fun s hs => by
        by_cases q : s = g
        · subst q
          rw [if_pos rfl]
          exact ⟨pk_us, pk_us, by simp only; omega, by simp only; omega⟩
        · rw [if_neg q]
          have c := (e3 s hs).1 h
          have r := rp_c (hV s hs).1 (show 24 - (d + 1) ≤ 24 - d by omega)
          cases hv : V s with
          | none =>
            rw [hv] at r
            exact ⟨by rw [pk_un (by omega), c.1]; exact r.1, by rw [pk_un (by omega), c.2]; exact r.2⟩
          | some p =>
            rw [hv] at r
            exact ⟨by rw [pk_un (by omega), c.1]; exact r.1, by rw [pk_un (by omega), c.2]; exact r.2.1, r.2.2⟩
      obtain ⟨A2, K2, j1, j2, U', j3, j4⟩ := lw7 (U := fun s => if s = g then some (d, 0) else V s) hN gS gL h1 ha hb h hτ (fun s hs => (hV s hs).2) hg N 0 _ _ (by omega) (by omega) (fun s hs => by
          have := keep (8 * (d + 1) + s) (fun s' q => by omega)
          exact rp_e (hV s hs).1 this.1 this.2) hgV (if_pos rfl) (fun s hs q hq => by
          have hq : (if s = g then some (d, 0) else V s) = some q := hq
          by_cases r : s = g
          · rw [if_pos r] at hq
            cases hq
            refine ⟨Nat.le_refl _, ?_⟩
            show wL _ _ g d (d - d) s 0
            rw [Nat.sub_self]
            exact r
          · rw [if_neg r] at hq
            have h8 := (hV s hs).2
            rw [hq] at h8
            refine ⟨by have := h8.1; omega, ?_⟩
            have h9 := h8.1
            rw [show q.1 - d = (q.1 - (d + 1)) + 1 by omega]
            exact Or.inl h8.2.1) (fun s hs p hp => by
          show lxle (if s = g then some (d, 0) else V s) p
          by_cases r : s = g
          · rw [if_pos r]
            have h8 := (hV s hs).2
            rw [hp] at h8
            exact ⟨_, rfl, Or.inl (by have := h8.1; simp only; omega)⟩
          · rw [if_neg r]
            exact ⟨p, hp, Or.inr ⟨rfl, Nat.le_refl _⟩⟩) (fun s t l hs ht hl => by omega)
      refine ⟨A2, K2, e1, j1, fun e he1 he2 => ?_⟩
      rcases Nat.lt_or_ge d e with q | q
      · obtain ⟨V', hV'⟩ := hl e q he2
        refine ⟨V', fun s hs => ⟨?_, (hV' s hs).2⟩⟩
        have n1 : ∀ s', s' < 8 → 8 * e + s ≠ 8 * d + s' := fun s' _ => by omega
        have := j2 _ n1
        have k := keep _ n1
        exact rp_e (hV' s hs).1 (this.1.trans k.1) (this.2.trans k.2)
      · have : e = d := by omega
        subst this
        exact ⟨U', fun s hs => ⟨j3 s hs, j4 s hs⟩⟩
    · have hd' : d = 24 := by omega
      subst hd'
      cases N with
      | zero => omega
      | succ n =>
        refine ⟨upd A1 (8 * 24 + g) (nI (τ + 24)), upd K1 (8 * 24 + g) 0, e1, ?_, fun e he1 he2 => ?_⟩
        · rw [lX7_layWays_134, g1, cl1, h1]
          by_cases hb0 : nI b ≤ 0
          · rw [if_pos hb0]
          · rw [if_neg hb0, if_pos (show (24 : Int32) ≤ nI 24 from nI_le (a := 24) (Nat.le_refl _) (by decide))]
        · have : e = 24 := by omega
          subst this
          refine ⟨fun s => if s = g then some (24, 0) else none, fun s hs => ?_⟩
          show rp τ _ _ (8 * 24 + s) (24 - 24) (if s = g then some (24, 0) else none) ∧ lay (Eh b st τ) (Av isA) g 24 s (if s = g then some (24, 0) else none)
          by_cases q : s = g
          · subst q
            rw [if_pos rfl]
            refine ⟨⟨pk_us, pk_us, Nat.le_refl _, Nat.zero_le _⟩, Nat.le_refl _, rfl, fun h k h1 h2 _ => ?_⟩
            have : h = 24 := by omega
            subst this
            exact Or.inr ⟨rfl, Nat.zero_le _⟩
          · rw [if_neg q]
            have c := (e3 s hs).2 rfl
            refine ⟨⟨by rw [pk_un (by omega)]; exact c.1, by rw [pk_un (by omega)]; exact c.2⟩, fun h k h1 h2 h3 => ?_⟩
            have : h = 24 := by omega
            subst this
            exact q h3
  have lp : ∀ (n d : Nat) (A K : Nat → Int32), d ≤ 24 → d + 1 < n → laid (Eh b st τ) (Av isA) g τ A K (d + 1) → ∃ A' K', lX7_layWays_3 N st isA (nI g) (nI τ) n (nI d) A K = some (A', K') ∧ laid (Eh b st τ) (Av isA) g τ A' K' 0 := by
    intro n
    induction n with
    | zero => intro d A K _ h; omega
    | succ n ih =>
      intro d A K hd hn hl
      obtain ⟨A1, K1, A2, K2, r1, r2, r3⟩ := row d A K hd hl
      have e2 : (8 : Int32) * nI d + nI g = nI (8 * d + g) := by rw [show (8 : Int32) = nI 8 from rfl, pk_mul, nI_add]
      have c2 : (nI (8 * d + g)).toNatClampNeg = 8 * d + g := nI_clamp (by omega)
      have gj : ∀ {α : Type} {o : Option α}, rn_g (nI (8 * d + g)) 200 o = o := rn_gI (by omega) (by decide)
      rw [lX7_layWays_3, if_neg (nI_pos (by omega)), r1, rn_bs]
      simp only [e2, gj, c2, rn_lt, nI_add]
      rw [r2, rn_bs]
      cases d with
      | zero =>
        cases n with
        | zero => omega
        | succ n =>
          refine ⟨A2, K2, ?_, r3⟩
          rw [lX7_layWays_3, if_pos (by decide)]
      | succ d =>
        rw [pk_m1]
        exact ih d A2 K2 (by omega) (by omega) r3
  obtain ⟨A', K', l1, l2⟩ := lp N 24 A K (Nat.le_refl _) (by omega) (fun e h1 h2 => by omega)
  refine ⟨A', K', ?_, l2⟩
  unfold fX7_layWays
  rw [show (24 : Int32) = nI 24 from rfl, l1, rn_bs]
/-- the class's search and the model's rows agree -/
theorem way_eq {A K : Nat → Int32} {f : Nat} (hl : laid (Eh b st τ) (Av isA) g τ A K 0) (hf : f < 8) (hg : g < 8) (hfg : f ≠ g) (hτ : τ < 1000000) :
    ((∀ d, d < 24 → ¬ wF (Eh b st τ) (Av isA) f (d + 1) g) → A f = 1000000000) ∧
    ∀ H m, H < 24 → wF (Eh b st τ) (Av isA) f (H + 1) g → (∀ d, d < H → ¬ wF (Eh b st τ) (Av isA) f (d + 1) g) → mnL (Eh b st τ) (Av isA) g (H + 1) (H + 1) f m →
      A f = nI (τ + (H + 1)) ∧ K f = nI m ∧ m ≤ 24 ∧ ∀ t, t < 8 → Eh b st τ 0 f t → ¬ Av isA t → 0 < m → ((A (8 + t) = A f ∧ K (8 + t) + 1 = K f) ↔ mnL (Eh b st τ) (Av isA) g (H + 1) H t (m - 1)) := by
  obtain ⟨V, hV⟩ := hl 0 (Nat.le_refl _) (by omega)
  have h0 := hV f hf
  rw [Nat.mul_zero, Nat.zero_add] at h0
  obtain ⟨r0, y0⟩ := h0
  constructor
  · intro hno
    cases hv : V f with
    | none => rw [hv] at r0; exact r0.1
    | some q =>
      exfalso
      rw [hv] at y0 r0
      obtain ⟨-, y2, -⟩ := y0
      rw [Nat.sub_zero] at y2
      have h24 := r0.2.2.1
      rcases Nat.eq_zero_or_pos q.1 with c | c
      · rw [c] at y2
        exact hfg y2
      · have := (wF_iff hg hf).mpr ⟨_, y2⟩
        rw [show q.1 = (q.1 - 1) + 1 by omega] at this
        exact hno (q.1 - 1) (by omega) this
  · intro H m hH hF hmin hm
    cases hv : V f with
    | none =>
      rw [hv] at y0
      exact absurd hm.1 (y0 (H + 1) m (Nat.zero_le _) (by omega))
    | some q =>
      rw [hv] at y0 r0
      obtain ⟨y1, y2, y3⟩ := y0
      have h24 := r0.2.2.1
      have l1 := y3 (H + 1) m (Nat.zero_le _) (by omega) hm.1
      have hq : q.1 = H + 1 := by
        rcases l1 with c | c
        · exfalso
          have c : q.1 < H + 1 := c
          rw [Nat.sub_zero] at y2
          rcases Nat.eq_zero_or_pos q.1 with z | z
          · rw [z] at y2
            exact hfg y2
          · have := (wF_iff hg hf).mpr ⟨_, y2⟩
            rw [show q.1 = (q.1 - 1) + 1 by omega] at this
            exact hmin (q.1 - 1) (by omega) this
        · exact c.1
      have hk : q.2 = m := by
        have k1 : q.2 ≤ m := by
          rcases l1 with c | c
          · have c : q.1 < H + 1 := c
            omega
          · exact c.2
        have k2 := hm.2 q.2 (by rw [hq] at y2; exact y2)
        omega
      have a1 : A f = nI (τ + (H + 1)) := by rw [r0.1, hq]
      have a2 : K f = nI m := by rw [r0.2.1, hk]
      have hm24 : m ≤ 24 := by have := r0.2.2.2; omega
      refine ⟨a1, a2, by have := r0.2.2.2; omega, fun t ht hE hA m0 => ?_⟩
      obtain ⟨V1, hV1⟩ := hl 1 (by omega) (by omega)
      obtain ⟨r1, z1⟩ := hV1 t ht
      rw [Nat.mul_one] at r1
      rw [a1, a2]
      cases hv1 : V1 t with
      | none =>
        rw [hv1] at r1 z1
        constructor
        · rintro ⟨c, -⟩
          rw [r1.1, far_nI] at c
          have := (nI_eq (by omega) (by omega)).mp c
          omega
        · intro c
          exact absurd c.1 (by
            have := z1 (H + 1) (m - 1) (by omega) (by omega)
            rw [Nat.add_sub_cancel] at this
            exact this)
      | some p =>
        rw [hv1] at r1 z1
        obtain ⟨z2, z3, z4⟩ := z1
        obtain ⟨b1, b2, b3, b4⟩ := r1
        rw [b1, b2, nI_1]
        have step : ∀ h k, 1 ≤ h → wL (Eh b st τ) (Av isA) g h (h - 1) t k → wL (Eh b st τ) (Av isA) g h h f (k + 1) := fun h k h1 h2 => by
          have h3 : wL (Eh b st τ) (Av isA) g h ((h - 1) + 1) f (k + 1) := Or.inr ⟨t, k, ht, by rw [show h - (h - 1 + 1) = 0 by omega]; exact hE, hA, rfl, h2⟩
          rw [show h - 1 + 1 = h by omega] at h3
          exact h3
        have late : H + 1 ≤ p.1 := by
          rcases Nat.lt_or_ge p.1 (H + 1) with c | c
          · exfalso
            have := (wF_iff hg hf).mpr ⟨_, step p.1 p.2 z2 z3⟩
            rw [show p.1 = (p.1 - 1) + 1 by omega] at this
            exact hmin (p.1 - 1) (by omega) this
          · exact c
        constructor
        · rintro ⟨c1, c2⟩
          have c1 := (nI_eq (by omega) (by omega)).mp c1
          have c2 := (nI_eq (by omega) (by omega)).mp c2
          have e1 : p.1 = H + 1 := by omega
          have e2 : p.2 = m - 1 := by omega
          rw [e1, e2, Nat.add_sub_cancel] at z3
          refine ⟨z3, fun k' hk' => ?_⟩
          have := z4 (H + 1) k' (by omega) (by omega) (by rw [Nat.add_sub_cancel]; exact hk')
          unfold lx at this
          simp only at this
          omega
        · intro c
          have := z4 (H + 1) (m - 1) (by omega) (by omega) (by rw [Nat.add_sub_cancel]; exact c.1)
          unfold lx at this
          simp only at this
          have e1 : p.1 = H + 1 := by omega
          have e3 : p.2 ≤ m - 1 := by omega
          rw [e1, Nat.add_sub_cancel] at z3
          have := c.2 p.2 z3
          rw [e1]
          exact ⟨rfl, congrArg nI (by omega)⟩
end PH
