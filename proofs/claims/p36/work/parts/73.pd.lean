/-! ways, in words: E d s t: in the hour d, s hears t; av: barred stations; g: the goal; H: the hour of arrival -/
theorem php : ∀ (m n : Nat) (f : Nat → Nat), (∀ i, i < n → f i < m) → (∀ i j, i < n → j < n → f i = f j → i = j) → n ≤ m := by
  intro m
  induction m with
  | zero =>
    intro n f h1 _
    rcases Nat.eq_zero_or_pos n with q | q
    · omega
    · have := h1 0 q
      omega
  | succ m ih =>
    intro n f h1 h2
    rcases Nat.eq_zero_or_pos n with q | q
    · omega
    · by_cases hx : ∃ i, i < n ∧ f i = m
      · obtain ⟨i, hi, hf⟩ := hx
        have h3 := ih (n - 1) (fun j => if j = i then f (n - 1) else f j) (fun j hj => by
          show (if j = i then f (n - 1) else f j) < m
          by_cases hji : j = i
          · rw [if_pos hji]
            have a := h1 (n - 1) (by omega)
            rcases Nat.lt_or_ge (f (n - 1)) m with b | b
            · exact b
            · have c : f (n - 1) = f i := by omega
              have := h2 (n - 1) i (by omega) hi c
              omega
          · rw [if_neg hji]
            have a := h1 j (by omega)
            rcases Nat.lt_or_ge (f j) m with b | b
            · exact b
            · exact absurd (h2 j i (by omega) hi (by omega)) hji) (fun j l hj hl he => by
          have he : (if j = i then f (n - 1) else f j) = (if l = i then f (n - 1) else f l) := he
          by_cases hji : j = i
          · by_cases hli : l = i
            · omega
            · rw [if_pos hji, if_neg hli] at he
              have := h2 (n - 1) l (by omega) (by omega) he
              omega
          · by_cases hli : l = i
            · rw [if_neg hji, if_pos hli] at he
              have := h2 j (n - 1) (by omega) (by omega) he
              omega
            · rw [if_neg hji, if_neg hli] at he
              exact h2 j l (by omega) (by omega) he)
        omega
      · have h3 := ih n f (fun i hi => by
          have a := h1 i hi
          rcases Nat.lt_or_ge (f i) m with b | b
          · exact b
          · exact absurd ⟨i, hi, by omega⟩ hx) h2
        omega
def wL (E : Nat → Nat → Nat → Prop) (av : Nat → Prop) (g H : Nat) : Nat → Nat → Nat → Prop
  | 0, s, _ => s = g
  | r + 1, s, k => wL E av g H r s k ∨ ∃ t k', t < 8 ∧ E (H - (r + 1)) s t ∧ ¬ av t ∧ k = k' + 1 ∧ wL E av g H r t k'
def wF (E : Nat → Nat → Nat → Prop) (av : Nat → Prop) (f : Nat) : Nat → Nat → Prop
  | 0, t => t = f
  | d + 1, t => wF E av f d t ∨ (t < 8 ∧ ¬ av t ∧ ∃ s, s < 8 ∧ wF E av f d s ∧ E d s t)
def wR (E : Nat → Nat → Nat → Prop) (al : Nat → Prop) (g H : Nat) : Nat → Nat → Nat → Prop
  | 0, s, _ => s = g
  | r + 1, s, k => wR E al g H r s k ∨ (s < 8 ∧ al s ∧ ∃ t k', t < 8 ∧ E (H - (r + 1)) s t ∧ k = k' + 1 ∧ wR E al g H r t k')
section WAYS
variable {E : Nat → Nat → Nat → Prop} {av al : Nat → Prop} {g f H : Nat}
theorem wL_k : ∀ (r s k k' : Nat), wL E av g H r s k → k ≤ k' → wL E av g H r s k' := by
  intro r
  induction r with
  | zero => intro s k k' h _; exact h
  | succ r ih =>
    intro s k k' h hk
    rcases h with h | ⟨t, k1, h1, h2, h3, h4, h5⟩
    · exact Or.inl (ih s k k' h hk)
    · exact Or.inr ⟨t, k' - 1, h1, h2, h3, by omega, ih t k1 (k' - 1) h5 (by omega)⟩
theorem wL_r {r r' s k : Nat} (h : wL E av g H r s k) (hr : r ≤ r') : wL E av g H r' s k := by
  induction r' with
  | zero => have : r = 0 := by omega
            subst this; exact h
  | succ r' ih =>
    rcases Nat.lt_or_ge r (r' + 1) with q | q
    · exact Or.inl (ih (by omega))
    · have : r = r' + 1 := by omega
      subst this; exact h
theorem wL_fw : ∀ (r d s k : Nat), d + r = H → s < 8 → wF E av f d s → wL E av g H r s k → wF E av f H g := by
  intro r
  induction r with
  | zero =>
    intro d s k hd _ h1 h2
    have h3 : s = g := h2
    rw [← h3, ← hd]
    exact h1
  | succ r ih =>
    intro d s k hd hs h1 h2
    rcases h2 with h2 | ⟨t, k1, a1, a2, a3, a4, a5⟩
    · exact ih (d + 1) s k (by omega) hs (Or.inl h1) h2
    · rw [show H - (r + 1) = d by omega] at a2
      exact ih (d + 1) t k1 (by omega) a1 (Or.inr ⟨a1, a3, s, hs, h1, a2⟩) a5
theorem wL_bw (hg : g < 8) (h : wF E av f H g) : ∀ r, r ≤ H → ∃ s k, s < 8 ∧ wF E av f (H - r) s ∧ wL E av g H r s k := by
  intro r
  induction r with
  | zero => intro _; exact ⟨g, 0, hg, h, rfl⟩
  | succ r ih =>
    intro hr
    obtain ⟨s, k, h1, h2, h3⟩ := ih (by omega)
    rw [show H - r = (H - (r + 1)) + 1 by omega] at h2
    rcases h2 with h2 | ⟨a1, a2, s', a3, a4, a5⟩
    · exact ⟨s, k, h1, h2, Or.inl h3⟩
    · exact ⟨s', k + 1, a3, a4, Or.inr ⟨s, k, h1, a5, a2, rfl, h3⟩⟩
theorem wF_iff (hg : g < 8) (hf : f < 8) : wF E av f H g ↔ ∃ k, wL E av g H H f k := by
  constructor
  · intro h
    obtain ⟨s, k, h1, h2, h3⟩ := wL_bw hg h H (Nat.le_refl _)
    rw [Nat.sub_self] at h2
    have : s = f := h2
    subst this
    exact ⟨k, h3⟩
  · rintro ⟨k, h⟩
    exact wL_fw H 0 f k (by omega) hf rfl h
theorem wF_up {d d' t : Nat} (h : wF E av f d t) (hd : d ≤ d') : wF E av f d' t := by
  induction d' with
  | zero => have : d = 0 := by omega
            subst this; exact h
  | succ d' ih =>
    rcases Nat.lt_or_ge d (d' + 1) with q | q
    · exact Or.inl (ih (by omega))
    · have : d = d' + 1 := by omega
      subst this; exact h
def mnL (E : Nat → Nat → Nat → Prop) (av : Nat → Prop) (g H r s k : Nat) : Prop := wL E av g H r s k ∧ ∀ k', wL E av g H r s k' → k ≤ k'
theorem mnL_path : ∀ (r s k : Nat), s < 8 → mnL E av g H r s k → ∃ (x ρ : Nat → Nat), (∀ j, j ≤ k → x j < 8 ∧ mnL E av g H (ρ j) (x j) j ∧ ρ j ≤ r) ∧ ∀ i j, i < j → j ≤ k → ρ i ≤ ρ j := by
  intro r
  induction r with
  | zero =>
    intro s k hs h
    have h0 : k = 0 := by
      have := h.2 0 h.1
      omega
    subst h0
    refine ⟨fun _ => s, fun _ => 0, fun j hj => ⟨hs, ?_, Nat.le_refl _⟩, fun i j h1 h2 => by omega⟩
    have h9 : j = 0 := by omega
    subst h9
    exact h
  | succ r ih =>
    intro s k hs h
    rcases h.1 with h1 | ⟨t, k1, a1, a2, a3, a4, a5⟩
    · obtain ⟨x, ρ, b1, b2⟩ := ih s k hs ⟨h1, fun k' hk => h.2 k' (Or.inl hk)⟩
      exact ⟨x, ρ, fun j hj => ⟨(b1 j hj).1, (b1 j hj).2.1, Nat.le_succ_of_le (b1 j hj).2.2⟩, b2⟩
    · subst a4
      obtain ⟨x, ρ, b1, b2⟩ := ih t k1 a1 ⟨a5, fun k' hk => by
        have := h.2 (k' + 1) (Or.inr ⟨t, k', a1, a2, a3, rfl, hk⟩)
        omega⟩
      refine ⟨fun j => if j = k1 + 1 then s else x j, fun j => if j = k1 + 1 then r + 1 else ρ j, fun j hj => ?_, fun i j hi hj => ?_⟩
      · show (if j = k1 + 1 then s else x j) < 8 ∧ mnL E av g H (if j = k1 + 1 then r + 1 else ρ j) (if j = k1 + 1 then s else x j) j ∧ (if j = k1 + 1 then r + 1 else ρ j) ≤ r + 1
        by_cases q : j = k1 + 1
        · rw [if_pos q, if_pos q, q]
          exact ⟨hs, h, Nat.le_refl _⟩
        · rw [if_neg q, if_neg q]
          have := b1 j (by omega)
          exact ⟨this.1, this.2.1, Nat.le_succ_of_le this.2.2⟩
      · show (if i = k1 + 1 then r + 1 else ρ i) ≤ (if j = k1 + 1 then r + 1 else ρ j)
        rw [if_neg (by omega)]
        by_cases q : j = k1 + 1
        · rw [if_pos q]
          exact Nat.le_succ_of_le (b1 i (by omega)).2.2
        · rw [if_neg q]
          exact b2 i j hi (by omega)
/-- a shortest way has at most seven links -/
theorem mnL_7 {r s k : Nat} (hs : s < 8) (h : mnL E av g H r s k) : k ≤ 7 := by
  obtain ⟨x, ρ, h1, h2⟩ := mnL_path r s k hs h
  have key : ∀ i j, i < j → j ≤ k → x i ≠ x j := by
    intro i j hi hj he
    have a := (h1 i (by omega)).2.1.1
    have b := (h1 j hj).2.1.2 i (by rw [← he]; exact wL_r a (h2 i j hi hj))
    omega
  have := php 8 (k + 1) x (fun i hi => (h1 i (by omega)).1) (fun i j hi hj he => by
    rcases Nat.lt_trichotomy i j with q | q | q
    · exact absurd he (key i j q (by omega))
    · exact q
    · exact absurd he.symm (key j i q (by omega)))
  omega
theorem least_of {P : Nat → Prop} (h : ∃ k, P k) : ∃ k, P k ∧ ∀ k', P k' → k ≤ k' := by
  obtain ⟨k, h1, h2⟩ := pk_least P h
  exact ⟨k, h1, fun k' hk => by
    rcases Nat.lt_or_ge k' k with q | q
    · exact absurd hk (h2 k' q)
    · exact q⟩
theorem wR_al : ∀ (r s k : Nat), wR E al g H r s k → s = g ∨ al s := by
  intro r
  induction r with
  | zero => intro s k h; exact Or.inl h
  | succ r ih =>
    intro s k h
    rcases h with h | ⟨_, h, _⟩
    · exact ih s k h
    · exact Or.inr h
theorem wLR (ha : ∀ s, ¬ av s → al s) (hg : ¬ av g) : ∀ (r s k : Nat), s < 8 → al s → wL E av g H r s k → wR E al g H r s k := by
  intro r
  induction r with
  | zero => intro s k _ _ h; exact h
  | succ r ih =>
    intro s k hs hal h
    rcases h with h | ⟨t, k1, a1, a2, a3, a4, a5⟩
    · exact Or.inl (ih s k hs hal h)
    · exact Or.inr ⟨hs, hal, t, k1, a1, a2, a4, ih t k1 a1 (ha t a3) a5⟩
theorem wRL (ha : ∀ s, al s → av s → s = f) (hg : ¬ av g) : ∀ (r s k : Nat), wR E al g H r s k → wL E av g H r s k ∨ ∃ r' k', r' < r ∧ k' < k ∧ wL E av g H r' f k' := by
  intro r
  induction r with
  | zero => intro s k h; exact Or.inl h
  | succ r ih =>
    intro s k h
    rcases h with h | ⟨_, _, t, k1, a1, a2, a4, a5⟩
    · rcases ih s k h with q | ⟨r', k', b1, b2, b3⟩
      · exact Or.inl (Or.inl q)
      · exact Or.inr ⟨r', k', by omega, b2, b3⟩
    · rcases ih t k1 a5 with q | ⟨r', k', b1, b2, b3⟩
      · by_cases hv : av t
        · rcases wR_al r t k1 a5 with e | e
          · subst e; exact absurd hv hg
          · have e2 := ha t e hv
            subst e2
            exact Or.inr ⟨r, k1, by omega, by omega, q⟩
        · exact Or.inl (Or.inr ⟨t, k1, a1, a2, hv, a4, q⟩)
      · exact Or.inr ⟨r', k', by omega, by omega, b3⟩
/-- the class's search by sets gives the fewest links, and the same first stations -/
theorem ways_eq (ha1 : ∀ s, ¬ av s → al s) (ha2 : ∀ s, al s → av s → s = f) (hf : al f) (hg : ¬ av g) (hf8 : f < 8) {m R : Nat} (hH : H = R + 1) (hm : mnL E av g H H f m) :
    (∀ k, k < m → ¬ wR E al g H R f k ∧ ∀ t, t < 8 → E 0 f t → ¬ av t → 0 < k → ¬ wR E al g H R t (k - 1)) ∧
    (∀ t, t < 8 → E 0 f t → ¬ av t → 0 < m → (wR E al g H R t (m - 1) ↔ mnL E av g H R t (m - 1))) ∧
    ((∃ t, t < 8 ∧ E 0 f t ∧ ¬ av t ∧ 0 < m ∧ wR E al g H R t (m - 1)) ∨ wR E al g H R f m) := by
  subst hH
  have up : ∀ r' k', r' ≤ R + 1 → wL E av g (R + 1) r' f k' → m ≤ k' := fun r' k' h1 h2 => hm.2 k' (wL_r h2 h1)
  have link : ∀ t k, t < 8 → E 0 f t → ¬ av t → wL E av g (R + 1) R t k → m ≤ k + 1 := fun t k h1 h2 h3 h4 => hm.2 (k + 1) (Or.inr ⟨t, k, h1, by rw [Nat.sub_self]; exact h2, h3, rfl, h4⟩)
  have rl : ∀ t k, t < 8 → E 0 f t → ¬ av t → wR E al g (R + 1) R t k → k < m → wL E av g (R + 1) R t k := fun t k h1 h2 h3 h4 hk => by
    rcases wRL ha2 hg R t k h4 with q | ⟨r', k', b1, b2, b3⟩
    · exact q
    · have := up r' k' (by omega) b3
      omega
  refine ⟨fun k hk => ⟨fun h => ?_, fun t h1 h2 h3 h0 h4 => ?_⟩, fun t h1 h2 h3 h0 => ⟨fun h4 => ?_, fun h4 => ?_⟩, ?_⟩
  · rcases wRL ha2 hg R f k h with q | ⟨r', k', b1, b2, b3⟩
    · have := up R k (by omega) q
      omega
    · have := up r' k' (by omega) b3
      omega
  · have := link t (k - 1) h1 h2 h3 (rl t (k - 1) h1 h2 h3 h4 (by omega))
    omega
  · have h5 := rl t (m - 1) h1 h2 h3 h4 (by omega)
    exact ⟨h5, fun k' hk => by have := link t k' h1 h2 h3 hk; omega⟩
  · exact wLR ha1 hg R t (m - 1) h1 (ha1 t h3) h4.1
  · rcases hm.1 with h | ⟨t, k', a1, a2, a3, a4, a5⟩
    · exact Or.inr (wLR ha1 hg R f m hf8 hf h)
    · rw [Nat.sub_self] at a2
      subst a4
      exact Or.inl ⟨t, a1, a2, a3, by omega, wLR ha1 hg R t k' a1 (ha1 t a3) a5⟩
end WAYS
