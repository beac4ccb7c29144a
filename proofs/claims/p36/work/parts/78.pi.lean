/-! the first station of a best way: the model's loop -/
section PI
variable {N : Nat} {st isA : Nat → Int32} {a b τ g : Nat}
def q_fs (st isA A K : Nat → Int32) (b τ f t : Nat) : Bool := decide (¬ t = f ∧ isA t = 0 ∧ ¬ q_lk st b (nI f) (nI t) = -1 ∧ q_op st (q_lk st b (nI f) (nI t)).toNatClampNeg (τ % 24) = true ∧ A (8 + t) = A f ∧ K (8 + t) + 1 = K f)
theorem q_fs_t {A K : Nat → Int32} {f t : Nat} (gL : gd_L a b st) (gU : gd_U b st) (hb : b ≤ 16) (ha : a ≤ 8) (ht : t < 8) (hf : f < 8) : q_fs st isA A K b τ f t = true ↔ (Eh b st τ 0 f t ∧ ¬ Av isA t ∧ A (8 + t) = A f ∧ K (8 + t) + 1 = K f) := by
  unfold q_fs
  rw [decide_eq_true_eq]
  show _ ↔ (q_hr b st ((τ + 0) % 24) f t ∧ ¬ isA t ≠ 0 ∧ _ ∧ _)
  rw [Nat.add_zero]
  constructor
  · rintro ⟨-, h2, h3, h4, h5, h6⟩
    refine ⟨?_, fun q => q h2, h5, h6⟩
    rcases q_lk_s (b := b) (st := st) (x := nI f) (y := nI t) with ⟨h, -⟩ | ⟨i, i1, i2, i3⟩
    · exact absurd h h3
    · rw [i3, nI_clamp (by omega)] at h4
      exact ⟨i, i1, h4, i2⟩
  · rintro ⟨⟨l, l1, l2, l3⟩, h2, h5, h6⟩
    have hne : ¬ t = f := by
      intro e
      subst e
      have := ((gL l (by omega)).1 l1).2.2.1
      rcases l3 with ⟨c1, c2⟩ | ⟨c1, c2⟩ <;> exact this (c1.trans c2.symm)
    rcases q_lk_s (b := b) (st := st) (x := nI f) (y := nI t) with ⟨-, h⟩ | ⟨i, i1, i2, i3⟩
    · exact absurd l3 (h l l1)
    · have e : i = l := gU i l i1 l1 (by
        rcases i2 with ⟨c1, c2⟩ | ⟨c1, c2⟩ <;> rcases l3 with ⟨d1, d2⟩ | ⟨d1, d2⟩
        · exact Or.inl ⟨c1.trans d1.symm, c2.trans d2.symm⟩
        · exact Or.inr ⟨c1.trans d2.symm, c2.trans d1.symm⟩
        · exact Or.inr ⟨c1.trans d2.symm, c2.trans d1.symm⟩
        · exact Or.inl ⟨c1.trans d1.symm, c2.trans d2.symm⟩)
      subst e
      refine ⟨hne, Decidable.not_not.mp h2, ?_, ?_, h5, h6⟩
      · rw [i3]
        intro q
        have := nI_pos (n := i) (by omega)
        rw [q] at this
        exact this (by decide)
      · rw [i3, nI_clamp (by omega)]
        exact l2
theorem fs7 {A K : Nat → Int32} {f : Nat} (hN : 6000 ≤ N) (gS : gd_S a st) (gL : gd_L a b st) (h0 : st 0 = nI a) (h1 : st 1 = nI b) (ha : a ≤ 8) (hb : b ≤ 16) (hτ : τ < 1000000) (hf : f < 8) (hA : ¬ A f = 1000000000) : fX7_firstStep N st A K isA (nI f) (nI τ) = some (fnd (q_fs st isA A K b τ f) 0 a) := by
  unfold fX7_firstStep
  rw [rn_gI (by omega) (by decide), nI_clamp (by omega), if_neg hA]
  refine fnd_loop (lX7_firstStep_15 N st A K isA (nI f) (nI τ)) (q_fs st isA A K b τ f) a (fun n => ?_) (fun n t ht => ?_) N 0 (by omega) (by omega)
  · rw [lX7_firstStep_15, g0, cl0, h0, if_pos (nI_le (Nat.le_refl _) (by omega))]
  · have ct : (nI t).toNatClampNeg = t := nI_clamp (by omega)
    have cf : (nI f).toNatClampNeg = f := nI_clamp (by omega)
    have e8 : (8 : Int32) + nI t = nI (8 + t) := by rw [show (8 : Int32) = nI 8 from rfl, nI_add]
    have c8 : (nI (8 + t)).toNatClampNeg = 8 + t := nI_clamp (by omega)
    have gt : ∀ {α : Type} {o : Option α}, rn_g (nI t) 8 o = o := rn_gI (by omega) (by decide)
    have gf : ∀ {α : Type} {o : Option α}, rn_g (nI f) 200 o = o := rn_gI (by omega) (by decide)
    have g8 : ∀ {α : Type} {o : Option α}, rn_g (nI (8 + t)) 200 o = o := rn_gI (by omega) (by decide)
    rw [lX7_firstStep_15, g0, cl0, h0, if_neg (nI_ge ht (by omega)), nI_1]
    unfold q_fs
    by_cases c1 : t = f
    · rw [if_pos (by rw [c1]), rn_bs, if_pos rfl, rn_bs, if_pos rfl, if_neg (by simp [c1])]
    · rw [if_neg (fun q => c1 ((nI_eq (by omega) (by omega)).mp q)), gt, ct]
      by_cases c2 : isA t = 0
      · rw [if_pos c2, lk7 hN h1 hb, rn_bs, rn_bs]
        by_cases c3 : q_lk st b (nI f) (nI t) = -1
        · rw [if_pos c3, rn_bs, if_pos rfl, if_neg (by simp [c3])]
        · rw [if_neg c3]
          rcases q_lk_s (b := b) (st := st) (x := nI f) (y := nI t) with ⟨h, -⟩ | ⟨i, i1, i2, i3⟩
          · exact absurd h c3
          · rw [i3, op7 gS gL i1 ha hb (by omega), rn_bs, nI_clamp (by omega)]
            have c3' : ¬ nI i = -1 := by rw [← i3]; exact c3
            cases c4 : q_op st i (τ % 24) with
            | false => rw [if_pos (show b2 false = 0 from rfl), rn_bs, if_pos rfl, if_neg (by simp [show (nI i).toNatClampNeg = i from nI_clamp (by omega), c4])]
            | true =>
              rw [if_neg (show ¬ b2 true = 0 from by decide)]
              simp only [e8, g8, gf, c8, cf]
              by_cases c5 : A (8 + t) = A f
              · rw [if_pos c5]
                by_cases c6 : K (8 + t) + 1 = K f
                · rw [if_pos c6, rn_bs, if_neg (by decide), if_pos (by simp [c1, c2, c3', c5, c6, show (nI i).toNatClampNeg = i from nI_clamp (by omega), c4])]
                · rw [if_neg c6, rn_bs, if_pos rfl, if_neg (by simp [c6])]
              · rw [if_neg c5, rn_bs, if_pos rfl, if_neg (by simp [c5])]
      · rw [if_neg c2, rn_bs, if_pos rfl, rn_bs, if_pos rfl, if_neg (by simp [c2])]
/-- the model's first step is the class's -/
theorem fs_eq {A K : Nat → Int32} {f H m : Nat} {nx : Int32} (gL : gd_L a b st) (gU : gd_U b st) (ha : a ≤ 8) (hb : b ≤ 16) (hf : f < 8) (m0 : 0 < m)
    (hw : ∀ t, t < 8 → Eh b st τ 0 f t → ¬ Av isA t → 0 < m → ((A (8 + t) = A f ∧ K (8 + t) + 1 = K f) ↔ mnL (Eh b st τ) (Av isA) g (H + 1) H t (m - 1))) (hp : fdP (Eh b st τ) (Av isA) f g H m nx) : fnd (q_fs st isA A K b τ f) 0 a = nx := by
  have key : ∀ t, t < 8 → (q_fs st isA A K b τ f t = true ↔ Eh b st τ 0 f t ∧ ¬ Av isA t ∧ mnL (Eh b st τ) (Av isA) g (H + 1) H t (m - 1)) := fun t ht => by
    rw [q_fs_t gL gU hb ha ht hf]
    constructor
    · rintro ⟨c1, c2, c3⟩
      exact ⟨c1, c2, (hw t ht c1 c2 m0).mp c3⟩
    · rintro ⟨c1, c2, c3⟩
      exact ⟨c1, c2, (hw t ht c1 c2 m0).mpr c3⟩
  have lta : ∀ t, t < 8 → Eh b st τ 0 f t → t < a := fun t ht ⟨l, l1, _, l3⟩ => by
    have g1 := (gL l (by omega)).1 l1
    obtain ⟨⟨x, hx, ex⟩, ⟨y, hy, ey⟩, -⟩ := g1
    rcases l3 with ⟨_, c⟩ | ⟨c, _⟩
    · rw [ey] at c
      have := (nI_eq (by omega) (by omega)).mp c
      omega
    · rw [ex] at c
      have := (nI_eq (by omega) (by omega)).mp c
      omega
  rcases fnd_spec (q_fs st isA A K b τ f) a 0 with ⟨h1, h2⟩ | ⟨i, i1, i2, i3, i4, i5⟩
  · rw [h1]
    rcases hp with ⟨t, t1, t2, t3, t4, t5, -⟩ | ⟨h, -⟩
    · have := h2 t (Nat.zero_le _) (by have := lta t t1 t3; omega)
      rw [(key t t1).mpr ⟨t3, t4, t5⟩] at this
      exact absurd this (by decide)
    · exact h.symm
  · rw [i4]
    have ki := (key i (by omega)).mp i3
    rcases hp with ⟨t, t1, t2, t3, t4, t5, t6⟩ | ⟨-, h⟩
    · rw [t2]
      congr 1
      rcases Nat.lt_trichotomy i t with q | q | q
      · exact absurd ki (t6 i q)
      · exact q
      · have := i5 t (Nat.zero_le _) q
        rw [(key t t1).mpr ⟨t3, t4, t5⟩] at this
        exact absurd this (by decide)
    · exact absurd ki (h i (by omega))
theorem E_sym (d s t : Nat) (h : Eh b st τ d s t) : Eh b st τ d t s := by
  obtain ⟨l, h1, h2, h3⟩ := h
  exact ⟨l, h1, h2, h3.symm⟩
theorem bs_H {heard : Nat → Int64} (eH : ev_H b heard st) (d : Nat) : bs8 (heard ((τ + d) % 24)) (Eh b st τ d) := fun k j hk hj => by
  exact eH ((τ + d) % 24) k j (Nat.mod_lt _ (by decide)) hk hj
/-- the class's search beside the model's rows: the answers -/
theorem srch {heard : Nat → Int64} {A K : Nat → Int32} {f : Nat} {i4 ar fe nx : Int32} (hN : 6000 ≤ N) (gS : gd_S a st) (gL : gd_L a b st) (gU : gd_U b st) (eH : ev_H b heard st) (h0 : st 0 = nI a) (h1 : st 1 = nI b) (ha : a ≤ 8) (hb : b ≤ 16) (hτ : τ < 1000000) (hf : f < 8) (hg : g < 8) (hfg : f ≠ g) (hv : is8 i4 (Av isA)) :
    ∃ A' K', fX7_layWays N st A K isA (nI g) (nI τ) = some (A', K') ∧
      ((fX5_find N ar fe nx heard (nI f) (nI g) (nI τ) i4 = some (0, ar, fe, nx) ∧ A' f = 1000000000 ∧ fX7_firstStep N st A' K' isA (nI f) (nI τ) = some (-1)) ∨
       ∃ v w x, fX5_find N ar fe nx heard (nI f) (nI g) (nI τ) i4 = some (1, v, w, x) ∧ ¬ A' f = 1000000000 ∧ A' f = v ∧ K' f = w ∧ fX7_firstStep N st A' K' isA (nI f) (nI τ) = some x ∧ (x = -1 ∨ ∃ t, t < a ∧ x = nI t ∧ Eh b st τ 0 f t ∧ ¬ Av isA t)) := by
  obtain ⟨A', K', e1, e2⟩ := lay7 (isA := isA) (A := A) (K := K) hN gS gL h1 ha hb hτ hg
  refine ⟨A', K', e1, ?_⟩
  have w := way_eq e2 hf hg hfg hτ
  rcases fd2 (ar := ar) (fe := fe) (nx := nx) hN (fun d _ => bs_H (τ := τ) eH d) E_sym hv hf hg hfg hτ with ⟨f1, f2⟩ | ⟨H, m, nx', hH, f1, f2, f3, m0, m7, f4, f5⟩
  · left
    have hA := w.1 f2
    refine ⟨f1, hA, ?_⟩
    unfold fX7_firstStep
    rw [rn_gI (by omega) (by decide), nI_clamp (by omega), if_pos hA]
  · right
    obtain ⟨w1, w2, w3, w4⟩ := w.2 H m hH f2 f3 f4
    have hne : ¬ A' f = 1000000000 := by
      rw [w1, far_nI]
      intro q
      have := (nI_eq (by omega) (by omega)).mp q
      omega
    refine ⟨_, _, _, f1, hne, w1, w2, ?_, ?_⟩
    · rw [fs7 hN gS gL h0 h1 ha hb hτ hf hne, fs_eq gL gU ha hb hf m0 w4 f5]
    · rcases f5 with ⟨t, t1, t2, t3, t4, -⟩ | ⟨q, -⟩
      · refine Or.inr ⟨t, ?_, t2, t3, t4⟩
        obtain ⟨l, l1, _, l3⟩ := t3
        obtain ⟨⟨x, hx, ex⟩, ⟨y, hy, ey⟩, -⟩ := (gL l (by omega)).1 l1
        rcases l3 with ⟨_, c⟩ | ⟨c, _⟩
        · rw [ey] at c
          have := (nI_eq (by omega) (by omega)).mp c
          omega
        · rw [ex] at c
          have := (nI_eq (by omega) (by omega)).mp c
          omega
      · exact Or.inl q
end PI
