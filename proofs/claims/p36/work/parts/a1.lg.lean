/-! the log, counted by hours -/
section A1
variable {N : Nat} {st s1 s2 : Nat → Int32}
def cn (p : Nat → Bool) : Nat → Nat
  | 0 => 0
  | n + 1 => cn p n + (if p n = true then 1 else 0)
theorem cn_c {p q : Nat → Bool} : ∀ n, (∀ j, j < n → p j = q j) → cn p n = cn q n
  | 0, _ => rfl
  | n + 1, h => by
    show cn p n + _ = cn q n + _
    rw [cn_c n (fun j hj => h j (by omega)), h n (by omega)]
theorem cn_s {p : Nat → Bool} : ∀ n, cn p (n + 1) = (if p 0 = true then 1 else 0) + cn (fun j => p (j + 1)) n
  | 0 => by
    show 0 + (if p 0 = true then 1 else 0) = (if p 0 = true then 1 else 0) + 0
    rw [Nat.zero_add, Nat.add_zero]
  | n + 1 => by
    show cn p (n + 1) + (if p (n + 1) = true then 1 else 0) = (if p 0 = true then 1 else 0) + (cn (fun j => p (j + 1)) n + (if p (n + 1) = true then 1 else 0))
    rw [cn_s n, Nat.add_assoc]
theorem cn_0 {p : Nat → Bool} : ∀ n, (∀ j, j < n → p j = false) → cn p n = 0
  | 0, _ => rfl
  | n + 1, h => by
    show cn p n + _ = 0
    rw [cn_0 n (fun j hj => h j (by omega)), if_neg (by rw [h n (by omega)]; decide)]
def fkd (kd : Nat) : Bool := decide (1 ≤ kd ∧ kd ≤ 3)
def dkd (kd : Nat) : Bool := decide (kd = 5)
/-- the log: its hours rise up to tt; of the hour tt it tells f frames and d deliveries, or its first event is of that hour already -/
def LG (lo tt f d : Nat) (st : Nat → Int32) : Prop := ∃ (e : Nat) (T K : Nat → Nat), st 7 = nI e ∧ (lo ≤ e ∧ e ≤ 40) ∧ (∀ j, j < e → qE st j 0 = nI (T j) ∧ T j ≤ tt ∧ qE st j 1 = nI (K j) ∧ K j < 9 ∧ ((K j = 0 ∨ 6 < K j) ↔ qE st j 4 = -1)) ∧ (∀ j, j + 1 < e → T j ≤ T (j + 1)) ∧
  ((e = 40 ∧ T 0 = tt) ∨ (cn (fun j => decide (T j = tt) && fkd (K j)) e = f ∧ cn (fun j => decide (T j = tt) && dkd (K j)) e = d))
theorem LG_N {lo tt f d : Nat} (h : evN st s1) (g : LG lo tt f d st) : LG lo tt f d s1 := by
  obtain ⟨e, T, K, g1, g2, g3, g4, g5⟩ := g
  refine ⟨e, T, K, h.1.trans g1, g2, fun j hj => ?_, g4, g5⟩
  rw [h.2 j 0 (by omega) (by decide), h.2 j 1 (by omega) (by decide), h.2 j 4 (by omega) (by decide)]
  exact g3 j hj
theorem le_of_s {T : Nat → Nat} {e : Nat} (h : ∀ j, j + 1 < e → T j ≤ T (j + 1)) : ∀ j, j < e → T 0 ≤ T j
  | 0, _ => Nat.le_refl _
  | j + 1, hj => Nat.le_trans (le_of_s h j (by omega)) (h j hj)
theorem LG_A {lo tt f d kd : Nat} {o : Int32} (z3 : st 3 = nI tt) (hk : kd < 9) (ho : (kd = 0 ∨ 6 < kd) ↔ o = -1) (h : evA kd o st s1) (g : LG lo tt f d st) : LG lo tt (f + (if fkd kd = true then 1 else 0)) (d + (if dkd kd = true then 1 else 0)) s1 := by
  obtain ⟨e, T, K, g1, g2, g3, g4, g5⟩ := g
  obtain ⟨e', e0, a1, a2, a3, a4, a5, a6, a7, a8⟩ := h
  have ee : e' = e := (nI_eq (by omega) (by omega)).mp (a1.symm.trans g1)
  subst ee
  rcases a5 with ⟨b1, b2, b3⟩ | ⟨b1, b2, b3⟩
  · subst b1
    subst b2
    refine ⟨40, fun j => if j = 39 then tt else T (j + 1), fun j => if j = 39 then kd else K (j + 1), a4, by omega, fun j hj => ?_, fun j hj => ?_, ?_⟩
    · by_cases c : j = 39
      · subst c
        simp only [if_pos]
        rw [a6, a7, a8, z3]
        exact ⟨rfl, Nat.le_refl _, rfl, hk, ho⟩
      · simp only [if_neg c]
        rw [b3 j 0 (by omega) (by decide), b3 j 1 (by omega) (by decide), b3 j 4 (by omega) (by decide)]
        exact g3 (j + 1) (by omega)
    · by_cases c : j + 1 = 39
      · simp only [if_pos c, if_neg (show ¬ j = 39 by omega)]
        exact (g3 (j + 1) (by omega)).2.1
      · simp only [if_neg c, if_neg (show ¬ j = 39 by omega)]
        exact g4 (j + 1) (by omega)
    · by_cases c : T 0 = tt
      · left
        refine ⟨rfl, ?_⟩
        simp only [if_neg (show ¬ (0 : Nat) = 39 by decide)]
        have h1 : T 0 ≤ T 1 := g4 0 (by decide)
        have h2 := (g3 1 (by decide)).2.1
        show T 1 = tt
        omega
      · right
        have g6 := g5.resolve_left (fun q => c q.2)
        have sh : ∀ (P : Nat → Bool), cn (fun j => decide ((if j = 39 then tt else T (j + 1)) = tt) && P (if j = 39 then kd else K (j + 1))) 40 = cn (fun j => decide (T j = tt) && P (K j)) 40 + (if P kd = true then 1 else 0) := fun P => by
          rw [cn_s (p := fun j => decide (T j = tt) && P (K j)) 39]
          show cn _ 39 + _ = _
          rw [cn_c (q := fun j => decide (T (j + 1) = tt) && P (K (j + 1))) 39 (fun j hj => by simp only [if_neg (show ¬ j = 39 by omega)])]
          simp only [decide_eq_false c, Bool.false_and, if_pos, decide_true, Bool.true_and]
          rw [if_neg (show ¬ (false = true) by decide)]
          omega
        rw [sh fkd, sh dkd, g6.1, g6.2]
        exact ⟨rfl, rfl⟩
  · subst b2
    refine ⟨e0 + 1, fun j => if j = e0 then tt else T j, fun j => if j = e0 then kd else K j, a4, by omega, fun j hj => ?_, fun j hj => ?_, ?_⟩
    · by_cases c : j = e0
      · subst c
        simp only [if_pos]
        rw [a6, a7, a8, z3]
        exact ⟨rfl, Nat.le_refl _, rfl, hk, ho⟩
      · simp only [if_neg c]
        rw [b3 j 0 (by omega) (by decide), b3 j 1 (by omega) (by decide), b3 j 4 (by omega) (by decide)]
        exact g3 j (by omega)
    · by_cases c : j + 1 = e0
      · simp only [if_pos c, if_neg (show ¬ j = e0 by omega)]
        exact (g3 j (by omega)).2.1
      · simp only [if_neg c, if_neg (show ¬ j = e0 by omega)]
        exact g4 j (by omega)
    · right
      have g6 := g5.resolve_left (fun q => by omega)
      have sh : ∀ (P : Nat → Bool), cn (fun j => decide ((if j = e0 then tt else T j) = tt) && P (if j = e0 then kd else K j)) (e0 + 1) = cn (fun j => decide (T j = tt) && P (K j)) e0 + (if P kd = true then 1 else 0) := fun P => by
        show cn _ e0 + _ = _
        rw [cn_c (q := fun j => decide (T j = tt) && P (K j)) e0 (fun j hj => by simp only [if_neg (show ¬ j = e0 by omega)])]
        simp only [if_pos, decide_true, Bool.true_and]
      rw [sh fkd, sh dkd, g6.1, g6.2]
      exact ⟨rfl, rfl⟩
/-- the next hour -/
theorem LG_T {lo tt f d : Nat} (h : evN st s1) (g : LG lo tt f d st) : LG lo (tt + 1) 0 0 s1 := by
  obtain ⟨e, T, K, g1, g2, g3, g4, -⟩ := LG_N h g
  refine ⟨e, T, K, g1, g2, fun j hj => ?_, g4, Or.inr ⟨cn_0 e fun j hj => ?_, cn_0 e fun j hj => ?_⟩⟩
  · obtain ⟨a1, a2, a3⟩ := g3 j hj
    exact ⟨a1, by omega, a3⟩
  · have := (g3 j hj).2.1
    rw [decide_eq_false (show ¬ T j = tt + 1 by omega), Bool.false_and]
  · have := (g3 j hj).2.1
    rw [decide_eq_false (show ¬ T j = tt + 1 by omega), Bool.false_and]
theorem LG_lo {lo l0 tt f d : Nat} (h7 : st 7 = nI lo) (hl : lo ≤ 40) (g : LG l0 tt f d st) : LG lo tt f d st := by
  obtain ⟨e, T, K, g1, g2, g3⟩ := g
  have : e = lo := (nI_eq (by omega) (by omega)).mp (g1.symm.trans h7)
  exact ⟨e, T, K, g1, by omega, g3⟩
theorem LG_w {lo tt f d : Nat} (g : LG lo tt f d st) : LG 0 tt f d st := by
  obtain ⟨e, T, K, g1, g2, g3⟩ := g
  exact ⟨e, T, K, g1, by omega, g3⟩
def onn (n i q : Nat) : Nat → Nat → Nat := fun i' q' => if i' = i ∧ q' = q then n else 0
theorem onn_1 (i q i' q' : Nat) : one i q i' q' = onn 1 i q i' q' := rfl
theorem onn_0 (i q i' q' : Nat) : onn 0 i q i' q' = 0 := by unfold onn; split <;> rfl
end A1
