/-! words of a text, on both sides -/
def wn (B : Nat → Nat) (s : Nat) : Nat → Nat
  | 0 => 0
  | k + 1 => 27 * wn B s k + (B (s + k) - 96)
section QO
variable {N n : Nat} {B : Nat → Nat} {text mt : Nat → Int32}
theorem kk_1 {v : Nat} (h : kk v = 1) : 97 ≤ v ∧ v ≤ 122 := by
  unfold kk at h
  split at h
  · assumption
  · split at h
    · omega
    · split at h <;> omega
theorem wn_lt {s : Nat} : ∀ k, (∀ i, i < k → 97 ≤ B (s + i) ∧ B (s + i) ≤ 122) → wn B s k < 27 ^ k := by
  intro k
  induction k with
  | zero => intro _; exact Nat.one_pos
  | succ k ih =>
    intro h
    have h1 := ih (fun i hi => h i (by omega))
    have h2 := h k (by omega)
    show 27 * wn B s k + (B (s + k) - 96) < 27 ^ k * 27
    omega
theorem wd_n {s : Nat} : ∀ k, k ≤ 11 → (∀ i, i < k → 97 ≤ B (s + i) ∧ B (s + i) ≤ 122) → wdn B s k = lN (wn B s k) := by
  intro k
  induction k with
  | zero => intro _ _; rfl
  | succ k ih =>
    intro hk h
    have h2 := h k (by omega)
    show (if k < 11 then ((27 : Int64) * wdn B s k + (nI (B (s + k))).toInt64) - 96 else wdn B s k) = lN (27 * wn B s k + (B (s + k) - 96))
    rw [if_pos (by omega), ih (by omega) (fun i hi => h i (by omega)), nI_l (by omega), show (27 : Int64) = lN 27 from rfl, lN_mul, lN_add, show (96 : Int64) = lN 96 from rfl, lN_sub (by omega)]
    exact congrArg lN (by omega)
theorem wn_inj {C : Nat → Nat} {s s' : Nat} : ∀ k, (∀ i, i < k → 97 ≤ B (s + i) ∧ B (s + i) ≤ 122) → (∀ i, i < k → 97 ≤ C (s' + i) ∧ C (s' + i) ≤ 122) → wn B s k = wn C s' k → ∀ i, i < k → B (s + i) = C (s' + i) := by
  intro k
  induction k with
  | zero => intro _ _ _ i hi; omega
  | succ k ih =>
    intro h1 h2 he i hi
    have he : 27 * wn B s k + (B (s + k) - 96) = 27 * wn C s' k + (C (s' + k) - 96) := he
    have a1 := h1 k (by omega)
    have a2 := h2 k (by omega)
    by_cases c : i = k
    · rw [c]
      omega
    · exact ih (fun i hi => h1 i (by omega)) (fun i hi => h2 i (by omega)) (by omega) i (by omega)
theorem wn_c {C : Nat → Nat} {s s' : Nat} : ∀ k, (∀ i, i < k → B (s + i) = C (s' + i)) → wn B s k = wn C s' k := by
  intro k
  induction k with
  | zero => intro _; rfl
  | succ k ih =>
    intro h
    show 27 * wn B s k + (B (s + k) - 96) = 27 * wn C s' k + (C (s' + k) - 96)
    rw [ih (fun i hi => h i (by omega)), h k (by omega)]
theorem lN_inj {a b : Nat} (ha : a < 2 ^ 62) (hb : b < 2 ^ 62) (h : lN a = lN b) : a = b := by
  have h1 : nT (lN a) = nT (lN b) := by rw [h]
  rw [nT_lN (by omega), nT_lN (by omega)] at h1
  exact h1
end QO
