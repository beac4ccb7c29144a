/-! numbers of a text, a token -/
/-- a number as the class holds it and as the model holds it -/
def nr (c m : Nat) : Prop := (m ≤ 10000000 ∧ c = m) ∨ (10000000 < m ∧ m ≤ 100000009 ∧ c = 10000000)
section QM
variable {N n : Nat} {B : Nat → Nat} {text mt : Nat → Int32}
theorem kk_2 {v : Nat} (h : kk v = 2) : 48 ≤ v ∧ v ≤ 57 := by
  unfold kk at h
  split at h
  · omega
  · split at h
    · assumption
    · split at h <;> omega
theorem kk_4 (v : Nat) : 1 ≤ kk v ∧ kk v ≤ 4 := by
  unfold kk
  split
  · omega
  · split
    · omega
    · split <;> omega
theorem rnm (h : tx n B text mt) : ∀ (f q c m : Nat), q ≤ n → n - q < f → nr c m → ∃ e c' m', q ≤ e ∧ e ≤ n ∧ (q < n → kk (B q) = 2 → q < e) ∧ nr c' m' ∧ lX3_nextToken_117 (nI n) text (2 : Int32) f (nI q) (nI c) = some (nI e, nI c') ∧ lX7_nextToken_187 (nI n) mt f (nI q) (nI m) = some (nI e, nI m') := by
  have h1 := h.1
  intro f
  induction f with
  | zero => intro q c m _ h; omega
  | succ f ih =>
    intro q c m hq hf hc
    rcases Nat.lt_or_ge q n with d | d
    · have hb := (h.2 q d).1
      by_cases c1 : kk (B q) = 2
      · have hd := kk_2 c1
        have hx : sx (B q) = nI (B q) := sx_id _ (by omega)
        obtain ⟨c2, m2, hn, e3, e7⟩ : ∃ c2 m2, nr c2 m2 ∧ rn_min (((nI c * (10 : Int32)) + nI (B q)) - (48 : Int32)) (10000000 : Int32) = nI c2 ∧ (if nI m ≤ (10000000 : Int32) then some ((((10 : Int32) * nI m) + nI (B q)) - (48 : Int32)) else some (nI m)) = some (nI m2) := by
          have e1 : ∀ x : Nat, x ≤ 100000009 → ((nI x * (10 : Int32)) + nI (B q)) - (48 : Int32) = nI (10 * x + (B q - 48)) := fun x hx => by
            rw [show (10 : Int32) = nI 10 from rfl, pk_mul, nI_add, show (48 : Int32) = nI 48 from rfl, show x * 10 + B q = (10 * x + (B q - 48)) + 48 by omega, ← nI_add]
            exact Int32.add_sub_cancel _ _
          have e2 : ((10 : Int32) * nI m + nI (B q)) - (48 : Int32) = nI (10 * m + (B q - 48)) := by
            rw [show (10 : Int32) = nI 10 from rfl, pk_mul, nI_add, show (48 : Int32) = nI 48 from rfl, show 10 * m + B q = (10 * m + (B q - 48)) + 48 by omega, ← nI_add]
            exact Int32.add_sub_cancel _ _
          rcases hc with ⟨g1, rfl⟩ | ⟨g1, g2, rfl⟩
          · rw [e1 c (by omega), e2, if_pos (show nI c ≤ (10000000 : Int32) from nI_le (b := 10000000) g1 (by decide)), show (10000000 : Int32) = nI 10000000 from rfl, rn_minI (by omega) (by decide)]
            refine ⟨_, _, ?_, rfl, rfl⟩
            rcases Nat.lt_or_ge 10000000 (10 * c + (B q - 48)) with g | g
            · exact Or.inr ⟨g, by omega, Nat.min_eq_right (by omega)⟩
            · exact Or.inl ⟨g, Nat.min_eq_left (by omega)⟩
          · rw [e1 10000000 (by omega), if_neg (show ¬ nI m ≤ (10000000 : Int32) from nI_ge (a := 10000000) g1 (by omega)), show (10000000 : Int32) = nI 10000000 from rfl, rn_minI (by omega) (by decide)]
            exact ⟨_, _, Or.inr ⟨g1, g2, Nat.min_eq_right (by omega)⟩, rfl, rfl⟩
        obtain ⟨e, c', m', r1, r2, -, r3, r4, r5⟩ := ih (q + 1) c2 m2 (by omega) (by omega) hn
        refine ⟨e, c', m', by omega, r2, fun _ _ => by omega, r3, ?_, ?_⟩
        · rw [lX3_nextToken_117, if_neg (nI_ge d (by omega)), by3 h d, rn_bs, kk_o _ hb, rn_bs, if_pos (show nI (kk (B q)) = (2 : Int32) by rw [c1]; rfl), if_pos rfl, rn_bs, rn_bs, hx, e3, nI_1]
          exact r4
        · rw [lX7_nextToken_187, by7 h d, rn_bs, rn_bs, id7 _ hb, rn_bs, if_pos c1, if_neg (show ¬ (1 : Int32) = 0 by decide), e7, rn_bs, nI_1]
          exact r5
      · have hk : ¬ nI (kk (B q)) = (2 : Int32) := fun r => c1 ((nI_eq (b := 2) (by have := (kk_4 (B q)).2; omega) (by decide)).mp r)
        refine ⟨q, c, m, Nat.le_refl _, hq, fun _ a => absurd a c1, hc, ?_, ?_⟩
        · rw [lX3_nextToken_117, if_neg (nI_ge d (by omega)), by3 h d, rn_bs, kk_o _ hb, rn_bs, if_neg hk]
        · rw [lX7_nextToken_187, by7 h d, rn_bs, id7 _ hb, rn_bs, if_neg c1, if_pos rfl]
    · have : q = n := by omega
      subst this
      refine ⟨q, c, m, Nat.le_refl _, hq, fun a => by omega, hc, ?_, ?_⟩
      · rw [lX3_nextToken_117, if_pos (nI_le (Nat.le_refl _) (by omega))]
      · rw [lX7_nextToken_187, by7e h, rn_bs, show fX7_isDigit (-1 : Int32) = some 0 by decide, rn_bs, if_pos rfl]
end QM
