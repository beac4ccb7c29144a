/-! the next token, on both sides -/
def tkR (n : Nat) (B : Nat → Nat) (p : Nat) (k st en va po ts tk le nu : Int32) (wo : Int64) : Prop := ∃ s e, p ≤ s ∧ s ≤ e ∧ e ≤ n ∧ st = nI s ∧ en = nI e ∧ po = nI e ∧ ts = nI s ∧
  ((k = 0 ∧ tk = 0) ∨ (k = 1 ∧ tk = 2 ∧ s < e ∧ (∀ i, s ≤ i → i < e → kk (B i) = 1) ∧ le = nI (e - s) ∧ wo = wdn B s (e - s)) ∨ (k = 2 ∧ tk = 3 ∧ s < e ∧ ∃ c m, nr c m ∧ va = nI c ∧ nu = nI m) ∨ (k = 3 ∧ tk = 4 ∧ s < e) ∨ (k = 4 ∧ tk = 1 ∧ s < e))
section QN
variable {N n : Nat} {B : Nat → Nat} {text mt : Nat → Int32}
theorem kkn {v w : Nat} (hw : w < 2 ^ 31) : (nI (kk v) = nI w) ↔ kk v = w := nI_eq (by have := (kk_4 v).2; omega) hw
theorem tkn (hN : 6000 ≤ N) (h : tx n B text mt) {p : Nat} (hp : p ≤ n) (k0 s0 v0 ts0 tk0 le0 nu0 : Int32) (wo0 : Int64) : ∃ (k st en va po ts tk le nu : Int32) (wo : Int64), fX3_nextToken N (nI n) k0 s0 (nI p) v0 text = some (k, st, en, va) ∧ fX7_nextToken N (nI n) (nI p) ts0 tk0 le0 nu0 wo0 mt = some (po, ts, tk, le, nu, wo) ∧ tkR n B p k st en va po ts tk le nu wo := by
  have h1 := h.1
  obtain ⟨s, s1, s2, s3, s4, s5⟩ := skp h N p hp (by omega)
  unfold fX3_nextToken fX7_nextToken
  rw [s4, s5, rn_bs, rn_bs]
  rcases Nat.lt_or_ge s n with d | d
  · have hb := (h.2 s d).1
    rw [if_neg (nI_ge d (by omega)), by3 h d, by7 h d, rn_bs, kk_o _ hb, rn_bs, rn_bs, rn_bs, if_neg (show ¬ nI (B s) = (-1 : Int32) from fun q => by
      have := nI_pos (n := B s) (by omega)
      rw [q] at this
      exact this (by decide)), il7 _ hb, rn_bs, id7 _ hb, rn_bs]
    by_cases c1 : kk (B s) = 1
    · obtain ⟨e, e1, e2, e3, e4, e5, e6⟩ := rwd h s N s (Nat.le_refl _) (by omega) (by omega)
      rw [Nat.sub_self] at e6
      have hse : s < e := by
        rcases Nat.lt_or_ge s e with q | q
        · exact q
        · have : e = s := by omega
          subst this
          exact absurd c1 (e4 d)
      rw [c1, if_pos (show nI 1 = (1 : Int32) from rfl), if_pos rfl, if_neg (show ¬ (1 : Int32) = 0 by decide), show lX3_nextToken_117 (nI n) text (nI 1) N (nI s) (0 : Int32) = _ from e5, show lX7_nextToken_96 (nI n) mt N (nI s) (0 : Int32) (0 : Int64) = _ from e6, rn_bs, rn_bs]
      exact ⟨_, _, _, _, _, _, _, _, _, _, rfl, rfl, s, e, s1, e1, e2, rfl, rfl, rfl, rfl, Or.inr (Or.inl ⟨rfl, rfl, hse, e3, rfl, rfl⟩)⟩
    · rw [if_neg (show ¬ nI (kk (B s)) = (1 : Int32) from fun q => c1 ((kkn (w := 1) (by decide)).mp q)), if_neg c1, if_pos rfl]
      by_cases c2 : kk (B s) = 2
      · obtain ⟨e, c', m', r1, r2, r6, r3, r4, r5⟩ := rnm h N s 0 0 (by omega) (by omega) (Or.inl ⟨by decide, rfl⟩)
        rw [c2, if_pos (show nI 2 = (2 : Int32) from rfl), if_pos rfl, if_neg (show ¬ (1 : Int32) = 0 by decide), show lX3_nextToken_117 (nI n) text (nI 2) N (nI s) (0 : Int32) = _ from r4, show lX7_nextToken_187 (nI n) mt N (nI s) (0 : Int32) = _ from r5, rn_bs, rn_bs]
        exact ⟨_, _, _, _, _, _, _, _, _, _, rfl, rfl, s, e, s1, r1, r2, rfl, rfl, rfl, rfl, Or.inr (Or.inr (Or.inl ⟨rfl, rfl, r6 d c2, c', m', r3, rfl, rfl⟩))⟩
      · rw [if_neg (show ¬ nI (kk (B s)) = (2 : Int32) from fun q => c2 ((kkn (w := 2) (by decide)).mp q)), if_neg c2, if_pos rfl, if_neg (show ¬ nI (kk (B s)) = 0 from fun q => by have := (kkn (w := 0) (by decide)).mp q; have := (kk_4 (B s)).1; omega), nI_1]
        by_cases c3 : B s = 59
        · have c4 : kk (B s) = 3 := by rw [c3]; decide
          rw [c4, if_pos (show nI (B s) = (59 : Int32) by rw [c3]; rfl), rn_bs]
          exact ⟨_, _, _, _, _, _, _, _, _, _, rfl, rfl, s, s + 1, s1, by omega, by omega, rfl, rfl, rfl, rfl, Or.inr (Or.inr (Or.inr (Or.inl ⟨rfl, rfl, by omega⟩)))⟩
        · have c4 : kk (B s) = 4 := by
            unfold kk at c1 c2 ⊢
            split
            · rename_i q
              rw [if_pos q] at c1
              exact absurd rfl c1
            · rename_i q
              rw [if_neg q] at c2
              split
              · rename_i q2
                rw [if_pos q2] at c2
                exact absurd rfl c2
              · first | rfl | rw [if_neg c3]
          rw [c4, if_neg (show ¬ nI (B s) = (59 : Int32) from fun q => c3 ((n32 hb (by decide)).mp q)), rn_bs]
          exact ⟨_, _, _, _, _, _, _, _, _, _, rfl, rfl, s, s + 1, s1, by omega, by omega, rfl, rfl, rfl, rfl, Or.inr (Or.inr (Or.inr (Or.inr ⟨rfl, rfl, by omega⟩)))⟩
  · have : s = n := by omega
    subst this
    rw [if_pos (nI_le (Nat.le_refl _) (by omega)), rn_bs, by7e h, rn_bs, if_pos rfl, if_neg (show ¬ (0 : Int32) = 1 by decide), if_neg (show ¬ (0 : Int32) = 2 by decide), if_pos rfl]
    exact ⟨_, _, _, _, _, _, _, _, _, _, rfl, rfl, s, s, s1, Nat.le_refl _, s2, rfl, rfl, rfl, rfl, Or.inl ⟨rfl, rfl⟩⟩
end QN
