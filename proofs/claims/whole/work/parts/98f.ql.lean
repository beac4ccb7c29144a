/-! the tokens of a text, on both sides -/
def sx (v : Nat) : Int32 := (nI v).toInt8.toInt32
def kk (v : Nat) : Nat := if 97 ≤ v ∧ v ≤ 122 then 1 else if 48 ≤ v ∧ v ≤ 57 then 2 else if v = 59 then 3 else 4
theorem kk_o : ∀ v : Nat, v < 256 → fX3_kindOf (sx v) = some (nI (kk v)) := by decide +kernel
theorem sx_32 : ∀ v : Nat, v < 256 → (sx v = 32 ↔ v = 32) ∧ (sx v = 10 ↔ v = 10) := by decide +kernel
theorem sx_id : ∀ v : Nat, v < 128 → sx v = nI v := by decide +kernel
theorem il7 : ∀ v : Nat, v < 256 → fX7_isLetter (nI v) = some (if kk v = 1 then 1 else 0) := by decide +kernel
theorem id7 : ∀ v : Nat, v < 256 → fX7_isDigit (nI v) = some (if kk v = 2 then 1 else 0) := by decide +kernel
/-- a text of n bytes, in the class, in the model -/
def tx (n : Nat) (B : Nat → Nat) (text mt : Nat → Int32) : Prop := n ≤ 700 ∧ ∀ i, i < n → B i < 256 ∧ mt i = nI (B i) ∧ text i = sx (B i)
section QL
variable {N n : Nat} {B : Nat → Nat} {text mt : Nat → Int32}
theorem tx_ex {len tl : Int32} (h : rl_text len text tl mt) : ∃ n B, len = nI n ∧ tl = nI n ∧ tx n B text mt := by
  obtain ⟨n, hn, e1, e2, h⟩ := h
  have key : ∀ i, ∃ v, i < n → v < 256 ∧ mt i = nI v ∧ text i = sx v := fun i => by
    by_cases c : i < n
    · obtain ⟨v, v1, v2, v3⟩ := h i c
      exact ⟨v, fun _ => ⟨v1, v2, v3⟩⟩
    · exact ⟨0, fun q => absurd q c⟩
  exact ⟨n, fun i => Classical.choose (key i), e1, e2, hn, fun i hi => Classical.choose_spec (key i) hi⟩
theorem by3 (h : tx n B text mt) {i : Nat} (hi : i < n) : fX3_byteAt text (nI i) = some (sx (B i)) := by
  have h1 := h.1
  unfold fX3_byteAt
  rw [if_neg (nI_pos (by omega)), if_neg (show ¬ Int32.ofNat 700 ≤ nI i from nI_ge (b := 700) (by omega) (by decide)), rn_gI (by omega) (by decide), nI_clamp (by omega), (h.2 i hi).2.2]
theorem by7 (h : tx n B text mt) {i : Nat} (hi : i < n) : fX7_byteAt (nI n) mt (nI i) = some (nI (B i)) := by
  have h1 := h.1
  unfold fX7_byteAt
  rw [if_neg (nI_ge hi (by omega)), rn_gI (by omega) (by decide), nI_clamp (by omega), (h.2 i hi).2.1]
theorem by7e (h : tx n B text mt) : fX7_byteAt (nI n) mt (nI n) = some (-1) := by
  have h1 := h.1
  unfold fX7_byteAt
  rw [if_pos (nI_le (Nat.le_refl _) (by omega))]
theorem n32 {v w : Nat} (hv : v < 256) (hw : w < 256) : (nI v = nI w) ↔ v = w := nI_eq (by omega) (by omega)
theorem skp (h : tx n B text mt) : ∀ (f p : Nat), p ≤ n → n - p < f → ∃ s, p ≤ s ∧ s ≤ n ∧ (s < n → B s ≠ 32 ∧ B s ≠ 10) ∧ lX3_nextToken_8 (nI n) text f (nI p) = some (nI s) ∧ lX7_nextToken_0 (nI n) mt f (nI p) = some (nI s) := by
  have h1 := h.1
  intro f
  induction f with
  | zero => intro p _ h; omega
  | succ f ih =>
    intro p hp hf
    rcases Nat.lt_or_ge p n with c | c
    · have hb := (h.2 p c).1
      have s32 := sx_32 (B p) hb
      have u3 : lX3_nextToken_8 (nI n) text (f + 1) (nI p) = if B p = 32 then lX3_nextToken_8 (nI n) text f (nI (p + 1)) else if B p = 10 then lX3_nextToken_8 (nI n) text f (nI (p + 1)) else some (nI p) := by
        rw [lX3_nextToken_8, if_neg (nI_ge c (by omega)), by3 h c, rn_bs, rn_bs, nI_1]
        simp only [s32.1, s32.2]
      have u7 : lX7_nextToken_0 (nI n) mt (f + 1) (nI p) = if B p = 32 then lX7_nextToken_0 (nI n) mt f (nI (p + 1)) else if B p = 10 then lX7_nextToken_0 (nI n) mt f (nI (p + 1)) else some (nI p) := by
        rw [lX7_nextToken_0, by7 h c, rn_bs, rn_bs, nI_1]
        simp only [show (nI (B p) = (32 : Int32)) ↔ B p = 32 from n32 hb (by decide), show (nI (B p) = (10 : Int32)) ↔ B p = 10 from n32 hb (by decide)]
      rw [u3, u7]
      by_cases c1 : B p = 32
      · obtain ⟨s, s1, s2, s3, s4, s5⟩ := ih (p + 1) (by omega) (by omega)
        rw [if_pos c1, if_pos c1]
        exact ⟨s, by omega, s2, s3, s4, s5⟩
      · rw [if_neg c1, if_neg c1]
        by_cases c2 : B p = 10
        · obtain ⟨s, s1, s2, s3, s4, s5⟩ := ih (p + 1) (by omega) (by omega)
          rw [if_pos c2, if_pos c2]
          exact ⟨s, by omega, s2, s3, s4, s5⟩
        · rw [if_neg c2, if_neg c2]
          exact ⟨p, Nat.le_refl _, hp, fun _ => ⟨c1, c2⟩, rfl, rfl⟩
    · have : p = n := by omega
      subst this
      rw [lX3_nextToken_8, lX7_nextToken_0, if_pos (nI_le (Nat.le_refl _) (by omega)), by7e h, rn_bs, if_neg (show ¬ (-1 : Int32) = 32 by decide), rn_bs, if_neg (show ¬ (-1 : Int32) = 10 by decide)]
      exact ⟨p, Nat.le_refl _, hp, fun q => by omega, rfl, rfl⟩
/-- the model's number of a word -/
def wdn (B : Nat → Nat) (s : Nat) : Nat → Int64
  | 0 => 0
  | k + 1 => if k < 11 then ((27 : Int64) * wdn B s k + (nI (B (s + k))).toInt64) - 96 else wdn B s k
theorem rwd (h : tx n B text mt) (s : Nat) : ∀ (f q : Nat), s ≤ q → q ≤ n → n - q < f → ∃ e, q ≤ e ∧ e ≤ n ∧ (∀ i, q ≤ i → i < e → kk (B i) = 1) ∧ (e < n → kk (B e) ≠ 1) ∧ lX3_nextToken_117 (nI n) text (1 : Int32) f (nI q) 0 = some (nI e, 0) ∧ lX7_nextToken_96 (nI n) mt f (nI q) (nI (q - s)) (wdn B s (q - s)) = some (nI e, nI (e - s), wdn B s (e - s)) := by
  have h1 := h.1
  intro f
  induction f with
  | zero => intro q _ _ h; omega
  | succ f ih =>
    intro q hs hq hf
    rw [lX3_nextToken_117, lX7_nextToken_96]
    rcases Nat.lt_or_ge q n with c | c
    · have hb := (h.2 q c).1
      rw [if_neg (nI_ge c (by omega)), by3 h c, by7 h c, rn_bs, kk_o _ hb, rn_bs, rn_bs, rn_bs, il7 _ hb, rn_bs]
      by_cases c1 : kk (B q) = 1
      · obtain ⟨e, e1, e2, e3, e4, e5, e6⟩ := ih (q + 1) (by omega) (by omega) (by omega)
        have ew : wdn B s (q + 1 - s) = if q - s < 11 then ((27 : Int64) * wdn B s (q - s) + (nI (B q)).toInt64) - 96 else wdn B s (q - s) := by
          rw [show q + 1 - s = (q - s) + 1 by omega]
          show (if q - s < 11 then ((27 : Int64) * wdn B s (q - s) + (nI (B (s + (q - s)))).toInt64) - 96 else wdn B s (q - s)) = _
          rw [show s + (q - s) = q by omega]
        rw [if_pos (show nI (kk (B q)) = (1 : Int32) by rw [c1]; rfl), if_neg (show ¬ (1 : Int32) = 2 by decide), rn_bs, if_pos c1, if_neg (show ¬ (1 : Int32) = 0 by decide), nI_1, nI_1, show q - s + 1 = q + 1 - s by omega]
        refine ⟨e, by omega, e2, fun i hi hi2 => ?_, e4, e5, ?_⟩
        · by_cases c2 : i = q
          · rw [c2]; exact c1
          · exact e3 i (by omega) hi2
        · rcases Nat.lt_or_ge (q - s) 11 with d | d
          · rw [if_pos d] at ew
            rw [if_neg (show ¬ (11 : Int32) ≤ nI (q - s) from nI_ge (b := 11) d (by decide)), rn_bs, rn_bs, ← ew]
            exact e6
          · rw [if_neg (by omega)] at ew
            rw [if_pos (show (11 : Int32) ≤ nI (q - s) from nI_le (a := 11) d (by omega)), rn_bs, ← ew]
            exact e6
      · have hk : ¬ nI (kk (B q)) = (1 : Int32) := fun r => c1 ((nI_eq (b := 1) (by unfold kk; split <;> (try split) <;> (try split) <;> omega) (by decide)).mp r)
        rw [if_neg hk, if_neg c1, if_pos rfl]
        exact ⟨q, Nat.le_refl _, hq, fun i a1 a2 => by omega, fun _ => c1, rfl, rfl⟩
    · have : q = n := by omega
      subst this
      rw [if_pos (nI_le (Nat.le_refl _) (by omega)), by7e h, rn_bs, show fX7_isLetter (-1 : Int32) = some 0 by decide, rn_bs, if_pos rfl]
      exact ⟨q, Nat.le_refl _, hq, fun i a1 a2 => by omega, fun a => by omega, rfl, rfl⟩
end QL
