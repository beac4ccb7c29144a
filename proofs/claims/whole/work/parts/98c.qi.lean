/-! the text and the line, on both sides -/
theorem byt (y : Int32) : ∃ v, v < 256 ∧ y &&& (255 : Int32) = nI v ∧ vp_nar .byte (y.toInt8.toInt32) = (nI v).toInt8.toInt32 := by
  refine ⟨y.toBitVec.toNat % 2 ^ 8, Nat.mod_lt _ (by decide), pk_and y 8 (by decide), ?_⟩
  rw [pk_vb]
  congr 1
  rw [← pk_and y 8 (m := 255) (by decide)]
  apply Int8.toBitVec_inj.mp
  show y.toBitVec.signExtend 8 = (y.toBitVec &&& (255#32)).signExtend 8
  apply BitVec.eq_of_getLsbD_eq
  intro i hi
  have h255 : ∀ j : Nat, j < 8 → (255#32).getLsbD j = true := by decide
  rw [BitVec.getLsbD_signExtend, BitVec.getLsbD_signExtend, if_pos (by omega), if_pos (by omega), BitVec.getLsbD_and, h255 i hi, Bool.and_true]
/-- the line beside the output -/
def ro (n : Nat) (bytes out : Nat → Int32) : Prop := ∀ i, i < n → ∃ v, v < 128 ∧ out i = nI v ∧ bytes i = nI v
theorem nb128 : ∀ w : Nat, w < 128 → vp_nar .byte ((nI w).toInt8.toInt32) = nI w := by decide +kernel
theorem pt1 {n w : Nat} {bytes out : Nat → Int32} (hn : n < 60) (hw : w < 128) (h : ro n bytes out) : ∃ bytes' out', fX1_put (nI n) bytes (nI w) = some (nI (n + 1), bytes') ∧ fX7_put (nI n) out (nI w) = some (nI (n + 1), out') ∧ ro (n + 1) bytes' out' := by
  refine ⟨upd bytes n (nI w), upd out n (nI w), ?_, ?_, fun i hi => ?_⟩
  · unfold fX1_put
    rw [if_neg (nI_pos (by omega)), if_neg (show ¬ Int32.ofNat 64 ≤ nI n from nI_ge (b := 64) (by omega) (by decide)), rn_gI (by omega) (by decide), rn_lt, nI_clamp (by omega), nb128 w hw, nI_1]
  · unfold fX7_put
    rw [rn_gI hn (by decide), rn_lt, nI_clamp (by omega), nI_1]
  · by_cases c : i = n
    · rw [c]
      exact ⟨w, hw, pk_us, pk_us⟩
    · rw [pk_un c, pk_un c]
      exact h i (by omega)
theorem pwd {N n : Nat} {bytes out : Nat → Int32} {l : List Int32} (hN : 6000 ≤ N) (hl : n + l.length ≤ 60) (hw : ∀ k, k < l.length → ∃ w, w < 128 ∧ l.getD k 0 = nI w) (h : ro n bytes out) : ∃ bytes' out', fX1_putWord N (nI n) bytes l = some (nI (n + l.length), bytes') ∧ fX7_putWord N (nI n) out l = some (nI (n + l.length), out') ∧ ro (n + l.length) bytes' out' := by
  have lp : ∀ (f k : Nat) (bytes out : Nat → Int32), k ≤ l.length → l.length - k < f → ro (n + k) bytes out → ∃ bytes' out', lX1_putWord_2 l f (nI k) (nI (n + k)) bytes = some (nI (n + l.length), bytes') ∧ lX7_putWord_2 l f (nI k) (nI (n + k)) out = some (nI (n + l.length), out') ∧ ro (n + l.length) bytes' out' := by
    intro f
    induction f with
    | zero => intro k bytes out _ h; omega
    | succ f ih =>
      intro k bytes out hk hf h
      rw [lX1_putWord_2, lX7_putWord_2]
      rcases Nat.lt_or_ge k l.length with c | c
      · obtain ⟨w, w1, w2⟩ := hw k c
        obtain ⟨b', o', p1, p2, p3⟩ := pt1 (show n + k < 60 by omega) w1 h
        rw [if_neg (show ¬ Int32.ofNat l.length ≤ nI k from nI_ge (b := l.length) c (by omega)), if_neg (show ¬ Int32.ofNat l.length ≤ nI k from nI_ge (b := l.length) c (by omega)), rn_gI c (by omega), rn_gI c (by omega), nI_clamp (by omega), w2, p1, p2, rn_bs, rn_bs, nI_1]
        exact ih (k + 1) b' o' (by omega) (by omega) p3
      · have : k = l.length := by omega
        subst this
        rw [if_pos (show Int32.ofNat l.length ≤ nI l.length from nI_le (a := l.length) (Nat.le_refl _) (by omega)), if_pos (show Int32.ofNat l.length ≤ nI l.length from nI_le (a := l.length) (Nat.le_refl _) (by omega))]
        exact ⟨bytes, out, rfl, rfl, h⟩
  obtain ⟨b', o', p1, p2, p3⟩ := lp N 0 bytes out (by omega) (by omega) h
  refine ⟨b', o', ?_, ?_, p3⟩
  · unfold fX1_putWord
    rw [show lX1_putWord_2 l N (0 : Int32) (nI n) bytes = _ from p1, rn_bs]
  · unfold fX7_putWord
    rw [show lX7_putWord_2 l N (0 : Int32) (nI n) out = _ from p2, rn_bs]
theorem rn_zN {α : Type} {c : Prop} [Decidable c] {o : Option α} (h : ¬ c) : rn_z c o = o := if_neg h
theorem p10 : ∀ k : Nat, k ≤ 9 → 10 ^ k ≤ 1000000000 := fun k h => Nat.le_trans (Nat.pow_le_pow_right (by decide) h) (by decide)
theorem pnm {N n x : Nat} {bytes out : Nat → Int32} (hN : 6000 ≤ N) (hx : x < 1000000) (hn : n + 6 ≤ 60) (h : ro n bytes out) : ∃ n' bytes' out', n' ≤ n + 6 ∧ fX1_putNumber N (nI n) bytes (nI x) = some (nI n', bytes') ∧ fX7_putNumber N (nI n) out (nI x) = some (nI n', out') ∧ ro n' bytes' out' := by
  obtain ⟨d, d5, hd1, hd2⟩ : ∃ d, d ≤ 5 ∧ x < 10 ^ (d + 1) ∧ (d = 0 ∨ 10 ^ d ≤ x) := by
    rcases Nat.lt_or_ge x 10 with c | c
    · exact ⟨0, by decide, c, Or.inl rfl⟩
    · rcases Nat.lt_or_ge x 100 with c | c
      · exact ⟨1, by decide, c, Or.inr (by omega)⟩
      · rcases Nat.lt_or_ge x 1000 with c | c
        · exact ⟨2, by decide, c, Or.inr (by omega)⟩
        · rcases Nat.lt_or_ge x 10000 with c | c
          · exact ⟨3, by decide, c, Or.inr (by omega)⟩
          · rcases Nat.lt_or_ge x 100000 with c | c
            · exact ⟨4, by decide, c, Or.inr (by omega)⟩
            · exact ⟨5, by decide, hx, Or.inr (by omega)⟩
  have pos10 : ∀ k : Nat, 0 < 10 ^ k := fun k => Nat.pow_pos (by decide)
  have dv : ∀ k : Nat, k ≤ 8 → nI (10 ^ (k + 1)) / (10 : Int32) = nI (10 ^ k) := fun k hk => by
    have h2 := p10 (k + 1) (by omega)
    rw [show (10 : Int32) = nI 10 from rfl, pk_div (by omega) (by decide) (by decide), Nat.pow_succ, Nat.mul_div_cancel _ (by decide)]
  have val : ∀ k : Nat, k ≤ 9 → ∃ w, w < 128 ∧ (48 : Int32) + rn_rem (nI x / nI (10 ^ k)) (10 : Int32) = nI w := fun k hk => by
    have h2 := p10 k hk
    have h3 : x / 10 ^ k ≤ x := Nat.div_le_self _ _
    have h4 := Nat.mod_lt (x / 10 ^ k) (show 0 < 10 by decide)
    refine ⟨48 + x / 10 ^ k % 10, by omega, ?_⟩
    rw [pk_div (by omega) (pos10 k) (by omega), show rn_rem (nI (x / 10 ^ k)) (10 : Int32) = nI (x / 10 ^ k % 10) from nI_rem (d := 10) (by omega) (by decide) (by decide), show (48 : Int32) = nI 48 from rfl, nI_add]
  have nz : ∀ k : Nat, k ≤ 9 → ¬ nI (10 ^ k) ≤ 0 ∧ ¬ nI (10 ^ k) = 0 := fun k hk => by
    have h2 := p10 k hk
    have h1 := pos10 k
    exact ⟨nI_ge (b := 10 ^ k) (a := 0) h1 (by omega), fun q => by have := (nI_eq (b := 0) (by omega) (by decide)).mp q; omega⟩
  have dg : ∀ k : Nat, k ≤ 5 → (k = 0 ∨ 10 ^ k ≤ x) → ∀ (f1 f2 n : Nat) (bytes out : Nat → Int32), k + 1 < f1 → k + 1 < f2 → n + k + 1 ≤ 60 → ro n bytes out → ∃ bytes' out', lX1_putNumber_3 (nI x) f1 (nI (10 ^ k)) (nI n) bytes = some (nI (n + k + 1), bytes') ∧ lX7_putNumber_20 (nI x) f2 (nI (10 ^ k)) (nI n) out = some (nI (n + k + 1), out') ∧ ro (n + k + 1) bytes' out' := by
    intro k
    induction k with
    | zero =>
      intro _ _ f1 f2 n bytes out hf1 hf2 hn h
      obtain ⟨f1', rfl⟩ : ∃ g, f1 = g + 2 := ⟨f1 - 2, by omega⟩
      obtain ⟨f2', rfl⟩ : ∃ g, f2 = g + 2 := ⟨f2 - 2, by omega⟩
      obtain ⟨w, w1, w2⟩ := val 0 (by decide)
      obtain ⟨b', o', p1, p2, p3⟩ := pt1 (show n < 60 by omega) w1 h
      refine ⟨b', o', ?_, ?_, p3⟩
      · rw [lX1_putNumber_3, if_neg (nz 0 (by decide)).1, w2]
        have tail : lX1_putNumber_3 (nI x) (f1' + 1) (nI (10 ^ 0) / (10 : Int32)) (nI (n + 1)) b' = some (nI (n + 0 + 1), b') := by
          rw [lX1_putNumber_3, if_pos (show nI (10 ^ 0) / (10 : Int32) ≤ 0 by decide)]
        by_cases c : nI (10 ^ 0) ≤ nI x
        · rw [if_pos c, rn_zN (nz 0 (by decide)).2, p1, rn_bs]
          exact tail
        · rw [if_neg c, if_pos (show nI (10 ^ 0) = (1 : Int32) by decide), rn_zN (nz 0 (by decide)).2, p1, rn_bs]
          exact tail
      · rw [lX7_putNumber_20, if_neg (nz 0 (by decide)).1, w2, rn_zN (nz 0 (by decide)).2, p2, rn_bs, lX7_putNumber_20, if_pos (show nI (10 ^ 0) / (10 : Int32) ≤ 0 by decide)]
    | succ k ih =>
      intro hk hx2 f1 f2 n bytes out hf1 hf2 hn h
      have hx3 : 10 ^ (k + 1) ≤ x := hx2.resolve_left (by omega)
      obtain ⟨f1', rfl⟩ : ∃ g, f1 = g + 1 := ⟨f1 - 1, by omega⟩
      obtain ⟨f2', rfl⟩ : ∃ g, f2 = g + 1 := ⟨f2 - 1, by omega⟩
      obtain ⟨w, w1, w2⟩ := val (k + 1) (by omega)
      obtain ⟨b', o', p1, p2, p3⟩ := pt1 (show n < 60 by omega) w1 h
      have hx4 : 10 ^ k ≤ x := Nat.le_trans (Nat.pow_le_pow_right (by decide) (by omega)) hx3
      obtain ⟨b2, o2, r1, r2, r3⟩ := ih (by omega) (Or.inr hx4) f1' f2' (n + 1) b' o' (by omega) (by omega) (by omega) p3
      rw [show n + 1 + k + 1 = n + (k + 1) + 1 by omega] at r1 r2 r3
      refine ⟨b2, o2, ?_, ?_, r3⟩
      · rw [lX1_putNumber_3, if_neg (nz (k + 1) (by omega)).1, w2, if_pos (nI_le hx3 (by omega)), rn_zN (nz (k + 1) (by omega)).2, p1, rn_bs, dv k (by omega)]
        exact r1
      · rw [lX7_putNumber_20, if_neg (nz (k + 1) (by omega)).1, w2, rn_zN (nz (k + 1) (by omega)).2, p2, rn_bs, dv k (by omega)]
        exact r2
  have skip : ∀ j : Nat, d + j ≤ 9 → ∀ f, lX1_putNumber_3 (nI x) (f + j) (nI (10 ^ (d + j))) (nI n) bytes = lX1_putNumber_3 (nI x) f (nI (10 ^ d)) (nI n) bytes := by
    intro j
    induction j with
    | zero => intro _ f; rfl
    | succ j ih =>
      intro hj f
      have hb : x < 10 ^ (d + j + 1) := Nat.lt_of_lt_of_le hd1 (Nat.pow_le_pow_right (by decide) (by omega))
      have h9 := p10 (d + j + 1) (by omega)
      rw [show f + (j + 1) = (f + j) + 1 by omega, show d + (j + 1) = d + j + 1 by omega, lX1_putNumber_3, if_neg (nz (d + j + 1) (by omega)).1, if_neg (nI_ge hb (by omega)), if_neg (show ¬ nI (10 ^ (d + j + 1)) = (1 : Int32) from fun q => by
        have := (nI_eq (b := 1) (by omega) (by decide)).mp q
        have h1 := pos10 (d + j)
        rw [Nat.pow_succ] at this
        omega), dv (d + j) (by omega)]
      exact ih (by omega) f
  have find : ∀ (i j f : Nat), j + i = d → i < f → lX7_putNumber_2 (nI x) f (nI (10 ^ j)) = some (nI (10 ^ d)) := by
    intro i
    induction i with
    | zero =>
      intro j f hj hf
      obtain ⟨f', rfl⟩ : ∃ g, f = g + 1 := ⟨f - 1, by omega⟩
      have : j = d := by omega
      subst this
      have h9 := p10 j (by omega)
      have h1 : x / 10 ^ j < 10 := (Nat.div_lt_iff_lt_mul (pos10 j)).mpr (by rw [Nat.mul_comm, ← Nat.pow_succ]; exact hd1)
      rw [lX7_putNumber_2, rn_zN (nz j (by omega)).2, pk_div (by omega) (pos10 j) (by omega), if_pos (show nI (x / 10 ^ j) ≤ (9 : Int32) from nI_le (b := 9) (by omega) (by decide))]
    | succ i ih =>
      intro j f hj hf
      obtain ⟨f', rfl⟩ : ∃ g, f = g + 1 := ⟨f - 1, by omega⟩
      have h9 := p10 j (by omega)
      have hdx : 10 ^ d ≤ x := hd2.resolve_left (by omega)
      have h2 : 10 * 10 ^ j ≤ 10 ^ d := by
        rw [Nat.mul_comm, ← Nat.pow_succ]
        exact Nat.pow_le_pow_right (by decide) (by omega)
      have h1 : 10 ≤ x / 10 ^ j := (Nat.le_div_iff_mul_le (pos10 j)).mpr (by omega)
      have h3 : x / 10 ^ j ≤ x := Nat.div_le_self _ _
      rw [lX7_putNumber_2, rn_zN (nz j (by omega)).2, pk_div (by omega) (pos10 j) (by omega), if_neg (show ¬ nI (x / 10 ^ j) ≤ (9 : Int32) from nI_ge (a := 9) (by omega) (by omega)), show nI (10 ^ j) * (10 : Int32) = nI (10 ^ (j + 1)) by rw [show (10 : Int32) = nI 10 from rfl, pk_mul, Nat.pow_succ]]
      exact ih (j + 1) f' (by omega) (by omega)
  obtain ⟨b', o', r1, r2, r3⟩ := dg d (by omega) hd2 (N - (9 - d)) N n bytes out (by omega) (by omega) (by omega) h
  have s1 := skip (9 - d) (by omega) (N - (9 - d))
  rw [show N - (9 - d) + (9 - d) = N by omega, show d + (9 - d) = 9 by omega] at s1
  refine ⟨n + d + 1, b', o', by omega, ?_, ?_, r3⟩
  · unfold fX1_putNumber
    rw [show lX1_putNumber_3 (nI x) N (1000000000 : Int32) (nI n) bytes = _ from s1.trans r1, rn_bs]
  · unfold fX7_putNumber
    rw [show lX7_putNumber_2 (nI x) N (1 : Int32) = _ from find d 0 N (by omega) (by omega), rn_bs, r2, rn_bs]
