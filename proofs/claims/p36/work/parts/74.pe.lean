/-! bits: sets of eight stations in an int, eight such sets in a long -/
def nT (x : Int64) : Nat := x.toBitVec.toNat
theorem nT_lt (x : Int64) : nT x < 2 ^ 64 := x.toBitVec.isLt
theorem nT_inj {x y : Int64} (h : nT x = nT y) : x = y := Int64.toBitVec_inj.mp (BitVec.eq_of_toNat_eq h)
theorem nT_lN {n : Nat} (h : n < 2 ^ 64) : nT (lN n) = n := Nat.mod_eq_of_lt h
theorem nI_and {a b : Nat} (ha : a < 2 ^ 32) (hb : b < 2 ^ 32) : nI a &&& nI b = nI (a &&& b) := by
  apply Int32.toBitVec_inj.mp
  apply BitVec.eq_of_toNat_eq
  rw [Int32.toBitVec_and, BitVec.toNat_and, pk_tn ha, pk_tn hb, pk_tn (Nat.lt_of_le_of_lt Nat.and_le_left ha)]
theorem nI_or {a b : Nat} (ha : a < 2 ^ 32) (hb : b < 2 ^ 32) : nI a ||| nI b = nI (a ||| b) := by
  apply Int32.toBitVec_inj.mp
  apply BitVec.eq_of_toNat_eq
  rw [Int32.toBitVec_or, BitVec.toNat_or, pk_tn ha, pk_tn hb, pk_tn (Nat.or_lt_two_pow ha hb)]
theorem nI_andn {a b : Nat} (ha : a < 256) (hb : b < 256) : nI a &&& (nI b ^^^ (-1 : Int32)) = nI (a &&& (255 ^^^ b)) := by
  apply Int32.toBitVec_inj.mp
  apply BitVec.eq_of_toNat_eq
  have h1 : (-1 : Int32).toBitVec.toNat = 2 ^ 32 - 1 := by decide
  rw [Int32.toBitVec_and, BitVec.toNat_and, Int32.toBitVec_xor, BitVec.toNat_xor, pk_tn (by omega), pk_tn (by omega), h1, pk_tn (Nat.lt_of_le_of_lt Nat.and_le_left (by omega))]
  apply Nat.eq_of_testBit_eq
  intro i
  rw [Nat.testBit_and, Nat.testBit_and, Nat.testBit_xor, Nat.testBit_xor]
  rcases Nat.lt_or_ge i 8 with h | h
  · rw [Nat.testBit_two_pow_sub_one, show (255 : Nat) = 2 ^ 8 - 1 from rfl, Nat.testBit_two_pow_sub_one, decide_eq_true (show i < 32 by omega), decide_eq_true h, Bool.xor_comm]
  · rw [Nat.testBit_lt_two_pow (x := a) (i := i) (Nat.lt_of_lt_of_le ha (show 2 ^ 8 ≤ 2 ^ i from Nat.pow_le_pow_right (by decide) h)), Bool.false_and, Bool.false_and]
/-- an int that holds a set -/
def is8 (x : Int32) (S : Nat → Prop) : Prop := ∃ n, n < 256 ∧ x = nI n ∧ ∀ j, j < 8 → (n.testBit j = true ↔ S j)
theorem is8_and {x y : Int32} {S T : Nat → Prop} (h1 : is8 x S) (h2 : is8 y T) : is8 (x &&& y) (fun j => S j ∧ T j) := by
  obtain ⟨a, ha, rfl, h1⟩ := h1
  obtain ⟨b, hb, rfl, h2⟩ := h2
  refine ⟨a &&& b, Nat.lt_of_le_of_lt Nat.and_le_left ha, nI_and (by omega) (by omega), fun j hj => ?_⟩
  rw [Nat.testBit_and, Bool.and_eq_true, h1 j hj, h2 j hj]
theorem is8_or {x y : Int32} {S T : Nat → Prop} (h1 : is8 x S) (h2 : is8 y T) : is8 (x ||| y) (fun j => S j ∨ T j) := by
  obtain ⟨a, ha, rfl, h1⟩ := h1
  obtain ⟨b, hb, rfl, h2⟩ := h2
  refine ⟨a ||| b, Nat.or_lt_two_pow (n := 8) ha hb, nI_or (by omega) (by omega), fun j hj => ?_⟩
  rw [Nat.testBit_or, Bool.or_eq_true, h1 j hj, h2 j hj]
theorem is8_andn {x y : Int32} {S T : Nat → Prop} (h1 : is8 x S) (h2 : is8 y T) : is8 (x &&& (y ^^^ (-1 : Int32))) (fun j => S j ∧ ¬ T j) := by
  obtain ⟨a, ha, rfl, h1⟩ := h1
  obtain ⟨b, hb, rfl, h2⟩ := h2
  refine ⟨a &&& (255 ^^^ b), Nat.lt_of_le_of_lt Nat.and_le_left ha, nI_andn ha hb, fun j hj => ?_⟩
  show _ ↔ S j ∧ ¬ T j
  rw [Nat.testBit_and, Nat.testBit_xor, show (255 : Nat) = 2 ^ 8 - 1 from rfl, Nat.testBit_two_pow_sub_one, decide_eq_true hj, Bool.and_eq_true, h1 j hj, ← h2 j hj]
  cases b.testBit j <;> simp
theorem is8_w {x : Int32} {S T : Nat → Prop} (h1 : is8 x S) (h : ∀ j, j < 8 → (S j ↔ T j)) : is8 x T := by
  obtain ⟨a, ha, rfl, h1⟩ := h1
  exact ⟨a, ha, rfl, fun j hj => (h1 j hj).trans (h j hj)⟩
theorem is8_0 : is8 (0 : Int32) (fun _ => False) := ⟨0, by decide, rfl, fun j _ => by rw [Nat.zero_testBit]; simp⟩
theorem is8_255 : is8 (255 : Int32) (fun _ => True) := ⟨255, by decide, rfl, fun j hj => by rw [show (255 : Nat) = 2 ^ 8 - 1 from rfl, Nat.testBit_two_pow_sub_one]; simp [hj]⟩
theorem sh8 : ∀ j : Nat, j < 8 → (1 : Int32) <<< (nI j &&& (31 : Int32)) = nI (2 ^ j) := by decide +kernel
theorem sm8 : ∀ j : Nat, j < 8 → ((nI j &&& (31 : Int32)).toBitVec.smod 32).toNat = j := by decide +kernel
theorem is8_one {i : Nat} (hi : i < 8) : is8 ((1 : Int32) <<< (nI i &&& (31 : Int32))) (fun j => j = i) := by
  refine ⟨2 ^ i, ?_, sh8 i hi, fun j _ => ?_⟩
  · exact Nat.pow_lt_pow_right (by decide) hi
  · rw [Nat.testBit_two_pow, decide_eq_true_eq]
    exact ⟨fun h => h.symm, fun h => h.symm⟩
theorem is8_bit {x : Int32} {S : Nat → Prop} {i : Nat} (h : is8 x S) (hi : i < 8) : (x >>> (nI i &&& (31 : Int32))) &&& (1 : Int32) = 1 ↔ S i := by
  obtain ⟨a, ha, rfl, h1⟩ := h
  rw [pk_shrN (by omega) _ i (sm8 i hi), pk_andN (Nat.lt_of_le_of_lt (Nat.div_le_self _ _) (by omega)) 1 (by decide), show (1 : Int32) = nI 1 from rfl, nI_eq (Nat.lt_of_lt_of_le (Nat.mod_lt _ (by decide)) (by decide)) (by decide), ← h1 i hi, Nat.testBit_eq_decide_div_mod_eq, decide_eq_true_eq]
theorem is8_bit0 {x : Int32} {S : Nat → Prop} {i : Nat} (h : is8 x S) (hi : i < 8) : (x >>> (nI i &&& (31 : Int32))) &&& (1 : Int32) = 0 ↔ ¬ S i := by
  have h1 := is8_bit h hi
  obtain ⟨j, hj, e⟩ := pk_andE (x >>> (nI i &&& (31 : Int32))) (m := (1 : Int32)) 1 (by decide)
  rw [← h1, e]
  have : j = 0 ∨ j = 1 := by omega
  rcases this with rfl | rfl <;> decide
theorem is8_z {x : Int32} {S : Nat → Prop} (h : is8 x S) : x = 0 ↔ ∀ j, j < 8 → ¬ S j := by
  obtain ⟨a, ha, rfl, h1⟩ := h
  rw [show (0 : Int32) = nI 0 from rfl, nI_eq (by omega) (by decide)]
  constructor
  · intro e j hj hs
    have := (h1 j hj).mpr hs
    rw [e, Nat.zero_testBit] at this
    exact absurd this (by decide)
  · intro hh
    apply Nat.eq_of_testBit_eq
    intro i
    rw [Nat.zero_testBit]
    rcases Nat.lt_or_ge i 8 with q | q
    · have := mt (h1 i q).mp (hh i q)
      simpa using this
    · exact Nat.testBit_lt_two_pow (Nat.lt_of_lt_of_le ha (show 2 ^ 8 ≤ 2 ^ i from Nat.pow_le_pow_right (by decide) q))
/-- longs -/
theorem lushr_n (x : Int64) (y : Int32) (k : Nat) (hs : ((y.toInt64.toUInt64 &&& Int64.toUInt64 63).toBitVec % 64).toNat = k) : nT (rn_lushr x y) = nT x / 2 ^ k := by
  have e : (rn_lushr x y).toBitVec = x.toBitVec >>> k := by
    rw [← hs]
    exact UInt64.toBitVec_shiftRight _ _
  unfold nT
  rw [e, BitVec.toNat_ushiftRight, Nat.shiftRight_eq_div_pow]
theorem lshl_n (x : Int64) (y : Int32) (k : Nat) (hs : ((y.toInt64 &&& 63).toBitVec.smod 64).toNat = k) : nT (rn_lshl x y) = nT x * 2 ^ k % 2 ^ 64 := by
  unfold nT rn_lshl
  show (x.toBitVec <<< ((y.toInt64 &&& 63).toBitVec.smod 64).toNat).toNat = _
  rw [hs, BitVec.toNat_shiftLeft, Nat.shiftLeft_eq]
theorem us64 : ∀ k : Nat, k < 64 → (((nI k).toInt64.toUInt64 &&& Int64.toUInt64 63).toBitVec % 64).toNat = k := by decide +kernel
theorem sl64 : ∀ k : Nat, k < 64 → (((nI k).toInt64 &&& 63).toBitVec.smod 64).toNat = k := by decide +kernel
theorem nT_and (x y : Int64) : nT (x &&& y) = nT x &&& nT y := by
  unfold nT
  rw [Int64.toBitVec_and, BitVec.toNat_and]
theorem nT_or (x y : Int64) : nT (x ||| y) = nT x ||| nT y := by
  unfold nT
  rw [Int64.toBitVec_or, BitVec.toNat_or]
theorem nT_mul (x y : Int64) : nT (x * y) = nT x * nT y % 2 ^ 64 := by
  unfold nT
  rw [Int64.toBitVec_mul, BitVec.toNat_mul]
def bs8 (x : Int64) (R : Nat → Nat → Prop) : Prop := ∀ k j, k < 8 → j < 8 → ((nT x).testBit (8 * k + j) = true ↔ R k j)
theorem bs8_w {x : Int64} {R T : Nat → Nat → Prop} (h : bs8 x R) (hh : ∀ k j, k < 8 → j < 8 → (R k j ↔ T k j)) : bs8 x T := fun k j hk hj => (h k j hk hj).trans (hh k j hk hj)
theorem bs8_or {x y : Int64} {R T : Nat → Nat → Prop} (h : bs8 x R) (h2 : bs8 y T) : bs8 (x ||| y) (fun k j => R k j ∨ T k j) := fun k j hk hj => by
  rw [nT_or, Nat.testBit_or, Bool.or_eq_true, h k j hk hj, h2 k j hk hj]
theorem bs8_and {x y : Int64} {R T : Nat → Nat → Prop} (h : bs8 x R) (h2 : bs8 y T) : bs8 (x &&& y) (fun k j => R k j ∧ T k j) := fun k j hk hj => by
  rw [nT_and, Nat.testBit_and, Bool.and_eq_true, h k j hk hj, h2 k j hk hj]
theorem bs8_0 : bs8 (0 : Int64) (fun _ _ => False) := fun k j _ _ => by
  rw [show nT (0 : Int64) = 0 from rfl, Nat.zero_testBit]
  simp
theorem setOf8 {x : Int64} {R : Nat → Nat → Prop} {k : Nat} (h : bs8 x R) (hk : k < 8) : ∃ v, fX5_setOf x (nI k) = some v ∧ is8 v (R k) := by
  refine ⟨_, rfl, nT x / 2 ^ (8 * k) % 256, Nat.mod_lt _ (by decide), ?_, fun j hj => ?_⟩
  · have e : nI k * (8 : Int32) = nI (8 * k) := by rw [show (8 : Int32) = nI 8 from rfl, pk_mul, Nat.mul_comm]
    rw [e, pk_and _ 8 (by decide)]
    congr 1
    rw [Int64.toBitVec_toInt32, BitVec.signExtend_eq_setWidth_of_le _ (by decide), BitVec.toNat_setWidth]
    rw [show (rn_lushr x (nI (8 * k))).toBitVec.toNat = nT x / 2 ^ (8 * k) from lushr_n x _ _ (us64 (8 * k) (by omega))]
    omega
  · rw [show (256 : Nat) = 2 ^ 8 from rfl, Nat.testBit_mod_two_pow, decide_eq_true hj, Bool.true_and, Nat.testBit_div_two_pow, Nat.add_comm]
    exact h k j hk hj
/-- numbers of base 256 -/
def dgs (f : Nat → Nat) : Nat → Nat
  | 0 => 0
  | n + 1 => f 0 + 256 * dgs (fun i => f (i + 1)) n
theorem dgs_bit : ∀ (n : Nat) (f : Nat → Nat), (∀ i, f i < 256) → ∀ i, (dgs f n).testBit i = (decide (i < 8 * n) && (f (i / 8)).testBit (i % 8)) := by
  intro n
  induction n with
  | zero => intro f _ i; show (0 : Nat).testBit i = _; rw [Nat.zero_testBit]; simp
  | succ n ih =>
    intro f hf i
    show (f 0 + 2 ^ 8 * dgs (fun i => f (i + 1)) n).testBit i = _
    rw [Nat.add_comm, Nat.testBit_two_pow_mul_add _ (hf 0)]
    rcases Nat.lt_or_ge i 8 with h | h
    · rw [if_pos h, decide_eq_true (show i < 8 * (n + 1) by omega), Bool.true_and, show i / 8 = 0 by omega, show i % 8 = i by omega]
    · rw [if_neg (by omega), ih _ (fun i => hf (i + 1)) (i - 8), show (i - 8) % 8 = i % 8 by omega, show (i - 8) / 8 + 1 = i / 8 by omega]
      congr 1
      exact decide_eq_decide.mpr (by omega)
theorem dgs_lt : ∀ (n : Nat) (f : Nat → Nat), (∀ i, f i < 256) → dgs f n < 256 ^ n := by
  intro n
  induction n with
  | zero => intro f _; exact Nat.one_pos
  | succ n ih =>
    intro f hf
    have h1 := ih _ (fun i => hf (i + 1))
    have h2 := hf 0
    rw [Nat.pow_succ]
    show f 0 + 256 * dgs (fun i => f (i + 1)) n < _
    omega
theorem dgs_mul (m : Nat) : ∀ (n : Nat) (f : Nat → Nat), dgs f n * m = dgs (fun i => f i * m) n := by
  intro n
  induction n with
  | zero => intro f; exact Nat.zero_mul m
  | succ n ih =>
    intro f
    show (f 0 + 256 * dgs (fun i => f (i + 1)) n) * m = f 0 * m + 256 * dgs (fun i => f (i + 1) * m) n
    rw [Nat.add_mul, Nat.mul_assoc, ih]
theorem low_dgs : nT (72340172838076673 : Int64) = dgs (fun _ => 1) 8 := by decide +kernel
theorem b_bit (b : Bool) (q : Nat) : (b.toNat).testBit q = (b && decide (q = 0)) := by
  cases b with
  | false => simp
  | true =>
    show (2 ^ 0).testBit q = _
    rw [Nat.testBit_two_pow, Bool.true_and]
    exact decide_eq_decide.mpr ⟨fun h => h.symm, fun h => h.symm⟩
theorem b_lt (b : Bool) : b.toNat < 256 := by cases b <;> decide
theorem low_and (y : Int64) : nT (y &&& (72340172838076673 : Int64)) = dgs (fun k => ((nT y).testBit (8 * k)).toNat) 8 := by
  apply Nat.eq_of_testBit_eq
  intro i
  rw [nT_and, Nat.testBit_and, low_dgs, dgs_bit 8 _ (fun _ => by decide), dgs_bit 8 _ (fun _ => b_lt _), b_bit, show (1 : Nat) = 2 ^ 0 from rfl, Nat.testBit_two_pow]
  rcases Nat.eq_zero_or_pos (i % 8) with h | h
  · rw [show 8 * (i / 8) = i by omega, h]
    simp only [decide_true, Bool.and_true]
    exact Bool.and_comm _ _
  · rw [decide_eq_false (show ¬ 0 = i % 8 by omega), decide_eq_false (show ¬ i % 8 = 0 by omega)]
    simp
theorem mul_lt256 (b : Bool) {m : Nat} (hm : m < 256) : b.toNat * m < 256 := by
  cases b with
  | false => rw [show false.toNat = 0 from rfl, Nat.zero_mul]; decide
  | true => rw [show true.toNat = 1 from rfl, Nat.one_mul]; exact hm
theorem low_mul (y : Int64) {m : Nat} (hm : m < 256) : nT ((y &&& (72340172838076673 : Int64)) * lN m) = dgs (fun k => ((nT y).testBit (8 * k)).toNat * m) 8 := by
  rw [nT_mul, low_and, nT_lN (by omega), dgs_mul]
  exact Nat.mod_eq_of_lt (dgs_lt 8 _ (fun k => mul_lt256 _ hm))
theorem bs8_low {x : Int64} {v : Int32} {R : Nat → Nat → Prop} {S : Nat → Prop} {s : Nat} (h : bs8 x R) (hv : is8 v S) (hs : s < 8) : bs8 (((rn_lushr x (nI s)) &&& (72340172838076673 : Int64)) * (v.toInt64)) (fun k j => R k s ∧ S j) := by
  obtain ⟨m, hm, rfl, hS⟩ := hv
  intro k j hk hj
  rw [nI_l (by omega), low_mul _ hm, dgs_bit 8 _ (fun _ => mul_lt256 _ hm), decide_eq_true (show 8 * k + j < 8 * 8 by omega), Bool.true_and, show (8 * k + j) / 8 = k by omega, show (8 * k + j) % 8 = j by omega]
  rw [show (nT (rn_lushr x (nI s))).testBit (8 * k) = (nT x).testBit (8 * k + s) by rw [lushr_n x _ s (us64 s (by omega)), Nat.testBit_div_two_pow]]
  show _ ↔ R k s ∧ S j
  rw [← h k s hk hs, ← hS j hj]
  cases (nT x).testBit (8 * k + s) with
  | false => rw [show false.toNat = 0 from rfl, Nat.zero_mul, Nat.zero_testBit]; simp
  | true => rw [show true.toNat = 1 from rfl, Nat.one_mul]; simp
theorem bs8_all {v : Int32} {S : Nat → Prop} (hv : is8 v S) : bs8 ((72340172838076673 : Int64) * (v.toInt64)) (fun _ j => S j) := by
  obtain ⟨m, hm, rfl, hS⟩ := hv
  intro k j hk hj
  rw [nI_l (by omega), nT_mul, low_dgs, nT_lN (by omega), dgs_mul, Nat.mod_eq_of_lt (dgs_lt 8 _ (fun k => by rw [Nat.one_mul]; exact hm)), dgs_bit 8 _ (fun _ => by rw [Nat.one_mul]; exact hm), decide_eq_true (show 8 * k + j < 8 * 8 by omega), Bool.true_and, show (8 * k + j) % 8 = j by omega, Nat.one_mul]
  exact hS j hj
theorem bs8_goal {g : Nat} (hg : g < 8) : bs8 (rn_lshl (72340172838076673 : Int64) (nI g)) (fun _ j => j = g) := by
  have h : ∀ g : Nat, g < 8 → ∀ k : Nat, k < 8 → ∀ j : Nat, j < 8 → ((nT (rn_lshl (72340172838076673 : Int64) (nI g))).testBit (8 * k + j) = decide (j = g)) := by decide +kernel
  intro k j hk hj
  rw [h g hg k hk j hj, decide_eq_true_eq]
theorem bs8_up {x : Int64} {R : Nat → Nat → Prop} (h : bs8 x R) : bs8 (rn_lshl x (8 : Int32)) (fun k j => ∃ k', k = k' + 1 ∧ R k' j) := by
  intro k j hk hj
  rw [show (8 : Int32) = nI 8 from rfl, lshl_n x _ 8 (sl64 8 (by decide)), Nat.testBit_mod_two_pow, decide_eq_true (show 8 * k + j < 64 by omega), Bool.true_and, Nat.mul_comm, Nat.testBit_two_pow_mul]
  cases k with
  | zero =>
    rw [decide_eq_false (show ¬ 8 * 0 + j ≥ 8 by omega), Bool.false_and]
    exact ⟨fun q => absurd q (by decide), fun ⟨k', h1, _⟩ => by omega⟩
  | succ k =>
    rw [decide_eq_true (show 8 * (k + 1) + j ≥ 8 by omega), Bool.true_and, show 8 * (k + 1) + j - 8 = 8 * k + j by omega, h k j (by omega) hj]
    exact ⟨fun q => ⟨k, rfl, q⟩, fun ⟨k', h1, h2⟩ => by have : k' = k := by omega
                                                        subst this; exact h2⟩
theorem bc8 : ∀ n : Nat, n < 256 → fJ6_bitCount_0f7a4 (nI n) = some (nI ((n.testBit 0).toNat + (n.testBit 1).toNat + (n.testBit 2).toNat + (n.testBit 3).toNat + (n.testBit 4).toNat + (n.testBit 5).toNat + (n.testBit 6).toNat + (n.testBit 7).toNat)) := by decide +kernel
theorem tz8 : ∀ n : Nat, n < 256 → 0 < n → ∃ j : Nat, j < 8 ∧ fJ6_numberOfTrailingZeros_0f7a4 (nI n) = some (nI j) ∧ n.testBit j = true ∧ ∀ i : Nat, i < j → n.testBit i = false := by
  have h : ∀ n : Nat, n < 256 → 0 < n → (List.range 8).any (fun j => decide (fJ6_numberOfTrailingZeros_0f7a4 (nI n) = some (nI j)) && n.testBit j && (List.range j).all (fun i => !n.testBit i)) = true := by decide +kernel
  intro n h1 h2
  obtain ⟨j, hj, h3⟩ := List.any_eq_true.mp (h n h1 h2)
  simp only [Bool.and_eq_true, decide_eq_true_eq] at h3
  refine ⟨j, List.mem_range.mp hj, h3.1.1, h3.1.2, fun i hi => ?_⟩
  have := List.all_eq_true.mp h3.2 i (List.mem_range.mpr hi)
  simpa using this
