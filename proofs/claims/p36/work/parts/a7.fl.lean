/-! a quotient of two small counts is no NaN, and equals itself -/
section A7
def enc (e t : Nat) : Nat := e * 8388608 + t
theorem e_as (e t : Nat) : FP.Core.assemble FP.Core.b32 false e t = enc e t := by
  show (0 * 256 + e) * 8388608 + t = _
  unfold enc
  omega
theorem q_min : FP.Core.Fmt.qmin FP.Core.b32 = -149 := by decide
theorem q_max : FP.Core.Fmt.qmax FP.Core.b32 = 104 := by decide
theorem q_tl : FP.Core.Fmt.tails FP.Core.b32 = 8388608 := by decide
theorem q_ex : FP.Core.Fmt.exps FP.Core.b32 = 256 := by decide
def isF : FP.Core.Datum → Prop
  | .nan => False
  | .inf s => s = false
  | .fin s c q => s = false ∧ c < 16777216 ∧ -149 ≤ q ∧ q ≤ 104
theorem F_enc {d : FP.Core.Datum} (h : isF d) : FP.Core.encode FP.Core.b32 d ≤ 2139095040 := by
  cases d with
  | nan => exact h.elim
  | inf s =>
    have hs : s = false := h
    subst hs
    show FP.Core.assemble FP.Core.b32 false (FP.Core.Fmt.exps FP.Core.b32 - 1) 0 ≤ _
    rw [e_as, q_ex]
    decide
  | fin s c q =>
    obtain ⟨rfl, h1, h2, h3⟩ := h
    show (if c < FP.Core.Fmt.tails FP.Core.b32 then FP.Core.assemble FP.Core.b32 false 0 c else FP.Core.assemble FP.Core.b32 false ((q - FP.Core.Fmt.qmin FP.Core.b32).toNat + 1) (c - FP.Core.Fmt.tails FP.Core.b32)) ≤ _
    rw [q_tl, q_min, e_as, e_as]
    unfold enc
    split <;> omega
theorem F_set {c : Nat} {q : Int} (h : -149 ≤ q) : isF (FP.Core.settle FP.Core.b32 false c q) := by
  unfold FP.Core.settle FP.Core.bound
  rw [q_max, q_tl, show (2 : Nat) ^ FP.Core.b32.p = 16777216 from by decide]
  split
  · split
    · exact ⟨rfl, by assumption, h, by assumption⟩
    · exact rfl
  · split
    · exact ⟨rfl, by decide, by omega, by assumption⟩
    · exact rfl
theorem F_rat {num den : Nat} {e : Int} : isF (FP.Core.roundRatio FP.Core.b32 false num den e) := by
  unfold FP.Core.roundRatio
  split
  · rw [q_min]
    exact ⟨rfl, by decide, by decide, by decide⟩
  · unfold FP.Core.roundAt FP.Core.quantum
    apply F_set
    rw [q_min]
    exact Int.le_max_left _ _
theorem fin_nn {x : Bool} {y : Nat} {z : Int} : FP.Core.Datum.fin x y z ≠ .nan := fun q => by cases q
theorem F_dec {v : Nat} (h : v ≤ 2139095040) : ∀ d, FP.Core.decode FP.Core.b32 v = d → d ≠ .nan ∧ (v < 2139095040 → v ≠ 0 → ∃ c q, d = .fin false c q ∧ c ≠ 0) ∧ (v = 0 → d = .fin false 0 (-149)) := by
  intro d hd
  unfold FP.Core.decode FP.Core.fieldE FP.Core.fieldT FP.Core.fieldS at hd
  rw [q_tl, q_ex, q_min] at hd
  by_cases c : v = 2139095040
  · subst c
    refine ⟨?_, fun q => absurd q (Nat.lt_irrefl _), fun q => by omega⟩
    rw [← hd]
    decide
  · have e1 : v / 8388608 < 255 := by omega
    have e2 : v / 8388608 % 256 = v / 8388608 := Nat.mod_eq_of_lt (by omega)
    have e3 : (v / 8388608 / 256 % 2 == 1) = false := by
      rw [show v / 8388608 / 256 = 0 by omega]
      decide
    rw [e2, e3, if_neg (show ¬ v / 8388608 = 256 - 1 by omega)] at hd
    by_cases c2 : v / 8388608 = 0
    · rw [if_pos c2] at hd
      refine ⟨by rw [← hd]; exact fin_nn, fun _ hz => ⟨_, _, hd.symm, by omega⟩, fun hz => ?_⟩
      rw [← hd, hz]
    · rw [if_neg c2] at hd
      exact ⟨by rw [← hd]; exact fin_nn, fun _ hz => ⟨_, _, hd.symm, by omega⟩, fun hz => by omega⟩
theorem u32 {v : Nat} (h : v ≤ 2139095040) : (UInt32.ofNat v).toNat = v := by
  rw [UInt32.toNat_ofNat']
  exact Nat.mod_eq_of_lt (by omega)
theorem F_nn {v : Nat} (h : v ≤ 2139095040) : rn_nn (UInt32.ofNat v) = true := by
  unfold rn_nn
  apply decide_eq_true
  rw [UInt32.le_iff_toNat_le, UInt32.toNat_and, u32 h]
  refine Nat.le_trans Nat.and_le_left ?_
  exact h
theorem F_eq {v : Nat} (h : v ≤ 2139095040) : FP.fcmp (UInt32.ofNat v) (UInt32.ofNat v) = some .eq := by
  show FP.Core.order (FP.Core.decode FP.Core.b32 (UInt32.ofNat v).toNat) (FP.Core.decode FP.Core.b32 (UInt32.ofNat v).toNat) = some .eq
  rw [u32 h]
  have hc : ∀ z : Int, compare z z = .eq := fun z => by simp [compare, compareOfLessAndEq]
  have hn := (F_dec h _ rfl).1
  cases hd : FP.Core.decode FP.Core.b32 v with
  | nan => exact absurd hd hn
  | inf s => exact congrArg some (hc _)
  | fin s c q => exact congrArg some (hc _)
/-- the float of a count -/
theorem F_i2f {n : Nat} (h : n < 16777216) : ∃ v, v < 2139095040 ∧ (n ≠ 0 → v ≠ 0) ∧ FP.i2f (nI n) = UInt32.ofNat v := by
  have ei : (nI n).toInt = (n : Int) := Int32.toInt_ofNat_of_lt (by omega)
  have e0 : FP.i2f (nI n) = UInt32.ofNat (FP.Core.encode FP.Core.b32 (FP.Core.roundRatio FP.Core.b32 false n 1 0)) := by
    show UInt32.ofNat (FP.Core.encode FP.Core.b32 (FP.Core.round FP.Core.b32 (FP.Core.ofInt (nI n).toInt))) = _
    rw [ei]
    unfold FP.Core.ofInt
    rw [decide_eq_false (show ¬ (n : Int) < 0 by omega), Int.natAbs_natCast]
    rfl
  by_cases c : n = 0
  · subst c
    refine ⟨0, by decide, fun q => absurd rfl q, ?_⟩
    rw [e0]
    decide
  · have l1 : 2 ^ n.log2 ≤ n := Nat.log2_self_le c
    have l2 : n < 2 ^ (n.log2 + 1) := Nat.lt_log2_self
    have l3 : n.log2 < 24 := by
      rcases Nat.lt_or_ge n.log2 24 with q | q
      · exact q
      · have := Nat.pow_le_pow_right (show 0 < 2 by decide) q
        omega
    have hld : FP.Core.leading n 1 = (n.log2 : Int) := by
      unfold FP.Core.leading
      rw [show Nat.log2 1 = 0 from by decide]
      show (if 1 * 2 ^ ((n.log2 : Int) - ((0 : Nat) : Int)).toNat ≤ n * 2 ^ (-((n.log2 : Int) - ((0 : Nat) : Int))).toNat then ((n.log2 : Int) - ((0 : Nat) : Int)) else _) = _
      rw [show ((n.log2 : Int) - ((0 : Nat) : Int)).toNat = n.log2 by omega, show (-((n.log2 : Int) - ((0 : Nat) : Int))).toNat = 0 by omega, if_pos (by omega)]
      omega
    have hq : FP.Core.quantum FP.Core.b32 n 1 0 = (n.log2 : Int) - 23 := by
      unfold FP.Core.quantum
      rw [hld, q_min, show (FP.Core.b32.p : Int) - 1 = 23 from by decide, Int.add_zero]
      exact Int.max_eq_right (by omega)
    obtain ⟨m, hm⟩ : ∃ m, m = n * 2 ^ (23 - n.log2) := ⟨_, rfl⟩
    have m1 : 8388608 ≤ m := by
      have h1 : 2 ^ n.log2 * 2 ^ (23 - n.log2) ≤ n * 2 ^ (23 - n.log2) := Nat.mul_le_mul_right _ l1
      rw [← Nat.pow_add, show n.log2 + (23 - n.log2) = 23 by omega] at h1
      omega
    have m2 : m < 16777216 := by
      have h1 : n * 2 ^ (23 - n.log2) < 2 ^ (n.log2 + 1) * 2 ^ (23 - n.log2) := Nat.mul_lt_mul_of_pos_right l2 (Nat.two_pow_pos _)
      rw [← Nat.pow_add, show n.log2 + 1 + (23 - n.log2) = 24 by omega] at h1
      omega
    have hr : FP.Core.roundRatio FP.Core.b32 false n 1 0 = .fin false m ((n.log2 : Int) - 23) := by
      unfold FP.Core.roundRatio FP.Core.roundAt FP.Core.unitsNum FP.Core.unitsDen
      rw [if_neg c, hq, show ((0 : Int) - ((n.log2 : Int) - 23)).toNat = 23 - n.log2 by omega, show ((n.log2 : Int) - 23 - 0).toNat = 0 by omega, ← hm]
      unfold FP.Core.nearest
      rw [show 1 * 2 ^ 0 = 1 from rfl, Nat.mod_one, if_pos (by decide), Nat.div_one]
      unfold FP.Core.settle FP.Core.bound
      rw [show (2 : Nat) ^ FP.Core.b32.p = 16777216 from by decide, if_pos m2, q_max, if_pos (by omega)]
    refine ⟨enc (n.log2 + 127) (m - 8388608), ?_, fun _ => ?_, ?_⟩
    · unfold enc
      omega
    · unfold enc
      omega
    · rw [e0, hr]
      show UInt32.ofNat (if m < FP.Core.Fmt.tails FP.Core.b32 then FP.Core.assemble FP.Core.b32 false 0 m else FP.Core.assemble FP.Core.b32 false ((((n.log2 : Int) - 23) - FP.Core.Fmt.qmin FP.Core.b32).toNat + 1) (m - FP.Core.Fmt.tails FP.Core.b32)) = _
      rw [q_tl, q_min, if_neg (by omega), e_as, show (((n.log2 : Int) - 23) - (-149)).toNat + 1 = n.log2 + 127 by omega]
theorem F_div {n d : Nat} (h1 : n < 16777216) (h2 : d < 16777216) (hd : d ≠ 0) : ∃ v, v ≤ 2139095040 ∧ FP.fdiv (FP.i2f (nI n)) (FP.i2f (nI d)) = UInt32.ofNat v := by
  obtain ⟨v, v1, v2, v3⟩ := F_i2f h1
  obtain ⟨w, w1, w2, w3⟩ := F_i2f h2
  rw [v3, w3]
  show ∃ u, u ≤ _ ∧ UInt32.ofNat (FP.Core.encode FP.Core.b32 (FP.Core.quotient FP.Core.b32 (FP.Core.decode FP.Core.b32 (UInt32.ofNat v).toNat) (FP.Core.decode FP.Core.b32 (UInt32.ofNat w).toNat))) = UInt32.ofNat u
  rw [u32 (show v ≤ 2139095040 by omega), u32 (show w ≤ 2139095040 by omega)]
  refine ⟨_, ?_, rfl⟩
  obtain ⟨-, b1, b2⟩ := F_dec (show w ≤ 2139095040 by omega) _ rfl
  obtain ⟨c2, q2, e2, n2⟩ := b1 w1 (w2 hd)
  obtain ⟨-, a1, a2⟩ := F_dec (show v ≤ 2139095040 by omega) _ rfl
  obtain ⟨c1, q1, e1⟩ : ∃ c1 q1, FP.Core.decode FP.Core.b32 v = .fin false c1 q1 := by
    by_cases c : v = 0
    · exact ⟨0, -149, a2 c⟩
    · obtain ⟨c1, q1, e, -⟩ := a1 v1 c
      exact ⟨c1, q1, e⟩
  rw [e1, e2]
  apply F_enc
  show isF (if c2 = 0 then _ else FP.Core.roundRatio FP.Core.b32 (false != false) c1 c2 (q1 - q2))
  rw [if_neg n2]
  exact F_rat
end A7
