/-! pure rows: values of guarded functions, numbers, tables -/
def wp {α : Type} (o : Option α) (P : α → Prop) : Prop := ∃ u, o = some u ∧ P u
theorem wp_s {α : Type} {a : α} {P : α → Prop} (h : P a) : wp (some a) P := ⟨a, rfl, h⟩
theorem wp_b {α β : Type} {o : Option α} {f : α → Option β} {P : β → Prop} (h : wp o (fun t => wp (f t) P)) : wp (o.bind f) P := by
  obtain ⟨a, rfl, h2⟩ := h
  exact h2
theorem wp_e {α : Type} {o : Option α} {a : α} {P : α → Prop} (h : o = some a) (hp : P a) : wp o P := ⟨a, h, hp⟩
theorem wp_be {α β : Type} {o : Option α} {a : α} {f : α → Option β} {P : β → Prop} (h : o = some a) (hp : wp (f a) P) : wp (o.bind f) P := by
  subst h
  exact hp
theorem wp_w {α : Type} {o : Option α} {P R : α → Prop} (h : wp o P) (hp : ∀ a, P a → R a) : wp o R := by
  obtain ⟨a, ha, h2⟩ := h
  exact ⟨a, ha, hp a h2⟩
theorem wp_bw {α β : Type} {o : Option α} {f : α → Option β} {R : α → Prop} {P : β → Prop} (h : wp o R) (hp : ∀ a, R a → wp (f a) P) : wp (o.bind f) P := by
  obtain ⟨a, rfl, h2⟩ := h
  exact hp a h2
theorem wp_i {α : Type} {c : Prop} [Decidable c] {a b : Option α} {P : α → Prop} (h1 : c → wp a P) (h2 : ¬ c → wp b P) : wp (if c then a else b) P := by
  by_cases h : c
  · rw [if_pos h]; exact h1 h
  · rw [if_neg h]; exact h2 h
theorem rn_gI {α : Type} {n N : Nat} {o : Option α} (h : n < N) (hN : N < 2 ^ 31) : rn_g (nI n) N o = o := by
  unfold rn_g
  rw [nI_toInt (by omega)]
  exact if_pos ⟨by omega, by omega⟩
theorem rn_gX {α : Type} {x : Int32} {n N : Nat} {o : Option α} (hx : x = nI n) (h : n < N) (hN : N < 2 ^ 31) : rn_g x N o = o := by
  subst hx
  exact rn_gI h hN
theorem wp_g {α : Type} {x : Int32} {n N : Nat} {o : Option α} {P : α → Prop} (hx : x = nI n) (h : n < N) (hN : N < 2 ^ 31) (hp : wp o P) : wp (rn_g x N o) P := by
  rw [rn_gX hx h hN]
  exact hp
theorem wp_l {α β : Type} {e : α} {f : α → Option β} {P : β → Prop} (h : wp (f e) P) : wp (rn_let e f) P := h
theorem rn_lt {α β : Type} (e : α) (f : α → Option β) : rn_let e f = f e := rfl
theorem rn_bs {α β : Type} (a : α) (f : α → Option β) : (some a).bind f = f a := rfl
theorem cl_of {x : Int32} {n : Nat} (hx : x = nI n) (h : n < 2 ^ 31) : x.toNatClampNeg = n := by
  subst hx
  exact nI_clamp h
theorem at_of {α : Type} {f : Nat → α} {x : Int32} {n : Nat} (hx : x = nI n) (h : n < 2 ^ 31) : f x.toNatClampNeg = f n := by rw [cl_of hx h]
theorem nI_m (a b : Nat) : nI a * nI b = nI (a * b) := pk_mul a b
theorem nI_lin {a b c : Nat} {A B C x y : Int32} (hA : A = nI a) (hB : B = nI b) (hx : x = nI c) (hC : y = A + B * x) : y = nI (a + b * c) := by
  subst hA
  subst hB
  subst hx
  rw [hC, pk_mul, nI_add]
/-- a table's place -/
theorem tget {R C n i q : Nat} {c : Nat → Int32} (hn : n = R * C) (hs : R * C < 2 ^ 31) (hi : i < R) (hq : q < C) : fX4_get (nI R) (nI C) n c (nI i) (nI q) = some (c (C * i + q)) := by
  have h1 : i * C + q < R * C := by
    have h2 : (i + 1) * C ≤ R * C := Nat.mul_le_mul_right C hi
    rw [Nat.add_mul] at h2
    omega
  have hR : R < 2 ^ 31 := by
    have : R * 1 ≤ R * C := Nat.mul_le_mul_left R (by omega)
    omega
  have hC : C < 2 ^ 31 := by
    have : 1 * C ≤ R * C := Nat.mul_le_mul_right C (by omega)
    omega
  have e : nI i * nI C + nI q = nI (i * C + q) := by rw [pk_mul, nI_add]
  unfold fX4_get
  rw [if_neg (nI_pos (by omega)), if_neg (nI_ge hi hR), if_neg (nI_pos (by omega)), if_pos (nI_lt hq hC), e, if_neg (nI_pos (by omega)), if_neg (show ¬ Int32.ofNat n ≤ nI (i * C + q) from nI_ge (b := n) (by omega) (by omega)), rn_gI (by omega) (by omega), nI_clamp (by omega), Nat.mul_comm i C]
theorem tset {R C n i q : Nat} {c : Nat → Int32} {v : Int32} (hn : n = R * C) (hs : R * C < 2 ^ 31) (hi : i < R) (hq : q < C) : fX4_set (nI R) (nI C) n c (nI i) (nI q) v = some (upd c (C * i + q) v) := by
  have h1 : i * C + q < R * C := by
    have h2 : (i + 1) * C ≤ R * C := Nat.mul_le_mul_right C hi
    rw [Nat.add_mul] at h2
    omega
  have hR : R < 2 ^ 31 := by
    have : R * 1 ≤ R * C := Nat.mul_le_mul_left R (by omega)
    omega
  have hC : C < 2 ^ 31 := by
    have : 1 * C ≤ R * C := Nat.mul_le_mul_right C (by omega)
    omega
  have e : nI i * nI C + nI q = nI (i * C + q) := by rw [pk_mul, nI_add]
  unfold fX4_set
  rw [if_neg (nI_pos (by omega)), if_neg (nI_ge hi hR), if_neg (nI_pos (by omega)), if_pos (nI_lt hq hC), e, if_neg (nI_pos (by omega)), if_neg (show ¬ Int32.ofNat n ≤ nI (i * C + q) from nI_ge (b := n) (by omega) (by omega)), rn_gI (by omega) (by omega), rn_lt, nI_clamp (by omega), Nat.mul_comm i C]
theorem tadd {R C n i q : Nat} {c : Nat → Int32} {v : Int32} (hn : n = R * C) (hs : R * C < 2 ^ 31) (hi : i < R) (hq : q < C) : fX4_add (nI R) (nI C) n c (nI i) (nI q) v = some (upd c (C * i + q) (c (C * i + q) + v)) := by
  unfold fX4_add
  rw [tget hn hs hi hq, rn_bs, tset hn hs hi hq, rn_bs]
/-- the model's rows -/
theorem oS {st : Nat → Int32} {i q : Nat} (hi : i < 8) (hq : q < 7) : fX7_ofStation st (nI i) (nI q) = some (qS st i q) := by
  have e : ((8 : Int32) + (7 : Int32) * nI i) + nI q = nI (8 + 7 * i + q) := by
    rw [show (8 : Int32) = nI 8 from rfl, show (7 : Int32) = nI 7 from rfl, pk_mul, nI_add, nI_add]
  unfold fX7_ofStation qS
  rw [e, rn_gI (by omega) (by omega), nI_clamp (by omega)]
theorem oL {st : Nat → Int32} {i q : Nat} (hi : i < 16) (hq : q < 8) : fX7_ofLink st (nI i) (nI q) = some (qL st i q) := by
  have e : ((64 : Int32) + (8 : Int32) * nI i) + nI q = nI (64 + 8 * i + q) := by
    rw [show (8 : Int32) = nI 8 from rfl, show (64 : Int32) = nI 64 from rfl, pk_mul, nI_add, nI_add]
  unfold fX7_ofLink qL
  rw [e, rn_gI (by omega) (by omega), nI_clamp (by omega)]
theorem oM {st : Nat → Int32} {i q : Nat} (hi : i < 24) (hq : q < 8) : fX7_ofMessage st (nI i) (nI q) = some (qM st i q) := by
  have e : ((192 : Int32) + (8 : Int32) * nI i) + nI q = nI (192 + 8 * i + q) := by
    rw [show (8 : Int32) = nI 8 from rfl, show (192 : Int32) = nI 192 from rfl, pk_mul, nI_add, nI_add]
  unfold fX7_ofMessage qM
  rw [e, rn_gI (by omega) (by omega), nI_clamp (by omega)]
theorem oP {k s : Nat} : fX7_copyPlace (nI k) (nI s) = some (nI (384 + 12 * (8 * k + s))) := by
  unfold fX7_copyPlace
  rw [show (384 : Int32) = nI 384 from rfl, show (12 : Int32) = nI 12 from rfl, show (8 : Int32) = nI 8 from rfl, pk_mul, nI_add, pk_mul, nI_add]
theorem oC {st : Nat → Int32} {k s q : Nat} (hk : k < 24) (hs : s < 8) (hq : q < 12) : fX7_ofCopy st (nI k) (nI s) (nI q) = some (qC st k s q) := by
  unfold fX7_ofCopy qC
  rw [oP, rn_bs, nI_add, rn_gI (by omega) (by omega), nI_clamp (by omega)]
theorem rw2 {k s : Nat} : fX2_copyRow (nI k) (nI s) = some (nI (8 * k + s)) := by
  unfold fX2_copyRow
  rw [show (8 : Int32) = nI 8 from rfl, pk_mul, nI_add, Nat.mul_comm]
/-- the class's tables -/
theorem tS {c : Nat → Int32} {i q : Nat} (hi : i < 8) (hq : q < 10) : fX4_get (8 : Int32) (10 : Int32) 80 c (nI i) (nI q) = some (c (10 * i + q)) := tget (R := 8) (C := 10) rfl (by decide) hi hq
theorem tL {c : Nat → Int32} {i q : Nat} (hi : i < 16) (hq : q < 9) : fX4_get (16 : Int32) (9 : Int32) 144 c (nI i) (nI q) = some (c (9 * i + q)) := tget (R := 16) (C := 9) rfl (by decide) hi hq
theorem tM {c : Nat → Int32} {i q : Nat} (hi : i < 24) (hq : q < 12) : fX4_get (24 : Int32) (12 : Int32) 288 c (nI i) (nI q) = some (c (12 * i + q)) := tget (R := 24) (C := 12) rfl (by decide) hi hq
theorem tC {c : Nat → Int32} {r q : Nat} (hi : r < 192) (hq : q < 5) : fX4_get (192 : Int32) (5 : Int32) 960 c (nI r) (nI q) = some (c (5 * r + q)) := tget (R := 192) (C := 5) rfl (by decide) hi hq
theorem tF {c : Nat → Int32} {i q : Nat} (hi : i < 9) (hq : q < 2) : fX4_get (9 : Int32) (2 : Int32) 18 c (nI i) (nI q) = some (c (2 * i + q)) := tget (R := 9) (C := 2) rfl (by decide) hi hq
theorem tE {c : Nat → Int32} {i q : Nat} (hi : i < 40) (hq : q < 5) : fX4_get (40 : Int32) (5 : Int32) 200 c (nI i) (nI q) = some (c (5 * i + q)) := tget (R := 40) (C := 5) rfl (by decide) hi hq
theorem uS {c : Nat → Int32} {i q : Nat} {v : Int32} (hi : i < 8) (hq : q < 10) : fX4_set (8 : Int32) (10 : Int32) 80 c (nI i) (nI q) v = some (upd c (10 * i + q) v) := tset (R := 8) (C := 10) rfl (by decide) hi hq
theorem uL {c : Nat → Int32} {i q : Nat} {v : Int32} (hi : i < 16) (hq : q < 9) : fX4_set (16 : Int32) (9 : Int32) 144 c (nI i) (nI q) v = some (upd c (9 * i + q) v) := tset (R := 16) (C := 9) rfl (by decide) hi hq
theorem uM {c : Nat → Int32} {i q : Nat} {v : Int32} (hi : i < 24) (hq : q < 12) : fX4_set (24 : Int32) (12 : Int32) 288 c (nI i) (nI q) v = some (upd c (12 * i + q) v) := tset (R := 24) (C := 12) rfl (by decide) hi hq
theorem uC {c : Nat → Int32} {r q : Nat} {v : Int32} (hi : r < 192) (hq : q < 5) : fX4_set (192 : Int32) (5 : Int32) 960 c (nI r) (nI q) v = some (upd c (5 * r + q) v) := tset (R := 192) (C := 5) rfl (by decide) hi hq
theorem uF {c : Nat → Int32} {i q : Nat} {v : Int32} (hi : i < 9) (hq : q < 2) : fX4_set (9 : Int32) (2 : Int32) 18 c (nI i) (nI q) v = some (upd c (2 * i + q) v) := tset (R := 9) (C := 2) rfl (by decide) hi hq
theorem uE {c : Nat → Int32} {i q : Nat} {v : Int32} (hi : i < 40) (hq : q < 5) : fX4_set (40 : Int32) (5 : Int32) 200 c (nI i) (nI q) v = some (upd c (5 * i + q) v) := tset (R := 40) (C := 5) rfl (by decide) hi hq
theorem aS {c : Nat → Int32} {i q : Nat} {v : Int32} (hi : i < 8) (hq : q < 10) : fX4_add (8 : Int32) (10 : Int32) 80 c (nI i) (nI q) v = some (upd c (10 * i + q) (c (10 * i + q) + v)) := tadd (R := 8) (C := 10) rfl (by decide) hi hq
theorem aL {c : Nat → Int32} {i q : Nat} {v : Int32} (hi : i < 16) (hq : q < 9) : fX4_add (16 : Int32) (9 : Int32) 144 c (nI i) (nI q) v = some (upd c (9 * i + q) (c (9 * i + q) + v)) := tadd (R := 16) (C := 9) rfl (by decide) hi hq
theorem aM {c : Nat → Int32} {i q : Nat} {v : Int32} (hi : i < 24) (hq : q < 12) : fX4_add (24 : Int32) (12 : Int32) 288 c (nI i) (nI q) v = some (upd c (12 * i + q) (c (12 * i + q) + v)) := tadd (R := 24) (C := 12) rfl (by decide) hi hq
theorem aC {c : Nat → Int32} {r q : Nat} {v : Int32} (hi : r < 192) (hq : q < 5) : fX4_add (192 : Int32) (5 : Int32) 960 c (nI r) (nI q) v = some (upd c (5 * r + q) (c (5 * r + q) + v)) := tadd (R := 192) (C := 5) rfl (by decide) hi hq
/-- comparisons of numbers -/
theorem nI_rem {a d : Nat} (ha : a < 2 ^ 31) (h0 : 0 < d) (hd : d < 2 ^ 31) : rn_rem (nI a) (nI d) = nI (a % d) := pk_rem ha h0 hd
def b2 (b : Bool) : Int32 := if b = true then 1 else 0
theorem b2_0 {b : Bool} : b2 b = 0 ↔ b = false := by cases b <;> decide
theorem in7 {u v h : Nat} (hu : u < 24) (hv : v < 24) (hh : h < 24) : fX7_isWithin (nI h) (nI u) (nI v) = some (b2 (q_in u v h)) := by
  unfold fX7_isWithin fX7_isBetween q_in b2
  by_cases h1 : u ≤ v
  · rw [if_neg (nI_nlt h1 (by omega)), if_pos h1]
    by_cases h2 : h < u
    · rw [if_pos (nI_lt h2 (by omega)), rn_bs, if_neg (by simp; omega)]
    · rw [if_neg (nI_nlt (by omega) (by omega))]
      by_cases h3 : v < h
      · rw [if_pos (nI_lt h3 (by omega)), rn_bs, if_neg (by simp; omega)]
      · rw [if_neg (nI_nlt (by omega) (by omega)), rn_bs, if_pos (by simp; omega)]
  · rw [if_pos (nI_lt (by omega) (by omega)), if_neg h1]
    by_cases h2 : u ≤ h
    · rw [if_pos (nI_le h2 (by omega)), if_pos (by simp; omega)]
    · rw [if_neg (nI_ge (by omega) (by omega))]
      by_cases h3 : v < h
      · rw [if_pos (nI_lt h3 (by omega)), if_neg (by simp; omega)]
      · rw [if_neg (nI_nlt (by omega) (by omega)), if_pos (by simp; omega)]
theorem in2 {u v h : Nat} (hu : u < 24) (hv : v < 24) (hh : h < 24) : fX2_isWithin (nI u) (nI v) (nI h) = some (b2 (q_in u v h)) := by
  unfold fX2_isWithin q_in b2
  by_cases h1 : u ≤ v
  · rw [if_neg (nI_nlt h1 (by omega)), if_pos h1]
    by_cases h2 : h < u
    · rw [if_pos (nI_lt h2 (by omega)), if_neg (by simp; omega)]
    · rw [if_neg (nI_nlt (by omega) (by omega))]
      by_cases h3 : v < h
      · rw [if_pos (nI_lt h3 (by omega)), if_neg (by simp; omega)]
      · rw [if_neg (nI_nlt (by omega) (by omega)), if_pos (by simp; omega)]
  · rw [if_pos (nI_lt (by omega) (by omega)), if_neg h1]
    by_cases h2 : u ≤ h
    · rw [if_pos (nI_le h2 (by omega)), if_pos (by simp; omega)]
    · rw [if_neg (nI_ge (by omega) (by omega))]
      by_cases h3 : v < h
      · rw [if_pos (nI_lt h3 (by omega)), if_neg (by simp; omega)]
      · rw [if_neg (nI_nlt (by omega) (by omega)), if_pos (by simp; omega)]
theorem rg_cl {x : Int32} {n : Nat} (h : rg x n) (hn : n < 2 ^ 31) : x.toNatClampNeg < n ∧ x = nI x.toNatClampNeg := by
  obtain ⟨u, hu, rfl⟩ := h
  rw [nI_clamp (by omega)]
  exact ⟨hu, rfl⟩
theorem on7 {a t i : Nat} {st : Nat → Int32} (gS : gd_S a st) (hi : i < a) (ha : a ≤ 8) (ht : t < 2 ^ 30) : fX7_isOnAir st (nI i) (nI t) = some (b2 (q_on st i (t % 24))) := by
  have g := (gS i (by omega)).1 hi
  have e1 := rg_cl g.1 (by decide)
  have e2 := rg_cl g.2.1 (by decide)
  unfold fX7_isOnAir
  rw [show fX7_ofStation st (nI i) (0 : Int32) = some (qS st i 0) from oS (q := 0) (by omega) (by omega), rn_bs, show fX7_ofStation st (nI i) (1 : Int32) = some (qS st i 1) from oS (q := 1) (by omega) (by omega), rn_bs, show rn_rem (nI t) (24 : Int32) = nI (t % 24) from nI_rem (d := 24) (by omega) (by omega) (by omega), e1.2, e2.2, in7 e1.1 e2.1 (Nat.mod_lt _ (by omega)), rn_bs]
  rfl
theorem on2 {a h i : Nat} {stations st : Nat → Int32} (eS : ev_S stations st) (gS : gd_S a st) (hi : i < a) (ha : a ≤ 8) (hh : h < 24) : fX2_isOnAir stations (nI i) (nI h) = some (b2 (q_on st i h)) := by
  have g := (gS i (by omega)).1 hi
  have e1 := rg_cl g.1 (by decide)
  have e2 := rg_cl g.2.1 (by decide)
  have q1 : stations (10 * i + 0) = qS st i 0 := eS i 0 (by omega) (by omega)
  have q2 : stations (10 * i + 1) = qS st i 1 := eS i 1 (by omega) (by omega)
  unfold fX2_isOnAir
  rw [show fX4_get (8 : Int32) (10 : Int32) 80 stations (nI i) (0 : Int32) = some (qS st i 0) from (tS (q := 0) (by omega) (by omega)).trans (congrArg some q1), rn_bs, show fX4_get (8 : Int32) (10 : Int32) 80 stations (nI i) (1 : Int32) = some (qS st i 1) from (tS (q := 1) (by omega) (by omega)).trans (congrArg some q2), rn_bs, e1.2, e2.2, in2 e1.1 e2.1 hh, rn_bs]
  rfl
theorem op7 {a b t j : Nat} {st : Nat → Int32} (gS : gd_S a st) (gL : gd_L a b st) (hj : j < b) (ha : a ≤ 8) (hb : b ≤ 16) (ht : t < 2 ^ 30) : fX7_isOpen st (nI j) (nI t) = some (b2 (q_op st j (t % 24))) := by
  have g := (gL j (by omega)).1 hj
  have e0 := rg_cl g.1 (by omega)
  have e1 := rg_cl g.2.1 (by omega)
  have e2 := rg_cl g.2.2.2.1 (by decide)
  have e3 := rg_cl g.2.2.2.2.1 (by decide)
  unfold fX7_isOpen
  rw [show fX7_ofLink st (nI j) (2 : Int32) = some (qL st j 2) from oL (q := 2) (by omega) (by omega), rn_bs, show fX7_ofLink st (nI j) (3 : Int32) = some (qL st j 3) from oL (q := 3) (by omega) (by omega), rn_bs, show rn_rem (nI t) (24 : Int32) = nI (t % 24) from nI_rem (d := 24) (by omega) (by omega) (by omega), e2.2, e3.2, in7 e2.1 e3.1 (Nat.mod_lt _ (by omega)), rn_bs]
  rw [show fX7_ofLink st (nI j) (0 : Int32) = some (qL st j 0) from oL (q := 0) (by omega) (by omega), show fX7_ofLink st (nI j) (1 : Int32) = some (qL st j 1) from oL (q := 1) (by omega) (by omega), rn_bs, rn_bs, e0.2, e1.2, on7 gS e0.1 ha ht, on7 gS e1.1 ha ht, rn_bs, rn_bs]
  unfold q_op
  cases q_in (qL st j 2).toNatClampNeg (qL st j 3).toNatClampNeg (t % 24) <;> cases q_on st (qL st j 0).toNatClampNeg (t % 24) <;> cases q_on st (qL st j 1).toNatClampNeg (t % 24) <;> rfl
theorem op2 {a b h j : Nat} {stations links st : Nat → Int32} (eS : ev_S stations st) (eL : ev_L links st) (gS : gd_S a st) (gL : gd_L a b st) (hj : j < b) (ha : a ≤ 8) (hb : b ≤ 16) (hh : h < 24) : fX2_isOpen stations links (nI j) (nI h) = some (b2 (q_op st j h)) := by
  have g := (gL j (by omega)).1 hj
  have e0 := rg_cl g.1 (by omega)
  have e1 := rg_cl g.2.1 (by omega)
  have e2 := rg_cl g.2.2.2.1 (by decide)
  have e3 := rg_cl g.2.2.2.2.1 (by decide)
  have l0 : links (9 * j + 0) = qL st j 0 := eL j 0 (by omega) (by omega)
  have l1 : links (9 * j + 1) = qL st j 1 := eL j 1 (by omega) (by omega)
  have l2 : links (9 * j + 2) = qL st j 2 := eL j 2 (by omega) (by omega)
  have l3 : links (9 * j + 3) = qL st j 3 := eL j 3 (by omega) (by omega)
  unfold fX2_isOpen
  rw [show fX4_get (16 : Int32) (9 : Int32) 144 links (nI j) (2 : Int32) = some (qL st j 2) from (tL (q := 2) (by omega) (by omega)).trans (congrArg some l2), rn_bs, show fX4_get (16 : Int32) (9 : Int32) 144 links (nI j) (3 : Int32) = some (qL st j 3) from (tL (q := 3) (by omega) (by omega)).trans (congrArg some l3), rn_bs, e2.2, e3.2, in2 e2.1 e3.1 hh, rn_bs]
  rw [show fX4_get (16 : Int32) (9 : Int32) 144 links (nI j) (0 : Int32) = some (qL st j 0) from (tL (q := 0) (by omega) (by omega)).trans (congrArg some l0), show fX4_get (16 : Int32) (9 : Int32) 144 links (nI j) (1 : Int32) = some (qL st j 1) from (tL (q := 1) (by omega) (by omega)).trans (congrArg some l1), rn_bs, rn_bs, e0.2, e1.2, on2 eS gS e0.1 ha hh, on2 eS gS e1.1 ha hh, rn_bs, rn_bs]
  unfold q_op
  cases q_in (qL st j 2).toNatClampNeg (qL st j 3).toNatClampNeg h <;> cases q_on st (qL st j 0).toNatClampNeg h <;> cases q_on st (qL st j 1).toNatClampNeg h <;> rfl
