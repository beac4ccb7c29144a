/-! the model's small steps: what each changes of the counts, the copies, the log -/
section A0
variable {N : Nat} {st s1 s2 : Nat → Int32}
def nat0 : Nat → Nat → Nat := fun _ _ => 0
def one (i q : Nat) : Nat → Nat → Nat := fun i' q' => if i' = i ∧ q' = q then 1 else 0
def pl (f g : Nat → Nat → Nat) : Nat → Nat → Nat := fun i q => f i q + g i q
theorem one_s {i q : Nat} : one i q i q = 1 := if_pos ⟨rfl, rfl⟩
theorem one_n {i q i' q' : Nat} (h : ¬ (i' = i ∧ q' = q)) : one i q i' q' = 0 := if_neg h
/-- how much the counts grow; what the hour keeps -/
def dl (dS dL dM : Nat → Nat → Nat) (st st' : Nat → Int32) : Prop :=
  (∀ i q, i < 8 → q < 7 → qS st' i q = qS st i q + nI (dS i q)) ∧ (∀ j q, j < 16 → q < 8 → qL st' j q = qL st j q + nI (dL j q)) ∧ (∀ k q, k < 24 → q < 6 → qM st' k q = qM st k q + nI (dM k q)) ∧ ∀ j, j < 6 → st' j = st j
theorem nI_z (x : Int32) : x + nI 0 = x := Int32.add_zero x
theorem dl_w {dS dL dM dS' dL' dM' : Nat → Nat → Nat} (h : dl dS dL dM st s1) (e1 : ∀ i q, dS' i q = dS i q) (e2 : ∀ i q, dL' i q = dL i q) (e3 : ∀ i q, dM' i q = dM i q) : dl dS' dL' dM' st s1 :=
  ⟨fun i q a b => by rw [e1]; exact h.1 i q a b, fun i q a b => by rw [e2]; exact h.2.1 i q a b, fun i q a b => by rw [e3]; exact h.2.2.1 i q a b, h.2.2.2⟩
theorem dl_r : dl nat0 nat0 nat0 st st := ⟨fun i q _ _ => (nI_z _).symm, fun i q _ _ => (nI_z _).symm, fun i q _ _ => (nI_z _).symm, fun _ _ => rfl⟩
theorem dl_t {a b c a' b' c' : Nat → Nat → Nat} (h : dl a b c st s1) (h' : dl a' b' c' s1 s2) : dl (pl a a') (pl b b') (pl c c') st s2 :=
  ⟨fun i q hi hq => by show qS s2 i q = qS st i q + nI (a i q + a' i q); rw [h'.1 i q hi hq, h.1 i q hi hq, Int32.add_assoc, nI_add],
   fun i q hi hq => by show qL s2 i q = qL st i q + nI (b i q + b' i q); rw [h'.2.1 i q hi hq, h.2.1 i q hi hq, Int32.add_assoc, nI_add],
   fun i q hi hq => by show qM s2 i q = qM st i q + nI (c i q + c' i q); rw [h'.2.2.1 i q hi hq, h.2.2.1 i q hi hq, Int32.add_assoc, nI_add],
   fun j hj => (h'.2.2.2 j hj).trans (h.2.2.2 j hj)⟩
/-- the log stays -/
def evN (st st' : Nat → Int32) : Prop := st' 7 = st 7 ∧ sE st st'
/-- the log gets an event -/
def evA (kd : Nat) (o : Int32) (st st' : Nat → Int32) : Prop := ∃ e e0, st 7 = nI e ∧ e ≤ 40 ∧ e0 < 40 ∧ st' 7 = nI (e0 + 1) ∧ ((e = 40 ∧ e0 = 39 ∧ ∀ j q, j < 39 → q < 5 → qE st' j q = qE st (j + 1) q) ∨ (e < 40 ∧ e0 = e ∧ ∀ j q, j < e → q < 5 → qE st' j q = qE st j q)) ∧ qE st' e0 0 = st 3 ∧ qE st' e0 1 = nI kd ∧ qE st' e0 4 = o
theorem ad_S {i q : Nat} {v : Int32} (hi : i < 8) (h3 : 3 ≤ q) (hq : q < 7) (hv : v = st (8 + 7 * i + q) + 1) : dl (one i q) nat0 nat0 st (upd st (8 + 7 * i + q) v) ∧ sCc st (upd st (8 + 7 * i + q) v) ∧ evN st (upd st (8 + 7 * i + q) v) := by
  subst hv
  refine ⟨⟨fun i' q' hi' hq' => ?_, fun j q' hj hq' => ?_, fun k q' hk hq' => ?_, fun j hj => pk_un (by omega)⟩, fun k s q' a b c => pk_un (by omega), pk_un (by omega), fun j q' a b => pk_un (by omega)⟩
  · by_cases c : i' = i ∧ q' = q
    · obtain ⟨rfl, rfl⟩ := c
      rw [one_s]
      exact pk_us
    · rw [one_n c, nI_z]
      exact pk_un (by omega)
  · exact (pk_un (by omega)).trans (nI_z _).symm
  · exact (pk_un (by omega)).trans (nI_z _).symm
theorem ad_L {i q : Nat} {v : Int32} (hi : i < 16) (h3 : 5 ≤ q) (hq : q < 8) (hv : v = st (64 + 8 * i + q) + 1) : dl nat0 (one i q) nat0 st (upd st (64 + 8 * i + q) v) ∧ sCc st (upd st (64 + 8 * i + q) v) ∧ evN st (upd st (64 + 8 * i + q) v) := by
  subst hv
  refine ⟨⟨fun i' q' hi' hq' => ?_, fun j q' hj hq' => ?_, fun k q' hk hq' => ?_, fun j hj => pk_un (by omega)⟩, fun k s q' a b c => pk_un (by omega), pk_un (by omega), fun j q' a b => pk_un (by omega)⟩
  · exact (pk_un (by omega)).trans (nI_z _).symm
  · by_cases c : j = i ∧ q' = q
    · obtain ⟨rfl, rfl⟩ := c
      rw [one_s]
      exact pk_us
    · rw [one_n c, nI_z]
      exact pk_un (by omega)
  · exact (pk_un (by omega)).trans (nI_z _).symm
theorem ad_M {i q : Nat} {v : Int32} (hi : i < 24) (h3 : 4 ≤ q) (hq : q < 6) (hv : v = st (192 + 8 * i + q) + 1) : dl nat0 nat0 (one i q) st (upd st (192 + 8 * i + q) v) ∧ sCc st (upd st (192 + 8 * i + q) v) ∧ evN st (upd st (192 + 8 * i + q) v) := by
  subst hv
  refine ⟨⟨fun i' q' hi' hq' => ?_, fun j q' hj hq' => ?_, fun k q' hk hq' => ?_, fun j hj => pk_un (by omega)⟩, fun k s q' a b c => pk_un (by omega), pk_un (by omega), fun j q' a b => pk_un (by omega)⟩
  · exact (pk_un (by omega)).trans (nI_z _).symm
  · exact (pk_un (by omega)).trans (nI_z _).symm
  · by_cases c : k = i ∧ q' = q
    · obtain ⟨rfl, rfl⟩ := c
      rw [one_s]
      exact pk_us
    · rw [one_n c, nI_z]
      exact pk_un (by omega)
theorem dl_6 {v : Int32} : dl nat0 nat0 nat0 st (upd st 6 v) ∧ sCc st (upd st 6 v) ∧ evN st (upd st 6 v) :=
  ⟨⟨fun i q _ _ => (pk_un (by omega)).trans (nI_z _).symm, fun i q _ _ => (pk_un (by omega)).trans (nI_z _).symm, fun i q _ _ => (pk_un (by omega)).trans (nI_z _).symm, fun j hj => pk_un (by omega)⟩, fun k s q a b c => pk_un (by omega), pk_un (by omega), fun j q a b => pk_un (by omega)⟩
theorem dl_C {p : Nat} {v : Int32} (h1 : 384 ≤ p) (h2 : p < 2688) : dl nat0 nat0 nat0 st (upd st p v) ∧ evN st (upd st p v) :=
  ⟨⟨fun i q _ _ => (pk_un (by omega)).trans (nI_z _).symm, fun i q _ _ => (pk_un (by omega)).trans (nI_z _).symm, fun i q _ _ => (pk_un (by omega)).trans (nI_z _).symm, fun j hj => pk_un (by omega)⟩, pk_un (by omega), fun j q a b => pk_un (by omega)⟩
theorem dl_M6 {k q : Nat} {v : Int32} (hk : k < 24) (h1 : 6 ≤ q) (h2 : q < 8) : dl nat0 nat0 nat0 st (upd st (192 + 8 * k + q) v) ∧ sCc st (upd st (192 + 8 * k + q) v) ∧ evN st (upd st (192 + 8 * k + q) v) :=
  ⟨⟨fun i q _ _ => (pk_un (by omega)).trans (nI_z _).symm, fun i q _ _ => (pk_un (by omega)).trans (nI_z _).symm, fun i q _ _ => (pk_un (by omega)).trans (nI_z _).symm, fun j hj => pk_un (by omega)⟩, fun k s q a b c => pk_un (by omega), pk_un (by omega), fun j q a b => pk_un (by omega)⟩
theorem sCc_t (h1 : sCc st s1) (h2 : sCc s1 s2) : sCc st s2 := fun k s q a b c => (h2 k s q a b c).trans (h1 k s q a b c)
theorem evN_t (h1 : evN st s1) (h2 : evN s1 s2) : evN st s2 := ⟨h2.1.trans h1.1, fun j q a b => (h2.2 j q a b).trans (h1.2 j q a b)⟩
theorem evNA {kd : Nat} {o : Int32} (h1 : evN st s1) (h3 : s1 3 = st 3) (h2 : evA kd o s1 s2) : evA kd o st s2 := by
  obtain ⟨e, e0, a1, a2, a3, a4, a5, a6, a7, a8⟩ := h2
  refine ⟨e, e0, h1.1.symm.trans a1, a2, a3, a4, ?_, a6.trans h3, a7, a8⟩
  rcases a5 with ⟨b1, b2, b3⟩ | ⟨b1, b2, b3⟩
  · exact Or.inl ⟨b1, b2, fun j q hj hq => (b3 j q hj hq).trans (h1.2 (j + 1) q (by omega) hq)⟩
  · exact Or.inr ⟨b1, b2, fun j q hj hq => (b3 j q hj hq).trans (h1.2 j q (by omega) hq)⟩
/-- a note of an event -/
theorem nt7 {e tt kd k s : Nat} {o : Int32} (hN : 6000 ≤ N) (z7 : st 7 = nI e) (he : e ≤ 40) (z3 : st 3 = nI tt) :
    ∃ st', fX7_note N st (nI kd) (nI k) (nI s) o = some st' ∧ (∀ j, j < 2688 → j ≠ 7 → st' j = st j) ∧ evA kd o st st' := by
  have shift : ∀ (n i : Nat) (y : Nat → Int32), i ≤ 195 → 195 - i < n → (∀ j, (j < 2688 ∨ 2688 + i ≤ j) → y j = st j) → (∀ j, j < i → y (2688 + j) = st (2688 + j + 5)) → ∃ y', lX7_note_15 n (nI i) y = some y' ∧ (∀ j, j < 2688 → y' j = st j) ∧ ∀ j, j < 195 → y' (2688 + j) = st (2688 + j + 5) := by
    intro n
    induction n with
    | zero => intro i y _ h; omega
    | succ n ih =>
      intro i y hi hn h1 h2
      rw [lX7_note_15]
      rcases Nat.lt_or_ge i 195 with h | h
      · have e1 : (2688 : Int32) + nI i = nI (2688 + i) := by rw [show (2688 : Int32) = nI 2688 from rfl, nI_add]
        have e2 : nI (2688 + i) + (5 : Int32) = nI (2688 + i + 5) := by rw [show (5 : Int32) = nI 5 from rfl, nI_add]
        rw [if_neg (show ¬ (195 : Int32) ≤ nI i from nI_ge (b := 195) h (by decide)), e1, e2, rn_gI (by omega) (by decide), rn_gI (by omega) (by decide), rn_lt, nI_clamp (by omega), nI_clamp (by omega), nI_1]
        refine ih (i + 1) _ (by omega) (by omega) (fun j hj => ?_) (fun j hj => ?_)
        · rw [pk_un (by omega)]
          exact h1 j (by omega)
        · by_cases q : j = i
          · subst q
            rw [pk_us]
            exact h1 _ (by omega)
          · rw [pk_un (by omega)]
            exact h2 j (by omega)
      · have : i = 195 := by omega
        subst this
        rw [if_pos (show (195 : Int32) ≤ nI 195 from nI_le (a := 195) (Nat.le_refl _) (by decide))]
        exact ⟨y, rfl, fun j hj => h1 j (by omega), h2⟩
  have mid : ∃ st0 e0, e0 < 40 ∧ (if st 7 = (40 : Int32) then (lX7_note_15 N (0 : Int32) st).bind fun t4 => rn_let (upd t4 7 ((t4 7) - (1 : Int32))) fun w11 => some w11 else some st) = some st0 ∧ st0 7 = nI e0 ∧ (∀ j, j < 2688 → j ≠ 7 → st0 j = st j) ∧ ((e = 40 ∧ e0 = 39 ∧ ∀ j q, j < 39 → q < 5 → qE st0 j q = qE st (j + 1) q) ∨ (e < 40 ∧ e0 = e ∧ ∀ j q, j < e → q < 5 → qE st0 j q = qE st j q)) := by
    by_cases c : e = 40
    · obtain ⟨y', w1, w2, w3⟩ := shift N 0 st (by omega) (by omega) (fun j _ => rfl) (fun j hj => by omega)
      refine ⟨upd y' 7 (y' 7 - 1), 39, by decide, ?_, ?_, fun j hj hj7 => by rw [pk_un hj7]; exact w2 j hj, Or.inl ⟨c, rfl, fun j q hj hq => ?_⟩⟩
      · rw [if_pos (by rw [z7, c]; rfl), show lX7_note_15 N (0 : Int32) st = some y' from w1, rn_bs, rn_lt]
      · rw [pk_us, w2 7 (by decide), z7, c]
        rfl
      · unfold qE
        rw [pk_un (by omega), show 2688 + 5 * j + q = 2688 + (5 * j + q) by omega, w3 _ (by omega)]
        exact congrArg st (by omega)
    · refine ⟨st, e, by omega, ?_, z7, fun j _ _ => rfl, Or.inr ⟨by omega, rfl, fun j q _ _ => rfl⟩⟩
      rw [if_neg (fun q => by
          rw [z7] at q
          have := (nI_eq (b := 40) (by omega) (by decide)).mp q
          omega)]
  obtain ⟨st0, e0, b1, b2, b3, b4, b5⟩ := mid
  have p0 : (2688 : Int32) + (5 : Int32) * nI e0 = nI (2688 + 5 * e0) := by rw [show (5 : Int32) = nI 5 from rfl, pk_mul, show (2688 : Int32) = nI 2688 from rfl, nI_add]
  have c0 : (nI (2688 + 5 * e0)).toNatClampNeg = 2688 + 5 * e0 := nI_clamp (by omega)
  have pp : ∀ q : Nat, q < 5 → (nI (2688 + 5 * e0 + q)).toNatClampNeg = 2688 + 5 * e0 + q := fun q hq => nI_clamp (by omega)
  have gg : ∀ q : Nat, q < 5 → ∀ {α : Type} {o : Option α}, rn_g (nI (2688 + 5 * e0 + q)) 2888 o = o := fun q hq => rn_gI (by omega) (by decide)
  have a1 : nI (2688 + 5 * e0) + (1 : Int32) = nI (2688 + 5 * e0 + 1) := nI_add _ 1
  have a2 : nI (2688 + 5 * e0) + (2 : Int32) = nI (2688 + 5 * e0 + 2) := nI_add _ 2
  have a3 : nI (2688 + 5 * e0) + (3 : Int32) = nI (2688 + 5 * e0 + 3) := nI_add _ 3
  have a4 : nI (2688 + 5 * e0) + (4 : Int32) = nI (2688 + 5 * e0 + 4) := nI_add _ 4
  refine ⟨upd (upd (upd (upd (upd (upd st0 (2688 + 5 * e0) (nI tt)) (2688 + 5 * e0 + 1) (nI kd)) (2688 + 5 * e0 + 2) (nI k)) (2688 + 5 * e0 + 3) (nI s)) (2688 + 5 * e0 + 4) o) 7 (nI (e0 + 1)), ?_, fun j hj hj7 => ?_, e, e0, z7, he, b1, pk_us, ?_, ?_, ?_, ?_⟩
  · unfold fX7_note
    simp only [g7, g3, cl7, cl3]
    rw [b2, rn_bs]
    simp only [rn_lt, b3, p0, a1, a2, a3, a4, c0, pp 1 (by decide), pp 2 (by decide), pp 3 (by decide), pp 4 (by decide), gg 1 (by decide), gg 2 (by decide), gg 3 (by decide), gg 4 (by decide)]
    rw [rn_gI (by omega) (by decide), b4 3 (by decide) (by decide), z3, pk_un (by omega), pk_un (by omega), pk_un (by omega), pk_un (by omega), pk_un (by omega), b3, nI_1]
  · rw [pk_un hj7, pk_un (by omega), pk_un (by omega), pk_un (by omega), pk_un (by omega), pk_un (by omega)]
    exact b4 j hj hj7
  · have d4 : ∀ j q, j ≠ e0 → j < 40 → q < 5 → qE (upd (upd (upd (upd (upd (upd st0 (2688 + 5 * e0) (nI tt)) (2688 + 5 * e0 + 1) (nI kd)) (2688 + 5 * e0 + 2) (nI k)) (2688 + 5 * e0 + 3) (nI s)) (2688 + 5 * e0 + 4) o) 7 (nI (e0 + 1))) j q = qE st0 j q := fun j q hj h40 hq => by
      unfold qE
      rw [pk_un (by omega), pk_un (by omega), pk_un (by omega), pk_un (by omega), pk_un (by omega), pk_un (by omega)]
    rcases b5 with ⟨r1, r2, r3⟩ | ⟨r1, r2, r3⟩
    · exact Or.inl ⟨r1, r2, fun j q hj hq => (d4 j q (by omega) (by omega) hq).trans (r3 j q hj hq)⟩
    · exact Or.inr ⟨r1, r2, fun j q hj hq => (d4 j q (by omega) (by omega) hq).trans (r3 j q hj hq)⟩
  · unfold qE
    rw [pk_un (by omega), pk_un (by omega), pk_un (by omega), pk_un (by omega), pk_un (by omega), Nat.add_zero, pk_us, z3]
  · unfold qE
    rw [pk_un (by omega), pk_un (by omega), pk_un (by omega), pk_un (by omega), pk_us]
  · unfold qE
    rw [pk_un (by omega), pk_us]
theorem dl_nt (h : ∀ j, j < 2688 → j ≠ 7 → s1 j = st j) : dl nat0 nat0 nat0 st s1 ∧ sCc st s1 :=
  ⟨⟨fun i q _ _ => (h _ (by omega) (by omega)).trans (nI_z _).symm, fun i q _ _ => (h _ (by omega) (by omega)).trans (nI_z _).symm, fun i q _ _ => (h _ (by omega) (by omega)).trans (nI_z _).symm, fun j hj => h j (by omega) (by omega)⟩, fun k s q a b c => h _ (by omega) (by omega)⟩
/-- a copy ends -/
theorem en7 {e tt kd k s w : Nat} {o : Int32} (hN : 6000 ≤ N) (z7 : st 7 = nI e) (he : e ≤ 40) (z3 : st 3 = nI tt) (hk : k < 24) (hs : s < 8) :
    ∃ st', fX7_endCopy N st (nI k) (nI s) (nI w) (nI kd) o = some st' ∧ dl nat0 nat0 nat0 st st' ∧ (∀ k' s' q, k' < 24 → s' < 8 → q < 12 → ¬ (k' = k ∧ s' = s ∧ q = 0) → qC st' k' s' q = qC st k' s' q) ∧ qC st' k s 0 = nI w ∧ qM st' k 6 = nI s ∧ qM st' k 7 = o ∧ st' 6 = st 6 ∧ evA kd o st st' := by
  obtain ⟨y, hy⟩ : ∃ y, y = upd (upd (upd st (384 + 12 * (8 * k + s)) (nI w)) (192 + 8 * k + 6) (nI s)) (192 + 8 * k + 7) o := ⟨_, rfl⟩
  have un : ∀ p, ¬ p = 384 + 12 * (8 * k + s) → ¬ p = 192 + 8 * k + 6 → ¬ p = 192 + 8 * k + 7 → y p = st p := fun p a1 a2 a3 => by rw [hy, pk_un a3, pk_un a2, pk_un a1]
  obtain ⟨st', n1, n2, n3⟩ := nt7 (st := y) (e := e) (tt := tt) (kd := kd) (k := k) (s := s) (o := o) hN (by rw [un 7 (by omega) (by omega) (by omega)]; exact z7) he (by rw [un 3 (by omega) (by omega) (by omega)]; exact z3)
  obtain ⟨d1, d2⟩ := dl_nt n2
  have D : dl nat0 nat0 nat0 st y := ⟨fun i q _ _ => (un _ (by omega) (by omega) (by omega)).trans (nI_z _).symm, fun i q _ _ => (un _ (by omega) (by omega) (by omega)).trans (nI_z _).symm, fun i q _ _ => (un _ (by omega) (by omega) (by omega)).trans (nI_z _).symm, fun j hj => un j (by omega) (by omega) (by omega)⟩
  refine ⟨st', ?_, dl_w (dl_t D d1) (fun _ _ => rfl) (fun _ _ => rfl) (fun _ _ => rfl), fun k' s' q a1 a2 a3 a4 => ?_, ?_, ?_, ?_, ?_, evNA ⟨un 7 (by omega) (by omega) (by omega), fun j q _ _ => un _ (by omega) (by omega) (by omega)⟩ (un 3 (by omega) (by omega) (by omega)) n3⟩
  · unfold fX7_endCopy
    rw [oP, rn_bs, show nI (384 + 12 * (8 * k + s)) + (0 : Int32) = nI (384 + 12 * (8 * k + s)) from Int32.add_zero _, rn_gI (by omega) (by decide), rn_lt, nI_clamp (by omega), show ((192 : Int32) + (8 : Int32) * nI k) + (6 : Int32) = nI (192 + 8 * k + 6) from mPl k 6, rn_gI (by omega) (by decide), rn_lt, nI_clamp (by omega), show ((192 : Int32) + (8 : Int32) * nI k) + (7 : Int32) = nI (192 + 8 * k + 7) from mPl k 7, rn_gI (by omega) (by decide), rn_lt, nI_clamp (by omega), ← hy, n1, rn_bs]
  · rw [d2 k' s' q a1 a2 a3]
    exact un _ (by omega) (by omega) (by omega)
  · rw [d2 k s 0 hk hs (by decide)]
    unfold qC
    rw [hy, pk_un (by omega), pk_un (by omega)]
    exact pk_us
  · unfold qM
    rw [n2 _ (by omega) (by omega), hy, pk_un (by omega), pk_us]
  · unfold qM
    rw [n2 _ (by omega) (by omega), hy, pk_us]
  · rw [n2 6 (by decide) (by decide), un 6 (by omega) (by omega) (by omega)]
/-- one more try -/
theorem ty7 {e tt k s : Nat} {o : Int32} (hN : 6000 ≤ N) (z7 : st 7 = nI e) (he : e ≤ 40) (z3 : st 3 = nI tt) (hk : k < 24) (hs : s < 8) :
    ∃ st', fX7_tryAgain N st (nI k) (nI s) o = some st' ∧ dl nat0 nat0 nat0 st st' ∧ (∀ k' s' q, k' < 24 → s' < 8 → q < 12 → ¬ (k' = k ∧ s' = s ∧ q < 2) → qC st' k' s' q = qC st k' s' q) ∧ (qC st' k s 0 = qC st k s 0 ∨ qC st' k s 0 = 3) ∧ st' 6 = st 6 ∧ (evN st st' ∨ evA 6 o st st') := by
  obtain ⟨y, hy⟩ : ∃ y, y = upd st (384 + 12 * (8 * k + s) + 1) (qC st k s 1 + 1) := ⟨_, rfl⟩
  have un : ∀ p, ¬ p = 384 + 12 * (8 * k + s) + 1 → y p = st p := fun p a1 => by rw [hy, pk_un a1]
  obtain ⟨D1, D2⟩ := dl_C (st := st) (p := 384 + 12 * (8 * k + s) + 1) (v := qC st k s 1 + 1) (by omega) (by omega)
  rw [← hy] at D1 D2
  have mdl : fX7_tryAgain N st (nI k) (nI s) o = (if qC st k s 1 + 1 < st 5 then some y else (fX7_endCopy N y (nI k) (nI s) (3 : Int32) (6 : Int32) o).bind fun t8 => some t8) := by
    unfold fX7_tryAgain
    simp only [oP, rn_bs, show nI (384 + 12 * (8 * k + s)) + (1 : Int32) = nI (384 + 12 * (8 * k + s) + 1) from nI_add _ 1, rn_lt, g5, cl5]
    rw [rn_gI (by omega) (by decide), rn_gI (by omega) (by decide), rn_gI (by omega) (by decide), nI_clamp (by omega), pk_us, pk_un (by omega), hy]
    rfl
  rw [mdl]
  by_cases c : qC st k s 1 + 1 < st 5
  · rw [if_pos c]
    exact ⟨y, rfl, D1, fun k' s' q a1 a2 a3 a4 => un _ (by omega), Or.inl (un _ (by omega)), un 6 (by omega), Or.inl D2⟩
  · rw [if_neg c]
    obtain ⟨st', n1, n2, n3, n4, -, -, n5, n6⟩ := en7 (st := y) (w := 3) (kd := 6) (o := o) hN (by rw [un 7 (by omega)]; exact z7) he (by rw [un 3 (by omega)]; exact z3) hk hs
    refine ⟨st', by rw [show fX7_endCopy N y (nI k) (nI s) (3 : Int32) (6 : Int32) o = _ from n1, rn_bs], dl_w (dl_t D1 n2) (fun _ _ => rfl) (fun _ _ => rfl) (fun _ _ => rfl), fun k' s' q a1 a2 a3 a4 => ?_, Or.inr n4, n5.trans (un 6 (by omega)), Or.inr (evNA D2 (un 3 (by omega)) n6)⟩
    rw [n3 k' s' q a1 a2 a3 (by omega)]
    exact un _ (by omega)
/-- a draw -/
theorem dr7 (h6 : rg (st 6) 1000003) : ∃ d u, d < 100 ∧ u < 1000003 ∧ fX7_draw st = some (nI d, upd st 6 (nI u)) := by
  obtain ⟨v, hv, e6⟩ := h6
  refine ⟨(1103 * v + 12345) % 1000003 % 100, (1103 * v + 12345) % 1000003, Nat.mod_lt _ (by decide), Nat.mod_lt _ (by decide), ?_⟩
  have e1 : (rn_lrem (((1103 : Int64) * (nI v).toInt64) + (12345 : Int64)) (1000003 : Int64)).toInt32 = nI ((1103 * v + 12345) % 1000003) := by
    rw [nI_l (by omega), show (1103 : Int64) = lN 1103 from rfl, lN_mul, show (12345 : Int64) = lN 12345 from rfl, lN_add, show (1000003 : Int64) = lN 1000003 from rfl, lrem_N (by omega) (by decide) (by decide), lN_i]
  unfold fX7_draw
  simp only [g6, cl6, rn_lt, e6, e1, pk_us]
  rw [show rn_rem (nI ((1103 * v + 12345) % 1000003)) (100 : Int32) = nI ((1103 * v + 12345) % 1000003 % 100) from nI_rem (d := 100) (by have := Nat.mod_lt (1103 * v + 12345) (show 0 < 1000003 by decide); omega) (by decide) (by decide)]
end A0
