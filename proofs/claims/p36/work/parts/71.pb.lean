/-! pure rows: loops that add up, loops that find -/
def sm (g : Nat → Int32) : Nat → Nat → Int32
  | _, 0 => 0
  | k, c + 1 => g k + sm g (k + 1) c
theorem sm_1 (g : Nat → Int32) (k : Nat) : sm g k 1 = g k := by
  show g k + 0 = g k
  exact Int32.add_zero _
theorem sm_congr {g h : Nat → Int32} : ∀ (c k : Nat), (∀ i, k ≤ i → i < k + c → g i = h i) → sm g k c = sm h k c := by
  intro c
  induction c with
  | zero => intro k _; rfl
  | succ c ih =>
    intro k hh
    show g k + sm g (k + 1) c = h k + sm h (k + 1) c
    rw [hh k (Nat.le_refl _) (by omega), ih (k + 1) (fun i h1 h2 => hh i (by omega) (by omega))]
theorem sm_app (g : Nat → Int32) : ∀ (c k d : Nat), sm g k (c + d) = sm g k c + sm g (k + c) d := by
  intro c
  induction c with
  | zero => intro k d; rw [Nat.zero_add]; show _ = 0 + _; rw [Int32.zero_add, Nat.add_zero]
  | succ c ih =>
    intro k d
    rw [show c + 1 + d = (c + d) + 1 by omega]
    show g k + sm g (k + 1) (c + d) = g k + sm g (k + 1) c + _
    rw [ih (k + 1) d, Int32.add_assoc, show k + 1 + c = k + (c + 1) by omega]
theorem sm_0 {g : Nat → Int32} {k c : Nat} (h : ∀ i, k ≤ i → i < k + c → g i = 0) : sm g k c = 0 := by
  rw [sm_congr (h := fun _ => 0) c k h]
  clear h
  induction c generalizing k with
  | zero => rfl
  | succ c ih => show 0 + sm _ (k + 1) c = 0; rw [ih]; rfl
theorem sm_isum (g : Nat → Int32) : ∀ n, isum g n = sm g 0 n := by
  intro n
  induction n with
  | zero => rfl
  | succ n ih =>
    show isum g n + g n = _
    rw [ih, sm_app g n 0 1, sm_1, Nat.zero_add]
/-- sums of noughts and ones -/
theorem sm_01 {g : Nat → Int32} (h : ∀ i, g i = 0 ∨ g i = 1) : ∀ (c k : Nat), ∃ v, v ≤ c ∧ sm g k c = nI v ∧ (0 < v ↔ ∃ i, k ≤ i ∧ i < k + c ∧ g i = 1) := by
  intro c
  induction c with
  | zero => intro k; exact ⟨0, Nat.le_refl _, rfl, ⟨fun h => absurd h (by omega), fun ⟨i, h1, h2, _⟩ => by omega⟩⟩
  | succ c ih =>
    intro k
    obtain ⟨v, h1, h2, h3⟩ := ih (k + 1)
    rcases h k with h0 | h0
    · refine ⟨v, by omega, ?_, ?_⟩
      · show g k + sm g (k + 1) c = nI v
        rw [h0, h2, Int32.zero_add]
      · rw [h3]
        constructor
        · rintro ⟨i, a, b, c⟩
          exact ⟨i, by omega, by omega, c⟩
        · rintro ⟨i, a, b, c⟩
          refine ⟨i, ?_, by omega, c⟩
          rcases Nat.lt_or_ge k i with q | q
          · exact q
          · have : i = k := by omega
            subst this
            rw [h0] at c
            exact absurd c (by decide)
    · refine ⟨v + 1, by omega, ?_, ⟨fun _ => ⟨k, Nat.le_refl _, by omega, h0⟩, fun _ => by omega⟩⟩
      show g k + sm g (k + 1) c = nI (v + 1)
      rw [h0, h2, show (1 : Int32) = nI 1 from rfl, nI_add, Nat.add_comm]
theorem acc_loop (f : Nat → Int32 → Int32 → Option Int32) (g : Nat → Int32) (e : Nat) (hx : ∀ n a, f (n + 1) a (nI e) = some a)
    (hs : ∀ n a k, k < e → f (n + 1) a (nI k) = f n (a + g k) (nI (k + 1))) : ∀ (n k : Nat) (a : Int32), k ≤ e → e - k < n → f n a (nI k) = some (a + sm g k (e - k)) := by
  intro n
  induction n with
  | zero => intro k a _ h; omega
  | succ n ih =>
    intro k a hk hn
    rcases Nat.lt_or_ge k e with h | h
    · rw [hs n a k h, ih (k + 1) _ (by omega) (by omega), show e - k = (e - (k + 1)) + 1 by omega]
      show some (a + g k + _) = some (a + (g k + _))
      rw [Int32.add_assoc]
    · have : k = e := by omega
      subst this
      rw [hx, Nat.sub_self]
      show _ = some (a + 0)
      rw [Int32.add_zero]
def fnd (p : Nat → Bool) : Nat → Nat → Int32
  | _, 0 => -1
  | k, c + 1 => if p k = true then nI k else fnd p (k + 1) c
theorem fnd_spec (p : Nat → Bool) : ∀ (c k : Nat), (fnd p k c = -1 ∧ ∀ i, k ≤ i → i < k + c → p i = false) ∨ (∃ i, k ≤ i ∧ i < k + c ∧ p i = true ∧ fnd p k c = nI i ∧ ∀ j, k ≤ j → j < i → p j = false) := by
  intro c
  induction c with
  | zero => intro k; exact Or.inl ⟨rfl, fun i h1 h2 => by omega⟩
  | succ c ih =>
    intro k
    unfold fnd
    cases hp : p k with
    | true => rw [if_pos rfl]; exact Or.inr ⟨k, Nat.le_refl _, by omega, hp, rfl, fun j h1 h2 => by omega⟩
    | false =>
      rw [if_neg (by decide)]
      rcases ih (k + 1) with ⟨h1, h2⟩ | ⟨i, h1, h2, h3, h4, h5⟩
      · refine Or.inl ⟨h1, fun i a b => ?_⟩
        rcases Nat.lt_or_ge k i with q | q
        · exact h2 i q (by omega)
        · have : i = k := by omega
          subst this
          exact hp
      · refine Or.inr ⟨i, by omega, by omega, h3, h4, fun j a b => ?_⟩
        rcases Nat.lt_or_ge k j with q | q
        · exact h5 j q b
        · have : j = k := by omega
          subst this
          exact hp
theorem fnd_loop (f : Nat → Int32 → Option Int32) (p : Nat → Bool) (e : Nat) (hx : ∀ n, f (n + 1) (nI e) = some (-1))
    (hs : ∀ n k, k < e → f (n + 1) (nI k) = if p k = true then some (nI k) else f n (nI (k + 1))) : ∀ (n k : Nat), k ≤ e → e - k < n → f n (nI k) = some (fnd p k (e - k)) := by
  intro n
  induction n with
  | zero => intro k _ h; omega
  | succ n ih =>
    intro k hk hn
    rcases Nat.lt_or_ge k e with h | h
    · rw [hs n k h, show e - k = (e - (k + 1)) + 1 by omega]
      unfold fnd
      by_cases hp : p k = true
      · rw [if_pos hp, if_pos hp]
      · rw [if_neg hp, if_neg hp, ih (k + 1) (by omega) (by omega)]
    · have : k = e := by omega
      subst this
      rw [hx, Nat.sub_self]
      rfl
/-- one or nothing -/
def ow (c : Prop) [Decidable c] : Int32 := if c then 1 else 0
theorem ow_01 (c : Prop) [Decidable c] : ow c = 0 ∨ ow c = 1 := by
  unfold ow
  by_cases h : c
  · rw [if_pos h]; exact Or.inr rfl
  · rw [if_neg h]; exact Or.inl rfl
theorem ow_1 {c : Prop} [Decidable c] : ow c = 1 ↔ c := by
  unfold ow
  by_cases h : c
  · rw [if_pos h]; exact ⟨fun _ => h, fun _ => rfl⟩
  · rw [if_neg h]; exact ⟨fun q => absurd q (by decide), fun q => absurd q h⟩
theorem cl0 : (0 : Int32).toNatClampNeg = 0 := rfl
theorem cl1 : (1 : Int32).toNatClampNeg = 1 := rfl
theorem cl2 : (2 : Int32).toNatClampNeg = 2 := rfl
theorem cl3 : (3 : Int32).toNatClampNeg = 3 := rfl
theorem cl4 : (4 : Int32).toNatClampNeg = 4 := rfl
theorem cl5 : (5 : Int32).toNatClampNeg = 5 := rfl
theorem cl6 : (6 : Int32).toNatClampNeg = 6 := rfl
theorem cl7 : (7 : Int32).toNatClampNeg = 7 := rfl
theorem g0 {α : Type} {o : Option α} : rn_g (0 : Int32) 2888 o = o := rn_gI (n := 0) (by decide) (by decide)
theorem g1 {α : Type} {o : Option α} : rn_g (1 : Int32) 2888 o = o := rn_gI (n := 1) (by decide) (by decide)
theorem g2 {α : Type} {o : Option α} : rn_g (2 : Int32) 2888 o = o := rn_gI (n := 2) (by decide) (by decide)
theorem g3 {α : Type} {o : Option α} : rn_g (3 : Int32) 2888 o = o := rn_gI (n := 3) (by decide) (by decide)
theorem g4 {α : Type} {o : Option α} : rn_g (4 : Int32) 2888 o = o := rn_gI (n := 4) (by decide) (by decide)
theorem g5 {α : Type} {o : Option α} : rn_g (5 : Int32) 2888 o = o := rn_gI (n := 5) (by decide) (by decide)
theorem g6 {α : Type} {o : Option α} : rn_g (6 : Int32) 2888 o = o := rn_gI (n := 6) (by decide) (by decide)
theorem g7 {α : Type} {o : Option α} : rn_g (7 : Int32) 2888 o = o := rn_gI (n := 7) (by decide) (by decide)
/-- copies in a state, of one message, of one station -/
theorem ci7 {N a k : Nat} {st : Nat → Int32} {w : Int32} (hN : 6000 ≤ N) (h0 : st 0 = nI a) (ha : a ≤ 8) (hk : k < 24) : fX7_copiesIn N st (nI k) w = some (sm (fun s => ow (qC st k s 0 = w)) 0 a) := by
  unfold fX7_copiesIn
  rw [show (lX7_copiesIn_5 st (nI k) w N 0 0) = some (0 + sm (fun s => ow (qC st k s 0 = w)) 0 (a - 0)) from acc_loop (lX7_copiesIn_5 st (nI k) w) _ a (fun n x => by
      rw [lX7_copiesIn_5, g0, cl0, h0, if_pos (nI_le (Nat.le_refl _) (by omega))]) (fun n x s hs => by
      rw [lX7_copiesIn_5, g0, cl0, h0, if_neg (nI_ge hs (by omega)), show fX7_ofCopy st (nI k) (nI s) (0 : Int32) = some (qC st k s 0) from oC (q := 0) hk (by omega) (by omega), rn_bs, nI_1]
      unfold ow
      by_cases h : qC st k s 0 = w
      · rw [if_pos h, if_pos h]
      · rw [if_neg h, if_neg h]) N 0 0 (by omega) (by omega), rn_bs, Int32.zero_add, Nat.sub_zero]
theorem wa7 {N m s : Nat} {st : Nat → Int32} (hN : 6000 ≤ N) (h2 : st 2 = nI m) (hm : m ≤ 24) (hs : s < 8) : fX7_waitingAt N st (nI s) = some (sm (fun k => ow (qC st k s 0 = 1)) 0 m) := by
  unfold fX7_waitingAt
  rw [show (lX7_waitingAt_4 st (nI s) N 0 0) = some (0 + sm (fun k => ow (qC st k s 0 = 1)) 0 (m - 0)) from acc_loop (lX7_waitingAt_4 st (nI s)) _ m (fun n x => by
      rw [lX7_waitingAt_4, g2, cl2, h2, if_pos (nI_le (Nat.le_refl _) (by omega))]) (fun n x k hk => by
      rw [lX7_waitingAt_4, g2, cl2, h2, if_neg (nI_ge hk (by omega)), show fX7_ofCopy st (nI k) (nI s) (0 : Int32) = some (qC st k s 0) from oC (q := 0) (by omega) hs (by omega), rn_bs, nI_1]
      unfold ow
      by_cases h : qC st k s 0 = 1
      · rw [if_pos h, if_pos h]
      · rw [if_neg h, if_neg h]) N 0 0 (by omega) (by omega), rn_bs, Int32.zero_add, Nat.sub_zero]
theorem wt2 {k s : Nat} {copies st : Nat → Int32} (eC : ev_C copies st) (hk : k < 24) (hs : s < 8) : fX2_waits copies (nI k) (nI s) = some (ow (qC st k s 0 = 1)) := by
  have e : copies (5 * (8 * k + s) + 0) = qC st k s 0 := eC k s 0 hk hs (by omega)
  unfold fX2_waits ow
  rw [rw2, rn_bs, show fX4_get (192 : Int32) (5 : Int32) 960 copies (nI (8 * k + s)) (0 : Int32) = some (qC st k s 0) from (tC (q := 0) (by omega) (by omega)).trans (congrArg some e), rn_bs]
  by_cases h : qC st k s 0 = 1
  · rw [if_pos h, if_pos h]
  · rw [if_neg h, if_neg h]
theorem ow_if {c : Prop} [Decidable c] {α : Type} {x y : α} : (if ow c = 0 then x else y) = if c then y else x := by
  unfold ow
  by_cases h : c
  · rw [if_pos h, if_pos h, if_neg (by decide)]
  · rw [if_neg h, if_neg h, if_pos rfl]
theorem cw2 {N fm tm fs ts : Nat} {copies st : Nat → Int32} (hN : 6000 ≤ N) (eC : ev_C copies st) (h1 : fm ≤ tm) (h2 : tm ≤ 24) (h3 : fs ≤ ts) (h4 : ts ≤ 8) : fX2_copiesThatWait N copies (nI fm) (nI tm) (nI fs) (nI ts) = some (sm (fun k => sm (fun s => ow (qC st k s 0 = 1)) fs (ts - fs)) fm (tm - fm)) := by
  unfold fX2_copiesThatWait
  rw [show lX2_copiesThatWait_6 N copies (nI tm) (nI fs) (nI ts) N 0 (nI fm) = some (0 + sm (fun k => sm (fun s => ow (qC st k s 0 = 1)) fs (ts - fs)) fm (tm - fm)) from acc_loop (lX2_copiesThatWait_6 N copies (nI tm) (nI fs) (nI ts)) _ tm (fun n x => by
      rw [lX2_copiesThatWait_6, if_pos (nI_le (Nat.le_refl _) (by omega))]) (fun n x k hk => by
      rw [lX2_copiesThatWait_6, if_neg (nI_ge hk (by omega)), acc_loop (lX2_copiesThatWait_15 copies (nI ts) (nI k)) (fun s => ow (qC st k s 0 = 1)) ts (fun n x => by
        rw [lX2_copiesThatWait_15, if_pos (nI_le (Nat.le_refl _) (by omega))]) (fun n x s hs => by
        rw [lX2_copiesThatWait_15, if_neg (nI_ge hs (by omega)), wt2 eC (by omega) (by omega), rn_bs, nI_1, ow_if]
        unfold ow
        by_cases h : qC st k s 0 = 1
        · rw [if_pos h, if_pos h]
        · rw [if_neg h, if_neg h, Int32.add_zero]) N fs x h3 (by omega), rn_bs, nI_1]) N fm 0 h1 (by omega), rn_bs, Int32.zero_add]
/-- a message's state, told by its copies -/
def q_st (st : Nat → Int32) (a k : Nat) : Int32 := if sm (fun s => ow (qC st k s 0 = 5)) 0 a ≤ 0 then (if sm (fun s => ow (qC st k s 0 = 1)) 0 a ≤ 0 then 2 else 0) else 1
theorem st7 {N a k : Nat} {st : Nat → Int32} (hN : 6000 ≤ N) (h0 : st 0 = nI a) (ha : a ≤ 8) (hk : k < 24) : fX7_stateOf N st (nI k) = some (q_st st a k) := by
  unfold fX7_stateOf q_st
  rw [ci7 hN h0 ha hk, rn_bs, ci7 hN h0 ha hk, rn_bs]
  by_cases h : sm (fun s => ow (qC st k s 0 = 5)) 0 a ≤ 0
  · rw [if_pos h, if_pos h]
    by_cases h1 : sm (fun s => ow (qC st k s 0 = 1)) 0 a ≤ 0
    · rw [if_pos h1, if_pos h1]
    · rw [if_neg h1, if_neg h1]
  · rw [if_neg h, if_neg h]
theorem sm_le0 {g : Nat → Int32} (h : ∀ i, g i = 0 ∨ g i = 1) {k c : Nat} (hc : c < 2 ^ 30) : sm g k c ≤ 0 ↔ ∀ i, k ≤ i → i < k + c → g i ≠ 1 := by
  obtain ⟨v, h1, h2, h3⟩ := sm_01 h c k
  rw [h2, show (0 : Int32) = nI 0 from rfl, nI_leI (by omega) (by omega)]
  constructor
  · intro hv i a b q
    have := h3.mpr ⟨i, a, b, q⟩
    omega
  · intro hh
    rcases Nat.eq_zero_or_pos v with q | q
    · omega
    · obtain ⟨i, a, b, c⟩ := h3.mp q
      exact absurd c (hh i a b)
/-- delivered: the goal's copy says so -/
theorem dl_goal {a m τ k g : Nat} {st : Nat → Int32} (gC : gd_C a m τ st) (hk : k < 24) (hg : g < 8) (hq : qM st k 1 = nI g) (s : Nat) (hs : s < 8) (h5 : qC st k s 0 = 5) : s = g := by
  rcases gC k s hk hs with ⟨h, -⟩ | ⟨-, -, -, h, -⟩
  · rw [h] at h5
    exact absurd h5 (by decide)
  · have h6 := h.mp h5
    rw [hq] at h6
    exact ((nI_eq (by omega) (by omega)).mp h6).symm
theorem q_st1 {a m τ k g : Nat} {st : Nat → Int32} (gC : gd_C a m τ st) (ha : a ≤ 8) (hk : k < 24) (hg : g < a) (hq : qM st k 1 = nI g) : q_st st a k = 1 ↔ qC st k g 0 = 5 := by
  unfold q_st
  have h0 := sm_le0 (g := fun s => ow (qC st k s 0 = 5)) (fun i => ow_01 _) (k := 0) (c := a) (by omega)
  by_cases h : sm (fun s => ow (qC st k s 0 = 5)) 0 a ≤ 0
  · rw [if_pos h]
    have h1 := h0.mp h g (by omega) (by omega)
    constructor
    · intro q
      by_cases h2 : sm (fun s => ow (qC st k s 0 = 1)) 0 a ≤ 0
      · rw [if_pos h2] at q; exact absurd q (by decide)
      · rw [if_neg h2] at q; exact absurd q (by decide)
    · intro q
      exact absurd (ow_1.mpr q) h1
  · rw [if_neg h]
    refine ⟨fun _ => ?_, fun _ => rfl⟩
    by_cases hc : qC st k g 0 = 5
    · exact hc
    · exfalso
      apply h
      apply h0.mpr
      intro i h1 h2 h3
      have h4 := ow_1.mp h3
      have h5 := dl_goal gC hk (by omega) hq i (by omega) h4
      subst h5
      exact hc h4
theorem st2 {N a m τ k : Nat} {messages copies st : Nat → Int32} (hN : 6000 ≤ N) (ha : a ≤ 8) (hm : m ≤ 24) (hk : k < m) (gM : gd_M a m st) (gC : gd_C a m τ st) (hτ : τ < 2 ^ 30) (eC : ev_C copies st) (eD : ev_D m messages st) : fX2_messageState N (nI a) messages copies (nI k) = some (q_st st a k) := by
  obtain ⟨-, ⟨g, hg, hq⟩, -⟩ := gM k hk
  have h1 := q_st1 gC ha (by omega) hg hq
  have h2 := eD k g hk (by omega) hq
  have cw := cw2 (N := N) (fm := k) (tm := k + 1) (fs := 0) (ts := a) hN eC (by omega) (by omega) (by omega) ha
  unfold fX2_messageState
  rw [show fX4_get (24 : Int32) (12 : Int32) 288 messages (nI k) (5 : Int32) = some (messages (12 * k + 5)) from tM (q := 5) (by omega) (by omega), rn_bs]
  by_cases h5 : qC st k g 0 = 5
  · have h6 := (h2.1 h5).1
    have h7 : ¬ messages (12 * k + 5) = -1 := by
      rw [h6]
      rcases gC k g (by omega) (by omega) with ⟨h, -⟩ | ⟨-, -, -, -, ⟨u, hu, he⟩, -⟩
      · rw [h] at h5; exact absurd h5 (by decide)
      · rw [he]
        intro hh
        have := nI_pos (n := u) (by omega)
        rw [hh] at this
        exact this (by decide)
    rw [if_neg h7, h1.mpr h5]
  · rw [if_pos (h2.2 h5).1, nI_1, show (0 : Int32) = nI 0 from rfl, cw, rn_bs, show k + 1 - k = 1 by omega, sm_1, Nat.sub_zero]
    unfold q_st
    have h8 : sm (fun s => ow (qC st k s 0 = 5)) 0 a ≤ 0 := by
      by_cases hh : sm (fun s => ow (qC st k s 0 = 5)) 0 a ≤ 0
      · exact hh
      · exfalso
        apply h5
        apply h1.mp
        unfold q_st
        rw [if_neg hh]
    rw [if_pos h8]
    by_cases h9 : sm (fun s => ow (qC st k s 0 = 1)) 0 a ≤ 0
    · rw [if_pos (show sm (fun s => ow (qC st k s 0 = 1)) 0 a ≤ nI 0 from h9), if_pos h9]
    · rw [if_neg (show ¬ sm (fun s => ow (qC st k s 0 = 1)) 0 a ≤ nI 0 from h9), if_neg h9]
      rfl
