/-! pure rows: counts of messages, sums, links between stations -/
theorem mi7 {N a m : Nat} {st : Nat → Int32} {w : Int32} (hN : 6000 ≤ N) (h0 : st 0 = nI a) (h2 : st 2 = nI m) (ha : a ≤ 8) (hm : m ≤ 24) : fX7_messagesIn N st w = some (sm (fun k => ow (q_st st a k = w)) 0 m) := by
  unfold fX7_messagesIn
  rw [show (lX7_messagesIn_4 N st w N 0 0) = some (0 + sm (fun k => ow (q_st st a k = w)) 0 (m - 0)) from acc_loop (lX7_messagesIn_4 N st w) _ m (fun n x => by
      rw [lX7_messagesIn_4, g2, cl2, h2, if_pos (nI_le (Nat.le_refl _) (by omega))]) (fun n x k hk => by
      rw [lX7_messagesIn_4, g2, cl2, h2, if_neg (nI_ge hk (by omega)), st7 hN h0 ha (by omega), rn_bs, nI_1]
      unfold ow
      by_cases h : q_st st a k = w
      · rw [if_pos h, if_pos h]
      · rw [if_neg h, if_neg h]) N 0 0 (by omega) (by omega), rn_bs, Int32.zero_add, Nat.sub_zero]
theorem mi2 {N a m τ : Nat} {messages copies st : Nat → Int32} {w : Int32} (hN : 6000 ≤ N) (ha : a ≤ 8) (hm : m ≤ 24) (gM : gd_M a m st) (gC : gd_C a m τ st) (hτ : τ < 2 ^ 30) (eC : ev_C copies st) (eD : ev_D m messages st) : fX2_messagesInState N (nI a) (nI m) messages copies w = some (sm (fun k => ow (q_st st a k = w)) 0 m) := by
  unfold fX2_messagesInState
  rw [show (lX2_messagesInState_4 N (nI a) (nI m) messages copies w N 0 0) = some (0 + sm (fun k => ow (q_st st a k = w)) 0 (m - 0)) from acc_loop (lX2_messagesInState_4 N (nI a) (nI m) messages copies w) _ m (fun n x => by
      rw [lX2_messagesInState_4, if_pos (nI_le (Nat.le_refl _) (by omega))]) (fun n x k hk => by
      rw [lX2_messagesInState_4, if_neg (nI_ge hk (by omega)), st2 hN ha hm hk gM gC hτ eC eD, rn_bs, nI_1]
      unfold ow
      by_cases h : q_st st a k = w
      · rw [if_pos h, if_pos h]
      · rw [if_neg h, if_neg h, Int32.add_zero]) N 0 0 (by omega) (by omega), rn_bs, Int32.zero_add, Nat.sub_zero]
theorem ac7 {N a m : Nat} {st : Nat → Int32} (hN : 6000 ≤ N) (h0 : st 0 = nI a) (h2 : st 2 = nI m) (ha : a ≤ 8) (hm : m ≤ 24) : fX7_allCopies N st = some (sm (fun k => sm (fun s => ow (qC st k s 0 = 1)) 0 a) 0 m) := by
  unfold fX7_allCopies
  rw [show (lX7_allCopies_4 N st N 0 0) = some (0 + sm (fun k => sm (fun s => ow (qC st k s 0 = 1)) 0 a) 0 (m - 0)) from acc_loop (lX7_allCopies_4 N st) _ m (fun n x => by
      rw [lX7_allCopies_4, g2, cl2, h2, if_pos (nI_le (Nat.le_refl _) (by omega))]) (fun n x k hk => by
      rw [lX7_allCopies_4, g2, cl2, h2, if_neg (nI_ge hk (by omega)), ci7 hN h0 ha (by omega), rn_bs, nI_1]) N 0 0 (by omega) (by omega), rn_bs, Int32.zero_add, Nat.sub_zero]
theorem ss7 {N a q : Nat} {st : Nat → Int32} (hN : 6000 ≤ N) (h0 : st 0 = nI a) (ha : a ≤ 8) (hq : q < 7) : fX7_sumOfStations N st (nI q) = some (sm (fun i => qS st i q) 0 a) := by
  unfold fX7_sumOfStations
  rw [show (lX7_sumOfStations_4 st (nI q) N 0 0) = some (0 + sm (fun i => qS st i q) 0 (a - 0)) from acc_loop (lX7_sumOfStations_4 st (nI q)) _ a (fun n x => by
      rw [lX7_sumOfStations_4, g0, cl0, h0, if_pos (nI_le (Nat.le_refl _) (by omega))]) (fun n x i hi => by
      rw [lX7_sumOfStations_4, g0, cl0, h0, if_neg (nI_ge hi (by omega)), oS (by omega) hq, rn_bs, nI_1]) N 0 0 (by omega) (by omega), rn_bs, Int32.zero_add, Nat.sub_zero]
theorem sum4 {N R C n q : Nat} {c : Nat → Int32} (hN : 6000 ≤ N) (hn : n = R * C) (hR : R ≤ 1000) (hC : C ≤ 100) (hq : q < C) : fX4_sum N (nI R) (nI C) n c (nI q) = some (sm (fun i => c (C * i + q)) 0 R) := by
  have hs : R * C < 2 ^ 31 := by
    have : R * C ≤ 1000 * 100 := Nat.mul_le_mul hR hC
    omega
  unfold fX4_sum
  rw [show (lX4_sum_4 (nI R) (nI C) n c (nI q) N 0 0) = some (0 + sm (fun i => c (C * i + q)) 0 (R - 0)) from acc_loop (lX4_sum_4 (nI R) (nI C) n c (nI q)) _ R (fun n x => by
      rw [lX4_sum_4, if_pos (nI_le (Nat.le_refl _) (by omega))]) (fun n2 x i hi => by
      rw [lX4_sum_4, if_neg (nI_ge hi (by omega)), tget hn hs hi hq, rn_bs, nI_1]) N 0 0 (by omega) (by omega), rn_bs, Int32.zero_add, Nat.sub_zero]
theorem sumS {N q : Nat} {stations st : Nat → Int32} (hN : 6000 ≤ N) (eS : ev_S stations st) (hq : q < 7) : fX4_sum N (8 : Int32) (10 : Int32) 80 stations (nI (sC q)) = some (sm (fun i => qS st i q) 0 8) := by
  have h1 : sC q < 10 := by unfold sC; split <;> omega
  rw [show fX4_sum N (8 : Int32) (10 : Int32) 80 stations (nI (sC q)) = _ from sum4 (R := 8) (C := 10) hN rfl (by omega) (by omega) h1]
  congr 1
  exact sm_congr 8 0 (fun i _ h => eS i q (by omega) hq)
theorem sumL {N q : Nat} {links st : Nat → Int32} (hN : 6000 ≤ N) (eL : ev_L links st) (hq : q < 8) : fX4_sum N (16 : Int32) (9 : Int32) 144 links (nI (lC q)) = some (sm (fun i => qL st i q) 0 16) := by
  have h1 : lC q < 9 := by unfold lC; split <;> omega
  rw [show fX4_sum N (16 : Int32) (9 : Int32) 144 links (nI (lC q)) = _ from sum4 (R := 16) (C := 9) hN rfl (by omega) (by omega) h1]
  congr 1
  exact sm_congr 16 0 (fun i _ h => eL i q (by omega) hq)
/-- beyond the last station, the last link: nothing -/
theorem smS {a q : Nat} {st : Nat → Int32} (gS : gd_S a st) (ha : a ≤ 8) (hq : q < 7) : sm (fun i => qS st i q) 0 8 = sm (fun i => qS st i q) 0 a := by
  have h := sm_app (fun i => qS st i q) a 0 (8 - a)
  rw [show a + (8 - a) = 8 by omega] at h
  rw [h, sm_0 (k := 0 + a) (c := 8 - a) (fun i h1 h2 => (gS i (by omega)).2 (by omega) q hq), Int32.add_zero]
theorem smL {a b q : Nat} {st : Nat → Int32} (gL : gd_L a b st) (hb : b ≤ 16) (hq : q < 8) : sm (fun i => qL st i q) 0 16 = sm (fun i => qL st i q) 0 b := by
  have h := sm_app (fun i => qL st i q) b 0 (16 - b)
  rw [show b + (16 - b) = 16 by omega] at h
  rw [h, sm_0 (k := 0 + b) (c := 16 - b) (fun i h1 h2 => (gL i (by omega)).2 (by omega) q hq), Int32.add_zero]
/-- links at a station; the link between two -/
theorem la7 {N b : Nat} {st : Nat → Int32} {x : Int32} (hN : 6000 ≤ N) (h1 : st 1 = nI b) (hb : b ≤ 16) : fX7_linksAt N st x = some (sm (fun j => ow (qL st j 0 = x ∨ qL st j 1 = x)) 0 b) := by
  unfold fX7_linksAt
  rw [show (lX7_linksAt_4 st x N 0 0) = some (0 + sm (fun j => ow (qL st j 0 = x ∨ qL st j 1 = x)) 0 (b - 0)) from acc_loop (lX7_linksAt_4 st x) _ b (fun n y => by
      rw [lX7_linksAt_4, g1, cl1, h1, if_pos (nI_le (Nat.le_refl _) (by omega))]) (fun n y j hj => by
      rw [lX7_linksAt_4, g1, cl1, h1, if_neg (nI_ge hj (by omega)), show fX7_ofLink st (nI j) (0 : Int32) = some (qL st j 0) from oL (q := 0) (by omega) (by omega), rn_bs, show fX7_ofLink st (nI j) (1 : Int32) = some (qL st j 1) from oL (q := 1) (by omega) (by omega), rn_bs, nI_1]
      unfold ow
      by_cases h : qL st j 0 = x
      · rw [if_pos h, if_pos (Or.inl h)]
      · rw [if_neg h]
        by_cases h2 : qL st j 1 = x
        · rw [if_pos h2, if_pos (Or.inr h2)]
        · rw [if_neg h2, if_neg (fun q => q.elim h h2)]) N 0 0 (by omega) (by omega), rn_bs, Int32.zero_add, Nat.sub_zero]
theorem la2 {N b : Nat} {links st : Nat → Int32} {x : Int32} (hN : 6000 ≤ N) (eL : ev_L links st) (hb : b ≤ 16) : fX2_linksOf N (nI b) links x = some (sm (fun j => ow (qL st j 0 = x ∨ qL st j 1 = x)) 0 b) := by
  unfold fX2_linksOf
  rw [show (lX2_linksOf_4 (nI b) links x N 0 0) = some (0 + sm (fun j => ow (qL st j 0 = x ∨ qL st j 1 = x)) 0 (b - 0)) from acc_loop (lX2_linksOf_4 (nI b) links x) _ b (fun n y => by
      rw [lX2_linksOf_4, if_pos (nI_le (Nat.le_refl _) (by omega))]) (fun n y j hj => by
      have l0 : links (9 * j + 0) = qL st j 0 := eL j 0 (by omega) (by omega)
      have l1 : links (9 * j + 1) = qL st j 1 := eL j 1 (by omega) (by omega)
      rw [lX2_linksOf_4, if_neg (nI_ge hj (by omega)), show fX4_get (16 : Int32) (9 : Int32) 144 links (nI j) (0 : Int32) = some (qL st j 0) from (tL (q := 0) (by omega) (by omega)).trans (congrArg some l0), rn_bs, show fX4_get (16 : Int32) (9 : Int32) 144 links (nI j) (1 : Int32) = some (qL st j 1) from (tL (q := 1) (by omega) (by omega)).trans (congrArg some l1), rn_bs, nI_1]
      unfold ow
      by_cases h : qL st j 0 = x
      · rw [if_pos h, if_pos (Or.inl h)]
      · rw [if_neg h]
        by_cases h2 : qL st j 1 = x
        · rw [if_pos h2, if_pos (Or.inr h2)]
        · rw [if_neg h2, if_neg (fun q => q.elim h h2), Int32.add_zero]) N 0 0 (by omega) (by omega), rn_bs, Int32.zero_add, Nat.sub_zero]
def q_jn (st : Nat → Int32) (x y : Int32) (j : Nat) : Bool := decide ((qL st j 0 = x ∧ qL st j 1 = y) ∨ (qL st j 0 = y ∧ qL st j 1 = x))
def q_lk (st : Nat → Int32) (b : Nat) (x y : Int32) : Int32 := fnd (q_jn st x y) 0 b
theorem jn7 {j : Nat} {st : Nat → Int32} {x y : Int32} (hj : j < 16) : fX7_joins st (nI j) x y = some (b2 (q_jn st x y j)) := by
  unfold fX7_joins q_jn b2
  rw [show fX7_ofLink st (nI j) (0 : Int32) = some (qL st j 0) from oL (q := 0) hj (by omega), show fX7_ofLink st (nI j) (1 : Int32) = some (qL st j 1) from oL (q := 1) hj (by omega)]
  simp only [rn_bs]
  by_cases h1 : qL st j 0 = x <;> by_cases h2 : qL st j 1 = y <;> by_cases h3 : qL st j 0 = y <;> by_cases h4 : qL st j 1 = x <;> simp only [h1, h2, h3, h4, if_true, if_false, and_true, true_and, and_false, false_and, or_true, true_or, or_false, false_or, decide_true, decide_false, Bool.false_eq_true, and_self, or_self] <;> (try rfl) <;> simp_all
theorem lk7 {N b : Nat} {st : Nat → Int32} {x y : Int32} (hN : 6000 ≤ N) (h1 : st 1 = nI b) (hb : b ≤ 16) : fX7_linkOf N st x y = some (q_lk st b x y) := by
  unfold fX7_linkOf q_lk
  exact fnd_loop (lX7_linkOf_2 st x y) (q_jn st x y) b (fun n => by
      rw [lX7_linkOf_2, g1, cl1, h1, if_pos (nI_le (Nat.le_refl _) (by omega))]) (fun n j hj => by
      rw [lX7_linkOf_2, g1, cl1, h1, if_neg (nI_ge hj (by omega)), jn7 (by omega), rn_bs, nI_1]
      cases q_jn st x y j with
      | true => rw [if_pos rfl, if_neg (by decide)]
      | false => rw [if_pos (show b2 false = 0 from rfl), if_neg (by decide)]) N 0 (by omega) (by omega)
theorem lk2 {N b : Nat} {links st : Nat → Int32} {x y : Int32} (hN : 6000 ≤ N) (eL : ev_L links st) (hb : b ≤ 16) : fX2_linkBetween N (nI b) links x y = some (q_lk st b x y) := by
  unfold fX2_linkBetween q_lk
  exact fnd_loop (lX2_linkBetween_2 (nI b) links x y) (q_jn st x y) b (fun n => by
      rw [lX2_linkBetween_2, if_pos (nI_le (Nat.le_refl _) (by omega))]) (fun n j hj => by
      have l0 : links (9 * j + 0) = qL st j 0 := eL j 0 (by omega) (by omega)
      have l1 : links (9 * j + 1) = qL st j 1 := eL j 1 (by omega) (by omega)
      rw [lX2_linkBetween_2, if_neg (nI_ge hj (by omega)), show fX4_get (16 : Int32) (9 : Int32) 144 links (nI j) (0 : Int32) = some (qL st j 0) from (tL (q := 0) (by omega) (by omega)).trans (congrArg some l0), rn_bs, show fX4_get (16 : Int32) (9 : Int32) 144 links (nI j) (1 : Int32) = some (qL st j 1) from (tL (q := 1) (by omega) (by omega)).trans (congrArg some l1), rn_bs, nI_1]
      unfold q_jn
      by_cases h1 : qL st j 0 = x
      · rw [if_pos h1]
        by_cases h2 : qL st j 1 = y
        · rw [if_pos h2, if_pos (by simp [h1, h2])]
        · rw [if_neg h2]
          by_cases h3 : qL st j 0 = y
          · rw [if_pos h3]
            by_cases h4 : qL st j 1 = x
            · rw [if_pos h4, if_pos (by simp [h3, h4])]
            · rw [if_neg h4, if_neg (by simp [h2, h4])]
          · rw [if_neg h3, if_neg (by simp [h2, h3])]
      · rw [if_neg h1]
        by_cases h3 : qL st j 0 = y
        · rw [if_pos h3]
          by_cases h4 : qL st j 1 = x
          · rw [if_pos h4, if_pos (by simp [h3, h4])]
          · rw [if_neg h4, if_neg (by simp [h1, h4])]
        · rw [if_neg h3, if_neg (by simp [h1, h3])]) N 0 (by omega) (by omega)
theorem q_lk_s {b : Nat} {st : Nat → Int32} {x y : Int32} : (q_lk st b x y = -1 ∧ ∀ i, i < b → ¬ ((qL st i 0 = x ∧ qL st i 1 = y) ∨ (qL st i 0 = y ∧ qL st i 1 = x))) ∨ ∃ i, i < b ∧ ((qL st i 0 = x ∧ qL st i 1 = y) ∨ (qL st i 0 = y ∧ qL st i 1 = x)) ∧ q_lk st b x y = nI i := by
  rcases fnd_spec (q_jn st x y) b 0 with ⟨h1, h2⟩ | ⟨i, h1, h2, h3, h4, -⟩
  · exact Or.inl ⟨h1, fun i hi => by have := h2 i (by omega) (by omega); unfold q_jn at this; exact of_decide_eq_false this⟩
  · refine Or.inr ⟨i, by omega, ?_, h4⟩
    unfold q_jn at h3
    exact of_decide_eq_true h3
