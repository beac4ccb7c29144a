/-! pairs that reach each other, the key station, on both sides -/
theorem sm_add (g h : Nat → Int32) : ∀ (c k : Nat), sm (fun i => g i + h i) k c = sm g k c + sm h k c := by
  intro c
  induction c with
  | zero => intro k; rfl
  | succ c ih =>
    intro k
    show g k + h k + sm (fun i => g i + h i) (k + 1) c = g k + sm g (k + 1) c + (h k + sm h (k + 1) c)
    rw [ih (k + 1), Int32.add_assoc, Int32.add_assoc, ← Int32.add_assoc (h k), Int32.add_comm (h k), Int32.add_assoc]
theorem sm_swap (g : Nat → Nat → Int32) (b : Nat) : ∀ (c k : Nat), sm (fun i => sm (fun j => g i j) 0 b) k c = sm (fun j => sm (fun i => g i j) k c) 0 b := by
  intro c
  induction c with
  | zero =>
    intro k
    exact (sm_0 (fun i _ _ => rfl)).symm
  | succ c ih =>
    intro k
    show sm (fun j => g k j) 0 b + sm (fun i => sm (fun j => g i j) 0 b) (k + 1) c = sm (fun j => g k j + sm (fun i => g i j) (k + 1) c) 0 b
    rw [sm_add, ih (k + 1)]
theorem sm_bd {g : Nat → Int32} {B : Nat} : ∀ (c k : Nat), (∀ i, k ≤ i → i < k + c → ∃ v, v ≤ B ∧ g i = nI v) → ∃ v, v ≤ B * c ∧ sm g k c = nI v := by
  intro c
  induction c with
  | zero => intro k _; exact ⟨0, by omega, rfl⟩
  | succ c ih =>
    intro k h
    obtain ⟨v, v1, v2⟩ := h k (Nat.le_refl _) (by omega)
    obtain ⟨w, w1, w2⟩ := ih (k + 1) (fun i h1 h2 => h i (by omega) (by omega))
    refine ⟨v + w, by rw [Nat.mul_succ]; omega, ?_⟩
    show g k + sm g (k + 1) c = _
    rw [v2, w2, nI_add]
section QE
variable {N t : Nat} {a b m e tt τ : Nat} {sc lc mc tm life tries x : Int32} {stations links messages copies : Nat → Int32} {first size : Int32} {events st isA : Nat → Int32} {heard : Nat → Int64}
def prP (b tt : Nat) (st isA : Nat → Int32) (mi : Int32) (f g : Nat) : Prop := ¬ nI f = mi ∧ ¬ nI g = mi ∧ ¬ g = f ∧ wF (Eh b st tt) (Av isA) f 24 g
def prW (b tt : Nat) (st isA : Nat → Int32) (mi : Int32) (w : Nat → Nat → Int32) : Prop := ∀ f g, (prP b tt st isA mi f g ∧ w f g = 1) ∨ (¬ prP b tt st isA mi f g ∧ w f g = 0)
theorem prW_ex (mi : Int32) : ∃ w, prW b tt st isA mi w := by
  have key : ∀ f g, ∃ v : Int32, (prP b tt st isA mi f g ∧ v = 1) ∨ (¬ prP b tt st isA mi f g ∧ v = 0) := fun f g => by
    by_cases c : prP b tt st isA mi f g
    · exact ⟨1, Or.inl ⟨c, rfl⟩⟩
    · exact ⟨0, Or.inr ⟨c, rfl⟩⟩
  exact ⟨fun f g => Classical.choose (key f g), fun f g => Classical.choose_spec (key f g)⟩
theorem tbt (n j : Nat) : nI (n.testBit j).toNat = if n.testBit j = true then (1 : Int32) else 0 := by cases n.testBit j <;> rfl
/-- how many a station reaches, in the class -/
theorem re2 {f : Nat} {i3 mi : Int32} {w : Nat → Nat → Int32} (hN : 6000 ≤ N) (gL : gd_L a b st) (ha : a ≤ 8) (hb : b ≤ 16) (eH : ev_H b heard st) (hv : is8 i3 (Av isA)) (hm : ∀ t, t < 8 → (Av isA t ↔ nI t = mi)) (hw : prW b tt st isA mi w) (hf : f < a) (hfm : ¬ nI f = mi) (ht : tt < 1000000) : fX5_reached N heard (nI f) (nI tt) i3 = some (sm (fun g => w f g) 0 a) := by
  have lp : ∀ (n d : Nat) (th : Int32), d ≤ 24 → 24 - d < n → is8 th (wF (Eh b st tt) (Av isA) f d) → ∃ v, lX5_reached_8 N heard (nI tt) i3 n th (nI d) = some v ∧ is8 v (wF (Eh b st tt) (Av isA) f 24) := by
    intro n
    induction n with
    | zero => intro d th _ h; omega
    | succ n ih =>
      intro d th hd hn h1
      rw [lX5_reached_8]
      rcases Nat.lt_or_ge d 24 with c | c
      · obtain ⟨v, e1, e2⟩ := hour2 hN (bs_H (τ := tt) eH d) hv h1
        rw [if_neg (show ¬ (24 : Int32) ≤ nI d from nI_ge (b := 24) c (by decide)), nI_add, ht2 (by omega), rn_bs, e1, rn_bs, rn_lt, nI_1]
        exact ih (d + 1) _ (by omega) (by omega) e2
      · have : d = 24 := by omega
        subst this
        rw [if_pos (show (24 : Int32) ≤ nI 24 by decide)]
        exact ⟨th, rfl, h1⟩
  obtain ⟨v, e1, n, hn, rfl, e2⟩ := lp N 0 _ (by omega) (by omega) (is8_w (is8_one (show f < 8 by omega)) (fun j _ => Iff.rfl))
  unfold fX5_reached
  rw [show lX5_reached_8 N heard (nI tt) i3 N ((1 : Int32) <<< (nI f &&& (31 : Int32))) (0 : Int32) = _ from e1, rn_bs, bc8 n hn, rn_bs]
  congr 1
  have s8 : nI ((n.testBit 0).toNat + (n.testBit 1).toNat + (n.testBit 2).toNat + (n.testBit 3).toNat + (n.testBit 4).toNat + (n.testBit 5).toNat + (n.testBit 6).toNat + (n.testBit 7).toNat) = isum (fun j => if n.testBit j = true then (1 : Int32) else 0) 8 := by
    show _ = 0 + (if n.testBit 0 = true then (1 : Int32) else 0) + (if n.testBit 1 = true then (1 : Int32) else 0) + (if n.testBit 2 = true then (1 : Int32) else 0) + (if n.testBit 3 = true then (1 : Int32) else 0) + (if n.testBit 4 = true then (1 : Int32) else 0) + (if n.testBit 5 = true then (1 : Int32) else 0) + (if n.testBit 6 = true then (1 : Int32) else 0) + (if n.testBit 7 = true then (1 : Int32) else 0)
    rw [← nI_add, ← nI_add, ← nI_add, ← nI_add, ← nI_add, ← nI_add, ← nI_add, tbt, tbt, tbt, tbt, tbt, tbt, tbt, tbt, Int32.zero_add]
  have wf0 : wF (Eh b st tt) (Av isA) f 24 f := wF_up (d := 0) (show f = f from rfl) (by omega)
  rw [s8, isum_one (f := fun j => if n.testBit j = true then (1 : Int32) else 0) (g := fun j => if j = f then 0 else if n.testBit j = true then (1 : Int32) else 0) (j := f) 8 (by omega) (fun i hi hne => by
      show _ = if i = f then 0 else _
      rw [if_neg hne]) (by
      show (if n.testBit f = true then (1 : Int32) else 0) = (if f = f then 0 else _) + 1
      rw [if_pos ((e2 f (by omega)).mpr wf0), if_pos rfl]
      rfl), Int32.add_sub_cancel, sm_isum]
  have lta : ∀ g, g < 8 → ¬ g = f → wF (Eh b st tt) (Av isA) f 24 g → g < a := fun g hg hne hwf => by
    have st1 : ∀ d g, g < 8 → ¬ g = f → wF (Eh b st tt) (Av isA) f d g → g < a := by
      intro d
      induction d with
      | zero => intro g _ h1 h2; exact absurd h2 h1
      | succ d ih =>
        intro g hg h1 h2
        rcases h2 with h2 | ⟨-, -, s, -, -, l, l1, -, l3⟩
        · exact ih g hg h1 h2
        · have g1 := (gL l (by omega)).1 l1
          obtain ⟨⟨x1, hx1, ex1⟩, ⟨y1, hy1, ey1⟩, -⟩ := g1
          rcases l3 with ⟨_, c⟩ | ⟨c, _⟩
          · rw [ey1] at c
            have := (nI_eq (by omega) (by omega)).mp c
            omega
          · rw [ex1] at c
            have := (nI_eq (by omega) (by omega)).mp c
            omega
    exact st1 24 g hg hne hwf
  have val : ∀ g, g < 8 → (if g = f then 0 else if n.testBit g = true then (1 : Int32) else 0) = w f g := fun g hg => by
    rcases hw f g with ⟨⟨p1, p2, p3, p4⟩, q⟩ | ⟨p, q⟩
    · rw [if_neg p3, if_pos ((e2 g hg).mpr p4), q]
    · rw [q]
      by_cases c : g = f
      · rw [if_pos c]
      · rw [if_neg c, if_neg (fun r => p ⟨hfm, fun z => ?_, c, (e2 g hg).mp r⟩)]
        have r2 := (e2 g hg).mp r
        rcases wF_av _ _ r2 with q1 | q1
        · exact c q1
        · exact q1 ((hm g hg).mpr z)
  have h8 := sm_app (fun j => if j = f then 0 else if n.testBit j = true then (1 : Int32) else 0) a 0 (8 - a)
  rw [show a + (8 - a) = 8 by omega] at h8
  rw [h8, sm_0 (k := 0 + a) (c := 8 - a) (fun i h1 h2 => by
    show (if i = f then 0 else _) = (0 : Int32)
    by_cases c : i = f
    · rw [if_pos c]
    · rw [if_neg c, if_neg (fun r => by have := lta i (by omega) c ((e2 i (by omega)).mp r); omega)]), Int32.add_zero]
  exact sm_congr a 0 (fun i _ h => val i (by omega))
theorem rpS {i3 mi : Int32} {w : Nat → Nat → Int32} (hN : 6000 ≤ N) (gL : gd_L a b st) (ha : a ≤ 8) (hb : b ≤ 16) (eH : ev_H b heard st) (hv : is8 i3 (Av isA)) (hm : ∀ t, t < 8 → (Av isA t ↔ nI t = mi)) (hw : prW b tt st isA mi w) (ht : tt < 1000000) : fX2_reachablePairs N (nI a) (nI tt) heard i3 = some (sm (fun f => sm (fun g => w f g) 0 a) 0 a) := by
  unfold fX2_reachablePairs
  rw [show lX2_reachablePairs_4 N (nI a) (nI tt) heard i3 N 0 0 = some (0 + sm (fun f => sm (fun g => w f g) 0 a) 0 (a - 0)) from acc_loop (lX2_reachablePairs_4 N (nI a) (nI tt) heard i3) _ a (fun n y => by
      rw [lX2_reachablePairs_4, if_pos (nI_le (Nat.le_refl _) (by omega))]) (fun n y f hf => by
      rw [lX2_reachablePairs_4, if_neg (nI_ge hf (by omega)), nI_1]
      by_cases c : nI f = mi
      · have e0 : sm (fun g => w f g) 0 a = 0 := sm_0 (fun i _ _ => by
          rcases hw f i with ⟨⟨p1, _⟩, _⟩ | ⟨_, q⟩
          · exact absurd c p1
          · exact q)
        rw [if_neg (fun r => (is8_bit0 hv (by omega)).mp r ((hm f (by omega)).mpr c)), e0, Int32.add_zero]
      · rw [if_pos ((is8_bit0 hv (by omega)).mpr (fun r => c ((hm f (by omega)).mp r))), re2 hN gL ha hb eH hv hm hw hf c ht, rn_bs]) N 0 0 (by omega) (by omega), rn_bs, Int32.zero_add, Nat.sub_zero]
theorem pw7 {mi : Int32} {w : Nat → Nat → Int32} (hN : 6000 ≤ N) (gS : gd_S a st) (gL : gd_L a b st) (z0 : st 0 = nI a) (z1 : st 1 = nI b) (z3 : st 3 = nI tt) (ha : a ≤ 8) (hb : b ≤ 16) (hm : ∀ t, t < 8 → (Av isA t ↔ nI t = mi)) (hw : prW b tt st isA mi w) (ht : tt < 1000000) (A K : Nat → Int32) : ∃ A' K', fX7_pairsWithout N st A K isA mi = some (sm (fun f => sm (fun g => w f g) 0 a) 0 a, A', K') := by
  have lp : ∀ (n g : Nat) (acc : Int32) (A K : Nat → Int32), g ≤ a → a - g < n → ∃ A' K', lX7_pairsWithout_4 N st isA mi n acc (nI g) A K = some (acc + sm (fun g => sm (fun f => w f g) 0 a) g (a - g), A', K') := by
    intro n
    induction n with
    | zero => intro g acc A K _ h; omega
    | succ n ih =>
      intro g acc A K hg hn
      rw [lX7_pairsWithout_4, g0, cl0, z0]
      rcases Nat.lt_or_ge g a with c | c
      · rw [if_neg (nI_ge c (by omega)), show a - g = (a - (g + 1)) + 1 by omega]
        by_cases d : nI g = mi
        · have e0 : sm (fun f => w f g) 0 a = 0 := sm_0 (fun i _ _ => by
            rcases hw i g with ⟨⟨_, p1, _⟩, _⟩ | ⟨_, q⟩
            · exact absurd d p1
            · exact q)
          obtain ⟨A', K', r⟩ := ih (g + 1) acc A K (by omega) (by omega)
          rw [if_pos d, nI_1, r]
          refine ⟨A', K', ?_⟩
          show _ = some (acc + (sm (fun f => w f g) 0 a + sm (fun g => sm (fun f => w f g) 0 a) (g + 1) (a - (g + 1))), A', K')
          rw [e0, Int32.zero_add]
        · obtain ⟨A1, K1, y1, y2⟩ := lay7 (A := A) (K := K) (isA := isA) (g := g) hN gS gL z1 ha hb (τ := tt) ht (by omega)
          have inn : lX7_pairsWithout_36 st mi (nI g) (A1, K1) N acc 0 = some (acc + sm (fun f => w f g) 0 (a - 0)) := acc_loop (lX7_pairsWithout_36 st mi (nI g) (A1, K1)) (fun f => w f g) a (fun n y => by
              rw [lX7_pairsWithout_36, g0, cl0, z0, if_pos (nI_le (Nat.le_refl _) (by omega))]) (fun n y f hf => by
              rw [lX7_pairsWithout_36, g0, cl0, z0, if_neg (nI_ge hf (by omega)), nI_1]
              by_cases c1 : f = g
              · rw [if_pos (by rw [c1])]
                rcases hw f g with ⟨⟨_, _, p, _⟩, _⟩ | ⟨_, q⟩
                · exact absurd c1.symm p
                · rw [q]
              · rw [if_neg (fun q => c1 ((nI_eq (by omega) (by omega)).mp q))]
                by_cases c2 : nI f = mi
                · rw [if_pos c2]
                  rcases hw f g with ⟨⟨p, _⟩, _⟩ | ⟨_, q⟩
                  · exact absurd c2 p
                  · rw [q]
                · rw [if_neg c2, rn_gI (by omega) (by decide), nI_clamp (by omega)]
                  have wy := way_eq y2 (show f < 8 by omega) (show g < 8 by omega) c1 ht
                  by_cases c3 : wF (Eh b st tt) (Av isA) f 24 g
                  · have hex : ∃ H, wF (Eh b st tt) (Av isA) f H g := ⟨24, c3⟩
                    obtain ⟨H, h1, h2⟩ := least_of hex
                    have H24 := h2 24 c3
                    have H0 : 0 < H := by
                      rcases Nat.eq_zero_or_pos H with q | q
                      · subst q
                        exact absurd (show g = f from h1).symm c1
                      · exact q
                    obtain ⟨H', rfl⟩ : ∃ H', H = H' + 1 := ⟨H - 1, by omega⟩
                    obtain ⟨k0, hk0⟩ := (wF_iff (show g < 8 by omega) (show f < 8 by omega)).mp h1
                    obtain ⟨mm, hm1, hm2⟩ := least_of ⟨k0, hk0⟩
                    have v := (wy.2 H' mm (by omega) h1 (fun d hd q => by have := h2 (d + 1) q; omega) ⟨hm1, hm2⟩).1
                    rw [show (A1, K1).1 f = nI (tt + (H' + 1)) from v, if_neg (show ¬ (1000000000 : Int32) ≤ nI (tt + (H' + 1)) from nI_ge (b := 1000000000) (by omega) (by decide))]
                    rcases hw f g with ⟨_, q⟩ | ⟨p, _⟩
                    · rw [q]
                    · exact absurd ⟨c2, d, fun q => c1 q.symm, c3⟩ p
                  · have v := wy.1 (fun d hd q => c3 (wF_up q (by omega)))
                    rw [show (A1, K1).1 f = 1000000000 from v, if_pos (Int32.le_refl _)]
                    rcases hw f g with ⟨⟨_, _, _, p⟩, _⟩ | ⟨_, q⟩
                    · exact absurd p c3
                    · rw [q]) N 0 acc (by omega) (by omega)
          rw [if_neg d, g3, cl3, z3, y1, rn_bs, show lX7_pairsWithout_36 st mi (nI g) (A1, K1) N acc 0 = _ from inn, rn_bs, nI_1]
          obtain ⟨A', K', r⟩ := ih (g + 1) (acc + sm (fun f => w f g) 0 (a - 0)) A1 K1 (by omega) (by omega)
          rw [show lX7_pairsWithout_4 N st isA mi n (acc + sm (fun f => w f g) 0 (a - 0)) (nI (g + 1)) (A1, K1).1 (A1, K1).2 = _ from r]
          refine ⟨A', K', ?_⟩
          show _ = some (acc + (sm (fun f => w f g) 0 a + sm (fun g => sm (fun f => w f g) 0 a) (g + 1) (a - (g + 1))), A', K')
          rw [Nat.sub_zero, Int32.add_assoc]
      · have : g = a := by omega
        subst this
        rw [if_pos (nI_le (Nat.le_refl _) (by omega)), Nat.sub_self]
        exact ⟨A, K, by show _ = some (acc + 0, A, K); rw [Int32.add_zero]⟩
  obtain ⟨A', K', r⟩ := lp N 0 0 A K (by omega) (by omega)
  refine ⟨A', K', ?_⟩
  unfold fX7_pairsWithout
  rw [show lX7_pairsWithout_4 N st isA mi N (0 : Int32) (0 : Int32) A K = _ from r, rn_bs, sm_swap (fun f g => w f g) a a 0, Nat.sub_zero, Int32.zero_add]
theorem pr_bd {mi : Int32} {w : Nat → Nat → Int32} (ha : a ≤ 8) (hw : prW b tt st isA mi w) : ∃ v, v ≤ 100 ∧ sm (fun f => sm (fun g => w f g) 0 a) 0 a = nI v := by
  obtain ⟨v, v1, v2⟩ := sm_bd (g := fun f => sm (fun g => w f g) 0 a) (B := 8) a 0 (fun f _ _ => by
    obtain ⟨v, v1, v2, -⟩ := sm_01 (g := fun g => w f g) (fun g => by
      rcases hw f g with ⟨_, q⟩ | ⟨_, q⟩
      · exact Or.inr q
      · exact Or.inl q) a 0
    exact ⟨v, by omega, v2⟩)
  exact ⟨v, by omega, v2⟩
theorem co_reachable (hN : 6000 ≤ N) (ht : t ≤ 90000) (h : rl_net t sc lc mc tm life tries x stations links messages copies first size events heard st) (thr : Int32) (A K I : Nat → Int32) : ∃ (v : Int32) (w : _), fX6_reachable N sc tm heard = some v ∧ fX7_reachable N thr st A K I = some (v, 0, w) := by
  obtain ⟨a, b, m, e, tt, h0, eH⟩ := h
  obtain ⟨hA, hZ⟩ := rlA_iff.mp h0
  obtain ⟨ha, hb, hm, he, htt⟩ := hA.1.1.1
  obtain ⟨-, z0, z1, z2', z3, z7, z6⟩ := hA.1.1
  have sce : sc = nI a := hA.1.2.1.trans z0
  have tme : tm = nI tt := hA.1.2.2.2.2.1.trans z3
  subst sce tme
  obtain ⟨I0, a1, a2⟩ := av7 (isA := I) hN
  have hv : is8 (0 : Int32) (Av I0) := is8_w is8_0 (fun j hj => ⟨fun q => q.elim, fun q => q (a2 j hj)⟩)
  have hmi : ∀ t, t < 8 → (Av I0 t ↔ nI t = -1) := fun t ht => ⟨fun q => absurd (a2 t ht) q, fun q => by
    have := nI_pos (n := t) (by omega)
    rw [q] at this
    exact absurd (by decide) this⟩
  obtain ⟨w, hw⟩ := prW_ex (b := b) (tt := tt) (st := st) (isA := I0) (-1)
  obtain ⟨A', K', r⟩ := pw7 hN hA.2.1.1 hA.2.2.1.1 z0 z1 z3 ha hb hmi hw (show tt < 1000000 by omega) A K
  refine ⟨sm (fun f => sm (fun g => w f g) 0 a) 0 a, (A', K', I0), ?_, ?_⟩
  · unfold fX6_reachable
    rw [rpS hN hA.2.2.1.1 ha hb eH hv hmi hw (by omega), rn_bs]
  · unfold fX7_reachable
    rw [a1, rn_bs, r, rn_bs]
end QE
