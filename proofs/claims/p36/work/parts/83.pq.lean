/-! a frame that comes: a duplicate, or a new copy -/
section PQ
variable {k u : Nat} {st st' : Nat → Int32}
theorem gZ_d1 (hk : k < 24) (hu : u < 8) (h3 : ∀ i, i < 8 → qS st' i 3 = qS st i 3) (h5 : ∀ j, j < 16 → qL st' j 5 = qL st j 5) (h6 : ∀ i, i < 8 → i ≠ u → qS st' i 6 = qS st i 6) (h61 : qS st' u 6 = qS st u 6 + 1) (hd : ∀ k', k' < 24 → k' ≠ k → ((∃ s, s < 8 ∧ qC st' k' s 0 = 5) ↔ ∃ s, s < 8 ∧ qC st k' s 0 = 5)) (hd0 : ¬ ∃ s, s < 8 ∧ qC st k s 0 = 5) (hd1 : ∃ s, s < 8 ∧ qC st' k s 0 = 5) (g : gd_Z st) : gd_Z st' := by
  unfold gd_Z at *
  rw [isum_c 8 (f := fun i => qS st' i 3) (g := fun i => qS st i 3) h3, isum_c 16 (f := fun i => qL st' i 5) (g := fun i => qL st i 5) h5]
  refine ⟨g.1, ?_⟩
  rw [isum_one (f := fun i => qS st' i 6) (g := fun i => qS st i 6) (j := u) 8 hu h6 h61, g.2]
  refine (isum_one (f := fun k => if q_dl st' k = true then (1 : Int32) else 0) (g := fun k => if q_dl st k = true then (1 : Int32) else 0) (j := k) 24 hk (fun k' hk' hne => ?_) ?_).symm
  · have e : q_dl st' k' = q_dl st k' := by rw [Bool.eq_iff_iff, dl_iff, dl_iff]; exact hd k' hk' hne
    show (if q_dl st' k' = true then (1 : Int32) else 0) = if q_dl st k' = true then 1 else 0
    rw [e]
  · show (if q_dl st' k = true then (1 : Int32) else 0) = (if q_dl st k = true then 1 else 0) + 1
    rw [if_pos (dl_iff.mpr hd1), if_neg (fun q => hd0 (dl_iff.mp q))]
    rfl
theorem gZ_s1 {s l : Nat} (hs : s < 8) (hl : l < 16) (h3 : ∀ i, i < 8 → i ≠ s → qS st' i 3 = qS st i 3) (h31 : qS st' s 3 = qS st s 3 + 1) (h5 : ∀ j, j < 16 → j ≠ l → qL st' j 5 = qL st j 5) (h51 : qL st' l 5 = qL st l 5 + 1) (h6 : ∀ i, i < 8 → qS st' i 6 = qS st i 6) (hC : sCc st st') (g : gd_Z st) : gd_Z st' := by
  unfold gd_Z at *
  rw [isum_c 8 (f := fun i => qS st' i 6) (g := fun i => qS st i 6) h6, isum_c (f := fun k => if q_dl st' k = true then (1 : Int32) else 0) (g := fun k => if q_dl st k = true then (1 : Int32) else 0) 24 (fun k hk => by rw [dl_c hC hk])]
  refine ⟨?_, g.2⟩
  rw [isum_one (f := fun i => qS st' i 3) (g := fun i => qS st i 3) (j := s) 8 hs h3 h31, isum_one (f := fun i => qL st' i 5) (g := fun i => qL st i 5) (j := l) 16 hl h5 h51, g.1]
theorem shw : ∀ L : Nat, L < 8 → ∀ u : Nat, u < 8 → nI u <<< ((nI L * (3 : Int32)) &&& (31 : Int32)) = nI (u * 8 ^ L) := by decide +kernel
theorem pk_c {f f' : Nat → Nat} : ∀ L, (∀ i, i < L → f' i = f i) → q_pk f' L = q_pk f L := by
  intro L
  induction L with
  | zero => intro _; rfl
  | succ L ih =>
    intro h
    show q_pk f' L + f' L * 8 ^ L = q_pk f L + f L * 8 ^ L
    rw [ih (fun i hi => h i (by omega)), h L (by omega)]
theorem pk_more {f : Nat → Nat} {L : Nat} (hL : L < 8) (hf : ∀ i, i < L → f i < 8) (hu : u < 8) : nI (q_pk f L) ||| (nI u <<< ((nI L * (3 : Int32)) &&& (31 : Int32))) = nI (q_pk f L + u * 8 ^ L) := by
  have h1 := pk_lt8 L hf
  have h2 := pw8 L (by omega)
  have h3 : u * 8 ^ L ≤ 7 * 8 ^ L := Nat.mul_le_mul_right _ (by omega)
  rw [shw L hL u hu, nI_or (by omega) (by omega)]
  congr 1
  have e : 8 ^ L = 2 ^ (3 * L) := by rw [Nat.pow_mul]
  rw [e] at h1 ⊢
  have := Nat.two_pow_add_eq_or_of_lt h1 u
  rw [Nat.or_comm, Nat.mul_comm u, ← this, Nat.add_comm]
end PQ
section PR
variable {N t a b m e tt τ : Nat} {sc lc mc tm life tries x : Int32} {stations links messages copies : Nat → Int32} {first size : Int32} {events st : Nat → Int32}
theorem pS_a (h : rlA t a b m e tt τ sc lc mc tm life tries x stations links messages copies first size events st) {i q : Nat} (hi : i < a) (hq : 3 ≤ q) (hq7 : q < 7) : fX4_add (8 : Int32) (10 : Int32) 80 stations (nI i) (nI (sC q)) (1 : Int32) = some (upd stations (10 * i + sC q) (st (8 + 7 * i + q) + 1)) ∧ fX7_add st (((8 : Int32) + (7 : Int32) * nI i) + nI q) = some (upd st (8 + 7 * i + q) (st (8 + 7 * i + q) + 1)) ∧ rlA t a b m e tt τ sc lc mc tm life tries x (upd stations (10 * i + sC q) (st (8 + 7 * i + q) + 1)) links messages copies first size events (upd st (8 + 7 * i + q) (st (8 + 7 * i + q) + 1)) := by
  have ha := h.1.1.1.1
  have e1 : stations (10 * i + sC q) = st (8 + 7 * i + q) := h.2.1.2 i q (by omega) hq7
  have h1 : sC q < 10 := by unfold sC; split <;> omega
  exact ⟨by rw [aS (by omega) h1, e1], ad1 (sPl i q) (by omega), p_S h hi hq hq7⟩
theorem pL_a (h : rlA t a b m e tt τ sc lc mc tm life tries x stations links messages copies first size events st) {i q : Nat} (hi : i < b) (hq : 5 ≤ q) (hq7 : q < 8) : fX4_add (16 : Int32) (9 : Int32) 144 links (nI i) (nI (lC q)) (1 : Int32) = some (upd links (9 * i + lC q) (st (64 + 8 * i + q) + 1)) ∧ fX7_add st (((64 : Int32) + (8 : Int32) * nI i) + nI q) = some (upd st (64 + 8 * i + q) (st (64 + 8 * i + q) + 1)) ∧ rlA t a b m e tt τ sc lc mc tm life tries x stations (upd links (9 * i + lC q) (st (64 + 8 * i + q) + 1)) messages copies first size events (upd st (64 + 8 * i + q) (st (64 + 8 * i + q) + 1)) := by
  have hb := h.1.1.1.2.1
  have e1 : links (9 * i + lC q) = st (64 + 8 * i + q) := h.2.2.1.2.2 i q (by omega) hq7
  have h1 : lC q < 9 := by unfold lC; split <;> omega
  exact ⟨by rw [aL (by omega) h1, e1], ad1 (lPl i q) (by omega), p_L h hi hq hq7⟩
theorem pM_a (h : rlA t a b m e tt τ sc lc mc tm life tries x stations links messages copies first size events st) {i q : Nat} (hi : i < 24) (hq : 3 ≤ q) (hq7 : q < 8) : fX4_add (24 : Int32) (12 : Int32) 288 messages (nI i) (nI (mC q)) (1 : Int32) = some (upd messages (12 * i + mC q) (st (192 + 8 * i + q) + 1)) ∧ fX7_add st (((192 : Int32) + (8 : Int32) * nI i) + nI q) = some (upd st (192 + 8 * i + q) (st (192 + 8 * i + q) + 1)) ∧ rlA t a b m e tt τ sc lc mc tm life tries x stations links (upd messages (12 * i + mC q) (st (192 + 8 * i + q) + 1)) copies first size events (upd st (192 + 8 * i + q) (st (192 + 8 * i + q) + 1)) := by
  have e1 : messages (12 * i + mC q) = st (192 + 8 * i + q) := h.2.2.2.1.2 i q hi hq7
  have h1 : mC q < 12 := by
    unfold mC
    split
    · omega
    · split <;> omega
  exact ⟨by rw [aM (by omega) h1, e1], ad1 (mPl i q) (by omega), p_M h hi (by omega) hq7 (fun q => by omega)⟩
/-- a new copy -/
theorem p_N {k u v L T : Nat} {f : Nat → Nat} {st' : Nat → Int32} (h : rlA t a b m e tt τ sc lc mc tm life tries x stations links messages copies first size events st) (hk : k < m) (hu : u < a) (hv : (v = 1 ∧ ¬ qM st k 1 = nI u) ∨ (v = 5 ∧ qM st k 1 = nI u)) (hL : L < 8) (hf : ∀ i, i < L → f i < 8 ∧ f i ≠ u) (hd : ∀ i j, i < L → j < L → f i = f j → i = j) (hτ : T < τ)
    (d : ∀ p, (p < 384 + 12 * (8 * k + u) ∨ 384 + 12 * (8 * k + u) + 12 ≤ p) → st' p = st p) (d0 : qC st' k u 0 = nI v) (d1 : qC st' k u 1 = 0) (d2 : qC st' k u 2 = nI T) (d3 : qC st' k u 3 = nI (L + 1)) (dp : ∀ i, i < L → qC st' k u (4 + i) = nI (f i)) (dL : qC st' k u (4 + L) = nI u) :
    rlA t a b m e tt τ sc lc mc tm life tries x stations links (if v = 5 then upd (upd messages (12 * k + 5) (nI T)) (12 * k + 6) (nI L) else messages) (upd (upd (upd (upd (upd copies (5 * (8 * k + u)) (nI v)) (5 * (8 * k + u) + 1) 0) (5 * (8 * k + u) + 2) (nI T)) (5 * (8 * k + u) + 3) (nI (L + 1))) (5 * (8 * k + u) + 4) (nI (q_pk f L + u * 8 ^ L))) first size events st' := by
  obtain ⟨⟨n1, n2⟩, ⟨S1, S2⟩, ⟨L1, L2, L3⟩, ⟨M1, M2⟩, ⟨C1, C2, C3⟩, D, E1, E2⟩ := h
  obtain ⟨ha, hb, hm, he, -⟩ := n1.1
  have rN : sN st st' := fun i hi => d i (by omega)
  have rS : sS st st' := fun i q hi hq => d _ (by omega)
  have rL : sL st st' := fun i q hi hq => d _ (by omega)
  have rM : sM st st' := fun i q hi hq => d _ (by omega)
  have rE : sE st st' := fun i q hi hq => d _ (by omega)
  have cs : ∀ k' s' q, k' < 24 → s' < 8 → q < 12 → ¬ (k' = k ∧ s' = u) → qC st' k' s' q = qC st k' s' q := fun k' s' q h1 h2 h3 h4 => d _ (by omega)
  have v5 : nI v = 5 ↔ qM st k 1 = nI u := by
    rcases hv with ⟨rfl, q⟩ | ⟨rfl, q⟩
    · exact ⟨fun r => absurd r (by decide), fun r => absurd r q⟩
    · exact ⟨fun _ => q, fun _ => rfl⟩
  have v1 : 1 ≤ v ∧ v ≤ 5 := by omega
  have fL : ∀ i, i < L + 1 → qC st' k u (4 + i) = nI (if i < L then f i else u) := fun i hi => by
    by_cases c : i < L
    · rw [if_pos c]; exact dp i c
    · have : i = L := by omega
      subst this
      rw [if_neg c]
      exact dL
  have fb : ∀ i, i < L + 1 → (if i < L then f i else u) < 8 := fun i hi => by
    by_cases c : i < L
    · rw [if_pos c]; exact (hf i c).1
    · rw [if_neg c]; omega
  have cp : ∀ r q : Nat, q < 5 → ¬ r = 8 * k + u → (upd (upd (upd (upd (upd copies (5 * (8 * k + u)) (nI v)) (5 * (8 * k + u) + 1) 0) (5 * (8 * k + u) + 2) (nI T)) (5 * (8 * k + u) + 3) (nI (L + 1))) (5 * (8 * k + u) + 4) (nI (q_pk f L + u * 8 ^ L))) (5 * r + q) = copies (5 * r + q) := fun r q hq hr => by
    rw [pk_un (by omega), pk_un (by omega), pk_un (by omega), pk_un (by omega), pk_un (by omega)]
  refine ⟨⟨gn_c rN n1, evn_c rN n2⟩, ⟨gS_c rS S1, evS_c rS S2⟩, ⟨gL_c rL L1, gU_c hb rL L2, evL_c rL L3⟩, ⟨gM_c hm rM M1, fun k' q hk' hq => ?_⟩, ⟨fun k' s' hk' hs' => ?_, fun k' s' q hk' hs' hq => ?_, fun k' s' hk' hs' h0' => ?_⟩, fun k' g hk' hg' hx => ?_, gE_c he rE E1, evE_c he rE E2⟩
  · rw [rM k' q hk' hq, ← M2 k' q hk' hq]
    have hmC : mC q ≠ 5 ∧ mC q ≠ 6 ∧ mC q < 12 := by
      unfold mC
      split
      · omega
      · split <;> omega
    by_cases c : v = 5
    · rw [if_pos c, pk_un (by omega), pk_un (by omega)]
    · rw [if_neg c]
  · by_cases c : k' = k ∧ s' = u
    · obtain ⟨rfl, rfl⟩ := c
      right
      refine ⟨hk, hu, ⟨v, v1.1, v1.2, d0⟩, ?_, ⟨T, hτ, d2⟩, L + 1, d3, by omega, by omega, fun i hi => ⟨_, fb i hi, fL i hi⟩, fun i j hi hj hq => ?_, ?_⟩
      · rw [d0, rM k' 1 hk' (by decide)]
        exact v5
      · have hq : qC st' k' s' (4 + i) = qC st' k' s' (4 + j) := hq
        rw [fL i hi, fL j hj] at hq
        have hq := (nI_eq (by have := fb i hi; omega) (by have := fb j hj; omega)).mp hq
        by_cases c1 : i < L
        · by_cases c2 : j < L
          · rw [if_pos c1, if_pos c2] at hq
            exact hd i j c1 c2 hq
          · rw [if_pos c1, if_neg c2] at hq
            exact absurd hq (hf i c1).2
        · by_cases c2 : j < L
          · rw [if_neg c1, if_pos c2] at hq
            exact absurd hq.symm (hf j c2).2
          · omega
      · show qC st' k' s' (4 + (L + 1 - 1)) = nI s'
        rw [Nat.add_sub_cancel]
        exact dL
    · rw [cs k' s' 0 hk' hs' (by decide) c, cs k' s' 1 hk' hs' (by decide) c]
      rcases C1 k' s' hk' hs' with r | ⟨r1, r2, r3⟩
      · exact Or.inl r
      · exact Or.inr ⟨r1, r2, gc_c hk' hs' (fun q hq => cs k' s' q hk' hs' hq c) (rM k' 1 hk' (by decide)) r3⟩
  · by_cases c : k' = k ∧ s' = u
    · obtain ⟨rfl, rfl⟩ := c
      have : q = 0 ∨ q = 1 ∨ q = 2 ∨ q = 3 := by omega
      rcases this with rfl | rfl | rfl | rfl
      · rw [pk_un (by omega), pk_un (by omega), pk_un (by omega), pk_un (by omega), Nat.add_zero, pk_us, d0]
      · rw [pk_un (by omega), pk_un (by omega), pk_un (by omega), pk_us, d1]
      · rw [pk_un (by omega), pk_un (by omega), pk_us, d2]
      · rw [pk_un (by omega), pk_us, d3]
    · rw [cs k' s' q hk' hs' (by omega) c, cp (8 * k' + s') q (by omega) (by omega)]
      exact C2 k' s' q hk' hs' hq
  · by_cases c : k' = k ∧ s' = u
    · obtain ⟨rfl, rfl⟩ := c
      refine ⟨L + 1, fun i => if i < L then f i else s', by omega, d3, fun i hi => ⟨fb i hi, fL i hi⟩, ?_⟩
      rw [pk_us]
      show _ = nI (q_pk (fun i => if i < L then f i else s') L + (if L < L then f L else s') * 8 ^ L)
      rw [pk_c L (f := f) (fun i hi => if_pos hi), if_neg (Nat.lt_irrefl L)]
    · rw [cs k' s' 0 hk' hs' (by decide) c] at h0'
      obtain ⟨L', f', l1, l2, l3, l4⟩ := C3 k' s' hk' hs' h0'
      exact ⟨L', f', l1, by rw [cs k' s' 3 hk' hs' (by decide) c]; exact l2, fun i hi => ⟨(l3 i hi).1, by rw [cs k' s' (4 + i) hk' hs' (by omega) c]; exact (l3 i hi).2⟩, by rw [cp (8 * k' + s') 4 (by decide) (by omega)]; exact l4⟩
  · rw [rM k' 1 (by omega) (by decide)] at hx
    have dd := D k' g hk' hg' hx
    by_cases c : k' = k ∧ g = u
    · obtain ⟨rfl, rfl⟩ := c
      rw [d0, d2, d3]
      have c5 : v = 5 := by
        rcases hv with ⟨_, q⟩ | ⟨q, _⟩
        · exact absurd hx q
        · exact q
      rw [if_pos c5]
      refine ⟨fun _ => ⟨?_, ?_⟩, fun q => absurd (v5.mpr hx) q⟩
      · rw [pk_un (by omega), pk_us]
      · rw [pk_us, ← nI_1 L]
        exact (Int32.add_sub_cancel _ _).symm
    · rw [cs k' g 0 (by omega) hg' (by decide) c, cs k' g 2 (by omega) hg' (by decide) c, cs k' g 3 (by omega) hg' (by decide) c]
      by_cases c5 : v = 5
      · have nk : ¬ k' = k := fun hkk => by
          subst hkk
          apply c
          refine ⟨rfl, ?_⟩
          rcases hv with ⟨q1, _⟩ | ⟨_, q2⟩
          · omega
          · rw [hx] at q2
            exact (nI_eq (by omega) (by omega)).mp q2
        rw [if_pos c5, pk_un (by omega), pk_un (by omega), pk_un (by omega), pk_un (by omega)]
        exact dd
      · rw [if_neg c5]
        exact dd
end PR
