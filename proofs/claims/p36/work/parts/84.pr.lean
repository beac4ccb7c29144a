/-! a frame that comes, on both sides -/
section PS
variable {N t a b m e tt τ : Nat} {sc lc mc tm life tries x : Int32} {stations links messages copies : Nat → Int32} {first size : Int32} {events st : Nat → Int32}
/-- a copy under way: its first j stations are laid -/
def nwC (t1 : Nat → Int32) (P v T : Nat) (f : Nat → Nat) (j : Nat) (y : Nat → Int32) : Prop := (∀ p, (p < P ∨ P + 12 ≤ p) → y p = t1 p) ∧ y P = nI v ∧ y (P + 1) = 0 ∧ y (P + 2) = nI T ∧ y (P + 3) = nI j ∧ ∀ i, i < j → y (P + 4 + i) = nI (f i)
theorem ex7 {k u v j T : Nat} {f : Nat → Nat} {t1 y : Nat → Int32} (hk : k < 24) (hu : u < 8) (hj : j < 8) (h : nwC t1 (384 + 12 * (8 * k + u)) v T f j y) : ∃ y', fX7_extendPath y (nI k) (nI u) (nI (f j)) = some y' ∧ nwC t1 (384 + 12 * (8 * k + u)) v T f (j + 1) y' := by
  obtain ⟨h1, h2, h3, h4, h5, h6⟩ := h
  refine ⟨upd (upd y (384 + 12 * (8 * k + u) + 4 + j) (nI (f j))) (384 + 12 * (8 * k + u) + 3) (nI (j + 1)), ?_, fun p hp => ?_, ?_, ?_, ?_, pk_us, fun i hi => ?_⟩
  · unfold fX7_extendPath
    simp only [oP, rn_bs, show nI (384 + 12 * (8 * k + u)) + (3 : Int32) = nI (384 + 12 * (8 * k + u) + 3) from nI_add _ 3, show nI (384 + 12 * (8 * k + u)) + (4 : Int32) = nI (384 + 12 * (8 * k + u) + 4) from nI_add _ 4, rn_lt, nI_clamp (show 384 + 12 * (8 * k + u) + 3 < 2 ^ 31 by omega), h5, nI_add, nI_clamp (show 384 + 12 * (8 * k + u) + 4 + j < 2 ^ 31 by omega)]
    rw [rn_gI (by omega) (by decide), rn_gI (by omega) (by decide), rn_gI (by omega) (by decide), rn_gI (by omega) (by decide), pk_un (by omega), h5, nI_1]
  · rw [pk_un (by omega), pk_un (by omega)]
    exact h1 p hp
  · rw [pk_un (by omega), pk_un (by omega)]
    exact h2
  · rw [pk_un (by omega), pk_un (by omega)]
    exact h3
  · rw [pk_un (by omega), pk_un (by omega)]
    exact h4
  · rw [pk_un (by omega)]
    by_cases c : i = j
    · subst c
      exact pk_us
    · rw [pk_un (by omega)]
      exact h6 i (by omega)
theorem gl7 {k s u v L T : Nat} {f : Nat → Nat} {t1 : Nat → Int32} (hN : 6000 ≤ N) (hk : k < 24) (hs : s < 8) (hu : u < 8) (hsu : ¬ s = u) (hL : L ≤ 8) (e3 : qC t1 k s 3 = nI L) (ef : ∀ i, i < L → qC t1 k s (4 + i) = nI (f i)) (y : Nat → Int32) (h : nwC t1 (384 + 12 * (8 * k + u)) v T f 0 y) : ∃ y', lX7_get_103 (nI k) (nI s) (nI u) N (0 : Int32) y = some y' ∧ nwC t1 (384 + 12 * (8 * k + u)) v T f L y' := by
  have lp : ∀ (n j : Nat) (y : Nat → Int32), j ≤ L → L - j < n → nwC t1 (384 + 12 * (8 * k + u)) v T f j y → ∃ y', lX7_get_103 (nI k) (nI s) (nI u) n (nI j) y = some y' ∧ nwC t1 (384 + 12 * (8 * k + u)) v T f L y' := by
    intro n
    induction n with
    | zero => intro j y _ h; omega
    | succ n ih =>
      intro j y hj hn hy
      have r : ∀ q, q < 12 → qC y k s q = qC t1 k s q := fun q hq => hy.1 _ (by omega)
      rw [lX7_get_103, show fX7_ofCopy y (nI k) (nI s) (3 : Int32) = some (nI L) from (oC (q := 3) hk hs (by decide)).trans (congrArg some ((r 3 (by decide)).trans e3)), rn_bs]
      rcases Nat.lt_or_ge j L with c | c
      · rw [if_neg (nI_ge c (by omega)), show (4 : Int32) + nI j = nI (4 + j) by rw [show (4 : Int32) = nI 4 from rfl, nI_add], show fX7_ofCopy y (nI k) (nI s) (nI (4 + j)) = some (nI (f j)) from (oC hk hs (by omega)).trans (congrArg some ((r (4 + j) (by omega)).trans (ef j c))), rn_bs]
        obtain ⟨y', w1, w2⟩ := ex7 hk hu (show j < 8 by omega) hy
        rw [w1, rn_bs, nI_1]
        exact ih (j + 1) y' (by omega) (by omega) w2
      · have : j = L := by omega
        subst this
        rw [if_pos (nI_le (Nat.le_refl _) (by omega))]
        exact ⟨y, rfl, hy⟩
  exact lp N 0 y (by omega) (by omega) h
theorem pc7 {k u v T : Nat} {f : Nat → Nat} {t1 : Nat → Int32} (hk : k < 24) (hu : u < 8) : ∃ y, fX7_putCopy t1 (nI k) (nI u) (nI v) (nI T) = some y ∧ nwC t1 (384 + 12 * (8 * k + u)) v T f 0 y := by
  refine ⟨upd (upd (upd (upd t1 (384 + 12 * (8 * k + u)) (nI v)) (384 + 12 * (8 * k + u) + 1) 0) (384 + 12 * (8 * k + u) + 2) (nI T)) (384 + 12 * (8 * k + u) + 3) 0, ?_, fun p hp => ?_, ?_, ?_, ?_, pk_us, fun i hi => by omega⟩
  · unfold fX7_putCopy
    simp only [oP, rn_bs, show nI (384 + 12 * (8 * k + u)) + (0 : Int32) = nI (384 + 12 * (8 * k + u)) from Int32.add_zero _, show nI (384 + 12 * (8 * k + u)) + (1 : Int32) = nI (384 + 12 * (8 * k + u) + 1) from nI_add _ 1, show nI (384 + 12 * (8 * k + u)) + (2 : Int32) = nI (384 + 12 * (8 * k + u) + 2) from nI_add _ 2, show nI (384 + 12 * (8 * k + u)) + (3 : Int32) = nI (384 + 12 * (8 * k + u) + 3) from nI_add _ 3, rn_lt, nI_clamp (show 384 + 12 * (8 * k + u) + 3 < 2 ^ 31 by omega), nI_clamp (show 384 + 12 * (8 * k + u) + 2 < 2 ^ 31 by omega), nI_clamp (show 384 + 12 * (8 * k + u) + 1 < 2 ^ 31 by omega), nI_clamp (show 384 + 12 * (8 * k + u) < 2 ^ 31 by omega)]
    rw [rn_gI (by omega) (by decide), rn_gI (by omega) (by decide), rn_gI (by omega) (by decide), rn_gI (by omega) (by decide)]
  · rw [pk_un (by omega), pk_un (by omega), pk_un (by omega), pk_un (by omega)]
  · rw [pk_un (by omega), pk_un (by omega), pk_un (by omega), pk_us]
  · rw [pk_un (by omega), pk_un (by omega), pk_us]
  · rw [pk_un (by omega), pk_us]
theorem gt_eq {k s u : Nat} (hN : 6000 ≤ N) (h : rlA t a b m e tt τ sc lc mc tm life tries x stations links messages copies first size events st) (hZ : gd_Z st) (ht : t < 1000000) (hτ : tt + 1 < τ) (hk : k < m) (hs : s < a) (hu : u < a) (hsu : ¬ s = u) (h0 : ¬ qC st k s 0 = 0) (hnp : ∀ i L, qC st k s 3 = nI L → L ≤ 8 → i < L → ¬ qC st k s (4 + i) = nI u) :
    ∃ st' e' stations' messages' copies' first' size' events', fX7_get N st (nI k) (nI s) (nI u) = some st' ∧ fX2_takeFrame tm stations messages copies first size events (nI k) (nI s) (nI u) = some (stations', messages', copies', first', size', events') ∧ rlA t a b m e' tt τ sc lc mc tm life tries x stations' links messages' copies' first' size' events' st' ∧ gd_Z st' ∧ kp k st st' ∧ ∀ q, q < 12 → qC st' k s q = qC st k s q := by
  obtain ⟨ha, hb, hm, he, htt⟩ := h.1.1.1
  have tme : tm = nI tt := h.1.2.2.2.2.1.trans h.1.1.2.2.2.2.1
  obtain ⟨A1, A2, A3⟩ := pS_a (q := 4) h hu (by decide) (by decide)
  have cu : copies (5 * (8 * k + u) + 0) = qC st k u 0 := h.2.2.2.2.1.2.1 k u 0 (by omega) (by omega) (by decide)
  have KS : ∀ q v, 3 ≤ q → q < 7 → ∀ y, kp k y (upd y (8 + 7 * u + q) v) := fun q v a1 a2 y => kp_S (by omega) a1 a2
  have C1 : ∀ k' s' q, k' < 24 → s' < 8 → q < 12 → qC (upd st (8 + 7 * u + 4) (st (8 + 7 * u + 4) + 1)) k' s' q = qC st k' s' q := fun k' s' q a1 a2 a3 => pk_un (by omega)
  have o0 : fX7_ofCopy (upd st (8 + 7 * u + 4) (st (8 + 7 * u + 4) + 1)) (nI k) (nI u) (0 : Int32) = some (qC st k u 0) := (oC (q := 0) (by omega) (by omega) (by decide)).trans (congrArg some (C1 k u 0 (by omega) (by omega) (by decide)))
  by_cases c : qC st k u 0 = 0
  · -- a new copy
    obtain ⟨-, ⟨g, hg, eg⟩, -⟩ := h.2.2.2.1.1 k hk
    have eg2 : messages (12 * k + 1) = nI g := (h.2.2.2.1.2 k 1 (by omega) (by decide)).trans eg
    have cS := h.2.2.2.2.1.1 k s (by omega) (by omega)
    obtain ⟨-, -, -, -, -, L0, l1, l2, l3⟩ := cS.resolve_left (fun q => h0 q.1)
    obtain ⟨L, f, f1, f2, f3, f4⟩ := h.2.2.2.2.1.2.2 k s (by omega) (by omega) h0
    have eL : L0 = L := (nI_eq (by omega) (by omega)).mp (l1.symm.trans f2)
    subst eL
    have fd : ∀ i j, i < L0 → j < L0 → f i = f j → i = j := fun i j hi hj q => l3.2.2.1 i j hi hj (by show qC st k s (4 + i) = qC st k s (4 + j); rw [(f3 i hi).2, (f3 j hj).2, q])
    have fu : ∀ i, i < L0 → f i ≠ u := fun i hi q => hnp i L0 f2 f1 hi (by rw [(f3 i hi).2, q])
    have fb : ∀ i, i < L0 + 1 → (if i < L0 then f i else u) < 8 := fun i hi => by
      by_cases c : i < L0
      · rw [if_pos c]; exact (f3 i c).1
      · rw [if_neg c]; omega
    have hL : L0 + 1 ≤ 8 := php 8 (L0 + 1) (fun i => if i < L0 then f i else u) fb (fun i j hi hj q => by
      have q : (if i < L0 then f i else u) = (if j < L0 then f j else u) := q
      by_cases c1 : i < L0
      · by_cases c2 : j < L0
        · rw [if_pos c1, if_pos c2] at q
          exact fd i j c1 c2 q
        · rw [if_pos c1, if_neg c2] at q
          exact absurd q (fu i c1)
      · by_cases c2 : j < L0
        · rw [if_neg c1, if_pos c2] at q
          exact absurd q.symm (fu j c2)
        · omega)
    -- the state of the new copy
    obtain ⟨v, hv, e8, e9⟩ : ∃ v : Nat, ((v = 1 ∧ ¬ qM st k 1 = nI u) ∨ (v = 5 ∧ qM st k 1 = nI u)) ∧ (if nI g = nI u then some (1 : Int32) else some (0 : Int32)) = some (if v = 5 then 1 else 0) ∧ (if (if v = 5 then (1 : Int32) else 0) = 0 then some (1 : Int32) else some (5 : Int32)) = some (nI v) := by
      by_cases q : nI g = nI u
      · exact ⟨5, Or.inr ⟨rfl, by rw [eg]; exact q⟩, by rw [if_pos q]; rfl, rfl⟩
      · exact ⟨1, Or.inl ⟨rfl, by rw [eg]; exact q⟩, by rw [if_neg q]; rfl, rfl⟩
    obtain ⟨y0, w1, w2⟩ := pc7 (T := tt + 1) (v := v) (f := fun i => if i < L0 then f i else u) (t1 := upd st (8 + 7 * u + 4) (st (8 + 7 * u + 4) + 1)) (show k < 24 by omega) (show u < 8 by omega)
    obtain ⟨y1, w3, w4⟩ := gl7 (s := s) (L := L0) hN (show k < 24 by omega) (show s < 8 by omega) (show u < 8 by omega) hsu f1 ((C1 k s 3 (by omega) (by omega) (by decide)).trans f2) (fun i hi => by rw [C1 k s (4 + i) (by omega) (by omega) (by omega), if_pos hi]; exact (f3 i hi).2) y0 w2
    obtain ⟨y2, w5, w6⟩ := ex7 (show k < 24 by omega) (show u < 8 by omega) (show L0 < 8 by omega) w4
    rw [if_neg (Nat.lt_irrefl L0)] at w5
    obtain ⟨x1, x2, x3, x4, x5, x6⟩ := w6
    have eg' : qM (upd st (8 + 7 * u + 4) (st (8 + 7 * u + 4) + 1)) k 1 = qM st k 1 := pk_un (by omega)
    have B := p_N (k := k) (u := u) (v := v) (L := L0) (T := tt + 1) (f := f) (st' := y2) A3 hk hu (by rw [eg']; exact hv) (by omega) (fun i hi => ⟨(f3 i hi).1, fu i hi⟩) fd hτ x1 x2 x3 x4 x5 (fun i hi => by unfold qC; rw [← Nat.add_assoc, x6 i (by omega)]; exact congrArg nI (if_pos hi)) (by unfold qC; rw [← Nat.add_assoc, x6 L0 (by omega)]; exact congrArg nI (if_neg (Nat.lt_irrefl L0)))
    have r1 : ∀ k' s' q, k' < 24 → s' < 8 → q < 12 → ¬ (k' = k ∧ s' = u) → qC y2 k' s' q = qC st k' s' q := fun k' s' q a1 a2 a3 a4 => (x1 _ (by omega)).trans (C1 k' s' q a1 a2 a3)
    have K2 : kp k st y2 := ⟨fun i q a1 a2 => (x1 _ (by omega)).trans (pk_un (by omega)), fun i q a1 a2 => (x1 _ (by omega)).trans (pk_un (by omega)), fun i q a1 a2 => (x1 _ (by omega)).trans (pk_un (by omega)), fun j a1 => (x1 _ (by omega)).trans (pk_un (by omega)), fun k' s' q a1 a2 a3 a4 => r1 k' s' q a1 a2 a3 (fun q => a4 q.1)⟩
    have mdl : fX7_get N st (nI k) (nI s) (nI u) = (if (if v = 5 then (1 : Int32) else 0) = 0 then some y2 else (fX7_add y2 (((8 : Int32) + ((7 : Int32) * nI u)) + (6 : Int32))).bind fun t18 => (fX7_note N t18 (5 : Int32) (nI k) (nI u) (nI s)).bind fun t19 => some t19) := by
      unfold fX7_get
      rw [show fX7_add st (((8 : Int32) + ((7 : Int32) * nI u)) + (4 : Int32)) = _ from A2, rn_bs, o0, rn_bs, c, if_pos rfl, show fX7_ofMessage (upd st (8 + 7 * u + 4) (st (8 + 7 * u + 4) + 1)) (nI k) (1 : Int32) = some (nI g) from (oM (q := 1) (by omega) (by decide)).trans (congrArg some (eg'.trans eg)), rn_bs, e8, rn_bs, e9, rn_bs, g3, cl3, pk_un (by omega), h.1.1.2.2.2.2.1, nI_1, w1, rn_bs, w3, rn_bs, w5, rn_bs]
    have hcS : copies (5 * (8 * k + s) + 4) = nI (q_pk f L0) := f4
    have cL : copies (5 * (8 * k + s) + 3) = nI L0 := (h.2.2.2.2.1.2.1 k s 3 (by omega) (by omega) (by decide)).trans f2
    have U : ∀ (cc : Nat → Int32) (q : Nat) (w : Int32), q < 5 → fX4_set (192 : Int32) (5 : Int32) 960 cc (nI (8 * k + u)) (nI q) w = some (upd cc (5 * (8 * k + u) + q) w) := fun cc q w hq => uC (by omega) hq
    have cls : fX2_takeFrame tm stations messages copies first size events (nI k) (nI s) (nI u) = (if (if v = 5 then (1 : Int32) else 0) = 0 then some (upd stations (10 * u + sC 4) (st (8 + 7 * u + 4) + 1), messages, (upd (upd (upd (upd (upd copies (5 * (8 * k + u)) (nI v)) (5 * (8 * k + u) + 1) 0) (5 * (8 * k + u) + 2) (nI (tt + 1))) (5 * (8 * k + u) + 3) (nI (L0 + 1))) (5 * (8 * k + u) + 4) (nI (q_pk f L0 + u * 8 ^ L0))), first, size, events) else (fX4_set (24 : Int32) (12 : Int32) 288 messages (nI k) (5 : Int32) (nI (tt + 1))).bind fun t19 => (fX4_set (24 : Int32) (12 : Int32) 288 t19 (nI k) (6 : Int32) (nI L0)).bind fun t20 => (fX4_add (8 : Int32) (10 : Int32) 80 (upd stations (10 * u + sC 4) (st (8 + 7 * u + 4) + 1)) (nI u) (8 : Int32) (1 : Int32)).bind fun t21 => (fX0_add first size events tm (5 : Int32) (nI k) (nI u) (nI s)).bind fun t22 => some (t21, t20, (upd (upd (upd (upd (upd copies (5 * (8 * k + u)) (nI v)) (5 * (8 * k + u) + 1) 0) (5 * (8 * k + u) + 2) (nI (tt + 1))) (5 * (8 * k + u) + 3) (nI (L0 + 1))) (5 * (8 * k + u) + 4) (nI (q_pk f L0 + u * 8 ^ L0))), t22.1, t22.2.1, t22.2.2)) := by
      unfold fX2_takeFrame
      rw [show fX4_add (8 : Int32) (10 : Int32) 80 stations (nI u) (6 : Int32) (1 : Int32) = _ from A1, rn_bs, rw2, rn_bs, show fX4_get (192 : Int32) (5 : Int32) 960 copies (nI (8 * k + u)) (0 : Int32) = some 0 from (tC (q := 0) (by omega) (by decide)).trans (congrArg some (cu.trans c)), rn_bs, if_pos rfl, rw2, rn_bs, show fX4_get (192 : Int32) (5 : Int32) 960 copies (nI (8 * k + s)) (3 : Int32) = some (nI L0) from (tC (q := 3) (by omega) (by decide)).trans (congrArg some cL), rn_bs, show fX4_get (24 : Int32) (12 : Int32) 288 messages (nI k) (1 : Int32) = some (nI g) from (tM (q := 1) (by omega) (by decide)).trans (congrArg some eg2), rn_bs, e8, rn_bs, e9, rn_bs, show fX4_set (192 : Int32) (5 : Int32) 960 copies (nI (8 * k + u)) (0 : Int32) (nI v) = some (upd copies (5 * (8 * k + u)) (nI v)) from U copies 0 (nI v) (by decide), rn_bs, show ∀ cc w, fX4_set (192 : Int32) (5 : Int32) 960 cc (nI (8 * k + u)) (1 : Int32) w = some (upd cc (5 * (8 * k + u) + 1) w) from fun cc w => U cc 1 w (by decide), rn_bs, show ∀ cc w, fX4_set (192 : Int32) (5 : Int32) 960 cc (nI (8 * k + u)) (2 : Int32) w = some (upd cc (5 * (8 * k + u) + 2) w) from fun cc w => U cc 2 w (by decide), rn_bs, show ∀ cc w, fX4_set (192 : Int32) (5 : Int32) 960 cc (nI (8 * k + u)) (3 : Int32) w = some (upd cc (5 * (8 * k + u) + 3) w) from fun cc w => U cc 3 w (by decide), rn_bs, show ∀ cc, fX4_get (192 : Int32) (5 : Int32) 960 cc (nI (8 * k + s)) (4 : Int32) = some (cc (5 * (8 * k + s) + 4)) from fun cc => tC (q := 4) (by omega) (by decide), rn_bs, pk_un (by omega), pk_un (by omega), pk_un (by omega), pk_un (by omega), hcS, pk_more (by omega) (fun i hi => (f3 i hi).1) (by omega), show ∀ cc w, fX4_set (192 : Int32) (5 : Int32) 960 cc (nI (8 * k + u)) (4 : Int32) w = some (upd cc (5 * (8 * k + u) + 4) w) from fun cc w => U cc 4 w (by decide), rn_bs, tme, nI_1, nI_1]
    rw [mdl, cls]
    rcases hv with ⟨rfl, gu⟩ | ⟨rfl, gu⟩
    · rw [if_pos (show (if (1 : Nat) = 5 then (1 : Int32) else 0) = 0 from rfl), if_pos (show (if (1 : Nat) = 5 then (1 : Int32) else 0) = 0 from rfl)]
      refine ⟨y2, e, _, _, _, _, _, _, rfl, rfl, B, ?_, K2, fun q hq => r1 k s q (by omega) (by omega) hq (by omega)⟩
      refine gZ_g (fun i hi => (x1 _ (by omega)).trans (pk_un (by omega))) (fun i hi => (x1 _ (by omega)).trans (pk_un (by omega))) (fun j hj => (x1 _ (by omega)).trans (pk_un (by omega))) (fun k' hk' => ?_) hZ
      constructor
      · rintro ⟨s', a1, a2⟩
        by_cases cc : k' = k ∧ s' = u
        · obtain ⟨rfl, rfl⟩ := cc
          exact absurd (x2.symm.trans a2) (by decide)
        · exact ⟨s', a1, by rw [← r1 k' s' 0 hk' a1 (by decide) cc]; exact a2⟩
      · rintro ⟨s', a1, a2⟩
        by_cases cc : k' = k ∧ s' = u
        · obtain ⟨rfl, rfl⟩ := cc
          exact absurd (c.symm.trans a2) (by decide)
        · exact ⟨s', a1, by rw [r1 k' s' 0 hk' a1 (by decide) cc]; exact a2⟩
    · rw [if_neg (show ¬ (if (5 : Nat) = 5 then (1 : Int32) else 0) = 0 by decide), if_neg (show ¬ (if (5 : Nat) = 5 then (1 : Int32) else 0) = 0 by decide)]
      rw [if_pos rfl] at B
      obtain ⟨D1, D2, D3⟩ := pS_a (q := 6) B hu (by decide) (by decide)
      obtain ⟨st', e', first', size', events', n1, n2, n3, n4⟩ := nt_eq (kd := 5) (k := k) (s := u) (o := nI s) hN D3 ht (by decide) (by omega) (by omega) (Or.inr ⟨s, by omega, rfl⟩)
      refine ⟨st', e', _, _, _, _, _, _, ?_, ?_, n3, ?_, kp_t (kp_t K2 (KS 6 _ (by decide) (by decide) _)) (kp_w n4), fun q hq => ?_⟩
      · rw [show fX7_add y2 (((8 : Int32) + ((7 : Int32) * nI u)) + (6 : Int32)) = _ from D2, rn_bs, show fX7_note N _ (5 : Int32) (nI k) (nI u) (nI s) = _ from n1, rn_bs]
      · rw [show fX4_set (24 : Int32) (12 : Int32) 288 messages (nI k) (5 : Int32) (nI (tt + 1)) = some (upd messages (12 * k + 5) (nI (tt + 1))) from uM (q := 5) (by omega) (by decide), rn_bs, show fX4_set (24 : Int32) (12 : Int32) 288 (upd messages (12 * k + 5) (nI (tt + 1))) (nI k) (6 : Int32) (nI L0) = some (upd (upd messages (12 * k + 5) (nI (tt + 1))) (12 * k + 6) (nI L0)) from uM (q := 6) (by omega) (by decide), rn_bs, show fX4_add (8 : Int32) (10 : Int32) 80 _ (nI u) (8 : Int32) (1 : Int32) = _ from D1, rn_bs, show fX0_add first size events tm (5 : Int32) (nI k) (nI u) (nI s) = _ from n2, rn_bs]
      · apply gZ_w n4
        have q6 : ∀ i q, i < 8 → q < 7 → ¬ (i = u ∧ q = 6) → qS (upd y2 (8 + 7 * u + 6) (y2 (8 + 7 * u + 6) + 1)) i q = qS y2 i q := fun i q a1 a2 a3 => pk_un (by omega)
        have y2S : ∀ i q, i < 8 → q < 7 → ¬ (i = u ∧ q = 4) → qS y2 i q = qS st i q := fun i q a1 a2 a3 => (x1 _ (by omega)).trans (pk_un (by omega))
        have qc : ∀ k' s' q, k' < 24 → s' < 8 → q < 12 → qC (upd y2 (8 + 7 * u + 6) (y2 (8 + 7 * u + 6) + 1)) k' s' q = qC y2 k' s' q := fun k' s' q a1 a2 a3 => pk_un (by omega)
        refine gZ_d1 (k := k) (u := u) (by omega) (by omega) (fun i hi => ?_) (fun j hj => ?_) (fun i hi hne => ?_) ?_ (fun k' hk' hne => ?_) ?_ ⟨u, by omega, ?_⟩ hZ
        · rw [q6 i 3 hi (by decide) (by omega), y2S i 3 hi (by decide) (by omega)]
        · exact (pk_un (by omega)).trans ((x1 _ (by omega)).trans (pk_un (by omega)))
        · rw [q6 i 6 hi (by decide) (by omega), y2S i 6 hi (by decide) (by omega)]
        · rw [← y2S u 6 (by omega) (by decide) (by omega)]
          exact pk_us
        · exact ⟨fun ⟨s', a1, a2⟩ => ⟨s', a1, by rw [qc k' s' 0 hk' a1 (by decide), r1 k' s' 0 hk' a1 (by decide) (by omega)] at a2; exact a2⟩, fun ⟨s', a1, a2⟩ => ⟨s', a1, by rw [qc k' s' 0 hk' a1 (by decide), r1 k' s' 0 hk' a1 (by decide) (by omega)]; exact a2⟩⟩
        · rintro ⟨s', a1, a2⟩
          have := dl_goal h.2.2.2.2.1.1 (show k < 24 by omega) (show u < 8 by omega) gu s' a1 a2
          subst this
          exact absurd (c.symm.trans a2) (by decide)
        · rw [qc k u 0 (by omega) (by omega) (by decide)]
          exact x2
      · rw [n4.2.2.1 k s q (by omega) (by omega) hq]
        exact (pk_un (by omega)).trans (r1 k s q (by omega) (by omega) hq (by omega))
  · -- a duplicate
    obtain ⟨B1, B2, B3⟩ := pS_a (q := 5) A3 hu (by decide) (by decide)
    obtain ⟨D1, D2, D3⟩ := pM_a (i := k) (q := 5) B3 (by omega) (by decide) (by decide)
    obtain ⟨st', e', first', size', events', n1, n2, n3, n4⟩ := nt_eq (kd := 4) (k := k) (s := u) (o := nI s) hN D3 ht (by decide) (by omega) (by omega) (Or.inr ⟨s, by omega, rfl⟩)
    refine ⟨st', e', _, _, _, _, _, _, ?_, ?_, n3, ?_, kp_t (kp_t (kp_t (KS 4 _ (by decide) (by decide) _) (KS 5 _ (by decide) (by decide) _)) (kp_M (q := 5) (by omega) (by decide) (by decide))) (kp_w n4), fun q hq => ?_⟩
    · unfold fX7_get
      rw [show fX7_add st (((8 : Int32) + ((7 : Int32) * nI u)) + (4 : Int32)) = _ from A2, rn_bs, o0, rn_bs, if_neg c, show fX7_add _ (((8 : Int32) + ((7 : Int32) * nI u)) + (5 : Int32)) = _ from B2, rn_bs, show fX7_add _ (((192 : Int32) + ((8 : Int32) * nI k)) + (5 : Int32)) = _ from D2, rn_bs, show fX7_note N _ (4 : Int32) (nI k) (nI u) (nI s) = _ from n1, rn_bs]
    · unfold fX2_takeFrame
      rw [show fX4_add (8 : Int32) (10 : Int32) 80 stations (nI u) (6 : Int32) (1 : Int32) = _ from A1, rn_bs, rw2, rn_bs, show fX4_get (192 : Int32) (5 : Int32) 960 copies (nI (8 * k + u)) (0 : Int32) = some (qC st k u 0) from (tC (q := 0) (by omega) (by decide)).trans (congrArg some cu), rn_bs, if_neg c, show fX4_add (8 : Int32) (10 : Int32) 80 _ (nI u) (7 : Int32) (1 : Int32) = _ from B1, rn_bs, show fX4_add (24 : Int32) (12 : Int32) 288 _ (nI k) (8 : Int32) (1 : Int32) = _ from D1, rn_bs, show fX0_add first size events tm (4 : Int32) (nI k) (nI u) (nI s) = _ from n2, rn_bs]
    · apply gZ_w n4
      refine gZ_g (fun i hi => ?_) (fun i hi => ?_) (fun j hj => ?_) (fun k' hk' => ?_) hZ
      · exact (pk_un (by omega)).trans ((pk_un (by omega)).trans (pk_un (by omega)))
      · exact (pk_un (by omega)).trans ((pk_un (by omega)).trans (pk_un (by omega)))
      · exact (pk_un (by omega)).trans ((pk_un (by omega)).trans (pk_un (by omega)))
      · have qc : ∀ s', s' < 8 → qC (upd (upd (upd st (8 + 7 * u + 4) (st (8 + 7 * u + 4) + 1)) (8 + 7 * u + 5) ((upd st (8 + 7 * u + 4) (st (8 + 7 * u + 4) + 1)) (8 + 7 * u + 5) + 1)) (192 + 8 * k + 5) ((upd (upd st (8 + 7 * u + 4) (st (8 + 7 * u + 4) + 1)) (8 + 7 * u + 5) ((upd st (8 + 7 * u + 4) (st (8 + 7 * u + 4) + 1)) (8 + 7 * u + 5) + 1)) (192 + 8 * k + 5) + 1)) k' s' 0 = qC st k' s' 0 := fun s' a1 => (pk_un (by omega)).trans ((pk_un (by omega)).trans (pk_un (by omega)))
        exact ⟨fun ⟨s', a1, a2⟩ => ⟨s', a1, by rw [qc s' a1] at a2; exact a2⟩, fun ⟨s', a1, a2⟩ => ⟨s', a1, by rw [qc s' a1]; exact a2⟩⟩
    · rw [n4.2.2.1 k s q (by omega) (by omega) hq]
      exact (pk_un (by omega)).trans ((pk_un (by omega)).trans (pk_un (by omega)))
end PS
