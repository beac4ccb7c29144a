/-! a frame in the model: what it changes -/
section A2
variable {N : Nat} {st : Nat → Int32}
def CPu (tt k u L : Nat) (f : Nat → Nat) (st st' : Nat → Int32) : Prop :=
  (∀ k' s' q, k' < 24 → s' < 8 → q < 12 → ¬ (k' = k ∧ s' = u) → qC st' k' s' q = qC st k' s' q) ∧ ((∀ q, q < 12 → qC st' k u q = qC st k u q) ∨ (qC st k u 0 = 0 ∧ (qC st' k u 0 = 1 ∨ qC st' k u 0 = 5) ∧ qC st' k u 2 = nI (tt + 1) ∧ qC st' k u 3 = nI (L + 1) ∧ (∀ i, i < L → qC st' k u (4 + i) = nI (f i)) ∧ qC st' k u (4 + L) = nI u))
theorem evA_7 {kd : Nat} {o : Int32} {st st' : Nat → Int32} (h : evA kd o st st') : ∃ e', st' 7 = nI e' ∧ e' ≤ 40 := by
  obtain ⟨e, e0, a1, a2, a3, a4, -⟩ := h
  exact ⟨e0 + 1, a4, by omega⟩
theorem gt7 {e tt k s u L g : Nat} {f : Nat → Nat} (hN : 6000 ≤ N) (z7 : st 7 = nI e) (he : e ≤ 40) (z3 : st 3 = nI tt) (hk : k < 24) (hs : s < 8) (hu : u < 8) (hsu : ¬ s = u) (hL : L < 8) (f2 : qC st k s 3 = nI L) (f3 : ∀ i, i < L → qC st k s (4 + i) = nI (f i)) (hg : g < 8) (eg : qM st k 1 = nI g) :
    ∃ st' D A, fX7_get N st (nI k) (nI s) (nI u) = some st' ∧ D + A ≤ 1 ∧ dl (fun i q => one u 4 i q + onn D u 5 i q + onn A u 6 i q) nat0 (onn D k 5) st st' ∧ st' 6 = st 6 ∧ CPu tt k u L f st st' ∧ ((D = 1 ∧ A = 0 ∧ evA 4 (nI s) st st') ∨ (D = 0 ∧ A = 0 ∧ evN st st') ∨ (D = 0 ∧ A = 1 ∧ evA 5 (nI s) st st')) := by
  obtain ⟨y1, hy1⟩ : ∃ y1, y1 = upd st (8 + 7 * u + 4) (st (8 + 7 * u + 4) + 1) := ⟨_, rfl⟩
  obtain ⟨d1, c1, v1⟩ := ad_S (st := st) (i := u) (q := 4) hu (by decide) (by decide) rfl
  rw [← hy1] at d1 c1 v1
  have un : ∀ p, ¬ p = 8 + 7 * u + 4 → y1 p = st p := fun p a1 => by rw [hy1, pk_un a1]
  have A1 : fX7_add st (((8 : Int32) + ((7 : Int32) * nI u)) + (4 : Int32)) = some y1 := by
    rw [hy1]
    exact ad1 (sPl u 4) (by omega)
  have o0 : fX7_ofCopy y1 (nI k) (nI u) (0 : Int32) = some (qC st k u 0) := (oC (q := 0) hk hu (by decide)).trans (congrArg some (c1 k u 0 hk hu (by decide)))
  by_cases c : qC st k u 0 = 0
  · obtain ⟨v, hv, e8, e9⟩ : ∃ v : Nat, (v = 1 ∨ v = 5) ∧ (if nI g = nI u then some (1 : Int32) else some (0 : Int32)) = some (if v = 5 then 1 else 0) ∧ (if (if v = 5 then (1 : Int32) else 0) = 0 then some (1 : Int32) else some (5 : Int32)) = some (nI v) := by
      by_cases q : nI g = nI u
      · exact ⟨5, Or.inr rfl, by rw [if_pos q]; rfl, rfl⟩
      · exact ⟨1, Or.inl rfl, by rw [if_neg q]; rfl, rfl⟩
    obtain ⟨y0, w1, w2⟩ := pc7 (T := tt + 1) (v := v) (f := fun i => if i < L then f i else u) (t1 := y1) hk hu
    obtain ⟨y3, w3, w4⟩ := gl7 (s := s) (L := L) hN hk hs hu hsu (by omega) ((c1 k s 3 hk hs (by decide)).trans f2) (fun i hi => by rw [c1 k s (4 + i) hk hs (by omega), if_pos hi]; exact f3 i hi) y0 w2
    obtain ⟨y2, w5, w6⟩ := ex7 hk hu hL w4
    rw [if_neg (Nat.lt_irrefl L)] at w5
    obtain ⟨x1, x2, x3, x4, x5, x6⟩ := w6
    have eg' : qM y1 k 1 = qM st k 1 := un _ (by omega)
    have mdl : fX7_get N st (nI k) (nI s) (nI u) = (if (if v = 5 then (1 : Int32) else 0) = 0 then some y2 else (fX7_add y2 (((8 : Int32) + ((7 : Int32) * nI u)) + (6 : Int32))).bind fun t18 => (fX7_note N t18 (5 : Int32) (nI k) (nI u) (nI s)).bind fun t19 => some t19) := by
      unfold fX7_get
      rw [A1, rn_bs, o0, rn_bs, c, if_pos rfl, show fX7_ofMessage y1 (nI k) (1 : Int32) = some (nI g) from (oM (q := 1) hk (by decide)).trans (congrArg some (eg'.trans eg)), rn_bs, e8, rn_bs, e9, rn_bs, g3, cl3, un 3 (by omega), z3, nI_1, w1, rn_bs, w3, rn_bs, w5, rn_bs]
    have D2 : dl nat0 nat0 nat0 y1 y2 := ⟨fun i q _ _ => (x1 _ (by omega)).trans (nI_z _).symm, fun i q _ _ => (x1 _ (by omega)).trans (nI_z _).symm, fun i q _ _ => (x1 _ (by omega)).trans (nI_z _).symm, fun j hj => x1 j (by omega)⟩
    have V2 : evN y1 y2 := ⟨x1 7 (by omega), fun j q _ _ => x1 _ (by omega)⟩
    have CU : ∀ z : Nat → Int32, sCc y2 z → CPu tt k u L f st z := fun z hz => by
      refine ⟨fun k' s' q a1 a2 a3 a4 => (hz k' s' q a1 a2 a3).trans ((x1 _ (by omega)).trans (c1 k' s' q a1 a2 a3)), Or.inr ⟨c, ?_, ?_, ?_, fun i hi => ?_, ?_⟩⟩
      · rw [hz k u 0 hk hu (by decide)]
        rcases hv with rfl | rfl
        · exact Or.inl x2
        · exact Or.inr x2
      · rw [hz k u 2 hk hu (by decide)]
        exact x4
      · rw [hz k u 3 hk hu (by decide)]
        exact x5
      · rw [hz k u (4 + i) hk hu (by omega)]
        unfold qC
        rw [← Nat.add_assoc, x6 i (by omega)]
        exact congrArg nI (if_pos hi)
      · rw [hz k u (4 + L) hk hu (by omega)]
        unfold qC
        rw [← Nat.add_assoc, x6 L (by omega)]
        exact congrArg nI (if_neg (Nat.lt_irrefl L))
    rw [mdl]
    rcases hv with rfl | rfl
    · rw [if_pos (show (if (1 : Nat) = 5 then (1 : Int32) else 0) = 0 from rfl)]
      exact ⟨y2, 0, 0, rfl, by decide, dl_w (dl_t d1 D2) (fun i q => by simp only [pl, nat0, onn_0]) (fun i q => by simp only [pl, nat0]) (fun i q => by simp only [pl, nat0, onn_0]), (x1 6 (by omega)).trans (un 6 (by omega)), CU y2 (fun _ _ _ _ _ _ => rfl), Or.inr (Or.inl ⟨rfl, rfl, evN_t v1 V2⟩)⟩
    · rw [if_neg (show ¬ (if (5 : Nat) = 5 then (1 : Int32) else 0) = 0 by decide)]
      obtain ⟨y4, hy4⟩ : ∃ y4, y4 = upd y2 (8 + 7 * u + 6) (y2 (8 + 7 * u + 6) + 1) := ⟨_, rfl⟩
      obtain ⟨d3, c3, v3⟩ := ad_S (st := y2) (i := u) (q := 6) hu (by decide) (by decide) rfl
      rw [← hy4] at d3 c3 v3
      have un4 : ∀ p, ¬ p = 8 + 7 * u + 6 → y4 p = y2 p := fun p a1 => by rw [hy4, pk_un a1]
      have B : fX7_add y2 (((8 : Int32) + ((7 : Int32) * nI u)) + (6 : Int32)) = some y4 := by
        rw [hy4]
        exact ad1 (sPl u 6) (by omega)
      obtain ⟨st', n1, n2, n3⟩ := nt7 (st := y4) (e := e) (tt := tt) (kd := 5) (k := k) (s := u) (o := nI s) hN (by rw [v3.1, V2.1, v1.1]; exact z7) he (by rw [un4 3 (by omega), x1 3 (by omega), un 3 (by omega)]; exact z3)
      obtain ⟨d4, c4⟩ := dl_nt n2
      refine ⟨st', 0, 1, ?_, by decide, dl_w (dl_t (dl_t (dl_t d1 D2) d3) d4) (fun i q => by simp only [pl, nat0, onn_0, onn_1] <;> omega) (fun i q => by simp only [pl, nat0]) (fun i q => by simp only [pl, nat0, onn_0]), ?_, CU st' (sCc_t c3 c4), Or.inr (Or.inr ⟨rfl, rfl, ?_⟩)⟩
      · rw [B, rn_bs, show fX7_note N y4 (5 : Int32) (nI k) (nI u) (nI s) = _ from n1, rn_bs]
      · rw [n2 6 (by decide) (by decide), un4 6 (by omega), x1 6 (by omega), un 6 (by omega)]
      · exact evNA (evN_t (evN_t v1 V2) v3) (by rw [un4 3 (by omega), x1 3 (by omega), un 3 (by omega)]) n3
  · obtain ⟨y2, hy2⟩ : ∃ y2, y2 = upd y1 (8 + 7 * u + 5) (y1 (8 + 7 * u + 5) + 1) := ⟨_, rfl⟩
    obtain ⟨d2, c2, v2⟩ := ad_S (st := y1) (i := u) (q := 5) hu (by decide) (by decide) rfl
    rw [← hy2] at d2 c2 v2
    obtain ⟨y3, hy3⟩ : ∃ y3, y3 = upd y2 (192 + 8 * k + 5) (y2 (192 + 8 * k + 5) + 1) := ⟨_, rfl⟩
    obtain ⟨d3, c3, v3⟩ := ad_M (st := y2) (i := k) (q := 5) hk (by decide) (by decide) rfl
    rw [← hy3] at d3 c3 v3
    have un3 : ∀ p, ¬ p = 8 + 7 * u + 4 → ¬ p = 8 + 7 * u + 5 → ¬ p = 192 + 8 * k + 5 → y3 p = st p := fun p a1 a2 a3 => by rw [hy3, pk_un a3, hy2, pk_un a2, un p a1]
    have B : fX7_add y1 (((8 : Int32) + ((7 : Int32) * nI u)) + (5 : Int32)) = some y2 := by
      rw [hy2]
      exact ad1 (sPl u 5) (by omega)
    have D : fX7_add y2 (((192 : Int32) + ((8 : Int32) * nI k)) + (5 : Int32)) = some y3 := by
      rw [hy3]
      exact ad1 (mPl k 5) (by omega)
    obtain ⟨st', n1, n2, n3⟩ := nt7 (st := y3) (e := e) (tt := tt) (kd := 4) (k := k) (s := u) (o := nI s) hN (by rw [un3 7 (by omega) (by omega) (by omega)]; exact z7) he (by rw [un3 3 (by omega) (by omega) (by omega)]; exact z3)
    obtain ⟨d4, c4⟩ := dl_nt n2
    have cc := sCc_t (sCc_t (sCc_t c1 c2) c3) c4
    refine ⟨st', 1, 0, ?_, by decide, dl_w (dl_t (dl_t (dl_t d1 d2) d3) d4) (fun i q => by simp only [pl, nat0, onn_0, onn_1] <;> omega) (fun i q => by simp only [pl, nat0]) (fun i q => by simp only [pl, nat0, onn_1] <;> omega), ?_, ⟨fun k' s' q a1 a2 a3 _ => cc k' s' q a1 a2 a3, Or.inl (fun q hq => cc k u q hk hu hq)⟩, Or.inl ⟨rfl, rfl, evNA (evN_t (evN_t v1 v2) v3) (un3 3 (by omega) (by omega) (by omega)) n3⟩⟩
    · unfold fX7_get
      rw [A1, rn_bs, o0, rn_bs, if_neg c, B, rn_bs, D, rn_bs, show fX7_note N y3 (4 : Int32) (nI k) (nI u) (nI s) = _ from n1, rn_bs]
    · rw [n2 6 (by decide) (by decide), un3 6 (by omega) (by omega) (by omega)]
/-- a whole frame: l the link, G got, D a duplicate, A arrived, L6 lost, L7 unsure -/
def SF (b tt k s u L : Nat) (f : Nat → Nat) (st st' : Nat → Int32) : Prop := ∃ l G D A L6 L7 : Nat, l < b ∧ ((qL st l 0 = nI s ∧ qL st l 1 = nI u) ∨ (qL st l 0 = nI u ∧ qL st l 1 = nI s)) ∧ G + L6 = 1 ∧ D + A ≤ G ∧ L7 ≤ G ∧ (qL st l 4 = nI 100 → L6 = 0 ∧ L7 = 0) ∧
  dl (fun i q => one s 3 i q + onn G u 4 i q + onn D u 5 i q + onn A u 6 i q) (fun j q => one l 5 j q + onn L6 l 6 j q + onn L7 l 7 j q) (fun j q => one k 4 j q + onn D k 5 j q) st st' ∧ rg (st' 6) 1000003 ∧
  (∀ k' s' q, k' < 24 → s' < 8 → q < 12 → ¬ (k' = k ∧ (s' = s ∨ s' = u)) → qC st' k' s' q = qC st k' s' q) ∧ (∀ q, 2 ≤ q → q < 12 → qC st' k s q = qC st k s q) ∧ (qC st' k s 0 = qC st k s 0 ∨ qC st' k s 0 = 2 ∨ qC st' k s 0 = 3) ∧
  ((∀ q, q < 12 → qC st' k u q = qC st k u q) ∨ (qC st k u 0 = 0 ∧ (qC st' k u 0 = 1 ∨ qC st' k u 0 = 5) ∧ qC st' k u 2 = nI (tt + 1) ∧ qC st' k u 3 = nI (L + 1) ∧ (∀ i, i < L → qC st' k u (4 + i) = nI (f i)) ∧ qC st' k u (4 + L) = nI u)) ∧
  ∀ lo F0 d0, LG lo tt F0 d0 st → LG lo tt (F0 + 1) (d0 + A) st'
theorem n1_ne (i : Nat) (hi : i < 2 ^ 31) : ¬ nI i = -1 := fun h => by
  have h2 : (nI i).toInt = (-1 : Int32).toInt := by rw [h]
  rw [show (nI i).toInt = (i : Int) from Int32.toInt_ofNat_of_lt hi] at h2
  have : (-1 : Int32).toInt = -1 := by decide
  omega
theorem LG_K {lo tt f d kd i : Nat} {st st' : Nat → Int32} (z3 : st 3 = nI tt) (h1 : 1 ≤ kd) (h6 : kd ≤ 6) (hi : i < 8) (h : evA kd (nI i) st st') (g : LG lo tt f d st) : LG lo tt (f + (if fkd kd = true then 1 else 0)) (d + (if dkd kd = true then 1 else 0)) st' :=
  LG_A z3 (by omega) ⟨fun q => by omega, fun q => absurd q (n1_ne i (by omega))⟩ h g
theorem sf7 {a b e tt k s u L g : Nat} {f : Nat → Nat} (hN : 6000 ≤ N) (z7 : st 7 = nI e) (he : e ≤ 40) (z3 : st 3 = nI tt) (z1 : st 1 = nI b) (hb : b ≤ 16) (z6 : rg (st 6) 1000003) (gL : gd_L a b st) (hk : k < 24) (hs : s < 8) (hu : u < 8) (hsu : ¬ s = u) (hL : L < 8) (f2 : qC st k s 3 = nI L) (f3 : ∀ i, i < L → qC st k s (4 + i) = nI (f i)) (hg : g < 8) (eg : qM st k 1 = nI g)
    (hl : ∃ i, i < b ∧ ((qL st i 0 = nI s ∧ qL st i 1 = nI u) ∨ (qL st i 0 = nI u ∧ qL st i 1 = nI s))) : ∃ st', fX7_sendFrame N st (nI k) (nI s) (nI u) = some st' ∧ SF b tt k s u L f st st' := by
  obtain ⟨l, l1, l2, l3⟩ : ∃ l, l < b ∧ ((qL st l 0 = nI s ∧ qL st l 1 = nI u) ∨ (qL st l 0 = nI u ∧ qL st l 1 = nI s)) ∧ q_lk st b (nI s) (nI u) = nI l := by
    rcases q_lk_s (b := b) (st := st) (x := nI s) (y := nI u) with ⟨-, q⟩ | q
    · obtain ⟨i, i1, i2⟩ := hl
      exact absurd i2 (q i i1)
    · exact q
  have lk7' := lk7 (x := nI s) (y := nI u) hN z1 hb
  rw [l3] at lk7'
  obtain ⟨w, hw, ew⟩ := ((gL l (by omega)).1 l1).2.2.2.2.2
  obtain ⟨y1, hy1⟩ : ∃ y1, y1 = upd st (8 + 7 * s + 3) (st (8 + 7 * s + 3) + 1) := ⟨_, rfl⟩
  obtain ⟨d1, c1, v1⟩ := ad_S (st := st) (i := s) (q := 3) hs (by decide) (by decide) rfl
  rw [← hy1] at d1 c1 v1
  obtain ⟨y2, hy2⟩ : ∃ y2, y2 = upd y1 (192 + 8 * k + 4) (y1 (192 + 8 * k + 4) + 1) := ⟨_, rfl⟩
  obtain ⟨d2, c2, v2⟩ := ad_M (st := y1) (i := k) (q := 4) hk (by decide) (by decide) rfl
  rw [← hy2] at d2 c2 v2
  obtain ⟨y3, hy3⟩ : ∃ y3, y3 = upd y2 (64 + 8 * l + 5) (y2 (64 + 8 * l + 5) + 1) := ⟨_, rfl⟩
  obtain ⟨d3, c3, v3⟩ := ad_L (st := y2) (i := l) (q := 5) (by omega) (by decide) (by decide) rfl
  rw [← hy3] at d3 c3 v3
  have un3 : ∀ p, ¬ p = 8 + 7 * s + 3 → ¬ p = 192 + 8 * k + 4 → ¬ p = 64 + 8 * l + 5 → y3 p = st p := fun p a1 a2 a3 => by rw [hy3, pk_un a3, hy2, pk_un a2, hy1, pk_un a1]
  have A1 : fX7_add st (((8 : Int32) + ((7 : Int32) * nI s)) + (3 : Int32)) = some y1 := by
    rw [hy1]
    exact ad1 (sPl s 3) (by omega)
  have A2 : fX7_add y1 (((192 : Int32) + ((8 : Int32) * nI k)) + (4 : Int32)) = some y2 := by
    rw [hy2]
    exact ad1 (mPl k 4) (by omega)
  have A3 : fX7_add y2 (((64 : Int32) + ((8 : Int32) * nI l)) + (5 : Int32)) = some y3 := by
    rw [hy3]
    exact ad1 (lPl l 5) (by omega)
  obtain ⟨d, x, hd, hx, r1⟩ := dr7 (st := y3) (by rw [un3 6 (by omega) (by omega) (by omega)]; exact z6)
  obtain ⟨y4, hy4⟩ : ∃ y4, y4 = upd y3 6 (nI x) := ⟨_, rfl⟩
  obtain ⟨d4, c4, v4⟩ := dl_6 (st := y3) (v := nI x)
  rw [← hy4] at d4 c4 v4 r1
  have un4 : ∀ p, ¬ p = 8 + 7 * s + 3 → ¬ p = 192 + 8 * k + 4 → ¬ p = 64 + 8 * l + 5 → ¬ p = 6 → y4 p = st p := fun p a1 a2 a3 a4 => by rw [hy4, pk_un a4, un3 p a1 a2 a3]
  have C4 : sCc st y4 := sCc_t (sCc_t (sCc_t c1 c2) c3) c4
  have V4 : evN st y4 := evN_t (evN_t (evN_t v1 v2) v3) v4
  have D4 := dl_t (dl_t (dl_t d1 d2) d3) d4
  have z74 : y4 7 = nI e := V4.1.trans z7
  have z34 : y4 3 = nI tt := (un4 3 (by omega) (by omega) (by omega) (by omega)).trans z3
  have q4 : fX7_ofLink y4 (nI l) (4 : Int32) = some (nI w) := (oL (q := 4) (by omega) (by decide)).trans (congrArg some ((un4 _ (by omega) (by omega) (by omega) (by omega)).trans ew))
  have q100 : ∀ x : Nat, x < 100 → ¬ nI x < nI w → ¬ qL st l 4 = nI 100 := fun x hx hn q => by
    rw [ew] at q
    rw [q] at hn
    exact hn (nI_lt (by omega) (by decide))
  unfold fX7_sendFrame
  rw [lk7', rn_bs, A1, rn_bs, A2, rn_bs, A3, rn_bs, r1, rn_bs]
  show ∃ st', ((fX7_ofLink y4 (nI l) (4 : Int32)).bind fun t6 => if nI d < t6 then _ else _) = some st' ∧ _
  rw [q4, rn_bs]
  by_cases c : nI d < nI w
  · rw [if_pos c]
    obtain ⟨y5, D, A, g1, g2, g3', g4', g5', g6'⟩ := gt7 (st := y4) (f := f) hN z74 he z34 hk hs hu hsu hL ((C4 k s 3 hk hs (by decide)).trans f2) (fun i hi => (C4 k s (4 + i) hk hs (by omega)).trans (f3 i hi)) hg ((un4 _ (by omega) (by omega) (by omega) (by omega)).trans eg)
    have z35 : y5 3 = nI tt := (g3'.2.2.2 3 (by decide)).trans z34
    obtain ⟨e5, z75, he5⟩ : ∃ e', y5 7 = nI e' ∧ e' ≤ 40 := by
      rcases g6' with ⟨-, -, q⟩ | ⟨-, -, q⟩ | ⟨-, -, q⟩
      · exact evA_7 q
      · exact ⟨e, q.1.trans z74, he⟩
      · exact evA_7 q
    have LG5 : ∀ lo F0 d0, LG lo tt F0 d0 st → LG lo tt F0 (d0 + A) y5 := fun lo F0 d0 q => by
      have q4 := LG_N V4 q
      rcases g6' with ⟨-, rfl, r⟩ | ⟨-, rfl, r⟩ | ⟨-, rfl, r⟩
      · exact LG_K z34 (by decide) (by decide) hs r q4
      · exact LG_N r q4
      · exact LG_K z34 (by decide) (by decide) hs r q4
    obtain ⟨d', x', hd', hx', r2⟩ := dr7 (st := y5) (by rw [g4', hy4, pk_us]; exact ⟨x, hx, rfl⟩)
    obtain ⟨y6, hy6⟩ : ∃ y6, y6 = upd y5 6 (nI x') := ⟨_, rfl⟩
    obtain ⟨d6, c6, v6⟩ := dl_6 (st := y5) (v := nI x')
    rw [← hy6] at d6 c6 v6 r2
    have D6 := dl_t (dl_t D4 g3') d6
    have z36 : y6 3 = nI tt := (d6.2.2.2 3 (by decide)).trans z35
    have q6 : fX7_ofLink y6 (nI l) (4 : Int32) = some (nI w) := (oL (q := 4) (by omega) (by decide)).trans (congrArg some (by
      have h1 := D6.2.1 l 4 (by omega) (by decide)
      have e1 : ∀ n q, ¬ q = 4 → onn n l q l 4 = 0 := fun n q hq => if_neg (fun r => hq r.2.symm)
      simp only [pl, nat0, onn_1, e1 1 5 (by decide)] at h1
      rw [h1, nI_z, ew]))
    have CU : ∀ (z : Nat → Int32), (∀ k' s' q, k' < 24 → s' < 8 → q < 12 → ¬ (k' = k ∧ s' = s ∧ q < 2) → qC z k' s' q = qC y6 k' s' q) → (∀ k' s' q, k' < 24 → s' < 8 → q < 12 → ¬ (k' = k ∧ (s' = s ∨ s' = u)) → qC z k' s' q = qC st k' s' q) ∧ (∀ q, 2 ≤ q → q < 12 → qC z k s q = qC st k s q) ∧ ((∀ q, q < 12 → qC z k u q = qC st k u q) ∨ (qC st k u 0 = 0 ∧ (qC z k u 0 = 1 ∨ qC z k u 0 = 5) ∧ qC z k u 2 = nI (tt + 1) ∧ qC z k u 3 = nI (L + 1) ∧ (∀ i, i < L → qC z k u (4 + i) = nI (f i)) ∧ qC z k u (4 + L) = nI u)) := fun z hz => by
      refine ⟨fun k' s' q a1 a2 a3 a4 => ?_, fun q a1 a2 => ?_, ?_⟩
      · rw [hz k' s' q a1 a2 a3 (fun r => a4 ⟨r.1, Or.inl r.2.1⟩), c6 k' s' q a1 a2 a3, g5'.1 k' s' q a1 a2 a3 (fun r => a4 ⟨r.1, Or.inr r.2⟩), C4 k' s' q a1 a2 a3]
      · rw [hz k s q hk hs a2 (fun r => by omega), c6 k s q hk hs a2, g5'.1 k s q hk hs a2 (fun r => hsu r.2), C4 k s q hk hs a2]
      · have zu : ∀ q, q < 12 → qC z k u q = qC y5 k u q := fun q hq => (hz k u q hk hu hq (fun r => hsu r.2.1.symm)).trans (c6 k u q hk hu hq)
        rcases g5'.2 with q | ⟨q1, q2, q3, q4, q5, q6⟩
        · exact Or.inl (fun j hj => (zu j hj).trans ((q j hj).trans (C4 k u j hk hu hj)))
        · rw [zu 0 (by decide), zu 2 (by decide), zu 3 (by decide), zu (4 + L) (by omega)]
          exact Or.inr ⟨(C4 k u 0 hk hu (by decide)).symm.trans q1, q2, q3, q4, fun i hi => (zu (4 + i) (by omega)).trans (q5 i hi), q6⟩
    have S6 : qC y6 k s 0 = qC st k s 0 := by rw [c6 k s 0 hk hs (by decide), g5'.1 k s 0 hk hs (by decide) (fun r => hsu r.2), C4 k s 0 hk hs (by decide)]
    rw [g1, rn_bs, r2, rn_bs]
    show ∃ st', ((fX7_ofLink y6 (nI l) (4 : Int32)).bind fun t10 => if t10 ≤ nI d' then _ else _) = some st' ∧ _
    rw [q6, rn_bs]
    by_cases c2 : nI w ≤ nI d'
    · rw [if_pos c2]
      obtain ⟨y7, hy7⟩ : ∃ y7, y7 = upd y6 (64 + 8 * l + 7) (y6 (64 + 8 * l + 7) + 1) := ⟨_, rfl⟩
      obtain ⟨d7, c7, v7⟩ := ad_L (st := y6) (i := l) (q := 7) (by omega) (by decide) (by decide) rfl
      rw [← hy7] at d7 c7 v7
      have A7 : fX7_add y6 (((64 : Int32) + ((8 : Int32) * nI l)) + (7 : Int32)) = some y7 := by
        rw [hy7]
        exact ad1 (lPl l 7) (by omega)
      have z37 : y7 3 = nI tt := (d7.2.2.2 3 (by decide)).trans z36
      obtain ⟨y8, n1, n2, n3⟩ := nt7 (st := y7) (e := e5) (tt := tt) (kd := 3) (k := k) (s := s) (o := nI u) hN (by rw [v7.1, v6.1]; exact z75) he5 z37
      obtain ⟨d8, c8⟩ := dl_nt n2
      obtain ⟨e8, z78, he8⟩ := evA_7 n3
      obtain ⟨st', t1, t2, t3, t4, t5, t6⟩ := ty7 (st := y8) (o := nI u) hN z78 he8 ((d8.2.2.2 3 (by decide)).trans z37) hk hs
      obtain ⟨U1, U2, U3⟩ := CU st' (fun k' s' q a1 a2 a3 a4 => (t3 k' s' q a1 a2 a3 a4).trans ((c8 k' s' q a1 a2 a3).trans (c7 k' s' q a1 a2 a3)))
      refine ⟨st', ?_, l, 1, D, A, 0, 1, l1, l2, rfl, g2, Nat.le_refl _, fun q => absurd q (q100 d' hd' (Int32.not_lt.mpr c2)), dl_w (dl_t (dl_t (dl_t D6 d7) d8) t2) (fun i q => by simp only [pl, nat0, onn_0, onn_1] <;> omega) (fun i q => by simp only [pl, nat0, onn_0, onn_1] <;> omega) (fun i q => by simp only [pl, nat0, onn_0, onn_1] <;> omega), ?_, U1, U2, ?_, U3, fun lo F0 d0 q => ?_⟩
      · rw [A7, rn_bs, show fX7_note N y7 (3 : Int32) (nI k) (nI s) (nI u) = _ from n1, rn_bs, t1, rn_bs]
      · rw [t5, n2 6 (by decide) (by decide), hy7, pk_un (by omega), hy6, pk_us]
        exact ⟨x', hx', rfl⟩
      · have e1 : qC y8 k s 0 = qC st k s 0 := by rw [c8 k s 0 hk hs (by decide), c7 k s 0 hk hs (by decide), S6]
        rw [e1] at t4
        rcases t4 with q | q
        · exact Or.inl q
        · exact Or.inr (Or.inr q)
      · have q2 : LG lo tt (F0 + 1) (d0 + A + 0) y8 := LG_K z37 (by decide) (by decide) hu n3 (LG_N (evN_t v6 v7) (LG5 lo F0 d0 q))
        rcases t6 with r | r
        · exact LG_N r q2
        · exact LG_K ((d8.2.2.2 3 (by decide)).trans z37) (by decide) (by decide) hu r q2
    · rw [if_neg c2, oP, rn_bs]
      obtain ⟨y7, hy7⟩ : ∃ y7, y7 = upd y6 (384 + 12 * (8 * k + s)) (nI 2) := ⟨_, rfl⟩
      obtain ⟨d7, v7⟩ := dl_C (st := y6) (p := 384 + 12 * (8 * k + s)) (v := nI 2) (by omega) (by omega)
      rw [← hy7] at d7 v7
      have z37 : y7 3 = nI tt := (d7.2.2.2 3 (by decide)).trans z36
      obtain ⟨st', n1, n2, n3⟩ := nt7 (st := y7) (e := e5) (tt := tt) (kd := 1) (k := k) (s := s) (o := nI u) hN (by rw [v7.1, v6.1]; exact z75) he5 z37
      obtain ⟨d8, c8⟩ := dl_nt n2
      obtain ⟨U1, U2, U3⟩ := CU st' (fun k' s' q a1 a2 a3 a4 => (c8 k' s' q a1 a2 a3).trans (by
        unfold qC
        rw [hy7]
        exact pk_un (by omega)))
      refine ⟨st', ?_, l, 1, D, A, 0, 0, l1, l2, rfl, g2, by decide, fun _ => ⟨rfl, rfl⟩, dl_w (dl_t (dl_t D6 d7) d8) (fun i q => by simp only [pl, nat0, onn_0, onn_1] <;> omega) (fun i q => by simp only [pl, nat0, onn_0, onn_1] <;> omega) (fun i q => by simp only [pl, nat0, onn_0, onn_1] <;> omega), ?_, U1, U2, ?_, U3, fun lo F0 d0 q => ?_⟩
      · rw [Int32.add_zero, rn_gI (by omega) (by decide), rn_lt, nI_clamp (by omega)]
        show ((fX7_note N (upd y6 (384 + 12 * (8 * k + s)) (nI 2)) (nI 1) (nI k) (nI s) (nI u)).bind fun t18 => some t18) = some st'
        rw [← hy7, n1, rn_bs]
      · rw [n2 6 (by decide) (by decide), hy7, pk_un (by omega), hy6, pk_us]
        exact ⟨x', hx', rfl⟩
      · refine Or.inr (Or.inl ?_)
        rw [c8 k s 0 hk hs (by decide)]
        unfold qC
        rw [hy7]
        exact pk_us
      · exact LG_K z37 (by decide) (by decide) hu n3 (LG_N (evN_t v6 v7) (LG5 lo F0 d0 q))
  · rw [if_neg c]
    obtain ⟨y7, hy7⟩ : ∃ y7, y7 = upd y4 (64 + 8 * l + 6) (y4 (64 + 8 * l + 6) + 1) := ⟨_, rfl⟩
    obtain ⟨d7, c7, v7⟩ := ad_L (st := y4) (i := l) (q := 6) (by omega) (by decide) (by decide) rfl
    rw [← hy7] at d7 c7 v7
    have A7 : fX7_add y4 (((64 : Int32) + ((8 : Int32) * nI l)) + (6 : Int32)) = some y7 := by
      rw [hy7]
      exact ad1 (lPl l 6) (by omega)
    have z37 : y7 3 = nI tt := (d7.2.2.2 3 (by decide)).trans z34
    obtain ⟨y8, n1, n2, n3⟩ := nt7 (st := y7) (e := e) (tt := tt) (kd := 2) (k := k) (s := s) (o := nI u) hN (by rw [v7.1]; exact z74) he z37
    obtain ⟨d8, c8⟩ := dl_nt n2
    obtain ⟨e8, z78, he8⟩ := evA_7 n3
    obtain ⟨st', t1, t2, t3, t4, t5, t6⟩ := ty7 (st := y8) (o := nI u) hN z78 he8 ((d8.2.2.2 3 (by decide)).trans z37) hk hs
    have CZ : ∀ k' s' q, k' < 24 → s' < 8 → q < 12 → ¬ (k' = k ∧ s' = s ∧ q < 2) → qC st' k' s' q = qC st k' s' q := fun k' s' q a1 a2 a3 a4 => (t3 k' s' q a1 a2 a3 a4).trans ((c8 k' s' q a1 a2 a3).trans ((c7 k' s' q a1 a2 a3).trans (C4 k' s' q a1 a2 a3)))
    refine ⟨st', ?_, l, 0, 0, 0, 1, 0, l1, l2, rfl, by decide, by decide, fun q => absurd q (q100 d hd c), dl_w (dl_t (dl_t (dl_t D4 d7) d8) t2) (fun i q => by simp only [pl, nat0, onn_0, onn_1] <;> omega) (fun i q => by simp only [pl, nat0, onn_0, onn_1] <;> omega) (fun i q => by simp only [pl, nat0, onn_0, onn_1] <;> omega), ?_, fun k' s' q a1 a2 a3 a4 => CZ k' s' q a1 a2 a3 (fun r => a4 ⟨r.1, Or.inl r.2.1⟩), fun q a1 a2 => CZ k s q hk hs a2 (fun r => by omega), ?_, Or.inl (fun q hq => CZ k u q hk hu hq (fun r => hsu r.2.1.symm)), fun lo F0 d0 q => ?_⟩
    · rw [A7, rn_bs, show fX7_note N y7 (2 : Int32) (nI k) (nI s) (nI u) = _ from n1, rn_bs, t1, rn_bs]
    · rw [t5, n2 6 (by decide) (by decide), hy7, pk_un (by omega), hy4, pk_us]
      exact ⟨x, hx, rfl⟩
    · have e1 : qC y8 k s 0 = qC st k s 0 := by rw [c8 k s 0 hk hs (by decide), c7 k s 0 hk hs (by decide), C4 k s 0 hk hs (by decide)]
      rw [e1] at t4
      rcases t4 with q | q
      · exact Or.inl q
      · exact Or.inr (Or.inr q)
    · have q2 : LG lo tt (F0 + 1) (d0 + 0) y8 := LG_K z37 (by decide) (by decide) hu n3 (LG_N (evN_t V4 v7) q)
      rcases t6 with r | r
      · exact LG_N r q2
      · exact LG_K ((d8.2.2.2 3 (by decide)).trans z37) (by decide) (by decide) hu r q2
end A2
