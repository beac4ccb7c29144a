/-! paths, barred stations, the next station of a copy -/
section PJ
variable {N : Nat} {st isA : Nat → Int32} {a b m e t tt τ : Nat}
theorem nar0 : vp_nar .boolean (0 : Int32) = 0 := by decide
theorem nar1 : vp_nar .boolean (1 : Int32) = 1 := by decide
theorem av7 (hN : 6000 ≤ N) : ∃ I', fX7_avoidNone N isA = some I' ∧ ∀ s, s < 8 → I' s = 0 := by
  have lp : ∀ (n s : Nat) (I : Nat → Int32), s ≤ 8 → 8 - s < n → (∀ s', s' < s → I s' = 0) → ∃ I', lX7_avoidNone_2 n (nI s) I = some I' ∧ ∀ s, s < 8 → I' s = 0 := by
    intro n
    induction n with
    | zero => intro s I _ h; omega
    | succ n ih =>
      intro s I hs hn h1
      rw [lX7_avoidNone_2]
      rcases Nat.lt_or_ge s 8 with h | h
      · rw [if_neg (show ¬ (8 : Int32) ≤ nI s from nI_ge (b := 8) h (by decide)), rn_gI h (by decide), rn_lt, nI_clamp (by omega), nar0, nI_1]
        refine ih (s + 1) _ (by omega) (by omega) (fun s' hs' => ?_)
        by_cases q : s' = s
        · rw [q]; exact pk_us
        · rw [pk_un q]; exact h1 s' (by omega)
      · have : s = 8 := by omega
        subst this
        rw [if_pos (show (8 : Int32) ≤ nI 8 from nI_le (a := 8) (Nat.le_refl _) (by decide))]
        exact ⟨I, rfl, h1⟩
  obtain ⟨I', e1, e2⟩ := lp N 0 isA (by omega) (by omega) (fun s' q => by omega)
  refine ⟨I', ?_, e2⟩
  unfold fX7_avoidNone
  rw [show (0 : Int32) = nI 0 from rfl, e1, rn_bs]
theorem ad7 {I : Nat → Int32} {s : Nat} (hs : s < 8) : fX7_avoid I (nI s) (1 : Int32) = some (upd I s 1) := by
  unfold fX7_avoid
  rw [rn_gI hs (by decide), rn_lt, nI_clamp (by omega), nar1]
theorem ap7 {k s L : Nat} {f : Nat → Nat} {I : Nat → Int32} (hN : 6000 ≤ N) (hk : k < 24) (hs : s < 8) (hL : L ≤ 8) (e3 : qC st k s 3 = nI L) (hf : ∀ i, i < L → f i < 8 ∧ qC st k s (4 + i) = nI (f i)) (hI : ∀ s, s < 8 → I s = 0) :
    ∃ I', lX7_nextOf_6 st (nI k) (nI s) N 0 I = some I' ∧ ∀ t, t < 8 → (I' t ≠ 0 ↔ ∃ i, i < L ∧ f i = t) := by
  have lp : ∀ (n j : Nat) (I : Nat → Int32), j ≤ L → L - j < n → (∀ t, t < 8 → (I t ≠ 0 ↔ ∃ i, i < j ∧ f i = t)) → ∃ I', lX7_nextOf_6 st (nI k) (nI s) n (nI j) I = some I' ∧ ∀ t, t < 8 → (I' t ≠ 0 ↔ ∃ i, i < L ∧ f i = t) := by
    intro n
    induction n with
    | zero => intro j I _ h; omega
    | succ n ih =>
      intro j I hj hn h1
      rw [lX7_nextOf_6, show fX7_ofCopy st (nI k) (nI s) (3 : Int32) = some (nI L) from (oC (q := 3) hk hs (by omega)).trans (congrArg some e3), rn_bs]
      rcases Nat.lt_or_ge j L with h | h
      · rw [if_neg (nI_ge h (by omega)), show (4 : Int32) + nI j = nI (4 + j) by rw [show (4 : Int32) = nI 4 from rfl, nI_add], show fX7_ofCopy st (nI k) (nI s) (nI (4 + j)) = some (nI (f j)) from (oC hk hs (by omega)).trans (congrArg some (hf j h).2), rn_bs, ad7 (hf j h).1, rn_bs, nI_1]
        refine ih (j + 1) _ (by omega) (by omega) (fun t ht => ?_)
        by_cases q : t = f j
        · rw [q, pk_us]
          exact ⟨fun _ => ⟨j, by omega, rfl⟩, fun _ => by decide⟩
        · rw [pk_un q, h1 t ht]
          constructor
          · rintro ⟨i, a1, a2⟩
            exact ⟨i, by omega, a2⟩
          · rintro ⟨i, a1, a2⟩
            refine ⟨i, ?_, a2⟩
            rcases Nat.lt_or_ge i j with r | r
            · exact r
            · have : i = j := by omega
              subst this
              exact absurd a2.symm q
      · have : j = L := by omega
        subst this
        rw [if_pos (nI_le (Nat.le_refl _) (by omega))]
        exact ⟨I, rfl, h1⟩
  exact lp N 0 I (by omega) (by omega) (fun t ht => ⟨fun q => absurd (hI t ht) q, fun ⟨i, q, _⟩ => by omega⟩)
theorem pk_lt8 {f : Nat → Nat} : ∀ L, (∀ i, i < L → f i < 8) → q_pk f L < 8 ^ L := by
  intro L
  induction L with
  | zero => intro _; exact Nat.one_pos
  | succ L ih =>
    intro h
    have h1 := ih (fun i hi => h i (by omega))
    have h2 := h L (by omega)
    show q_pk f L + f L * 8 ^ L < 8 ^ L * 8
    have h3 : f L * 8 ^ L ≤ 7 * 8 ^ L := Nat.mul_le_mul_right _ (by omega)
    omega
theorem pk_dig {f : Nat → Nat} : ∀ L, (∀ i, i < L → f i < 8) → ∀ i, i < L → q_pk f L / 8 ^ i % 8 = f i := by
  intro L
  induction L with
  | zero => intro _ i h; omega
  | succ L ih =>
    intro h i hi
    show (q_pk f L + f L * 8 ^ L) / 8 ^ i % 8 = f i
    rcases Nat.lt_or_ge i L with q | q
    · have e : f L * 8 ^ L = 8 ^ i * (8 * (f L * 8 ^ (L - i - 1))) := by
        rw [show L = i + (1 + (L - i - 1)) by omega, Nat.pow_add, Nat.pow_add, show i + (1 + (L - i - 1)) - i - 1 = L - i - 1 by omega, Nat.pow_one]
        generalize f (i + (1 + (L - i - 1))) = x
        generalize 8 ^ (L - i - 1) = y
        generalize 8 ^ i = z
        rw [Nat.mul_left_comm x z, Nat.mul_left_comm x 8]
      rw [e, Nat.add_mul_div_left _ _ (Nat.pow_pos (by decide)), Nat.add_mul_mod_self_left]
      exact ih (fun i hi => h i (by omega)) i q
    · have : i = L := by omega
      subst this
      rw [Nat.add_mul_div_right _ _ (Nat.pow_pos (by decide)), Nat.div_eq_of_lt (pk_lt8 _ (fun j hj => h j (by omega))), Nat.zero_add]
      exact Nat.mod_eq_of_lt (h i (by omega))
theorem pw8 : ∀ L : Nat, L ≤ 8 → 8 ^ L ≤ 16777216 := by
  intro L h
  exact Nat.le_trans (Nat.pow_le_pow_right (by decide) h) (by decide)
theorem sh3 : ∀ i : Nat, i < 8 → (((nI i * (3 : Int32)) &&& (31 : Int32)).toBitVec.smod 32).toNat = 3 * i := by decide +kernel
/-- a station of the packed path -/
theorem pk_at {f : Nat → Nat} {L i : Nat} (hL : L ≤ 8) (hf : ∀ i, i < L → f i < 8) (hi : i < L) : (nI (q_pk f L) >>> ((nI i * (3 : Int32)) &&& (31 : Int32))) &&& (7 : Int32) = nI (f i) := by
  have h1 := pk_lt8 L hf
  have h2 := pw8 L hL
  have h3 : q_pk f L / 2 ^ (3 * i) ≤ q_pk f L := Nat.div_le_self _ _
  rw [pk_shrN (by omega) _ (3 * i) (sh3 i (by omega)), pk_andN (by omega) 3 (by decide), Nat.pow_mul, show 2 ^ 3 = 8 from rfl, pk_dig L hf i hi]
theorem ps2 {k s L : Nat} {f : Nat → Nat} {copies : Nat → Int32} (hN : 6000 ≤ N) (eC : ev_C copies st) (hk : k < 24) (hs : s < 8) (hL : L ≤ 8) (e3 : qC st k s 3 = nI L) (hf : ∀ i, i < L → f i < 8) (e4 : copies (5 * (8 * k + s) + 4) = nI (q_pk f L)) :
    ∃ v, fX2_pathStations N copies (nI (8 * k + s)) = some v ∧ is8 v (fun t => ∃ i, i < L ∧ f i = t) := by
  have c3 : copies (5 * (8 * k + s) + 3) = nI L := (eC k s 3 hk hs (by omega)).trans e3
  have lp : ∀ (n j : Nat) (x : Int32), j ≤ L → L - j < n → is8 x (fun t => ∃ i, i < j ∧ f i = t) → ∃ v, lX2_pathStations_26 (nI (q_pk f L)) (nI L) n x (nI j) = some v ∧ is8 v (fun t => ∃ i, i < L ∧ f i = t) := by
    intro n
    induction n with
    | zero => intro j x _ h; omega
    | succ n ih =>
      intro j x hj hn h1
      rw [lX2_pathStations_26]
      rcases Nat.lt_or_ge j L with h | h
      · rw [if_neg (nI_ge h (by omega)), pk_at hL hf h, rn_lt, nI_1]
        refine ih (j + 1) _ (by omega) (by omega) (is8_w (is8_or h1 (is8_one (hf j h))) (fun t ht => ?_))
        constructor
        · rintro (⟨i, a1, a2⟩ | q)
          · exact ⟨i, by omega, a2⟩
          · exact ⟨j, by omega, q.symm⟩
        · rintro ⟨i, a1, a2⟩
          rcases Nat.lt_or_ge i j with r | r
          · exact Or.inl ⟨i, r, a2⟩
          · have : i = j := by omega
            subst this
            exact Or.inr a2.symm
      · have : j = L := by omega
        subst this
        rw [if_pos (nI_le (Nat.le_refl _) (by omega))]
        exact ⟨x, rfl, h1⟩
  obtain ⟨v, v1, v2⟩ := lp N 0 0 (by omega) (by omega) (is8_w is8_0 (fun t _ => ⟨fun q => q.elim, fun ⟨i, q, _⟩ => by omega⟩))
  refine ⟨v, ?_, v2⟩
  unfold fX2_pathStations
  rw [show fX4_get (192 : Int32) (5 : Int32) 960 copies (nI (8 * k + s)) (4 : Int32) = some (nI (q_pk f L)) from (tC (q := 4) (by omega) (by omega)).trans (congrArg some e4), rn_bs, show fX4_get (192 : Int32) (5 : Int32) 960 copies (nI (8 * k + s)) (3 : Int32) = some (nI L) from (tC (q := 3) (by omega) (by omega)).trans (congrArg some c3), rn_bs, show lX2_pathStations_26 (nI (q_pk f L)) (nI L) N 0 0 = some v from v1, rn_bs]
theorem nx_eq {k s : Nat} {messages copies A K : Nat → Int32} {heard : Nat → Int64} {ar fe nx : Int32} (hN : 6000 ≤ N) (gn : gd_n t a b m e tt st) (ht : t < 1000000) (gS : gd_S a st) (gL : gd_L a b st) (gU : gd_U b st) (gM : gd_M a m st) (eM : ev_M messages st) (eC : ev_C copies st) (eP : ev_P copies st) (eH : ev_H b heard st)
    (hk : k < m) (hs : s < a) (hc : gd_c τ st k s) (hw : qC st k s 0 = 1) (htm : qC st k s 2 ≤ nI tt) :
    ∃ v x y z A' K' I', fX2_nextOf N (nI tt) messages copies ar fe nx heard (nI k) (nI s) = some (v, x, y, z) ∧ fX7_nextOf N st A K isA (nI k) (nI s) = some (v, A', K', I') ∧
      (v = -1 ∨ ∃ u, u < a ∧ v = nI u ∧ q_hr b st (tt % 24) s u ∧ ∀ i L, qC st k s 3 = nI L → L ≤ 8 → i < L → ¬ qC st k s (4 + i) = nI u) := by
  obtain ⟨⟨ha, hb, hm, he, htt⟩, h0, h1, h2, h3, h7, h6⟩ := gn
  obtain ⟨-, ⟨g, hg, eg⟩, -⟩ := gM k hk
  have hsg : s ≠ g := by
    intro q
    subst q
    have := hc.2.1.mpr eg
    rw [hw] at this
    exact absurd this (by decide)
  obtain ⟨L, f, hL, e3, hf, e4⟩ := eP k s (by omega) (by omega) (by rw [hw]; decide)
  obtain ⟨i4, p1, p2⟩ := ps2 hN eC (by omega) (by omega) hL e3 (fun i hi => (hf i hi).1) e4
  obtain ⟨I0, a1, a2⟩ := av7 (isA := isA) hN
  obtain ⟨I', b1, b2⟩ := ap7 (I := I0) hN (by omega) (by omega) hL e3 hf a2
  have hv : is8 i4 (Av I') := is8_w p2 (fun j hj => (b2 j hj).symm)
  obtain ⟨A', K', l1, l2⟩ := srch (A := A) (K := K) (ar := ar) (fe := fe) (nx := nx) hN gS gL gU eH h0 h1 ha hb (τ := tt) (by omega) (show s < 8 by omega) (show g < 8 by omega) hsg hv
  have c0 : copies (5 * (8 * k + s) + 0) = 1 := (eC k s 0 (by omega) (by omega) (by omega)).trans hw
  have c2 : copies (5 * (8 * k + s) + 2) = qC st k s 2 := eC k s 2 (by omega) (by omega) (by omega)
  have m1 : messages (12 * k + 1) = nI g := (eM k 1 (by omega) (by omega)).trans eg
  have mod7 : ∀ x, fX7_firstStep N st A' K' I' (nI s) (nI tt) = some x → fX7_nextOf N st A K isA (nI k) (nI s) = some (x, A', K', I') := fun x hx => by
    unfold fX7_nextOf
    rw [a1, rn_bs, b1, rn_bs, show fX7_ofMessage st (nI k) (1 : Int32) = some (nI g) from (oM (q := 1) (by omega) (by omega)).trans (congrArg some eg), rn_bs, g3, cl3, h3, l1, rn_bs, g3, hx, rn_bs]
  obtain ⟨fs, s1, s2⟩ := setOf8 (bs_H (τ := tt) eH 0) (show s < 8 by omega)
  have s3 := is8_andn s2 hv
  have cls : fX2_nextOf N (nI tt) messages copies ar fe nx heard (nI k) (nI s) = (if (fs &&& (i4 ^^^ (-1 : Int32))) = 0 then some (-1, ar, fe, nx) else (fX5_find N ar fe nx heard (nI s) (nI g) (nI tt) i4).bind fun t10 => if t10.1 = 0 then some (-1, t10.2.1, t10.2.2.1, t10.2.2.2) else (fX5_next t10.2.2.2).bind fun t12 => some (t12, t10.2.1, t10.2.2.1, t10.2.2.2)) := by
    unfold fX2_nextOf fX5_goesFrom
    rw [rw2, rn_bs, show fX4_get (192 : Int32) (5 : Int32) 960 copies (nI (8 * k + s)) (0 : Int32) = some 1 from (tC (q := 0) (by omega) (by omega)).trans (congrArg some c0), rn_bs, if_pos rfl, show fX4_get (192 : Int32) (5 : Int32) 960 copies (nI (8 * k + s)) (2 : Int32) = some (qC st k s 2) from (tC (q := 2) (by omega) (by omega)).trans (congrArg some c2), rn_bs, if_pos htm, p1, rn_bs, ht2 (by omega), rn_bs, show tt % 24 = (tt + 0) % 24 from rfl, s1, rn_bs]
    by_cases hz : (fs &&& (i4 ^^^ (-1 : Int32))) = 0
    · rw [if_pos hz, if_pos hz, rn_bs, if_pos rfl]
    · rw [if_neg hz, if_neg hz, rn_bs, if_neg (by decide), show fX4_get (24 : Int32) (12 : Int32) 288 messages (nI k) (1 : Int32) = some (nI g) from (tM (q := 1) (by omega) (by omega)).trans (congrArg some m1), rn_bs]
  rw [cls]
  rcases l2 with ⟨f1, f2, f3⟩ | ⟨v, w, x, f1, f2, f3, f4, f5, f6⟩
  · refine ⟨-1, ar, fe, nx, A', K', I', ?_, mod7 _ f3, Or.inl rfl⟩
    by_cases hz : (fs &&& (i4 ^^^ (-1 : Int32))) = 0
    · rw [if_pos hz]
    · rw [if_neg hz, f1, rn_bs, if_pos rfl]
  · by_cases hz : (fs &&& (i4 ^^^ (-1 : Int32))) = 0
    · have hx : x = -1 := by
        rcases f6 with q | ⟨u, u1, u2, u3, u4⟩
        · exact q
        · exact absurd ⟨u3, u4⟩ ((is8_z s3).mp hz u (by omega))
      subst hx
      refine ⟨-1, ar, fe, nx, A', K', I', ?_, mod7 _ f5, Or.inl rfl⟩
      rw [if_pos hz]
    · refine ⟨x, v, w, x, A', K', I', ?_, mod7 _ f5, ?_⟩
      · rw [if_neg hz, f1, rn_bs, if_neg (show ¬ (1 : Int32) = 0 by decide)]
        rfl
      · rcases f6 with q | ⟨u, u1, u2, u3, u4⟩
        · exact Or.inl q
        · refine Or.inr ⟨u, u1, u2, u3, fun i L' hL' hL8 hi hq => ?_⟩
          have eL : L' = L := (nI_eq (by omega) (by omega)).mp (hL'.symm.trans e3)
          subst eL
          apply u4
          apply (b2 u (by omega)).mpr
          refine ⟨i, hi, ?_⟩
          have := (hf i hi).2
          rw [hq] at this
          exact ((nI_eq (by omega) (by have := (hf i hi).1; omega)).mp this).symm
end PJ
