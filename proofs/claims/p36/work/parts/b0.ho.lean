/-! an hour of the law -/
section B0
theorem k59 : ∀ κ : Nat, κ < 9 → (if nI κ = 0 then some (1 : Int32) else if nI κ ≤ (6 : Int32) then some 0 else some 1) = some (ow (κ = 0 ∨ 6 < κ)) := by decide +kernel
theorem k70 : ∀ κ : Nat, κ < 9 → (if nI κ < (1 : Int32) then some (0 : Int32) else if (3 : Int32) < nI κ then some 0 else some 1) = some (nI (if fkd κ = true then 1 else 0)) := by decide +kernel
theorem k5 : ∀ κ : Nat, κ < 9 → (nI κ = (5 : Int32) ↔ dkd κ = true) := by decide +kernel
theorem sub_l (x y : Int32) : (x + y) - x = y := by rw [Int32.add_comm, Int32.add_sub_cancel]
variable {N t a b m e tt : Nat} {sc lc mc tm life tries x : Int32} {stations links messages copies : Nat → Int32} {first size : Int32} {events st : Nat → Int32} {heard : Nat → Int64}
/-- what a station will send -/
theorem sn_l {s : Nat} (hN : 6000 ≤ N) (ht : t ≤ 90000) (h0 : rl0 t a b m e tt (tt + 1) sc lc mc tm life tries x stations links messages copies first size events st) (eH : ev_H b heard st) (hs : s < a) :
    ∃ L, L ≤ 9 ∧ (∀ r, r ≤ 9 → qS st s 2 = nI r → L ≤ r) ∧ (L = 0 ∨ q_on st s (tt % 24) = true) ∧ ∀ (i : Nat) (ar fe nx : Int32) (F : Nat → Int32), i ≤ L → ∃ v w, fL_sends N sc mc tm stations messages copies ar fe nx heard F (nI s) (nI i) = some (0, v, w) ∧ (v < 0 ↔ i = L) := by
  have h : rl_net t sc lc mc tm life tries x stations links messages copies first size events heard st := ⟨a, b, m, e, tt, h0, eH⟩
  obtain ⟨hA, hZ⟩ := rlA_iff.mp h0
  obtain ⟨⟨ha, hb, hm, he, htt⟩, z0, z1, z2, z3, z7, z6⟩ := h0.1.1
  obtain ⟨nv, l, ar', fe', nx', F', A', K', I', T', D', -, u2, ⟨l1, l2, l3⟩, -, -, u6, u7⟩ := lu_r hN hA (show t < 1000000 by omega) eH hs 0 0 0 0 st st st st st st
  refine ⟨l.length, l1, l2, l3.elim (fun q => Or.inl (by rw [q]; rfl)) Or.inr, fun i ar fe nx F hi => ?_⟩
  have m7 : ∃ v w2, fX7_sends N 0 0 st st st st st st (nI s) (nI i) = some (v, 0, w2) ∧ (v < 0 ↔ i = l.length) := by
    unfold fX7_sends
    rw [is7 z0 ha hs, rn_bs, if_neg n10, if_pos (show (0 : Int32) ≤ nI i from nI_le (a := 0) (Nat.zero_le _) (by omega)), u2, rn_bs]
    rcases Nat.lt_or_ge i l.length with d | d
    · obtain ⟨k, hk⟩ : ∃ k, l[i]? = some k := ⟨_, List.getElem?_eq_getElem d⟩
      have t1 := u6 i k hk
      have hkm := (u7 k (List.mem_of_getElem? hk)).1
      rw [if_neg (show ¬ (nI l.length, A', K', I', T', D').1 ≤ nI i from nI_ge d (by omega)), rn_gI (by omega) (by decide), nI_clamp (by omega), show (nI l.length, A', K', I', T', D').2.2.2.2.1 i = nI k from t1.1]
      exact ⟨_, _, rfl, fun q => absurd q (nI_nlt (b := 0) (Nat.zero_le _) (by omega)), fun q => by omega⟩
    · rw [if_pos (show (nI l.length, A', K', I', T', D').1 ≤ nI i from nI_le d (by omega))]
      exact ⟨_, _, rfl, fun _ => by omega, fun _ => by decide⟩
  obtain ⟨v, w2, q1, q2⟩ := m7
  obtain ⟨w, q3⟩ := rd_sends hN ht h ar fe nx 0 F st st st st st ⟨w2, q1⟩
  exact ⟨v, w, q3, q2⟩
theorem l79 {s L : Nat} (rd : ∀ (i : Nat) (ar fe nx : Int32) (F : Nat → Int32), i ≤ L → ∃ v w, fL_sends N sc mc tm stations messages copies ar fe nx heard F (nI s) (nI i) = some (0, v, w) ∧ (v < 0 ↔ i = L)) :
    ∀ (n i : Nat) (ar fe nx : Int32) (F : Nat → Int32), i ≤ L → L - i < n → ∃ ar' fe' nx' F', lL_hour_79 N sc mc tm stations messages copies heard (nI s) n (nI i) ar fe nx F = some (nI L, ar', fe', nx', F') := by
  intro n
  induction n with
  | zero => intro i ar fe nx F _ h; omega
  | succ n ih =>
    intro i ar fe nx F hi hn
    obtain ⟨v, ⟨w1, w2, w3, w4⟩, e1, e2⟩ := rd i ar fe nx F hi
    rw [lL_hour_79, bz e1]
    dsimp only
    by_cases c : i = L
    · rw [if_pos (e2.mpr c), c]
      exact ⟨_, _, _, _, rfl⟩
    · rw [if_neg (fun q => c (e2.mp q)), nI_1]
      exact ih (i + 1) w1 w2 w3 w4 (by omega) (by omega)
theorem l53 {t1 : Nat × Int32} (hN : 6000 ≤ N) (ht : t ≤ 90000) (h0 : rl0 t a b m e tt (tt + 1) sc lc mc tm life tries x stations links messages copies first size events st) (eH : ev_H b heard st) (e1 : t1.2 = nI a) :
    ∀ (n s : Nat) (ar fe nx : Int32) (F B : Nat → Int32), s ≤ a → a - s < n → (∀ i, i < s → B i = qS st i 3) → ∃ ar' fe' nx' F' B', lL_hour_53 N sc lc mc tm stations links messages copies heard t1 n (nI s) ar fe nx F B = some (ar', fe', nx', F', B') ∧ ∀ i, i < a → B' i = qS st i 3 := by
  have h : rl_net t sc lc mc tm life tries x stations links messages copies first size events heard st := ⟨a, b, m, e, tt, h0, eH⟩
  obtain ⟨⟨ha, hb, hm, he, htt⟩, z0, z1, z2, z3, z7, z6⟩ := h0.1.1
  have gS : gd_S a st := h0.1.2.1
  intro n
  induction n with
  | zero => intro s ar fe nx F B _ h; omega
  | succ n ih =>
    intro s ar fe nx F B hs hn hB
    rw [lL_hour_53, e1]
    rcases Nat.lt_or_ge s a with c | c
    · obtain ⟨L, L1, L2, L3, rd⟩ := sn_l hN ht h0 eH c
      obtain ⟨ar1, fe1, nx1, F1, q1⟩ := l79 rd N 0 ar fe nx F (by omega) (by omega)
      obtain ⟨-, -, r, hr, er⟩ := (gS s (by omega)).1 c
      have hB' : ∀ i, i < s + 1 → upd B s (qS st s 3) i = qS st i 3 := fun i hi => by
        by_cases q : i = s
        · rw [q, pk_us]
        · rw [pk_un q]
          exact hB i (by omega)
      rw [if_neg (nI_ge c (by omega)), bz (rd_station hN ht h (s7_5 z0 ha c))]
      dsimp only
      rw [rn_gI (by omega) (by decide), rn_lt, nI_clamp (by omega), show lL_hour_79 N sc mc tm stations messages copies heard (nI s) N (0 : Int32) ar fe nx F = _ from q1, rn_bs, bz (rd_station hN ht h (s7_2 z0 ha c))]
      dsimp only
      rw [er, if_neg (nI_nlt (L2 r (by omega) er) (by omega))]
      have nx := ih (s + 1) ar1 fe1 nx1 F1 (upd B s (qS st s 3)) (by omega) (by omega) hB'
      rw [nI_1]
      by_cases d : L = 0
      · rw [if_pos (show nI L ≤ 0 by rw [d]; decide)]
        exact nx
      · rw [if_neg (show ¬ nI L ≤ 0 from nI_ge (a := 0) (by omega) (by omega)), bz (rd_station hN ht h (s7_3 z0 z3 (by omega) gS ha c))]
        dsimp only
        rw [L3.resolve_left d, if_neg (by decide)]
        exact nx
    · have : s = a := by omega
      subst this
      rw [if_pos (nI_le (Nat.le_refl _) (by omega))]
      exact ⟨ar, fe, nx, F, B, rfl, fun i hi => hB i hi⟩
theorem l191 {st0 : Nat → Int32} {t1 : Nat × Int32} {t11 : Int32 × Int32 × Int32 × (Nat → Int32) × (Nat → Int32)} {t28 : Nat × Int32 × Int32 × Int32 × (Nat → Int32) × (Nat → Int32) × (Nat → Int32) × (Nat → Int32) × Int32 × Int32 × (Nat → Int32) × Int32 × Int32 × Int32 × (Nat → Int32)} (hN : 6000 ≤ N) (ht : t ≤ 90000) (h0 : rl0 t a b m e tt (tt + 1) sc lc mc tm life tries x stations links messages copies first size events st) (eH : ev_H b heard st) (e1 : t1.2 = nI a)
    (r1 : t28.2.2.1 = tm) (r2 : t28.2.2.2.2.1 = stations) (r3 : t28.2.2.2.2.2.1 = links) (r4 : t28.2.2.2.2.2.2.2.1 = copies) (hB : ∀ i, i < a → t11.2.2.2.2 i = qS st0 i 3) (H : ∀ i, i < 8 → ∃ d, qS st i 3 = qS st0 i 3 + nI d ∧ ∀ r, r ≤ 9 → qS st i 2 = nI r → d ≤ r) :
    ∀ (n s : Nat), s ≤ a → a - s < n → lL_hour_191 N sc lc mc t1 t11 t28 n (nI s) = some () := by
  have h : rl_net t sc lc mc tm life tries x stations links messages copies first size events heard st := ⟨a, b, m, e, tt, h0, eH⟩
  obtain ⟨⟨ha, hb, hm, he, htt⟩, z0, z1, z2, z3, z7, z6⟩ := h0.1.1
  have gS : gd_S a st := h0.1.2.1
  intro n
  induction n with
  | zero => intro s _ h; omega
  | succ n ih =>
    intro s hs hn
    rw [lL_hour_191, e1, r1, r2, r3, r4]
    rcases Nat.lt_or_ge s a with c | c
    · obtain ⟨d, q1, q2⟩ := H s (by omega)
      obtain ⟨-, -, r, hr, er⟩ := (gS s (by omega)).1 c
      rw [if_neg (nI_ge c (by omega)), bz (rd_station hN ht h (s7_5 z0 ha c))]
      dsimp only
      rw [rn_gI (by omega) (by decide), bz (rd_station hN ht h (s7_2 z0 ha c))]
      dsimp only
      rw [nI_clamp (by omega), hB s c, q1, sub_l, er, if_pos (nI_le (q2 r (by omega) er) (by omega)), nI_1]
      exact ih (s + 1) (by omega) (by omega)
    · have : s = a := by omega
      subst this
      rw [if_pos (nI_le (Nat.le_refl _) (by omega))]
theorem l264 {T K : Nat → Nat} {τ : Nat} {t3 t45 : Nat × Int32} {t28 : Nat × Int32 × Int32 × Int32 × (Nat → Int32) × (Nat → Int32) × (Nat → Int32) × (Nat → Int32) × Int32 × Int32 × (Nat → Int32) × Int32 × Int32 × Int32 × (Nat → Int32)} (ht : t ≤ 90000) (h : rl_net t sc lc mc tm life tries x stations links messages copies first size events heard st) (z7 : st 7 = nI e) (he : e ≤ 40) (hτ : τ < 1000000)
    (r1 : t28.2.2.2.2.2.2.2.2.1 = first) (r2 : t28.2.2.2.2.2.2.2.2.2.1 = size) (r3 : t28.2.2.2.2.2.2.2.2.2.2.1 = events) (e3 : t3.2 = nI τ) (e45 : t45.2 = nI e) (g3 : ∀ j, j < e → qE st j 0 = nI (T j) ∧ T j ≤ τ ∧ qE st j 1 = nI (K j) ∧ K j < 9 ∧ ((K j = 0 ∨ 6 < K j) ↔ qE st j 4 = -1)) (g4 : ∀ j, j + 1 < e → T j ≤ T (j + 1)) :
    ∀ (n j : Nat), j ≤ e → e - j < n → lL_hour_264 t3 t28 t45 n (nI (cn (fun j => decide (T j = τ) && fkd (K j)) j)) (nI (cn (fun j => decide (T j = τ) && dkd (K j)) j)) (nI j) = some (nI (cn (fun j => decide (T j = τ) && fkd (K j)) e), nI (cn (fun j => decide (T j = τ) && dkd (K j)) e)) := by
  intro n
  induction n with
  | zero => intro s _ h; omega
  | succ n ih =>
    intro j hj hn
    rw [lL_hour_264, e45, r1, r2, r3, e3]
    rcases Nat.lt_or_ge j e with c | c
    · obtain ⟨p0, p1, p2, p3, p4⟩ := g3 j c
      have E0 : fL_event first size events (nI j) (0 : Int32) = some (0, nI (T j)) := by rw [← p0]; exact rd_event ht h (e7_q (q := 0) z7 he c (by decide))
      have E1 : fL_event first size events (nI j) (1 : Int32) = some (0, nI (K j)) := by rw [← p2]; exact rd_event ht h (e7_q (q := 1) z7 he c (by decide))
      have E4 : fL_event first size events (nI j) (4 : Int32) = some (0, qE st j 4) := rd_event ht h (e7_q (q := 4) z7 he c (by decide))
      have nx := ih (j + 1) (by omega) (by omega)
      have sf : nI (cn (fun j => decide (T j = τ) && fkd (K j)) (j + 1)) = nI (cn (fun j => decide (T j = τ) && fkd (K j)) j) + nI (if T j = τ ∧ fkd (K j) = true then 1 else 0) := by
        rw [nI_add]
        show nI (cn _ j + (if (decide (T j = τ) && fkd (K j)) = true then 1 else 0)) = _
        congr 2
        simp only [Bool.and_eq_true, decide_eq_true_eq]
      have sd : nI (cn (fun j => decide (T j = τ) && dkd (K j)) (j + 1)) = nI (cn (fun j => decide (T j = τ) && dkd (K j)) j) + nI (if T j = τ ∧ dkd (K j) = true then 1 else 0) := by
        rw [nI_add]
        show nI (cn _ j + (if (decide (T j = τ) && dkd (K j)) = true then 1 else 0)) = _
        congr 2
        simp only [Bool.and_eq_true, decide_eq_true_eq]
      rw [sf, sd] at nx
      have ord' : (if nI j ≤ 0 then some () else (fL_event first size events (nI j) (0 : Int32)).bind fun t54 => rn_z (¬ t54.1 = 0) <| (fL_event first size events (nI j - (1 : Int32)) (0 : Int32)).bind fun t56 => rn_z (¬ t56.1 = 0) <| if t54.2 < t56.2 then none else some ()) = some () := by
        by_cases d : j = 0
        · rw [if_pos (show nI j ≤ 0 by rw [d]; decide)]
        · obtain ⟨j', rfl⟩ : ∃ j', j = j' + 1 := ⟨j - 1, by omega⟩
          have E0' : fL_event first size events (nI j') (0 : Int32) = some (0, nI (T j')) := by rw [← (g3 j' (by omega)).1]; exact rd_event ht h (e7_q (q := 0) z7 he (by omega) (by decide))
          rw [if_neg (show ¬ nI (j' + 1) ≤ 0 from nI_ge (a := 0) (by omega) (by omega)), nI_p1, bz E0, bz E0']
          dsimp only
          rw [if_neg (nI_nlt (g4 j' c) (by omega))]
      rw [if_neg (nI_ge c (by omega)), bz E1]
      dsimp only
      rw [ord', rn_bs, k59 _ p3, rn_bs, bz E4]
      dsimp only
      rw [ob, if_pos (ow_c p4), bz E0]
      dsimp only
      by_cases w : T j = τ
      · rw [if_pos (show nI (T j) = nI τ by rw [w]), k70 _ p3, rn_bs]
        by_cases w5 : dkd (K j) = true
        · rw [if_pos ((k5 _ p3).mpr w5), nI_1 j]
          rw [if_pos (show T j = τ ∧ dkd (K j) = true from ⟨w, w5⟩)] at nx
          by_cases wf : fkd (K j) = true
          · rw [if_pos wf]
            rw [if_pos (show T j = τ ∧ fkd (K j) = true from ⟨w, wf⟩)] at nx
            exact nx
          · rw [if_neg wf]
            rw [if_neg (show ¬ (T j = τ ∧ fkd (K j) = true) from fun q => wf q.2)] at nx
            exact nx
        · rw [if_neg (fun q => w5 ((k5 _ p3).mp q)), nI_1 j]
          rw [if_neg (show ¬ (T j = τ ∧ dkd (K j) = true) from fun q => w5 q.2)] at nx
          by_cases wf : fkd (K j) = true
          · rw [if_pos wf]
            rw [if_pos (show T j = τ ∧ fkd (K j) = true from ⟨w, wf⟩)] at nx
            exact nx
          · rw [if_neg wf]
            rw [if_neg (show ¬ (T j = τ ∧ fkd (K j) = true) from fun q => wf q.2)] at nx
            exact nx
      · rw [if_neg (show ¬ nI (T j) = nI τ from fun q => w ((nI_eq (by omega) (by omega)).mp q)), nI_1 j]
        rw [if_neg (show ¬ (T j = τ ∧ dkd (K j) = true) from fun q => w q.1), if_neg (show ¬ (T j = τ ∧ fkd (K j) = true) from fun q => w q.1), nI_z, nI_z] at nx
        exact nx
    · have : j = e := by omega
      subst this
      rw [if_pos (nI_le (Nat.le_refl _) (by omega))]
end B0
