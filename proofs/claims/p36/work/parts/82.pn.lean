/-! what a step of the hour keeps; copies that end, tries, draws -/
theorem sPl (i q : Nat) : ((8 : Int32) + (7 : Int32) * nI i) + nI q = nI (8 + 7 * i + q) := by
  rw [show (8 : Int32) = nI 8 from rfl, show (7 : Int32) = nI 7 from rfl, pk_mul, nI_add, nI_add]
theorem lPl (i q : Nat) : ((64 : Int32) + (8 : Int32) * nI i) + nI q = nI (64 + 8 * i + q) := by
  rw [show (8 : Int32) = nI 8 from rfl, show (64 : Int32) = nI 64 from rfl, pk_mul, nI_add, nI_add]
theorem mPl (i q : Nat) : ((192 : Int32) + (8 : Int32) * nI i) + nI q = nI (192 + 8 * i + q) := by
  rw [show (8 : Int32) = nI 8 from rfl, show (192 : Int32) = nI 192 from rfl, pk_mul, nI_add, nI_add]
theorem lrem_N {a d : Nat} (ha : a < 2 ^ 31) (h0 : 0 < d) (hd : d < 2 ^ 31) : rn_lrem (lN a) (lN d) = lN (a % d) := by
  have h1 := Nat.div_add_mod a d
  have h2 : a / d ≤ a := Nat.div_le_self _ _
  have e : lN a / lN d = lN (a / d) := by
    apply Int64.toInt_inj.mp
    rw [Int64.toInt_div, lN_toInt ha, lN_toInt hd, lN_toInt (by omega), ← Int.ofNat_tdiv]
    clear h1
    generalize a / d = z at *
    exact Int.bmod_eq_of_le (by omega) (by omega)
  unfold rn_lrem
  rw [e, lN_mul, lN_sub (by rw [Nat.mul_comm]; omega)]
  congr 1
  rw [Nat.mul_comm]
  omega
theorem ad1 {st : Nat → Int32} {x : Int32} {j : Nat} (hx : x = nI j) (hj : j < 2888) : fX7_add st x = some (upd st j (st j + 1)) := by
  subst hx
  unfold fX7_add
  rw [rn_gI hj (by decide), rn_gI hj (by decide), rn_lt, nI_clamp (by omega)]
def kp (k : Nat) (st st' : Nat → Int32) : Prop := (∀ i q, i < 8 → q < 3 → qS st' i q = qS st i q) ∧ (∀ i q, i < 16 → q < 5 → qL st' i q = qL st i q) ∧ (∀ i q, i < 24 → q < 4 → qM st' i q = qM st i q) ∧ (∀ j, j < 6 → st' j = st j) ∧ ∀ k' s q, k' < 24 → s < 8 → q < 12 → k' ≠ k → qC st' k' s q = qC st k' s q
section PN
variable {k : Nat} {st st' st'' : Nat → Int32}
theorem kp_t (h1 : kp k st st') (h2 : kp k st' st'') : kp k st st'' :=
  ⟨fun i q a b => (h2.1 i q a b).trans (h1.1 i q a b), fun i q a b => (h2.2.1 i q a b).trans (h1.2.1 i q a b), fun i q a b => (h2.2.2.1 i q a b).trans (h1.2.2.1 i q a b), fun j a => (h2.2.2.2.1 j a).trans (h1.2.2.2.1 j a), fun k' s q a b c d => (h2.2.2.2.2 k' s q a b c d).trans (h1.2.2.2.2 k' s q a b c d)⟩
theorem kp_r : kp k st st := ⟨fun _ _ _ _ => rfl, fun _ _ _ _ => rfl, fun _ _ _ _ => rfl, fun _ _ => rfl, fun _ _ _ _ _ _ _ => rfl⟩
theorem kp_w (h : low st st') : kp k st st' :=
  ⟨fun i q a b => h.1 i q a (by omega), fun i q a b => h.2.1 i q a (by omega), fun i q a b => h.2.2.2.1 i q a (by omega), fun j a => h.2.2.2.2 j (by omega), fun k' s q a b c _ => h.2.2.1 k' s q a b c⟩
theorem kp_S {i q : Nat} {v : Int32} (hi : i < 8) (h3 : 3 ≤ q) (h7 : q < 7) : kp k st (upd st (8 + 7 * i + q) v) :=
  ⟨fun _ _ _ _ => pk_un (by omega), fun _ _ _ _ => pk_un (by omega), fun _ _ _ _ => pk_un (by omega), fun _ _ => pk_un (by omega), fun _ _ _ _ _ _ _ => pk_un (by omega)⟩
theorem kp_L {i q : Nat} {v : Int32} (hi : i < 16) (h3 : 5 ≤ q) (h7 : q < 8) : kp k st (upd st (64 + 8 * i + q) v) :=
  ⟨fun _ _ _ _ => pk_un (by omega), fun _ _ _ _ => pk_un (by omega), fun _ _ _ _ => pk_un (by omega), fun _ _ => pk_un (by omega), fun _ _ _ _ _ _ _ => pk_un (by omega)⟩
theorem kp_M {i q : Nat} {v : Int32} (hi : i < 24) (h3 : 4 ≤ q) (h7 : q < 8) : kp k st (upd st (192 + 8 * i + q) v) :=
  ⟨fun _ _ _ _ => pk_un (by omega), fun _ _ _ _ => pk_un (by omega), fun _ _ _ _ => pk_un (by omega), fun _ _ => pk_un (by omega), fun _ _ _ _ _ _ _ => pk_un (by omega)⟩
theorem kp_C {s q : Nat} {v : Int32} (hk : k < 24) (hs : s < 8) (hq : q < 12) : kp k st (upd st (384 + 12 * (8 * k + s) + q) v) :=
  ⟨fun _ _ _ _ => pk_un (by omega), fun _ _ _ _ => pk_un (by omega), fun _ _ _ _ => pk_un (by omega), fun _ _ => pk_un (by omega), fun _ _ _ _ _ _ _ => pk_un (by omega)⟩
theorem kp_6 {v : Int32} : kp k st (upd st 6 v) :=
  ⟨fun _ _ _ _ => pk_un (by omega), fun _ _ _ _ => pk_un (by omega), fun _ _ _ _ => pk_un (by omega), fun _ _ => pk_un (by omega), fun _ _ _ _ _ _ _ => pk_un (by omega)⟩
/-- the sums -/
theorem dl_iff : q_dl st k = true ↔ ∃ s, s < 8 ∧ qC st k s 0 = 5 := by
  unfold q_dl
  rw [List.any_eq_true]
  exact ⟨fun ⟨s, a, b⟩ => ⟨s, List.mem_range.mp a, by simpa using b⟩, fun ⟨s, a, b⟩ => ⟨s, List.mem_range.mpr a, by simpa using b⟩⟩
theorem gZ_g (h3 : ∀ i, i < 8 → qS st' i 3 = qS st i 3) (h6 : ∀ i, i < 8 → qS st' i 6 = qS st i 6) (h5 : ∀ j, j < 16 → qL st' j 5 = qL st j 5) (hd : ∀ k, k < 24 → ((∃ s, s < 8 ∧ qC st' k s 0 = 5) ↔ ∃ s, s < 8 ∧ qC st k s 0 = 5)) (g : gd_Z st) : gd_Z st' := by
  unfold gd_Z at *
  rw [isum_c 8 (f := fun i => qS st' i 3) (g := fun i => qS st i 3) h3, isum_c 16 (f := fun i => qL st' i 5) (g := fun i => qL st i 5) h5, isum_c 8 (f := fun i => qS st' i 6) (g := fun i => qS st i 6) h6, isum_c (f := fun k => if q_dl st' k = true then (1 : Int32) else 0) (g := fun k => if q_dl st k = true then (1 : Int32) else 0) 24 (fun k hk => by
    have e : q_dl st' k = q_dl st k := by rw [Bool.eq_iff_iff, dl_iff, dl_iff]; exact hd k hk
    rw [e])]
  exact g
theorem gZ_w (h : low st st') (g : gd_Z st) : gd_Z st' := gZ_c h.1 h.2.1 h.2.2.1 g
theorem isum_one {f g : Nat → Int32} {j : Nat} : ∀ n, j < n → (∀ i, i < n → i ≠ j → f i = g i) → f j = g j + 1 → isum f n = isum g n + 1 := by
  intro n
  induction n with
  | zero => intro h; omega
  | succ n ih =>
    intro hj h h1
    show isum f n + f n = isum g n + g n + 1
    by_cases c : j = n
    · subst c
      rw [h1, isum_c j (fun i hi => h i (by omega) (by omega)), Int32.add_assoc]
    · rw [ih (by omega) (fun i hi hne => h i (by omega) hne) h1, h n (by omega) (by omega), Int32.add_assoc, Int32.add_comm 1, ← Int32.add_assoc]
end PN
section PO
variable {N t a b m e tt τ : Nat} {sc lc mc tm life tries x : Int32} {stations links messages copies : Nat → Int32} {first size : Int32} {events st : Nat → Int32}
/-- a copy ends -/
theorem en_eq {k s w kd : Nat} {o : Int32} (hN : 6000 ≤ N) (h : rlA t a b m e tt τ sc lc mc tm life tries x stations links messages copies first size events st) (hZ : gd_Z st) (ht : t < 1000000) (hkd : kd < 9) (hk : k < m) (hs : s < a) (ho : o = -1 ∨ rg o 8) (h0 : ¬ qC st k s 0 = 0) (hg : ¬ qM st k 1 = nI s) (hw : 1 ≤ w) (hw4 : w ≤ 4) :
    ∃ st' e' messages' copies' first' size' events', fX7_endCopy N st (nI k) (nI s) (nI w) (nI kd) o = some st' ∧ fX2_endCopy tm messages copies first size events (nI k) (nI s) o (nI w) (nI kd) = some (messages', copies', first', size', events') ∧ rlA t a b m e' tt τ sc lc mc tm life tries x stations links messages' copies' first' size' events' st' ∧ gd_Z st' ∧ kp k st st' ∧ (∀ s' q, s' < 8 → q < 12 → s' ≠ s → qC st' k s' q = qC st k s' q) ∧ qC st' k s 0 = nI w := by
  obtain ⟨ha, hb, hm, he, htt⟩ := h.1.1.1
  have s5 : ¬ qC st k s 0 = 5 := fun q => by
    rcases h.2.2.2.2.1.1 k s (by omega) (by omega) with r | ⟨_, _, _, r, _⟩
    · exact h0 r.1
    · exact hg (r.mp q)
  have h1 := p_C h hk hs h0 hg hw hw4
  have h2 := p_M (i := k) (q := 6) (v := nI s) h1 (by omega) (by decide) (by decide) (fun q => absurd q (by decide))
  have h3 := p_M (i := k) (q := 7) (v := o) h2 (by omega) (by decide) (by decide) (fun q => absurd q (by decide))
  obtain ⟨st', e', first', size', events', n1, n2, n3, n4⟩ := nt_eq (kd := kd) (k := k) (s := s) (o := o) hN h3 ht hkd (by omega) (by omega) ho
  have K1 : kp k st (upd st (384 + 12 * (8 * k + s)) (nI w)) := kp_C (q := 0) (by omega) (by omega) (by decide)
  have K2 : kp k (upd st (384 + 12 * (8 * k + s)) (nI w)) (upd (upd st (384 + 12 * (8 * k + s)) (nI w)) (192 + 8 * k + 6) (nI s)) := kp_M (q := 6) (by omega) (by decide) (by decide)
  have K3 : kp k (upd (upd st (384 + 12 * (8 * k + s)) (nI w)) (192 + 8 * k + 6) (nI s)) (upd (upd (upd st (384 + 12 * (8 * k + s)) (nI w)) (192 + 8 * k + 6) (nI s)) (192 + 8 * k + 7) o) := kp_M (q := 7) (by omega) (by decide) (by decide)
  have K : kp k st st' := kp_t K1 (kp_t K2 (kp_t K3 (kp_w n4)))
  have cs : ∀ k' s' q, k' < 24 → s' < 8 → q < 12 → ¬ (k' = k ∧ s' = s ∧ q = 0) → qC st' k' s' q = qC st k' s' q := fun k' s' q a1 a2 a3 a4 => by
    rw [n4.2.2.1 k' s' q a1 a2 a3]
    unfold qC
    rw [pk_un (by omega), pk_un (by omega), pk_un (by omega)]
  have c0 : qC st' k s 0 = nI w := by
    rw [n4.2.2.1 k s 0 (by omega) (by omega) (by decide)]
    unfold qC
    rw [pk_un (by omega), pk_un (by omega)]
    exact pk_us
  have w5 : ¬ nI w = 5 := fun q => by have := (nI_eq (b := 5) (by omega) (by decide)).mp q; omega
  refine ⟨st', e', _, _, first', size', events', ?_, ?_, n3, ?_, K, fun s' q a1 a2 a3 => cs k s' q (by omega) a1 a2 (by omega), c0⟩
  · unfold fX7_endCopy
    rw [oP, rn_bs, show nI (384 + 12 * (8 * k + s)) + (0 : Int32) = nI (384 + 12 * (8 * k + s)) from Int32.add_zero _, rn_gI (by omega) (by decide), rn_lt, nI_clamp (by omega), show ((192 : Int32) + (8 : Int32) * nI k) + (6 : Int32) = nI (192 + 8 * k + 6) from mPl k 6, rn_gI (by omega) (by decide), rn_lt, nI_clamp (by omega), show ((192 : Int32) + (8 : Int32) * nI k) + (7 : Int32) = nI (192 + 8 * k + 7) from mPl k 7, rn_gI (by omega) (by decide), rn_lt, nI_clamp (by omega), n1, rn_bs]
  · unfold fX2_endCopy fX2_noteEnd
    rw [rw2, rn_bs, show fX4_set (192 : Int32) (5 : Int32) 960 copies (nI (8 * k + s)) (0 : Int32) (nI w) = some (upd copies (5 * (8 * k + s)) (nI w)) from uC (q := 0) (by omega) (by decide), rn_bs, show fX4_set (24 : Int32) (12 : Int32) 288 messages (nI k) (10 : Int32) (nI s) = some (upd messages (12 * k + mC 6) (nI s)) from uM (q := 10) (by omega) (by decide), rn_bs, show ∀ c, fX4_set (24 : Int32) (12 : Int32) 288 c (nI k) (11 : Int32) o = some (upd c (12 * k + mC 7) o) from fun c => uM (q := 11) (by omega) (by decide), rn_bs, rn_bs, n2, rn_bs]
  · refine gZ_g (fun i hi => ?_) (fun i hi => ?_) (fun j hj => ?_) (fun k' hk' => ?_) hZ
    · rw [n4.1 i 3 hi (by decide)]
      unfold qS
      rw [pk_un (by omega), pk_un (by omega), pk_un (by omega)]
    · rw [n4.1 i 6 hi (by decide)]
      unfold qS
      rw [pk_un (by omega), pk_un (by omega), pk_un (by omega)]
    · rw [n4.2.1 j 5 hj (by decide)]
      unfold qL
      rw [pk_un (by omega), pk_un (by omega), pk_un (by omega)]
    · constructor
      · rintro ⟨s', a1, a2⟩
        refine ⟨s', a1, ?_⟩
        by_cases c : k' = k ∧ s' = s
        · obtain ⟨rfl, rfl⟩ := c
          exact absurd (c0.symm.trans a2) w5
        · rw [cs k' s' 0 hk' a1 (by decide) (by omega)] at a2
          exact a2
      · rintro ⟨s', a1, a2⟩
        refine ⟨s', a1, ?_⟩
        by_cases c : k' = k ∧ s' = s
        · obtain ⟨rfl, rfl⟩ := c
          exact absurd a2 s5
        · rw [cs k' s' 0 hk' a1 (by decide) (by omega)]
          exact a2
/-- one more try -/
theorem ty_eq {k s : Nat} {o : Int32} (hN : 6000 ≤ N) (h : rlA t a b m e tt τ sc lc mc tm life tries x stations links messages copies first size events st) (hZ : gd_Z st) (ht : t < 1000000) (hk : k < m) (hs : s < a) (ho : o = -1 ∨ rg o 8) (h0 : ¬ qC st k s 0 = 0) (hg : ¬ qM st k 1 = nI s) :
    ∃ st' e' messages' copies' first' size' events', fX7_tryAgain N st (nI k) (nI s) o = some st' ∧ fX2_addTry tm tries messages copies first size events (nI k) (nI s) o = some (messages', copies', first', size', events') ∧ rlA t a b m e' tt τ sc lc mc tm life tries x stations links messages' copies' first' size' events' st' ∧ gd_Z st' ∧ kp k st st' := by
  obtain ⟨ha, hb, hm, he, htt⟩ := h.1.1.1
  have c1 : copies (5 * (8 * k + s) + 1) = qC st k s 1 := h.2.2.2.2.1.2.1 k s 1 (by omega) (by omega) (by decide)
  have h1 := p_Ct (v := qC st k s 1 + 1) h hk hs h0
  have K1 : kp k st (upd st (384 + 12 * (8 * k + s) + 1) (qC st k s 1 + 1)) := kp_C (by omega) (by omega) (by decide)
  have Z1 : gd_Z (upd st (384 + 12 * (8 * k + s) + 1) (qC st k s 1 + 1)) := by
    refine gZ_g (fun i hi => pk_un (by omega)) (fun i hi => pk_un (by omega)) (fun j hj => pk_un (by omega)) (fun k' hk' => ?_) hZ
    have e0 : ∀ s', s' < 8 → qC (upd st (384 + 12 * (8 * k + s) + 1) (qC st k s 1 + 1)) k' s' 0 = qC st k' s' 0 := fun s' hs' => pk_un (by omega)
    exact ⟨fun ⟨s', a1, a2⟩ => ⟨s', a1, by rw [e0 s' a1] at a2; exact a2⟩, fun ⟨s', a1, a2⟩ => ⟨s', a1, by rw [e0 s' a1]; exact a2⟩⟩
  have tr : tries = st 5 := h.1.2.2.2.2.2.2.1
  have mdl : fX7_tryAgain N st (nI k) (nI s) o = (if qC st k s 1 + 1 < tries then some (upd st (384 + 12 * (8 * k + s) + 1) (qC st k s 1 + 1)) else (fX7_endCopy N (upd st (384 + 12 * (8 * k + s) + 1) (qC st k s 1 + 1)) (nI k) (nI s) (3 : Int32) (6 : Int32) o).bind fun t8 => some t8) := by
    unfold fX7_tryAgain
    simp only [oP, rn_bs, show nI (384 + 12 * (8 * k + s)) + (1 : Int32) = nI (384 + 12 * (8 * k + s) + 1) from nI_add _ 1, rn_lt, g5, cl5]
    rw [rn_gI (by omega) (by decide), rn_gI (by omega) (by decide), rn_gI (by omega) (by decide), nI_clamp (by omega), pk_us, pk_un (by omega), ← tr]
    rfl
  have cls : fX2_addTry tm tries messages copies first size events (nI k) (nI s) o = (if qC st k s 1 + 1 < tries then some (messages, upd copies (5 * (8 * k + s) + 1) (qC st k s 1 + 1), first, size, events) else (fX2_endCopy tm messages (upd copies (5 * (8 * k + s) + 1) (qC st k s 1 + 1)) first size events (nI k) (nI s) o (3 : Int32) (6 : Int32)).bind fun t5 => some (t5.1, t5.2.1, t5.2.2.1, t5.2.2.2.1, t5.2.2.2.2)) := by
    unfold fX2_addTry
    rw [rw2, rn_bs, show fX4_add (192 : Int32) (5 : Int32) 960 copies (nI (8 * k + s)) (1 : Int32) (1 : Int32) = some (upd copies (5 * (8 * k + s) + 1) (qC st k s 1 + 1)) from (aC (q := 1) (by omega) (by decide)).trans (by rw [c1]), rn_bs, show fX4_get (192 : Int32) (5 : Int32) 960 (upd copies (5 * (8 * k + s) + 1) (qC st k s 1 + 1)) (nI (8 * k + s)) (1 : Int32) = some (qC st k s 1 + 1) from (tC (q := 1) (by omega) (by decide)).trans (by rw [pk_us]), rn_bs]
  rw [mdl, cls]
  by_cases c : qC st k s 1 + 1 < tries
  · rw [if_pos c, if_pos c]
    exact ⟨_, e, _, _, _, _, _, rfl, rfl, h1, Z1, K1⟩
  · rw [if_neg c, if_neg c]
    have h0' : ¬ qC (upd st (384 + 12 * (8 * k + s) + 1) (qC st k s 1 + 1)) k s 0 = 0 := by
      unfold qC
      rw [pk_un (by omega)]
      exact h0
    have hg' : ¬ qM (upd st (384 + 12 * (8 * k + s) + 1) (qC st k s 1 + 1)) k 1 = nI s := by
      unfold qM
      rw [pk_un (by omega)]
      exact hg
    obtain ⟨st', e', messages', copies', first', size', events', n1, n2, n3, n4, n5, -⟩ := en_eq (w := 3) (kd := 6) hN h1 Z1 ht (by decide) hk hs ho h0' hg' (by decide) (by decide)
    refine ⟨st', e', messages', copies', first', size', events', ?_, ?_, n3, n4, kp_t K1 n5⟩
    · rw [show fX7_endCopy N _ (nI k) (nI s) (3 : Int32) (6 : Int32) o = _ from n1, rn_bs]
    · rw [show fX2_endCopy tm messages _ first size events (nI k) (nI s) o (3 : Int32) (6 : Int32) = _ from n2, rn_bs]
/-- a draw -/
theorem dr_eq (h : rlA t a b m e tt τ sc lc mc tm life tries x stations links messages copies first size events st) (hZ : gd_Z st) :
    ∃ (d : Int32) (u : Nat), fX7_draw st = some (d, upd st 6 (nI u)) ∧ fX2_draw x = some (d, nI u) ∧ rlA t a b m e tt τ sc lc mc tm life tries (nI u) stations links messages copies first size events (upd st 6 (nI u)) ∧ gd_Z (upd st 6 (nI u)) := by
  obtain ⟨v, hv, e6⟩ := h.1.1.2.2.2.2.2.2
  have hx : x = nI v := h.1.2.2.2.2.2.2.2.1.trans e6
  refine ⟨nI ((1103 * v + 12345) % 1000003 % 100), (1103 * v + 12345) % 1000003, ?_, ?_, p_x h ⟨_, Nat.mod_lt _ (by decide), rfl⟩, ?_⟩
  · have e1 : (rn_lrem (((1103 : Int64) * (nI v).toInt64) + (12345 : Int64)) (1000003 : Int64)).toInt32 = nI ((1103 * v + 12345) % 1000003) := by
      rw [nI_l (by omega), show (1103 : Int64) = lN 1103 from rfl, lN_mul, show (12345 : Int64) = lN 12345 from rfl, lN_add, show (1000003 : Int64) = lN 1000003 from rfl, lrem_N (by omega) (by decide) (by decide), lN_i]
    unfold fX7_draw
    simp only [g6, cl6, rn_lt, e6, e1, pk_us]
    rw [show rn_rem (nI ((1103 * v + 12345) % 1000003)) (100 : Int32) = nI ((1103 * v + 12345) % 1000003 % 100) from nI_rem (d := 100) (by have := Nat.mod_lt (1103 * v + 12345) (show 0 < 1000003 by decide); omega) (by decide) (by decide)]
  · unfold fX2_draw
    rw [hx, show ((1103 : Int32) * nI v) + (12345 : Int32) = nI (1103 * v + 12345) by rw [show (1103 : Int32) = nI 1103 from rfl, pk_mul, show (12345 : Int32) = nI 12345 from rfl, nI_add], show rn_rem (nI (1103 * v + 12345)) (1000003 : Int32) = nI ((1103 * v + 12345) % 1000003) from nI_rem (d := 1000003) (by omega) (by decide) (by decide), rn_lt, show rn_rem (nI ((1103 * v + 12345) % 1000003)) (100 : Int32) = nI ((1103 * v + 12345) % 1000003 % 100) from nI_rem (d := 100) (by have := Nat.mod_lt (1103 * v + 12345) (show 0 < 1000003 by decide); omega) (by decide) (by decide)]
  · refine gZ_g (fun i hi => pk_un (by omega)) (fun i hi => pk_un (by omega)) (fun j hj => pk_un (by omega)) (fun k' hk' => ?_) hZ
    have e0 : ∀ s', s' < 8 → qC (upd st 6 (nI ((1103 * v + 12345) % 1000003))) k' s' 0 = qC st k' s' 0 := fun s' hs' => pk_un (by omega)
    exact ⟨fun ⟨s', a1, a2⟩ => ⟨s', a1, by rw [e0 s' a1] at a2; exact a2⟩, fun ⟨s', a1, a2⟩ => ⟨s', a1, by rw [e0 s' a1]; exact a2⟩⟩
end PO
