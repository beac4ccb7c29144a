/-! an hour, a predicate carried along (from whole's parts 88, 89 by wip/p36/gen/mka3.py) -/
section A3
variable {N t a b m e tt τ : Nat} {sc lc mc tm life tries x : Int32} {stations links messages copies : Nat → Int32} {first size : Int32} {events st : Nat → Int32} {heard : Nat → Int64}
theorem lu_r {s : Nat} (hN : 6000 ≤ N) (h : rlA t a b m e tt τ sc lc mc tm life tries x stations links messages copies first size events st) (ht : t < 1000000) (eH : ev_H b heard st) (hs : s < a) (ar fe nx c7 : Int32) (F A K I T D : Nat → Int32) :
    ∃ (nv : Nat → Int32) (l : List Nat) (ar' fe' nx' : Int32) (F' A' K' I' T' D' : Nat → Int32), fX2_lineUp N mc tm stations messages copies ar fe nx heard F (nI s) = some (nI l.length, ar', fe', nx', F') ∧ fX7_layFrames N c7 st A K I T D (nI s) = some (nI l.length, A', K', I', T', D') ∧ (l.length ≤ 9 ∧ (∀ r, r ≤ 9 → qS st s 2 = nI r → l.length ≤ r) ∧ (l = [] ∨ q_on st s (tt % 24) = true)) ∧ l.Nodup ∧ lsF nv F' l ∧ lsT nv T' D' l ∧ ∀ k, k ∈ l → k < m ∧ frq a b st s k (nv k) := by
  obtain ⟨ha, hb, hm, he, htt⟩ := h.1.1.1
  have h3 := h.1.1.2.2.2.2.1
  have h2 := h.1.1.2.2.2.1
  have tme : tm = nI tt := h.1.2.2.2.2.1.trans h3
  have mce : mc = nI m := h.1.2.2.2.1.trans h2
  have o7 := on7 (t := tt) h.2.1.1 hs ha (by omega)
  have o2 := on2 (h := tt % 24) h.2.1.2 h.2.1.1 hs ha (Nat.mod_lt _ (by decide))
  have hod : fX2_hourOfDay (nI tt) = some (nI (tt % 24)) := by
    unfold fX2_hourOfDay
    rw [show rn_rem (nI tt) (24 : Int32) = nI (tt % 24) from nI_rem (d := 24) (by omega) (by decide) (by decide)]
  unfold fX2_lineUp fX7_layFrames
  rw [tme, mce, hod, rn_bs, o2, rn_bs, g3, cl3, h3, o7, rn_bs]
  by_cases c : b2 (q_on st s (tt % 24)) = 0
  · rw [if_pos c, if_pos c]
    exact ⟨fun _ => 0, [], ar, fe, nx, F, A, K, I, T, D, rfl, rfl, ⟨by decide, fun r _ _ => Nat.zero_le _, Or.inl rfl⟩, List.nodup_nil, fun i k q => by simp at q, fun i k q => by simp at q, fun k q => by simp at q⟩
  · rw [if_neg c, if_neg c]
    obtain ⟨nv, hv⟩ := nvs hN h ht eH hs
    obtain ⟨-, -, ⟨r, hr, er⟩⟩ := (h.2.1.1 s (by omega)).1 hs
    have r2 : stations (10 * s + 2) = nI r := (h.2.1.2 s 2 (by omega) (by decide)).trans er
    have hp : ∀ k, k < m → (qM st k 2).toNatClampNeg < 4 ∧ qM st k 2 = nI (qM st k 2).toNatClampNeg := fun k hk => rg_cl (h.2.2.2.1.1 k hk).2.2.2 (by decide)
    have hp2 : ∀ k, k < m → (qM st k 2).toNatClampNeg < 4 ∧ messages (12 * k + 2) = nI (qM st k 2).toNatClampNeg := fun k hk => ⟨(hp k hk).1, (h.2.2.2.1.2 k 2 (by omega) (by decide)).trans (hp k hk).2⟩
    obtain ⟨A', K', I', T', D', y1, y2⟩ := lf7 (a := a) (b := b) (messages := messages) (copies := copies) (heard := heard) (pr := fun k => (qM st k 2).toNatClampNeg) hN h2 h3 hm (show s < 8 by omega) hp hv A K I T D
    obtain ⟨ar1, fe1, nx1, F1, z1, z2⟩ := st29 (X := []) (p := 3) (r := r) (pr := fun k => (qM st k 2).toNatClampNeg) hN hm (by decide) (by omega) hp2 hv (N - 5 + 4) ar fe nx F (fun i k q => by simp at q)
    obtain ⟨ar2, fe2, nx2, F2, z3, z4⟩ := st29 (p := 2) (r := r) (pr := fun k => (qM st k 2).toNatClampNeg) hN hm (by decide) (by omega) hp2 hv (N - 5 + 3) ar1 fe1 nx1 F1 z2
    obtain ⟨ar3, fe3, nx3, F3, z5, z6⟩ := st29 (p := 1) (r := r) (pr := fun k => (qM st k 2).toNatClampNeg) hN hm (by decide) (by omega) hp2 hv (N - 5 + 2) ar2 fe2 nx2 F2 z4
    obtain ⟨ar4, fe4, nx4, F4, z7, z8⟩ := st29 (p := 0) (r := r) (pr := fun k => (qM st k 2).toNatClampNeg) hN hm (by decide) (by omega) hp2 hv (N - 5 + 1) ar3 fe3 nx3 F3 z6
    have eX : ((([] ++ rdy nv (fun k => (qM st k 2).toNatClampNeg) 3 m) ++ rdy nv (fun k => (qM st k 2).toNatClampNeg) 2 m) ++ rdy nv (fun k => (qM st k 2).toNatClampNeg) 1 m) ++ rdy nv (fun k => (qM st k 2).toNatClampNeg) 0 m = msl nv (fun k => (qM st k 2).toNatClampNeg) m := by
      unfold msl
      simp only [List.append_assoc, List.nil_append]
    rw [eX] at z7 z8
    have zz : lX2_lineUp_29 N (nI m) (nI tt) messages copies heard (nI s) (nI r) N (0 : Int32) (3 : Int32) ar fe nx F = some (nI ((msl nv (fun k => (qM st k 2).toNatClampNeg) m).take r).length, ar4, fe4, nx4, F4) := by
      have zN : N - 5 + 4 + 1 = N := by omega
      rw [zN, List.take_nil] at z1
      refine (show lX2_lineUp_29 N (nI m) (nI tt) messages copies heard (nI s) (nI r) N (0 : Int32) (3 : Int32) ar fe nx F = _ from z1).trans ?_
      refine (show lX2_lineUp_29 N (nI m) (nI tt) messages copies heard (nI s) (nI r) (N - 5 + 4) _ (nI 3 + (-1 : Int32)) ar1 fe1 nx1 F1 = _ from z3).trans ?_
      refine (show lX2_lineUp_29 N (nI m) (nI tt) messages copies heard (nI s) (nI r) (N - 5 + 3) _ (nI 2 + (-1 : Int32)) ar2 fe2 nx2 F2 = _ from z5).trans ?_
      refine (show lX2_lineUp_29 N (nI m) (nI tt) messages copies heard (nI s) (nI r) (N - 5 + 2) _ (nI 1 + (-1 : Int32)) ar3 fe3 nx3 F3 = _ from z7).trans ?_
      rw [lX2_lineUp_29, if_pos (show nI 0 + (-1 : Int32) < 0 by decide)]
    have hl := msl_l (nv := nv) (pr := fun k => (qM st k 2).toNatClampNeg) m
    refine ⟨nv, (msl nv (fun k => (qM st k 2).toNatClampNeg) m).take r, ar4, fe4, nx4, F4, A', K', I', T', D', ?_, ?_, ?_, List.Nodup.sublist (List.take_sublist _ _) (msl_n m), z8, fun i k q => ?_, fun k q => ?_⟩
    · rw [show fX4_get (8 : Int32) (10 : Int32) 80 stations (nI s) (2 : Int32) = some (nI r) from (tS (q := 2) (by omega) (by decide)).trans (congrArg some r2), rn_bs, zz, rn_bs]
    · rw [y1, rn_bs, show fX7_ofStation st (nI s) (2 : Int32) = some (nI r) from (oS (q := 2) (by omega) (by decide)).trans (congrArg some er), rn_bs]
      show some (rn_min (nI (msl nv (fun k => (qM st k 2).toNatClampNeg) m).length) (nI r), A', K', I', T', D') = _
      rw [rn_minI (by omega) (by omega), List.length_take, Nat.min_comm]
    · refine ⟨by rw [List.length_take]; omega, fun r' hr' er' => ?_, Or.inr ?_⟩
      · have : r' = r := (nI_eq (by omega) (by omega)).mp (er'.symm.trans er)
        rw [List.length_take]
        omega
      · cases hq : q_on st s (tt % 24) with
        | true => rfl
        | false => exact absurd (b2_0.mpr hq) c
    · rw [List.getElem?_take] at q
      by_cases c2 : i < r
      · rw [if_pos c2] at q
        exact y2 i k q
      · rw [if_neg c2] at q
        simp at q
    · have q2 := List.mem_of_mem_take q
      have q3 := msl_m q2
      exact ⟨q3.1, (hv k q3.1).2.2.2.resolve_left q3.2⟩
/-- what a frame's step is told: the copy's path, the link, what stays, what changes -/
def stepS (b m a tt s n : Nat) (P : Nat → Nat → (Nat → Int32) → Prop) : Prop := ∀ (k u L r : Nat) (f : Nat → Nat) (st1 st2 : Nat → Int32), P s n st1 → qS st1 s 2 = nI r → n < r → r ≤ 9 → k < m → s < a → u < a → ¬ s = u → ¬ qC st1 k s 0 = 0 → 1 ≤ L → L < 8 → qC st1 k s 3 = nI L → (∀ i, i < L → f i < 8 ∧ qC st1 k s (4 + i) = nI (f i)) → qC st1 k s (4 + (L - 1)) = nI s → (∃ g, g < a ∧ qM st1 k 1 = nI g) → (qC st1 k u 0 = 0 → ∀ i, i < L → ¬ f i = u) → kp k st1 st2 → SF b tt k s u L f st1 st2 → P s (n + 1) st2
def stepE (m a : Nat) (P : Nat → Nat → (Nat → Int32) → Prop) : Prop := ∀ (k s : Nat) (st1 st2 : Nat → Int32), P 0 0 st1 → k < m → s < a → qC st1 k s 0 = 1 → dl nat0 nat0 nat0 st1 st2 → (∀ k' s' q, k' < 24 → s' < 8 → q < 12 → ¬ (k' = k ∧ s' = s ∧ q = 0) → qC st2 k' s' q = qC st1 k' s' q) → qC st2 k s 0 = nI 4 → st2 6 = st1 6 → evA 7 (-1) st1 st2 → P 0 0 st2
theorem pth {k s u : Nat} (h : rlA t a b m e tt τ sc lc mc tm life tries x stations links messages copies first size events st) (hk : k < m) (hs : s < a) (hu : u < a) (h0 : ¬ qC st k s 0 = 0) (hnp : ∀ i L, qC st k s 3 = nI L → L ≤ 8 → i < L → ¬ qC st k s (4 + i) = nI u) : ∃ (L : Nat) (f : Nat → Nat), 1 ≤ L ∧ L < 8 ∧ qC st k s 3 = nI L ∧ (∀ i, i < L → f i < 8 ∧ qC st k s (4 + i) = nI (f i)) ∧ qC st k s (4 + (L - 1)) = nI s ∧ ∀ i, i < L → ¬ f i = u := by
  obtain ⟨ha, hb, hm, he, htt⟩ := h.1.1.1
  have cS := h.2.2.2.2.1.1 k s (by omega) (by omega)
  obtain ⟨-, -, -, -, -, L0, l1, l2, l3⟩ := cS.resolve_left (fun q => h0 q.1)
  obtain ⟨L, f, f1, f2, f3, f4⟩ := h.2.2.2.2.1.2.2 k s (by omega) (by omega) h0
  have eL : L0 = L := (nI_eq (by omega) (by omega)).mp (l1.symm.trans f2)
  subst eL
  have fd : ∀ i j, i < L0 → j < L0 → f i = f j → i = j := fun i j hi hj q => l3.2.2.1 i j hi hj (by show qC st k s (4 + i) = qC st k s (4 + j); rw [(f3 i hi).2, (f3 j hj).2, q])
  have fu : ∀ i, i < L0 → f i ≠ u := fun i hi q => hnp i L0 f2 f1 hi (by rw [(f3 i hi).2, q])
  have fb : ∀ i, i < L0 + 1 → (if i < L0 then f i else u) < 8 := fun i hi => by
    by_cases c : i < L0
    · rw [if_pos c]; exact (f3 i c).1
    · rw [if_neg c]; omega
  have hL : L0 + 1 ≤ 8 := php 8 (L0 + 1) (fun i => if i < L0 then f i else u) fb (fun i j hi hj q => by
    have q : (if i < L0 then f i else u) = (if j < L0 then f j else u) := q
    by_cases c1 : i < L0
    · by_cases c2 : j < L0
      · rw [if_pos c1, if_pos c2] at q
        exact fd i j c1 c2 q
      · rw [if_pos c1, if_neg c2] at q
        exact absurd q (fu i c1)
    · by_cases c2 : j < L0
      · rw [if_neg c1, if_pos c2] at q
        exact absurd q.symm (fu j c2)
      · omega)
  exact ⟨L0, f, l3.1, by omega, f2, f3, l3.2.2.2, fu⟩
theorem sl_p {s : Nat} {nv F T D : Nat → Int32} {l : List Nat} {t4 : Int32 × Int32 × Int32 × Int32 × (Nat → Int32)} {t5 : Int32 × (Nat → Int32) × (Nat → Int32) × (Nat → Int32) × (Nat → Int32) × (Nat → Int32)} (hN : 6000 ≤ N) (ht : t < 1000000) (hτ : tt + 1 < τ) (hs : s < a) (e4 : t4.1 = nI l.length) (e42 : t4.2.2.2.2 = F) (e5 : t5.1 = nI l.length) (e51 : t5.2.2.2.2.1 = T) (e52 : t5.2.2.2.2.2 = D) (h9 : l.length ≤ 9) (hnd : l.Nodup) (hF : lsF nv F l) (hT : lsT nv T D l) {P : Nat → Nat → (Nat → Int32) → Prop} {r : Nat} (hr : r ≤ 9) (hlr : l.length ≤ r) (hP : ∀ n, stepS b m a tt s n P) :
    ∀ (n i e : Nat) (x : Int32) (stations links messages copies : Nat → Int32) (first size : Int32) (events st : Nat → Int32), i ≤ l.length → l.length - i < n → rlA t a b m e tt τ sc lc mc tm life tries x stations links messages copies first size events st → gd_Z st → ev_H b heard st → qS st s 2 = nI r → P s i st → (∀ j k, i ≤ j → l[j]? = some k → k < m ∧ frq a b st s k (nv k)) →
    ∃ st' e' x' stations' links' messages' copies' first' size' events', lX7_passHour_23 N (nI s) t5 n (nI i) st = some st' ∧ lX2_passHour_22 N lc tm tries (nI s) t4 n (nI i) x stations links messages copies first size events = some (x', stations', links', messages', copies', first', size', events') ∧ rlA t a b m e' tt τ sc lc mc tm life tries x' stations' links' messages' copies' first' size' events' st' ∧ gd_Z st' ∧ ev_H b heard st' ∧ (∀ i q, i < 8 → q < 3 → qS st' i q = qS st i q) ∧ ∃ n, P s n st' := by
  intro n
  induction n with
  | zero => intro i e x stations links messages copies first size events st _ h; omega
  | succ n ih =>
    intro i e x stations links messages copies first size events st hi hn h hZ eH er p0 hq
    obtain ⟨ha, hb, hm, he, htt⟩ := h.1.1.1
    rw [lX7_passHour_23, lX2_passHour_22, e4, e5, e42, e51, e52]
    rcases Nat.lt_or_ge i l.length with c | c
    · rw [if_neg (nI_ge c (by omega)), if_neg (nI_ge c (by omega)), rn_gI (by omega) (by decide), rn_gI (by omega) (by decide), nI_clamp (by omega)]
      obtain ⟨k, hk⟩ : ∃ k, l[i]? = some k := ⟨_, List.getElem?_eq_getElem c⟩
      have f1 := hF i k hk
      have t1 := hT i k hk
      obtain ⟨hkm, u, u1, u2, u3, u4, u5, u6⟩ := hq i k (Nat.le_refl _) hk
      rw [t1.1, t1.2, show fX4_get (9 : Int32) (2 : Int32) 18 F (nI i) (0 : Int32) = some (nI k) from (tF (q := 0) (by omega) (by decide)).trans (congrArg some f1.1), rn_bs, show fX4_get (9 : Int32) (2 : Int32) 18 F (nI i) (1 : Int32) = some (nv k) from (tF (q := 1) (by omega) (by decide)).trans (congrArg some f1.2), rn_bs, u2]
      obtain ⟨st', e', x', stations', links', messages', copies', first', size', events', w1, w2, w3, w4, w5⟩ := sf_eq hN h hZ ht hτ hkm hs u1 u3 u4 u5 u6
      obtain ⟨L, f, p1, p2, p3, p4, p5, p6⟩ := pth h hkm hs u1 u3 u5
      have hsu : ¬ s = u := fun q => by
        subst q
        obtain ⟨i', i1, i2⟩ := u6
        have g := ((h.2.2.1.1 i' (by omega)).1 i1).2.2.1
        rcases i2 with r | r <;> exact g (r.1.trans r.2.symm)
      obtain ⟨-, ⟨g, hg, eg⟩, -⟩ := h.2.2.2.1.1 k hkm
      obtain ⟨st2, y1, y2⟩ := sf7 (f := f) hN h.1.1.2.2.2.2.2.1 he h.1.1.2.2.2.2.1 h.1.1.2.2.1 hb h.1.1.2.2.2.2.2.2 h.2.2.1.1 (show k < 24 by omega) (show s < 8 by omega) (show u < 8 by omega) hsu p2 p3 (fun i hi => (p4 i hi).2) (show g < 8 by omega) eg u6
      have es : st' = st2 := Option.some.inj (w1.symm.trans y1)
      rw [← es] at y2
      have pn := hP i k u L r f st st' p0 er (by omega) hr hkm hs u1 hsu u3 p1 p2 p3 p4 p5 ⟨g, hg, eg⟩ (fun _ => p6) w5 y2
      rw [w1, w2, rn_bs, rn_bs, nI_1]
      obtain ⟨st3, e3, x3, s3, l3, m3, c3, f3, z3, v3, r1, r2, r3, r4, r5, r6, r7⟩ := ih (i + 1) e' _ _ _ _ _ _ _ _ _ (by omega) (by omega) w3 w4 (evH_c hb ha h.2.2.1.1 (fun i q h1 h2 => w5.2.1 i q (by omega) (by omega)) (fun i q h1 h2 => w5.1 i q (by omega) (by omega)) eH) ((w5.1 s 2 (by omega) (by decide)).trans er) pn (fun j k' hj hk' => by
        obtain ⟨q1, q2⟩ := hq j k' (by omega) hk'
        refine ⟨q1, frq_k hb (by omega) (by omega) w5 (fun r => ?_) q2⟩
        subst r
        have := (List.getElem?_inj c hnd).mp (hk.trans hk'.symm)
        omega)
      exact ⟨st3, e3, x3, s3, l3, m3, c3, f3, z3, v3, r1, r2, r3, r4, r5, fun i q h1 h2 => (r6 i q h1 h2).trans (w5.1 i q h1 h2), r7⟩
    · have : i = l.length := by omega
      subst this
      rw [if_pos (nI_le (Nat.le_refl _) (by omega)), if_pos (nI_le (Nat.le_refl _) (by omega))]
      exact ⟨st, e, x, stations, links, messages, copies, first, size, events, rfl, rfl, h, hZ, eH, fun _ _ _ _ => rfl, _, p0⟩
theorem ps_p (hN : 6000 ≤ N) (ht : t < 1000000) (hτ : tt + 1 < τ) {P : Nat → Nat → (Nat → Int32) → Prop} (hP : ∀ s n, stepS b m a tt s n P) (hX : ∀ s n st, P s n st → P (s + 1) 0 st) :
    ∀ (n s e : Nat) (x : Int32) (stations links messages copies : Nat → Int32) (first size : Int32) (events st : Nat → Int32) (ar fe nx c7 : Int32) (F A K I T D : Nat → Int32), s ≤ a → a - s < n → rlA t a b m e tt τ sc lc mc tm life tries x stations links messages copies first size events st → gd_Z st → ev_H b heard st → P s 0 st →
    ∃ st' e' x' stations' links' messages' copies' first' size' events' y z, lX7_passHour_6 N n (nI s) c7 st A K I T D = some (y, st', z) ∧ (∃ ar' fe' nx' F', lX2_passHour_6 N sc lc mc tm tries heard n (nI s) x stations links messages copies first size events ar fe nx F = some (x', stations', links', messages', copies', first', size', events', ar', fe', nx', F')) ∧ rlA t a b m e' tt τ sc lc mc tm life tries x' stations' links' messages' copies' first' size' events' st' ∧ gd_Z st' ∧ ev_H b heard st' ∧ P a 0 st' := by
  intro n
  induction n with
  | zero => intro s e x stations links messages copies first size events st ar fe nx c7 F A K I T D _ h; omega
  | succ n ih =>
    intro s e x stations links messages copies first size events st ar fe nx c7 F A K I T D hs hn h hZ eH p0
    obtain ⟨ha, hb, hm, he, htt⟩ := h.1.1.1
    have sce : sc = nI a := h.1.2.1.trans h.1.1.2.1
    rw [lX7_passHour_6, lX2_passHour_6, g0, cl0, h.1.1.2.1, sce]
    rcases Nat.lt_or_ge s a with c | c
    · rw [if_neg (nI_ge c (by omega)), if_neg (nI_ge c (by omega))]
      obtain ⟨nv, l, ar', fe', nx', F', A', K', I', T', D', u1, u2, u3, u4, u5, u6, u7⟩ := lu_r hN h ht eH c ar fe nx c7 F A K I T D
      obtain ⟨-, -, ⟨r, hr, er⟩⟩ := (h.2.1.1 s (by omega)).1 c
      obtain ⟨st', e', x', stations', links', messages', copies', first', size', events', w1, w2, w3, w4, w5, w6, nf, w7⟩ := sl_p (s := s) (t4 := (nI l.length, ar', fe', nx', F')) (t5 := (nI l.length, A', K', I', T', D')) hN ht hτ c rfl rfl rfl rfl rfl u3.1 u4 u5 u6 (show r ≤ 9 by omega) (u3.2.1 r (by omega) er) (hP s) N 0 e x stations links messages copies first size events st (by omega) (by omega) h hZ eH er p0 (fun j k _ q => u7 k (List.mem_of_getElem? q))
      rw [u1, u2, rn_bs, rn_bs, show lX7_passHour_23 N (nI s) (nI l.length, A', K', I', T', D') N (0 : Int32) st = some st' from w1, show lX2_passHour_22 N lc tm tries (nI s) (nI l.length, ar', fe', nx', F') N (0 : Int32) x stations links messages copies first size events = _ from w2, rn_bs, rn_bs, nI_1]
      have := ih (s + 1) e' x' stations' links' messages' copies' first' size' events' st' ar' fe' nx' (nI l.length) F' A' K' I' T' D' (by omega) (by omega) w3 w4 w5 (hX s nf st' w7)
      rw [sce] at this
      exact this
    · have : s = a := by omega
      subst this
      rw [if_pos (nI_le (Nat.le_refl _) (by omega)), if_pos (nI_le (Nat.le_refl _) (by omega))]
      exact ⟨st, e, x, stations, links, messages, copies, first, size, events, _, _, rfl, ⟨_, _, _, _, rfl⟩, by rw [← sce]; exact h, hZ, eH, p0⟩
theorem ex42p {k : Nat} (hN : 6000 ≤ N) (ht : t < 1000000) (hk : k < m) {P : Nat → Nat → (Nat → Int32) → Prop} (hP : stepE m a P) :
    ∀ (n s e : Nat) (messages copies : Nat → Int32) (first size : Int32) (events st : Nat → Int32), s ≤ a → a - s < n → rlA t a b m e tt τ sc lc mc tm life tries x stations links messages copies first size events st → gd_Z st → ev_H b heard st → P 0 0 st →
    ∃ st' e' messages' copies' first' size' events', lX7_expire_42 N (nI k) (1 : Int32) n (nI s) st = some st' ∧ lX2_expireCopies_33 sc tm (nI k) n (nI s) messages copies first size events = some (messages', copies', first', size', events') ∧ rlA t a b m e' tt τ sc lc mc tm life tries x stations links messages' copies' first' size' events' st' ∧ gd_Z st' ∧ ev_H b heard st' ∧ P 0 0 st' := by
  intro n
  induction n with
  | zero => intro s e messages copies first size events st _ h; omega
  | succ n ih =>
    intro s e messages copies first size events st hs hn h hZ eH p0
    obtain ⟨ha, hb, hm, he, htt⟩ := h.1.1.1
    have sce : sc = nI a := h.1.2.1.trans h.1.1.2.1
    rw [lX7_expire_42, lX2_expireCopies_33, g0, cl0, h.1.1.2.1, sce]
    rcases Nat.lt_or_ge s a with c | c
    · rw [if_neg (nI_ge c (by omega)), if_neg (nI_ge c (by omega)), if_neg (show ¬ (1 : Int32) = 0 by decide), show fX7_ofCopy st (nI k) (nI s) (0 : Int32) = some (qC st k s 0) from oC (q := 0) (by omega) (by omega) (by decide), rn_bs, wt2 h.2.2.2.2.1.2.1 (by omega) (by omega), rn_bs, ow_if]
      by_cases w : qC st k s 0 = 1
      · have hc := ((h.2.2.2.2.1.1 k s (by omega) (by omega)).resolve_left (fun q => by rw [q.1] at w; exact absurd w (by decide))).2.2
        obtain ⟨st', e', messages', copies', first', size', events', n1, n2, n3, n4, n5, -, -⟩ := en_eq (w := 4) (kd := 7) (o := -1) hN h hZ ht (by decide) hk c (Or.inl rfl) (by rw [w]; decide) (fun q => by have := hc.2.1.mpr q; rw [w] at this; exact absurd this (by decide)) (by decide) (by decide)
        obtain ⟨st2, y1, y2, y3, y4, -, -, y5, y6⟩ := en7 (w := 4) (kd := 7) (o := -1) hN h.1.1.2.2.2.2.2.1 he h.1.1.2.2.2.2.1 (show k < 24 by omega) (show s < 8 by omega)
        have es : st' = st2 := Option.some.inj (n1.symm.trans y1)
        rw [← es] at y2 y3 y4 y5 y6
        have pn := hP k s st st' p0 hk c w y2 y3 y4 y5 y6
        rw [if_pos w, if_pos w, show fX7_endCopy N st (nI k) (nI s) (4 : Int32) (7 : Int32) (-1 : Int32) = _ from n1, show fX2_endCopy tm messages copies first size events (nI k) (nI s) (-1 : Int32) (4 : Int32) (7 : Int32) = _ from n2, rn_bs, rn_bs, nI_1]
        have := ih (s + 1) e' messages' copies' first' size' events' st' (by omega) (by omega) n3 n4 (evH_c hb ha h.2.2.1.1 (fun i q h1 h2 => n5.2.1 i q (by omega) (by omega)) (fun i q h1 h2 => n5.1 i q (by omega) (by omega)) eH) pn
        rw [sce] at this
        exact this
      · rw [if_neg w, if_neg w, nI_1]
        have := ih (s + 1) e messages copies first size events st (by omega) (by omega) h hZ eH p0
        rw [sce] at this
        exact this
    · have : s = a := by omega
      subst this
      rw [if_pos (nI_le (Nat.le_refl _) (by omega)), if_pos (nI_le (Nat.le_refl _) (by omega))]
      exact ⟨st, e, messages, copies, first, size, events, rfl, rfl, by rw [← sce]; exact h, hZ, eH, p0⟩
theorem ex2p (hN : 6000 ≤ N) (ht : t < 1000000) {P : Nat → Nat → (Nat → Int32) → Prop} (hP : stepE m a P) :
    ∀ (n k e : Nat) (messages copies : Nat → Int32) (first size : Int32) (events st : Nat → Int32), k ≤ m → m - k < n → rlA t a b m e tt τ sc lc mc tm life tries x stations links messages copies first size events st → gd_Z st → ev_H b heard st → P 0 0 st →
    ∃ st' e' messages' copies' first' size' events', lX7_expire_2 N n (nI k) st = some st' ∧ lX2_expireCopies_2 N sc mc tm life n (nI k) messages copies first size events = some (messages', copies', first', size', events') ∧ rlA t a b m e' tt τ sc lc mc tm life tries x stations links messages' copies' first' size' events' st' ∧ gd_Z st' ∧ ev_H b heard st' ∧ P 0 0 st' := by
  intro n
  induction n with
  | zero => intro k e messages copies first size events st _ h; omega
  | succ n ih =>
    intro k e messages copies first size events st hk hn h hZ eH p0
    obtain ⟨ha, hb, hm, he, htt⟩ := h.1.1.1
    have mce : mc = nI m := h.1.2.2.2.1.trans h.1.1.2.2.2.1
    have tme : st 3 = tm := h.1.2.2.2.2.1.symm
    have lfe : st 4 = life := h.1.2.2.2.2.2.1.symm
    rw [lX7_expire_2, lX2_expireCopies_2, g2, cl2, h.1.1.2.2.2.1, mce, g3, cl3, cl4, tme, lfe]
    rcases Nat.lt_or_ge k m with c | c
    · rw [if_neg (nI_ge c (by omega)), if_neg (nI_ge c (by omega)), show fX7_ofMessage st (nI k) (3 : Int32) = some (qM st k 3) from oM (q := 3) (by omega) (by decide), rn_bs, g4, show fX4_get (24 : Int32) (12 : Int32) 288 messages (nI k) (3 : Int32) = some (qM st k 3) from (tM (q := 3) (by omega) (by decide)).trans (congrArg some (h.2.2.2.1.2 k 3 (by omega) (by decide))), rn_bs]
      by_cases w : tm - qM st k 3 < life
      · rw [if_pos w, if_pos w, rn_bs]
        have e42 : lX7_expire_42 N (nI k) (0 : Int32) N (0 : Int32) st = some st := by
          obtain ⟨N', rfl⟩ : ∃ N', N = N' + 1 := ⟨N - 1, by omega⟩
          rw [lX7_expire_42]
          rw [g0]
          split
          · rfl
          · rw [if_pos rfl]
        rw [e42, rn_bs, nI_1]
        have := ih (k + 1) e messages copies first size events st (by omega) (by omega) h hZ eH p0
        rw [mce] at this
        exact this
      · rw [if_neg w, if_neg w, rn_bs]
        obtain ⟨st', e', messages', copies', first', size', events', n1, n2, n3, n4, n5, n6⟩ := ex42p hN ht c hP N 0 e messages copies first size events st (by omega) (by omega) h hZ eH p0
        rw [show lX7_expire_42 N (nI k) (1 : Int32) N (0 : Int32) st = _ from n1, show lX2_expireCopies_33 sc tm (nI k) N (0 : Int32) messages copies first size events = _ from n2, rn_bs, rn_bs, nI_1]
        have := ih (k + 1) e' messages' copies' first' size' events' st' (by omega) (by omega) n3 n4 n5 n6
        rw [mce] at this
        exact this
    · have : k = m := by omega
      subst this
      rw [if_pos (nI_le (Nat.le_refl _) (by omega)), if_pos (nI_le (Nat.le_refl _) (by omega))]
      exact ⟨st, e, messages, copies, first, size, events, rfl, rfl, by rw [← mce]; exact h, hZ, eH, p0⟩
theorem ph_p (hN : 6000 ≤ N) (ht : t + 1 < 1000000) (h0 : rl0 t a b m e tt (tt + 1) sc lc mc tm life tries x stations links messages copies first size events st) (eH : ev_H b heard st) {P : Nat → Nat → (Nat → Int32) → Prop} (hE : stepE m a P) (hP : ∀ s n, stepS b m a tt s n P) (hX : ∀ s n st, P s n st → P (s + 1) 0 st) (p0 : P 0 0 st) (ar fe nx c7 : Int32) (F A K I T D : Nat → Int32) :
    ∃ st' tm' x' stations' links' messages' copies' first' size' events' y z w, fX7_passHour N c7 st A K I T D = some (y, st', z) ∧ fX2_passHour N sc lc mc tm life tries x stations links messages copies first size events ar fe nx heard F = some (tm', x', stations', links', messages', copies', first', size', events', w) ∧ (∃ e', rl0 (t + 1) a b m e' (tt + 1) (tt + 2) sc lc mc tm' life tries x' stations' links' messages' copies' first' size' events' st') ∧ ev_H b heard st' ∧ ∃ st2, P a 0 st2 ∧ st' = upd st2 3 (nI (tt + 1)) := by
  obtain ⟨hA, hZ⟩ := rlA_iff.mp h0
  obtain ⟨ha, hb, hm, he, htt⟩ := hA.1.1.1
  obtain ⟨st1, e1, messages1, copies1, first1, size1, events1, w1, w2, w3, w4, w5, w6⟩ := ex2p (τ := tt + 2) hN (show t < 1000000 by omega) hE N 0 e messages copies first size events st (by omega) (by omega) (p_w (by omega) hA) hZ eH p0
  obtain ⟨st2, e2, x2, stations2, links2, messages2, copies2, first2, size2, events2, y, z, v1, ⟨ar', fe', nx', F', v2⟩, v3, v4, v5, v6⟩ := ps_p hN (show t < 1000000 by omega) (show tt + 1 < tt + 2 by omega) hP hX N 0 e1 x stations links messages1 copies1 first1 size1 events1 st1 ar fe nx c7 F A K I T D (by omega) (by omega) w3 w4 w5 w6
  refine ⟨upd st2 3 (st2 3 + 1), tm + 1, x2, stations2, links2, messages2, copies2, first2, size2, events2, y, z, (ar', fe', nx', F'), ?_, ?_, ⟨e2, rlA_iff.mpr ⟨p_T v3, ?_⟩⟩, ?_, st2, v6, by rw [v3.1.1.2.2.2.2.1, nI_1]⟩
  · unfold fX7_passHour fX7_expire
    rw [show lX7_expire_2 N N (0 : Int32) st = _ from w1, rn_bs, rn_bs, show lX7_passHour_6 N N (0 : Int32) c7 st1 A K I T D = _ from v1, rn_bs, g3, g3, rn_lt, cl3]
  · unfold fX2_passHour fX2_expireCopies
    rw [show lX2_expireCopies_2 N sc mc tm life N (0 : Int32) messages copies first size events = _ from w2, rn_bs, rn_bs, show lX2_passHour_6 N sc lc mc tm tries heard N (0 : Int32) x stations links messages1 copies1 first1 size1 events1 ar fe nx F = _ from v2, rn_bs]
  · refine gZ_g (st := st2) (fun i hi => pk_un (by omega)) (fun i hi => pk_un (by omega)) (fun j hj => pk_un (by omega)) (fun k' hk' => ?_) v4
    have e0 : ∀ s', s' < 8 → qC (upd st2 3 (st2 3 + 1)) k' s' 0 = qC st2 k' s' 0 := fun s' hs' => pk_un (by omega)
    exact ⟨fun ⟨s', a1, a2⟩ => ⟨s', a1, by rw [e0 s' a1] at a2; exact a2⟩, fun ⟨s', a1, a2⟩ => ⟨s', a1, by rw [e0 s' a1]; exact a2⟩⟩
  · exact evH_c (st := st2) hb ha v3.2.2.1.1 (fun i q h1 h2 => pk_un (by omega)) (fun i q h1 h2 => pk_un (by omega)) v5
end A3
