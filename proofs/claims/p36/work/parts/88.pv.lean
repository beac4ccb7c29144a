/-! what a station sends in an hour, on both sides: the whole list, and the sending of it -/
section PX
variable {N t a b m e tt τ : Nat} {sc lc mc tm life tries x : Int32} {stations links messages copies : Nat → Int32} {first size : Int32} {events st : Nat → Int32} {heard : Nat → Int64}
theorem rn_minI {u v : Nat} (hu : u < 2 ^ 31) (hv : v < 2 ^ 31) : rn_min (nI u) (nI v) = nI (min u v) := by
  unfold rn_min
  by_cases c : v < u
  · rw [if_pos (nI_lt c hu), Nat.min_eq_right (by omega)]
  · rw [if_neg (nI_nlt (by omega) hv), Nat.min_eq_left (by omega)]
theorem st29 {s p r : Nat} {nv : Nat → Int32} {pr : Nat → Nat} {X : List Nat} (hN : 6000 ≤ N) (hm : m ≤ 24) (hp4 : p < 4) (hr : r ≤ 9) (hp : ∀ k, k < m → pr k < 4 ∧ messages (12 * k + 2) = nI (pr k)) (hv : ∀ k, k < m → nvP N a b tt messages copies st heard s k (nv k)) (n : Nat) (ar fe nx : Int32) (F : Nat → Int32) (hF : lsF nv F (X.take r)) :
    ∃ ar' fe' nx' F', lX2_lineUp_29 N (nI m) (nI tt) messages copies heard (nI s) (nI r) (n + 1) (nI (X.take r).length) (nI p) ar fe nx F = lX2_lineUp_29 N (nI m) (nI tt) messages copies heard (nI s) (nI r) n (nI ((X ++ rdy nv pr p m).take r).length) (nI p + (-1 : Int32)) ar' fe' nx' F' ∧ lsF nv F' ((X ++ rdy nv pr p m).take r) := by
  have e0 : X ++ rdy nv pr p 0 = X := List.append_nil X
  obtain ⟨ar', fe', nx', F', w1, w2⟩ := in2F (N := N) (a := a) (b := b) (tt := tt) (st := st) (heard := heard) (copies := copies) (X := X) hm hp4 hr hp hv N 0 ar fe nx F (by omega) (by omega) (by rw [e0]; exact hF)
  rw [e0] at w1
  refine ⟨ar', fe', nx', F', ?_, w2⟩
  rw [lX2_lineUp_29, if_neg (nI_pos (by omega)), show lX2_lineUp_37 N (nI m) (nI tt) messages copies heard (nI s) (nI r) (nI p) N (nI (X.take r).length) (0 : Int32) ar fe nx F = _ from w1, rn_bs]
theorem lu_eq {s : Nat} (hN : 6000 ≤ N) (h : rlA t a b m e tt τ sc lc mc tm life tries x stations links messages copies first size events st) (ht : t < 1000000) (eH : ev_H b heard st) (hs : s < a) (ar fe nx c7 : Int32) (F A K I T D : Nat → Int32) :
    ∃ (nv : Nat → Int32) (l : List Nat) (ar' fe' nx' : Int32) (F' A' K' I' T' D' : Nat → Int32), fX2_lineUp N mc tm stations messages copies ar fe nx heard F (nI s) = some (nI l.length, ar', fe', nx', F') ∧ fX7_layFrames N c7 st A K I T D (nI s) = some (nI l.length, A', K', I', T', D') ∧ l.length ≤ 9 ∧ l.Nodup ∧ lsF nv F' l ∧ lsT nv T' D' l ∧ ∀ k, k ∈ l → k < m ∧ frq a b st s k (nv k) := by
  obtain ⟨ha, hb, hm, he, htt⟩ := h.1.1.1
  have h3 := h.1.1.2.2.2.2.1
  have h2 := h.1.1.2.2.2.1
  have tme : tm = nI tt := h.1.2.2.2.2.1.trans h3
  have mce : mc = nI m := h.1.2.2.2.1.trans h2
  have o7 := on7 (t := tt) h.2.1.1 hs ha (by omega)
  have o2 := on2 (h := tt % 24) h.2.1.2 h.2.1.1 hs ha (Nat.mod_lt _ (by decide))
  have hod : fX2_hourOfDay (nI tt) = some (nI (tt % 24)) := by
    unfold fX2_hourOfDay
    rw [show rn_rem (nI tt) (24 : Int32) = nI (tt % 24) from nI_rem (d := 24) (by omega) (by decide) (by decide)]
  unfold fX2_lineUp fX7_layFrames
  rw [tme, mce, hod, rn_bs, o2, rn_bs, g3, cl3, h3, o7, rn_bs]
  by_cases c : b2 (q_on st s (tt % 24)) = 0
  · rw [if_pos c, if_pos c]
    exact ⟨fun _ => 0, [], ar, fe, nx, F, A, K, I, T, D, rfl, rfl, by decide, List.nodup_nil, fun i k q => by simp at q, fun i k q => by simp at q, fun k q => by simp at q⟩
  · rw [if_neg c, if_neg c]
    obtain ⟨nv, hv⟩ := nvs hN h ht eH hs
    obtain ⟨-, -, ⟨r, hr, er⟩⟩ := (h.2.1.1 s (by omega)).1 hs
    have r2 : stations (10 * s + 2) = nI r := (h.2.1.2 s 2 (by omega) (by decide)).trans er
    have hp : ∀ k, k < m → (qM st k 2).toNatClampNeg < 4 ∧ qM st k 2 = nI (qM st k 2).toNatClampNeg := fun k hk => rg_cl (h.2.2.2.1.1 k hk).2.2.2 (by decide)
    have hp2 : ∀ k, k < m → (qM st k 2).toNatClampNeg < 4 ∧ messages (12 * k + 2) = nI (qM st k 2).toNatClampNeg := fun k hk => ⟨(hp k hk).1, (h.2.2.2.1.2 k 2 (by omega) (by decide)).trans (hp k hk).2⟩
    obtain ⟨A', K', I', T', D', y1, y2⟩ := lf7 (a := a) (b := b) (messages := messages) (copies := copies) (heard := heard) (pr := fun k => (qM st k 2).toNatClampNeg) hN h2 h3 hm (show s < 8 by omega) hp hv A K I T D
    obtain ⟨ar1, fe1, nx1, F1, z1, z2⟩ := st29 (X := []) (p := 3) (r := r) (pr := fun k => (qM st k 2).toNatClampNeg) hN hm (by decide) (by omega) hp2 hv (N - 5 + 4) ar fe nx F (fun i k q => by simp at q)
    obtain ⟨ar2, fe2, nx2, F2, z3, z4⟩ := st29 (p := 2) (r := r) (pr := fun k => (qM st k 2).toNatClampNeg) hN hm (by decide) (by omega) hp2 hv (N - 5 + 3) ar1 fe1 nx1 F1 z2
    obtain ⟨ar3, fe3, nx3, F3, z5, z6⟩ := st29 (p := 1) (r := r) (pr := fun k => (qM st k 2).toNatClampNeg) hN hm (by decide) (by omega) hp2 hv (N - 5 + 2) ar2 fe2 nx2 F2 z4
    obtain ⟨ar4, fe4, nx4, F4, z7, z8⟩ := st29 (p := 0) (r := r) (pr := fun k => (qM st k 2).toNatClampNeg) hN hm (by decide) (by omega) hp2 hv (N - 5 + 1) ar3 fe3 nx3 F3 z6
    have eX : ((([] ++ rdy nv (fun k => (qM st k 2).toNatClampNeg) 3 m) ++ rdy nv (fun k => (qM st k 2).toNatClampNeg) 2 m) ++ rdy nv (fun k => (qM st k 2).toNatClampNeg) 1 m) ++ rdy nv (fun k => (qM st k 2).toNatClampNeg) 0 m = msl nv (fun k => (qM st k 2).toNatClampNeg) m := by
      unfold msl
      simp only [List.append_assoc, List.nil_append]
    rw [eX] at z7 z8
    have zz : lX2_lineUp_29 N (nI m) (nI tt) messages copies heard (nI s) (nI r) N (0 : Int32) (3 : Int32) ar fe nx F = some (nI ((msl nv (fun k => (qM st k 2).toNatClampNeg) m).take r).length, ar4, fe4, nx4, F4) := by
      have zN : N - 5 + 4 + 1 = N := by omega
      rw [zN, List.take_nil] at z1
      refine (show lX2_lineUp_29 N (nI m) (nI tt) messages copies heard (nI s) (nI r) N (0 : Int32) (3 : Int32) ar fe nx F = _ from z1).trans ?_
      refine (show lX2_lineUp_29 N (nI m) (nI tt) messages copies heard (nI s) (nI r) (N - 5 + 4) _ (nI 3 + (-1 : Int32)) ar1 fe1 nx1 F1 = _ from z3).trans ?_
      refine (show lX2_lineUp_29 N (nI m) (nI tt) messages copies heard (nI s) (nI r) (N - 5 + 3) _ (nI 2 + (-1 : Int32)) ar2 fe2 nx2 F2 = _ from z5).trans ?_
      refine (show lX2_lineUp_29 N (nI m) (nI tt) messages copies heard (nI s) (nI r) (N - 5 + 2) _ (nI 1 + (-1 : Int32)) ar3 fe3 nx3 F3 = _ from z7).trans ?_
      rw [lX2_lineUp_29, if_pos (show nI 0 + (-1 : Int32) < 0 by decide)]
    have hl := msl_l (nv := nv) (pr := fun k => (qM st k 2).toNatClampNeg) m
    refine ⟨nv, (msl nv (fun k => (qM st k 2).toNatClampNeg) m).take r, ar4, fe4, nx4, F4, A', K', I', T', D', ?_, ?_, ?_, List.Nodup.sublist (List.take_sublist _ _) (msl_n m), z8, fun i k q => ?_, fun k q => ?_⟩
    · rw [show fX4_get (8 : Int32) (10 : Int32) 80 stations (nI s) (2 : Int32) = some (nI r) from (tS (q := 2) (by omega) (by decide)).trans (congrArg some r2), rn_bs, zz, rn_bs]
    · rw [y1, rn_bs, show fX7_ofStation st (nI s) (2 : Int32) = some (nI r) from (oS (q := 2) (by omega) (by decide)).trans (congrArg some er), rn_bs]
      show some (rn_min (nI (msl nv (fun k => (qM st k 2).toNatClampNeg) m).length) (nI r), A', K', I', T', D') = _
      rw [rn_minI (by omega) (by omega), List.length_take, Nat.min_comm]
    · rw [List.length_take]
      omega
    · rw [List.getElem?_take] at q
      by_cases c2 : i < r
      · rw [if_pos c2] at q
        exact y2 i k q
      · rw [if_neg c2] at q
        simp at q
    · have q2 := List.mem_of_mem_take q
      have q3 := msl_m q2
      exact ⟨q3.1, (hv k q3.1).2.2.2.resolve_left q3.2⟩
/-- the sending of the list -/
theorem sl_eq {s : Nat} {nv F T D : Nat → Int32} {l : List Nat} {t4 : Int32 × Int32 × Int32 × Int32 × (Nat → Int32)} {t5 : Int32 × (Nat → Int32) × (Nat → Int32) × (Nat → Int32) × (Nat → Int32) × (Nat → Int32)} (hN : 6000 ≤ N) (ht : t < 1000000) (hτ : tt + 1 < τ) (hs : s < a) (e4 : t4.1 = nI l.length) (e42 : t4.2.2.2.2 = F) (e5 : t5.1 = nI l.length) (e51 : t5.2.2.2.2.1 = T) (e52 : t5.2.2.2.2.2 = D) (h9 : l.length ≤ 9) (hnd : l.Nodup) (hF : lsF nv F l) (hT : lsT nv T D l) :
    ∀ (n i e : Nat) (x : Int32) (stations links messages copies : Nat → Int32) (first size : Int32) (events st : Nat → Int32), i ≤ l.length → l.length - i < n → rlA t a b m e tt τ sc lc mc tm life tries x stations links messages copies first size events st → gd_Z st → ev_H b heard st → (∀ j k, i ≤ j → l[j]? = some k → k < m ∧ frq a b st s k (nv k)) →
    ∃ st' e' x' stations' links' messages' copies' first' size' events', lX7_passHour_23 N (nI s) t5 n (nI i) st = some st' ∧ lX2_passHour_22 N lc tm tries (nI s) t4 n (nI i) x stations links messages copies first size events = some (x', stations', links', messages', copies', first', size', events') ∧ rlA t a b m e' tt τ sc lc mc tm life tries x' stations' links' messages' copies' first' size' events' st' ∧ gd_Z st' ∧ ev_H b heard st' := by
  intro n
  induction n with
  | zero => intro i e x stations links messages copies first size events st _ h; omega
  | succ n ih =>
    intro i e x stations links messages copies first size events st hi hn h hZ eH hq
    obtain ⟨ha, hb, hm, he, htt⟩ := h.1.1.1
    rw [lX7_passHour_23, lX2_passHour_22, e4, e5, e42, e51, e52]
    rcases Nat.lt_or_ge i l.length with c | c
    · rw [if_neg (nI_ge c (by omega)), if_neg (nI_ge c (by omega)), rn_gI (by omega) (by decide), rn_gI (by omega) (by decide), nI_clamp (by omega)]
      obtain ⟨k, hk⟩ : ∃ k, l[i]? = some k := ⟨_, List.getElem?_eq_getElem c⟩
      have f1 := hF i k hk
      have t1 := hT i k hk
      obtain ⟨hkm, u, u1, u2, u3, u4, u5, u6⟩ := hq i k (Nat.le_refl _) hk
      rw [t1.1, t1.2, show fX4_get (9 : Int32) (2 : Int32) 18 F (nI i) (0 : Int32) = some (nI k) from (tF (q := 0) (by omega) (by decide)).trans (congrArg some f1.1), rn_bs, show fX4_get (9 : Int32) (2 : Int32) 18 F (nI i) (1 : Int32) = some (nv k) from (tF (q := 1) (by omega) (by decide)).trans (congrArg some f1.2), rn_bs, u2]
      obtain ⟨st', e', x', stations', links', messages', copies', first', size', events', w1, w2, w3, w4, w5⟩ := sf_eq hN h hZ ht hτ hkm hs u1 u3 u4 u5 u6
      rw [w1, w2, rn_bs, rn_bs, nI_1]
      refine ih (i + 1) e' _ _ _ _ _ _ _ _ _ (by omega) (by omega) w3 w4 (evH_c hb ha h.2.2.1.1 (fun i q h1 h2 => w5.2.1 i q (by omega) (by omega)) (fun i q h1 h2 => w5.1 i q (by omega) (by omega)) eH) (fun j k' hj hk' => ?_)
      obtain ⟨q1, q2⟩ := hq j k' (by omega) hk'
      refine ⟨q1, frq_k hb (by omega) (by omega) w5 (fun r => ?_) q2⟩
      subst r
      have := (List.getElem?_inj c hnd).mp (hk.trans hk'.symm)
      omega
    · have : i = l.length := by omega
      subst this
      rw [if_pos (nI_le (Nat.le_refl _) (by omega)), if_pos (nI_le (Nat.le_refl _) (by omega))]
      exact ⟨st, e, x, stations, links, messages, copies, first, size, events, rfl, rfl, h, hZ, eH⟩
/-- the stations of an hour -/
theorem ps_eq (hN : 6000 ≤ N) (ht : t < 1000000) (hτ : tt + 1 < τ) :
    ∀ (n s e : Nat) (x : Int32) (stations links messages copies : Nat → Int32) (first size : Int32) (events st : Nat → Int32) (ar fe nx c7 : Int32) (F A K I T D : Nat → Int32), s ≤ a → a - s < n → rlA t a b m e tt τ sc lc mc tm life tries x stations links messages copies first size events st → gd_Z st → ev_H b heard st →
    ∃ st' e' x' stations' links' messages' copies' first' size' events' y z, lX7_passHour_6 N n (nI s) c7 st A K I T D = some (y, st', z) ∧ (∃ ar' fe' nx' F', lX2_passHour_6 N sc lc mc tm tries heard n (nI s) x stations links messages copies first size events ar fe nx F = some (x', stations', links', messages', copies', first', size', events', ar', fe', nx', F')) ∧ rlA t a b m e' tt τ sc lc mc tm life tries x' stations' links' messages' copies' first' size' events' st' ∧ gd_Z st' ∧ ev_H b heard st' := by
  intro n
  induction n with
  | zero => intro s e x stations links messages copies first size events st ar fe nx c7 F A K I T D _ h; omega
  | succ n ih =>
    intro s e x stations links messages copies first size events st ar fe nx c7 F A K I T D hs hn h hZ eH
    obtain ⟨ha, hb, hm, he, htt⟩ := h.1.1.1
    have sce : sc = nI a := h.1.2.1.trans h.1.1.2.1
    rw [lX7_passHour_6, lX2_passHour_6, g0, cl0, h.1.1.2.1, sce]
    rcases Nat.lt_or_ge s a with c | c
    · rw [if_neg (nI_ge c (by omega)), if_neg (nI_ge c (by omega))]
      obtain ⟨nv, l, ar', fe', nx', F', A', K', I', T', D', u1, u2, u3, u4, u5, u6, u7⟩ := lu_eq hN h ht eH c ar fe nx c7 F A K I T D
      obtain ⟨st', e', x', stations', links', messages', copies', first', size', events', w1, w2, w3, w4, w5⟩ := sl_eq (s := s) (t4 := (nI l.length, ar', fe', nx', F')) (t5 := (nI l.length, A', K', I', T', D')) hN ht hτ c rfl rfl rfl rfl rfl u3 u4 u5 u6 N 0 e x stations links messages copies first size events st (by omega) (by omega) h hZ eH (fun j k _ q => u7 k (List.mem_of_getElem? q))
      rw [u1, u2, rn_bs, rn_bs, show lX7_passHour_23 N (nI s) (nI l.length, A', K', I', T', D') N (0 : Int32) st = some st' from w1, show lX2_passHour_22 N lc tm tries (nI s) (nI l.length, ar', fe', nx', F') N (0 : Int32) x stations links messages copies first size events = _ from w2, rn_bs, rn_bs, nI_1]
      have := ih (s + 1) e' x' stations' links' messages' copies' first' size' events' st' ar' fe' nx' (nI l.length) F' A' K' I' T' D' (by omega) (by omega) w3 w4 w5
      rw [sce] at this
      exact this
    · have : s = a := by omega
      subst this
      rw [if_pos (nI_le (Nat.le_refl _) (by omega)), if_pos (nI_le (Nat.le_refl _) (by omega))]
      exact ⟨st, e, x, stations, links, messages, copies, first, size, events, _, _, rfl, ⟨_, _, _, _, rfl⟩, by rw [← sce]; exact h, hZ, eH⟩
end PX
