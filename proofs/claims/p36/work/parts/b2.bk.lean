/-! copies taken back -/
section B2
variable {N t a b m e tt τ : Nat} {sc lc mc tm life tries x : Int32} {stations links messages copies : Nat → Int32} {first size : Int32} {events st : Nat → Int32} {heard : Nat → Int64}
def bkP (a b m tt k : Nat) (st : Nat → Int32) (s : Nat) (st2 : Nat → Int32) : Prop := dl nat0 nat0 nat0 st st2 ∧ (∀ k' s' q, k' < 24 → s' < 8 → q < 12 → ¬ (k' = k ∧ q = 0) → qC st2 k' s' q = qC st k' s' q) ∧ (∀ s', s' < 8 → qC st2 k s' 0 = if s' < s ∧ qC st k s' 0 = 1 then 3 else qC st k s' 0) ∧ xA a b m st2 ∧ LG 0 tt 0 0 st2 ∧ (isum (fun s => ow (qC st k s 0 = 1)) s = 0 ∨ (rg (qM st2 k 6) 8 ∧ qM st2 k 7 = -1))
theorem tb_p {k : Nat} (hN : 6000 ≤ N) (ht : t < 1000000) (hk : k < m) :
    ∀ (n s e2 : Nat) (messages copies : Nat → Int32) (first size : Int32) (events st2 : Nat → Int32), s ≤ a → a - s < n → rlA t a b m e2 tt τ sc lc mc tm life tries x stations links messages copies first size events st2 → gd_Z st2 → ev_H b heard st2 → bkP a b m tt k st s st2 →
    ∃ st' e' messages' copies' first' size' events', lX2_takeCopiesBack_4 sc tm (nI k) n (isum (fun s => ow (qC st k s 0 = 1)) s) (nI s) messages copies first size events = some (isum (fun s => ow (qC st k s 0 = 1)) a, messages', copies', first', size', events') ∧ rlA t a b m e' tt τ sc lc mc tm life tries x stations links messages' copies' first' size' events' st' ∧ gd_Z st' ∧ ev_H b heard st' ∧ bkP a b m tt k st a st' := by
  intro n
  induction n with
  | zero => intro s e2 messages copies first size events st2 _ h; omega
  | succ n ih =>
    intro s e2 messages copies first size events st2 hs hn h hZ eH P
    obtain ⟨ha, hb, hm, he, htt⟩ := h.1.1.1
    have sce : sc = nI a := h.1.2.1.trans h.1.1.2.1
    obtain ⟨P1, P2, P3, P4, P5, P6⟩ := P
    rw [lX2_takeCopiesBack_4]
    rcases Nat.lt_or_ge s a with c | c
    · have es : qC st2 k s 0 = qC st k s 0 := by rw [P3 s (by omega), if_neg (fun q => absurd q.1 (Nat.lt_irrefl _))]
      rw [if_neg (show ¬ sc ≤ nI s by rw [sce]; exact nI_ge c (by omega)), wt2 h.2.2.2.2.1.2.1 (by omega) (by omega), rn_bs, ow_if, es]
      have sw : isum (fun s => ow (qC st k s 0 = 1)) (s + 1) = isum (fun s => ow (qC st k s 0 = 1)) s + ow (qC st k s 0 = 1) := rfl
      by_cases w : qC st k s 0 = 1
      · have w2 : qC st2 k s 0 = 1 := es.trans w
        have hc := ((h.2.2.2.2.1.1 k s (by omega) (by omega)).resolve_left (fun q => by rw [q.1] at w2; exact absurd w2 (by decide))).2.2
        have n0 : ¬ qC st2 k s 0 = 0 := by rw [w2]; decide
        obtain ⟨st', e', messages', copies', first', size', events', n1, n2, n3, n4, n5, n6, n7⟩ := en_eq (w := 3) (kd := 8) (o := -1) hN h hZ ht (by decide) hk c (Or.inl rfl) n0 (fun q => by have := hc.2.1.mpr q; rw [w2] at this; exact absurd this (by decide)) (by decide) (by decide)
        obtain ⟨st1, v1, v2, v3, v4, v5, v6, v7, v8⟩ := en7 (st := st2) (e := e2) (tt := tt) (k := k) (s := s) (w := 3) (kd := 8) (o := -1) hN h.1.1.2.2.2.2.2.1 he h.1.1.2.2.2.2.1 (by omega) (by omega)
        have e1 : st1 = st' := Option.some.inj (v1.symm.trans n1)
        subst e1
        rw [if_pos w, show fX2_endCopy tm messages copies first size events (nI k) (nI s) (-1 : Int32) (3 : Int32) (8 : Int32) = _ from n2, rn_bs, nI_1]
        dsimp only
        have eW : isum (fun s => ow (qC st k s 0 = 1)) s + 1 = isum (fun s => ow (qC st k s 0 = 1)) (s + 1) := by rw [sw, ow_1.mpr w]
        rw [eW]
        refine ih (s + 1) e' messages' copies' first' size' events' st1 (by omega) (by omega) n3 n4 (evH_c hb ha h.2.2.1.1 (fun i q h1 h2 => n5.2.1 i q (by omega) (by omega)) (fun i q h1 h2 => n5.1 i q (by omega) (by omega)) eH) ⟨dl_w (dl_t P1 v2) (fun _ _ => rfl) (fun _ _ => rfl) (fun _ _ => rfl), fun k' s' q a1 a2 a3 a4 => ?_, fun s' a2 => ?_, ?_, ?_, Or.inr ⟨⟨s, by omega, v5⟩, v6⟩⟩
        · rw [v3 k' s' q a1 a2 a3 (fun r => a4 ⟨r.1, r.2.2⟩)]
          exact P2 k' s' q a1 a2 a3 a4
        · by_cases d : s' = s
          · subst d
            rw [if_pos ⟨by omega, w⟩]
            exact v4
          · rw [v3 k s' 0 (by omega) a2 (by decide) (fun r => d r.2.1), P3 s' a2]
            by_cases g : s' < s ∧ qC st k s' 0 = 1
            · rw [if_pos g, if_pos ⟨by omega, g.2⟩]
            · rw [if_neg g, if_neg (fun r => g ⟨by omega, r.2⟩)]
        · exact xA_c (k0 := k) (s0 := s) hb ha hm (fun i q a1 a2 => (v2.2.1 i q a1 (by omega)).trans (nI_z _)) (fun i q a1 a2 => (v2.2.2.1 i q a1 (by omega)).trans (nI_z _)) v3 n0 P4
        · exact LG_A (kd := 8) h.1.1.2.2.2.2.1 (by decide) ⟨fun _ => rfl, fun _ => Or.inr (by decide)⟩ v8 P5
      · rw [if_neg w, nI_1]
        have eW : isum (fun s => ow (qC st k s 0 = 1)) s = isum (fun s => ow (qC st k s 0 = 1)) (s + 1) := by rw [sw, ow_0 w, Int32.add_zero]
        have := ih (s + 1) e2 messages copies first size events st2 (by omega) (by omega) h hZ eH ⟨P1, P2, fun s' a2 => by
          rw [P3 s' a2]
          by_cases g : s' < s ∧ qC st k s' 0 = 1
          · rw [if_pos g, if_pos ⟨by omega, g.2⟩]
          · rw [if_neg g, if_neg (fun r => g ⟨by
              have : s' ≠ s := fun q => by rw [q] at r; exact w r.2
              omega, r.2⟩)], P4, P5, by rw [← eW]; exact P6⟩
        rw [← eW] at this
        exact this
    · have : s = a := by omega
      subst this
      rw [if_pos (show sc ≤ nI s by rw [sce]; exact nI_le (Nat.le_refl _) (by omega))]
      exact ⟨st2, e2, messages, copies, first, size, events, rfl, h, hZ, eH, P1, P2, P3, P4, P5, P6⟩
theorem backs_ok {c0 ns q : Nat} {ws : Nat → Int32} (hN : 6000 ≤ N) (ht : t ≤ 90000) (h0 : rl0 t a b m e tt (tt + 1) sc lc mc tm life tries x stations links messages copies first size events st) (eH : ev_H b heard st) (X : xI a b m tt c0 st) (hns : ns ≤ 260) (hq : q < 99999) :
    ∃ (q' : Nat) (st' : Nat → Int32) (messages' copies' : Nat → Int32) (first' size' : Int32) (events' : Nat → Int32), q' ≤ q + 1 ∧ fL_backs N ns ws (nI q) sc lc mc tm life tries x stations links messages copies first size events = some (nI q', messages', copies', first', size', events') ∧ (∃ e', rl0 t a b m e' tt (tt + 1) sc lc mc tm life tries x stations links messages' copies' first' size' events' st') ∧ ev_H b heard st' ∧ xI a b m tt c0 st' := by
  have h : rl_net t sc lc mc tm life tries x stations links messages copies first size events heard st := ⟨a, b, m, e, tt, h0, eH⟩
  obtain ⟨hA, hZ⟩ := rlA_iff.mp h0
  obtain ⟨⟨ha, hb, hm, he, htt⟩, z0, z1, z2, z3, z7, z6⟩ := h0.1.1
  have mce : mc = nI m := h0.2.1.2.2.1.trans z2
  have k2 : fL_count N sc lc mc tm life tries x stations links messages copies size (2 : Int32) = some (0, nI m) := by rw [rd_count hN ht h c7_2, z2]
  obtain ⟨x1, x2, x3, x4, x5⟩ := X
  unfold fL_backs
  rw [bz k2]
  dsimp only
  by_cases cm : m = 0
  · have tb0 : fL_takeBack N sc mc tm messages copies first size events (0 : Int32) = some (3, (-101 : Int32), messages, copies, first, size, events) := by
      unfold fL_takeBack fX6_takeBack
      rcases mn_c (0 : Int32) z2 hm with ⟨n, hn, -⟩ | ⟨c1, -⟩
      · omega
      · rw [mce, c1, rn_bs, if_pos rfl, rn_bs]
        rfl
    rw [if_pos (show nI m = 0 by rw [cm]; rfl), tb0, rn_bs]
    dsimp only
    rw [if_pos rfl]
    exact ⟨q, st, messages, copies, first, size, events, by omega, rfl, ⟨e, h0⟩, eH, x1, x2, x3, x4, x5⟩
  · obtain ⟨k, hk, dk⟩ := dw (ws := ws) (q := q) (n := m) hns (by omega) (by omega) (by omega)
    obtain ⟨st', e', messages', copies', first', size', events', n1, n2, n3, n4, P1, P2, P3, P4, P5, P6⟩ := tb_p (st := st) hN (show t < 1000000 by omega) hk N 0 e messages copies first size events st (by omega) (by omega) hA hZ eH ⟨dl_r, fun _ _ _ _ _ _ _ => rfl, fun s' _ => (if_neg (fun r => absurd r.1 (Nat.not_lt_zero _))).symm, x1, x5, Or.inl rfl⟩
    have h1 : rl0 t a b m e' tt (tt + 1) sc lc mc tm life tries x stations links messages' copies' first' size' events' st' := rlA_iff.mpr ⟨n2, n3⟩
    have h' : rl_net t sc lc mc tm life tries x stations links messages' copies' first' size' events' heard st' := ⟨a, b, m, e', tt, h1, n4⟩
    obtain ⟨-, z0', z1', z2', z3', z7', z6'⟩ := h1.1.1
    have tb : fL_takeBack N sc mc tm messages copies first size events (nI k) = some (0, isum (fun s => ow (qC st k s 0 = 1)) a, messages', copies', first', size', events') := by
      unfold fL_takeBack fX6_takeBack fX2_takeCopiesBack
      rcases mn_c (nI k) z2 hm with ⟨n, hn, -, c1, -⟩ | ⟨-, c2⟩
      · rw [mce, c1, rn_bs, if_neg n10, show lX2_takeCopiesBack_4 sc tm (nI k) N (0 : Int32) (0 : Int32) messages copies first size events = _ from n1, rn_bs, rn_bs, rn_bs]
        exact if_pos rfl
      · have := (imm7 z2 hm hk).symm.trans c2
        exact absurd (Option.some.inj this) n10
    have m9 := rd_message hN ht h (m7_9 hN z0 ha z2 hm hk)
    have m4 := rd_message hN ht h (m7_4 hN z0 ha z2 hm hk)
    have m9' := rd_message hN ht h' (m7_9 hN z0' ha z2' hm hk)
    have m4' := rd_message hN ht h' (m7_4 hN z0' ha z2' hm hk)
    have w0 : sm (fun s => ow (qC st' k s 0 = 1)) 0 a = 0 := sm_0 (fun s _ hs => ow_0 (fun r => by
      rw [P3 s (by omega)] at r
      by_cases g : s < a ∧ qC st k s 0 = 1
      · rw [if_pos g] at r
        exact absurd r (by decide)
      · rw [if_neg g] at r
        exact g ⟨by omega, r⟩))
    have d0 : sm (fun s => ow (qC st' k s 0 = 5)) 0 a = sm (fun s => ow (qC st k s 0 = 5)) 0 a := sm_congr a 0 (fun s _ hs => ow_c (by
      rw [P3 s (by omega)]
      by_cases g : s < a ∧ qC st k s 0 = 1
      · rw [if_pos g, g.2]
        exact ⟨fun r => absurd r (by decide), fun r => absurd r (by decide)⟩
      · rw [if_neg g]))
    have qs : q_st st' a k = if q_st st a k = 1 then 1 else 2 := by
      unfold q_st
      rw [w0, d0]
      by_cases g : sm (fun s => ow (qC st k s 0 = 5)) 0 a ≤ 0
      · rw [if_pos g, if_pos g, if_pos (by decide)]
        by_cases g2 : sm (fun s => ow (qC st k s 0 = 1)) 0 a ≤ 0
        · rw [if_pos g2, if_neg (by decide)]
        · rw [if_neg g2, if_neg (by decide)]
      · rw [if_neg g, if_neg g, if_pos rfl]
    have eM : ∀ i q, i < 24 → q < 6 → qM st' i q = qM st i q := fun i q a1 a2 => (P1.2.2.1 i q a1 a2).trans (nI_z _)
    have xi : xI a b m tt c0 st' := ⟨P4, fun i hi => by rw [eM i 3 hi (by decide), eM i 4 hi (by decide), eM i 5 hi (by decide)]; exact x2 i hi, xS_dl P1 x3, xB_dl P1 x4, P5⟩
    rw [if_neg (show ¬ nI m = 0 from fun q => cm ((nI_eq (b := 0) (by omega) (by decide)).mp q)), dk, rn_bs]
    dsimp only
    rw [bz m9, bz m4, bz tb]
    dsimp only
    rw [if_pos (sm_isum _ _), bz m9']
    dsimp only
    rw [if_pos w0, bz m4']
    dsimp only
    have fin : ∀ o : Option (Int32 × (Nat → Int32) × (Nat → Int32) × Int32 × Int32 × (Nat → Int32)), o = some (nI (q + 1), messages', copies', first', size', events') → ∃ (q' : Nat) (st' : Nat → Int32) (messages' copies' : Nat → Int32) (first' size' : Int32) (events' : Nat → Int32), q' ≤ q + 1 ∧ o = some (nI q', messages', copies', first', size', events') ∧ (∃ e', rl0 t a b m e' tt (tt + 1) sc lc mc tm life tries x stations links messages' copies' first' size' events' st') ∧ ev_H b heard st' ∧ xI a b m tt c0 st' := fun o ho => ⟨q + 1, st', messages', copies', first', size', events', Nat.le_refl _, ho, ⟨e', h1⟩, n4, xi⟩
    apply fin
    have rest : (if isum (fun s => ow (qC st k s 0 = 1)) a = 0 then some (nI (q + 1), messages', copies', first', size', events') else (fL_message N sc mc messages' copies' (nI k) (10 : Int32)).bind fun t21 => rn_z (¬ t21.1 = 0) <| if t21.2 < 0 then none else (fL_message N sc mc messages' copies' (nI k) (11 : Int32)).bind fun t24 => rn_z (¬ t24.1 = 0) <| if t24.2 = (-1 : Int32) then some (nI (q + 1), messages', copies', first', size', events') else none) = some (nI (q + 1), messages', copies', first', size', events') := by
      by_cases g : isum (fun s => ow (qC st k s 0 = 1)) a = 0
      · rw [if_pos g]
      · obtain ⟨⟨u, hu, eu⟩, e7⟩ := P6.resolve_left g
        rw [if_neg g, bz (rd_message hN ht h' (m7_10 z2' hm hk))]
        dsimp only
        rw [eu, if_neg (show ¬ nI u < 0 from nI_nlt (b := 0) (Nat.zero_le _) (by omega)), bz (rd_message hN ht h' (m7_11 z2' hm hk))]
        dsimp only
        rw [if_pos e7]
    by_cases g : q_st st a k = 1
    · rw [if_pos g, rn_bs, if_pos (by rw [qs, if_pos g])]
      exact rest
    · rw [if_neg g, rn_bs, if_pos (by rw [qs, if_neg g])]
      exact rest
end B2
