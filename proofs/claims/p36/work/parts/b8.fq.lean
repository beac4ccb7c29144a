/-! hours that are foretold: true -/
section B8
variable {N t a b m e tt c0 : Nat} {sc lc mc tm life tries x : Int32} {stations links messages copies : Nat → Int32} {first size : Int32} {events st : Nat → Int32} {heard : Nat → Int64}
/-- the last message's state after n hours, once they are gone -/
def fit (N a m n : Nat) (st0 : Nat → Int32) (i : Nat) (v : Int32) : Prop := v = if n ≤ i ∧ 0 < m then q_st (itn N st0 n) a (m - 1) else -1
theorem l121 {n1 z0 : Nat} {st0 : Nat → Int32} {t1 t4 : Int32 × Int32} {t2 : Nat × Int32} (hN : 6000 ≤ N) (e1 : t1.1 = nI n1) (e2 : t2.2 = nI m) (e4 : (1 : Int32) + t4.1 = nI z0) (hn1 : n1 < 40) (hm24 : m ≤ 24) :
    ∀ (fu i t tt c0 : Nat) (x7 x8 tm x : Int32) (stations links messages copies : Nat → Int32) (first size : Int32) (events : Nat → Int32) (ar fe nx : Int32) (F : Nat → Int32), i ≤ 72 → 72 - i < fu → t + 100 < 90000 + i → NN t a b m tt c0 sc lc mc tm life tries x stations links messages copies first size events heard (itn N st0 i) → fst (fun j => dv (itn N st0 j)) (nI z0) i x7 → fit N a m (1 + n1) st0 i x8 →
    ∃ (x7' x8' : Int32) (w : _), lL_foretells_121 N sc lc mc life tries heard t1 t2 t4 fu x7 x8 (nI (i + 1)) tm x stations links messages copies first size events ar fe nx F = some (x7', x8', w) ∧ fst (fun j => dv (itn N st0 j)) (nI z0) 72 x7' ∧ fit N a m (1 + n1) st0 72 x8' := by
  intro fu
  induction fu with
  | zero => intro i t tt c0 x7 x8 tm x stations links messages copies first size events ar fe nx F _ h; omega
  | succ fu ih =>
    intro i t tt c0 x7 x8 tm x stations links messages copies first size events ar fe nx F hi hn ht h hf hx
    rw [lL_foretells_121, e1, e2, e4]
    rcases Nat.lt_or_ge i 72 with c | c
    · obtain ⟨g, tm', x', stations', links', messages', copies', first', size', events', ar', fe', nx', F', hg, r1, r2⟩ := h.run1 hN (by omega) ar fe nx F
      have r2 : NN (t + 1) a b m (tt + 1) (c0 + 72) sc lc mc tm' life tries x' stations' links' messages' copies' first' size' events' heard (itn N st0 (i + 1)) := r2
      have k8 := r2.k8 hN (by omega)
      obtain ⟨x7', j1, j2⟩ : ∃ x7', (if 0 ≤ x7 then some x7 else (fL_count N sc lc mc tm' life tries x' stations' links' messages' copies' size' (8 : Int32)).bind fun t28 => rn_z (¬ t28.1 = 0) <| if t28.2 < nI z0 then some x7 else some (nI (i + 1))) = some x7' ∧ fst (fun j => dv (itn N st0 j)) (nI z0) (i + 1) x7' := by
        rcases hf with ⟨a1, a2⟩ | ⟨j, a1, a2, a3, a4⟩
        · rw [if_neg (by rw [a1]; decide), bz k8]
          dsimp only
          by_cases w : dv (itn N st0 (i + 1)) < nI z0
          · rw [if_pos w]
            refine ⟨x7, rfl, Or.inl ⟨a1, fun j hj => ?_⟩⟩
            rcases Nat.lt_or_ge j (i + 1) with q | q
            · exact a2 j (by omega)
            · have : j = i + 1 := by omega
              rw [this]
              exact w
          · rw [if_neg w]
            exact ⟨_, rfl, Or.inr ⟨i + 1, Nat.le_refl _, rfl, w, fun j hj => a2 j (by omega)⟩⟩
        · rw [if_pos (show 0 ≤ x7 by rw [a2]; exact nI_le (a := 0) (Nat.zero_le _) (by omega))]
          exact ⟨x7, rfl, Or.inr ⟨j, by omega, a2, a3, a4⟩⟩
      rw [if_neg (show ¬ (72 : Int32) < nI (i + 1) from nI_nlt (a := 72) (by omega) (by decide)), bz r1]
      dsimp only
      rw [if_pos (show (0 : Int32) ≤ nI g from nI_le (a := 0) (Nat.zero_le _) (by omega)), j1, rn_bs, show (1 : Int32) + nI n1 = nI (1 + n1) from nI_add 1 n1, nI_1]
      by_cases d : i + 1 = 1 + n1
      · rw [if_pos (show nI (i + 1) = nI (1 + n1) by rw [d])]
        by_cases z : m = 0
        · rw [if_pos (show nI m ≤ 0 by rw [z]; decide)]
          exact ih (i + 1) (t + 1) (tt + 1) (c0 + 72) x7' x8 tm' x' stations' links' messages' copies' first' size' events' ar' fe' nx' F' (by omega) (by omega) (by omega) r2 j2 (by
            unfold fit at hx ⊢
            rw [if_neg (fun q => by omega)]
            rw [if_neg (fun q => by omega)] at hx
            exact hx)
        · obtain ⟨m', em⟩ : ∃ m', m = m' + 1 := ⟨m - 1, by omega⟩
          have mm := (r2.ms hN (by omega) (show m' < m by omega)).2
          rw [if_neg (show ¬ nI m ≤ 0 from nI_ge (a := 0) (by omega) (by omega)), show nI m - (1 : Int32) = nI m' by rw [em, nI_p1], bz mm]
          dsimp only
          exact ih (i + 1) (t + 1) (tt + 1) (c0 + 72) x7' _ tm' x' stations' links' messages' copies' first' size' events' ar' fe' nx' F' (by omega) (by omega) (by omega) r2 j2 (by
            unfold fit
            rw [if_pos ⟨by omega, by omega⟩, ← d, show m - 1 = m' by omega])
      · rw [if_neg (show ¬ nI (i + 1) = nI (1 + n1) from fun q => d ((nI_eq (by omega) (by omega)).mp q))]
        exact ih (i + 1) (t + 1) (tt + 1) (c0 + 72) x7' x8 tm' x' stations' links' messages' copies' first' size' events' ar' fe' nx' F' (by omega) (by omega) (by omega) r2 j2 (by
          unfold fit at hx ⊢
          rw [hx]
          by_cases q : 1 + n1 ≤ i ∧ 0 < m
          · rw [if_pos q, if_pos ⟨by omega, q.2⟩]
          · rw [if_neg q, if_neg (fun r => q ⟨by omega, r.2⟩)])
    · have : i = 72 := by omega
      subst this
      rw [if_pos (show (72 : Int32) < nI (72 + 1) by decide)]
      exact ⟨x7, x8, _, rfl, hf, hx⟩
theorem foretells_ok {ns q : Nat} {ws : Nat → Int32} (hN : 6000 ≤ N) (ht : t ≤ 80000) (hc : c0 ≤ 100000) (h : NN t a b m tt c0 sc lc mc tm life tries x stations links messages copies first size events heard st) (hns : ns ≤ 260) (hq : q < 99000) (ar fe nx : Int32) (F : Nat → Int32) (sc0 lc0 mc0 tm0 life0 tries0 x0 : Int32) (s0 l0 m0 cc0 : Nat → Int32) (f0 z0 : Int32) (e0 : Nat → Int32) (ar0 fe0 nx0 : Int32) (hh0 : Nat → Int64) (F0 : Nat → Int32) :
    ∃ (qI : Int32) (s' l' m' c' ev' : Nat → Int32) (ar' fe' nx' : Int32) (h' : Nat → Int64) (F' : Nat → Int32) (w : _), fL_foretells N ns ws (nI q) sc lc mc tm life tries x stations links messages copies first size events ar fe nx heard F sc0 lc0 mc0 tm0 life0 tries0 x0 s0 l0 m0 cc0 f0 z0 e0 ar0 fe0 nx0 hh0 F0 = some (qI, sc, lc, mc, tm, life, tries, x, s', l', m', c', first, size, ev', ar', fe', nx', h', F', w) ∧ NN t a b m tt c0 sc lc mc tm life tries x s' l' m' c' first size ev' h' st := by
  have hn := h.net
  have hm24 : m ≤ 24 := by
    obtain ⟨⟨e, h0⟩, -, -⟩ := h
    exact h0.1.1.1.2.2.1
  have z2 : st 2 = nI m := by
    obtain ⟨⟨e, h0⟩, -, -⟩ := h
    exact h0.1.1.2.2.2.1
  have k2 : fL_count N sc lc mc tm life tries x stations links messages copies size (2 : Int32) = some (0, nI m) := by rw [rd_count hN (by omega) hn c7_2, z2]
  have k6 : fL_count N sc lc mc tm life tries x stations links messages copies size (6 : Int32) = some (0, st 6) := rd_count hN (by omega) hn c7_6
  obtain ⟨n1, hn1, d1⟩ := dw (ws := ws) (q := q) (n := 40) hns (by omega) (by decide) (by decide)
  obtain ⟨v4, hv4, d2⟩ := dw (ws := ws) (q := q + 1) (n := 4) hns (by omega) (by decide) (by decide)
  obtain ⟨due, w5, r5, f5⟩ := hoursTo_ok (z := 1 + v4) hN (by omega) h (by omega) (by omega) sc0 lc0 mc0 tm0 life0 tries0 x0 s0 l0 m0 cc0 f0 z0 e0 ar0 fe0 nx0 hh0 F0
  obtain ⟨s1, l1, m1, c1, ev1, h1, u1, u2⟩ := tf_eq hn 0 0 0 0 48 3 1 zf zf zf zf 0 0 zf zh
  have x7f : ∃ x7, (if dv st < nI (1 + v4) then some (-1 : Int32) else some (0 : Int32)) = some x7 ∧ fst (fun j => dv (itn N st j)) (nI (1 + v4)) 0 x7 := by
    by_cases w : dv st < nI (1 + v4)
    · rw [if_pos w]
      refine ⟨_, rfl, Or.inl ⟨rfl, fun j hj => ?_⟩⟩
      have : j = 0 := by omega
      rw [this]
      exact w
    · rw [if_neg w]
      exact ⟨_, rfl, Or.inr ⟨0, Nat.le_refl _, rfl, w, fun i hi => by omega⟩⟩
  obtain ⟨x7, x7e, x7g⟩ := x7f
  obtain ⟨y7, y8, ⟨tm2, x2, st2, l2, m2, c2, f2, z2', e2, ar2, fe2, nx2, F2⟩, r121, g7, g8⟩ := l121 (n1 := n1) (z0 := 1 + v4) (st0 := st) (t1 := (nI n1, nI (q + 1))) (t4 := (nI v4, nI (q + 1 + 1))) (t2 := (0, nI m)) hN rfl rfl (nI_add 1 v4) hn1 hm24 N 0 t tt c0 x7 (-1) tm x stations links messages copies first size events ar fe nx F (by omega) (by omega) (by omega) h x7g (by
    unfold fit
    rw [if_neg (fun r => by omega)])
  obtain ⟨s3, l3, m3, c3, ev3, h3, u3, u4⟩ := tf_eq u2 sc lc mc tm2 life tries x2 st2 l2 m2 c2 f2 z2' e2 heard
  have g3 := h.of (by omega) (show t ≤ 100000 by omega) u4
  have k6' : fL_count N sc lc mc tm life tries x s3 l3 m3 c3 size (6 : Int32) = some (0, st 6) := rd_count hN (by omega) u4 c7_6
  have sk : fL_sums N sc lc mc tm life tries x s3 l3 m3 c3 size = some () := by
    obtain ⟨⟨e3, hh⟩, eH3, X3⟩ := g3
    exact sums_ok (tt' := 0) hN (by omega) hh eH3 hc X3.2.2.1 X3.2.2.2.1
  have j9 : ∃ (its : Int32) (w9 : _), fit N a m (1 + n1) st 72 its ∧ (if nI m = 0 then some ((-1 : Int32), w5.1, w5.2.1, w5.2.2.1, w5.2.2.2.1, w5.2.2.2.2.1, w5.2.2.2.2.2.1, w5.2.2.2.2.2.2.1, w5.2.2.2.2.2.2.2.1, w5.2.2.2.2.2.2.2.2.1, w5.2.2.2.2.2.2.2.2.2.1, w5.2.2.2.2.2.2.2.2.2.2.1, w5.2.2.2.2.2.2.2.2.2.2.2.1, w5.2.2.2.2.2.2.2.2.2.2.2.2.1, w5.2.2.2.2.2.2.2.2.2.2.2.2.2.1, w5.2.2.2.2.2.2.2.2.2.2.2.2.2.2.1, w5.2.2.2.2.2.2.2.2.2.2.2.2.2.2.2.1, w5.2.2.2.2.2.2.2.2.2.2.2.2.2.2.2.2.1, w5.2.2.2.2.2.2.2.2.2.2.2.2.2.2.2.2.2.1, w5.2.2.2.2.2.2.2.2.2.2.2.2.2.2.2.2.2.2) else (fL_stateAfter N sc lc mc tm life tries x stations links messages copies first size events heard w5.1 w5.2.1 w5.2.2.1 w5.2.2.2.1 w5.2.2.2.2.1 w5.2.2.2.2.2.1 w5.2.2.2.2.2.2.1 w5.2.2.2.2.2.2.2.1 w5.2.2.2.2.2.2.2.2.1 w5.2.2.2.2.2.2.2.2.2.1 w5.2.2.2.2.2.2.2.2.2.2.1 w5.2.2.2.2.2.2.2.2.2.2.2.1 w5.2.2.2.2.2.2.2.2.2.2.2.2.1 w5.2.2.2.2.2.2.2.2.2.2.2.2.2.1 w5.2.2.2.2.2.2.2.2.2.2.2.2.2.2.1 w5.2.2.2.2.2.2.2.2.2.2.2.2.2.2.2.1 w5.2.2.2.2.2.2.2.2.2.2.2.2.2.2.2.2.1 w5.2.2.2.2.2.2.2.2.2.2.2.2.2.2.2.2.2.1 w5.2.2.2.2.2.2.2.2.2.2.2.2.2.2.2.2.2.2 (nI m - (1 : Int32)) ((1 : Int32) + nI n1)).bind fun t11 => rn_z (¬ t11.1 = 0) <| some (t11.2.1, t11.2.2.1, t11.2.2.2.1, t11.2.2.2.2.1, t11.2.2.2.2.2.1, t11.2.2.2.2.2.2.1, t11.2.2.2.2.2.2.2.1, t11.2.2.2.2.2.2.2.2.1, t11.2.2.2.2.2.2.2.2.2.1, t11.2.2.2.2.2.2.2.2.2.2.1, t11.2.2.2.2.2.2.2.2.2.2.2.1, t11.2.2.2.2.2.2.2.2.2.2.2.2.1, t11.2.2.2.2.2.2.2.2.2.2.2.2.2.1, t11.2.2.2.2.2.2.2.2.2.2.2.2.2.2.1, t11.2.2.2.2.2.2.2.2.2.2.2.2.2.2.2.1, t11.2.2.2.2.2.2.2.2.2.2.2.2.2.2.2.2.1, t11.2.2.2.2.2.2.2.2.2.2.2.2.2.2.2.2.2.1, t11.2.2.2.2.2.2.2.2.2.2.2.2.2.2.2.2.2.2.1, t11.2.2.2.2.2.2.2.2.2.2.2.2.2.2.2.2.2.2.2.1, t11.2.2.2.2.2.2.2.2.2.2.2.2.2.2.2.2.2.2.2.2)) = some (its, w9) := by
    by_cases z : m = 0
    · rw [if_pos (show nI m = 0 by rw [z]; rfl)]
      refine ⟨-1, _, ?_, rfl⟩
      unfold fit
      rw [if_neg (fun r => by omega)]
    · obtain ⟨m', em⟩ : ∃ m', m = m' + 1 := ⟨m - 1, by omega⟩
      obtain ⟨w11, r11⟩ := stateAfter_ok (k := m') (H := 1 + n1) hN (by omega) h (by omega) (by omega) (by omega) w5.1 w5.2.1 w5.2.2.1 w5.2.2.2.1 w5.2.2.2.2.1 w5.2.2.2.2.2.1 w5.2.2.2.2.2.2.1 w5.2.2.2.2.2.2.2.1 w5.2.2.2.2.2.2.2.2.1 w5.2.2.2.2.2.2.2.2.2.1 w5.2.2.2.2.2.2.2.2.2.2.1 w5.2.2.2.2.2.2.2.2.2.2.2.1 w5.2.2.2.2.2.2.2.2.2.2.2.2.1 w5.2.2.2.2.2.2.2.2.2.2.2.2.2.1 w5.2.2.2.2.2.2.2.2.2.2.2.2.2.2.1 w5.2.2.2.2.2.2.2.2.2.2.2.2.2.2.2.1 w5.2.2.2.2.2.2.2.2.2.2.2.2.2.2.2.2.1 w5.2.2.2.2.2.2.2.2.2.2.2.2.2.2.2.2.2.1 w5.2.2.2.2.2.2.2.2.2.2.2.2.2.2.2.2.2.2
      rw [if_neg (show ¬ nI m = 0 from fun r => z ((nI_eq (b := 0) (by omega) (by decide)).mp r)), show nI m - (1 : Int32) = nI m' by rw [em, nI_p1], show (1 : Int32) + nI n1 = nI (1 + n1) from nI_add 1 n1, bz r11]
      refine ⟨_, _, ?_, rfl⟩
      unfold fit
      rw [if_pos ⟨by omega, by omega⟩, show m - 1 = m' by omega]
  obtain ⟨its, w9, f9, j9⟩ := j9
  have E1 : y7 = due := fst_u g7 f5
  have E2 : y8 = its := g8.trans f9.symm
  unfold fL_foretells
  rw [show fL_draw ns ws (nI q) (40 : Int32) = _ from d1, rn_bs, bz k2]
  dsimp only
  rw [show fL_draw ns ws (nI (q + 1)) (4 : Int32) = _ from d2, rn_bs]
  dsimp only
  rw [show (1 : Int32) + nI v4 = nI (1 + v4) from nI_add 1 v4, bz r5]
  dsimp only
  rw [bz k6]
  dsimp only
  rw [j9, rn_bs, bz k6]
  dsimp only
  rw [if_pos rfl, show fX2_takeFrom (0 : Int32) (0 : Int32) (0 : Int32) (0 : Int32) (48 : Int32) (3 : Int32) (1 : Int32) (fun _ => 0) (fun _ => 0) (fun _ => 0) (fun _ => 0) (0 : Int32) (0 : Int32) (fun _ => 0) (fun _ => 0) sc lc mc tm life tries x stations links messages copies first size events heard = _ from u1, rn_bs, bz (h.k8 hN (by omega))]
  dsimp only
  rw [x7e, rn_bs, show lL_foretells_121 N sc lc mc life tries heard (nI n1, nI (q + 1)) (0, nI m) (nI v4, nI (q + 1 + 1)) N x7 (-1 : Int32) (1 : Int32) tm x stations links messages copies first size events ar fe nx F = _ from r121, rn_bs]
  dsimp only
  rw [if_pos E1, if_pos E2, u3, rn_bs]
  dsimp only
  rw [bz k6']
  dsimp only
  rw [if_pos rfl, sk, rn_bs]
  exact ⟨_, s3, l3, m3, c3, ev3, _, _, _, h3, _, _, rfl, g3⟩
end B8
