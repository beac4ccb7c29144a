/-! ways: true -/
section B5
variable {N t a b m e tt : Nat} {sc lc mc tm life tries x : Int32} {stations links messages copies : Nat → Int32} {first size : Int32} {events st : Nat → Int32} {heard : Nat → Int64}
/-- no way now: none an hour later, or one at the very end -/
theorem wy_0 {f g τ : Nat} {I0 : Nat → Int32} {due links' next : Int32} (hno : ∀ d, d < 24 → ¬ wF (Eh b st τ) (Av I0) f (d + 1) g) (h : wyP (Eh b st (τ + 1)) (Av I0) f g (τ + 1) due links' next) : due = -1 ∨ due = nI (τ + 25) := by
  rcases h with ⟨h, -⟩ | ⟨H, m, hH, h1, -, h2, -⟩
  · exact Or.inl h
  · right
    rcases Nat.lt_or_ge H 23 with c | c
    · exact absurd (wF_sh (fun d s u => E_sh d s u τ) (Or.inl rfl) _ _ h2) (hno (H + 1) (by omega))
    · rw [h1]
      exact congrArg nI (by omega)
/-- the way from the next station, an hour later -/
theorem wy_1 {f g τ H m u : Nat} {I0 : Nat → Int32} {due links' next : Int32} (hf8 : f < 8) (hg8 : g < 8) (hu8 : u < 8) (hug : u ≠ g) (nav : ¬ Av I0 u) (hE : Eh b st τ 0 f u) (hmin : ∀ d, d < H → ¬ wF (Eh b st τ) (Av I0) f (d + 1) g) (hH : H < 24) (hm : mnL (Eh b st τ) (Av I0) g (H + 1) H u (m - 1))
    (h : wyP (Eh b st (τ + 1)) (Av I0) u g (τ + 1) due links' next) : due = nI (τ + (H + 1)) ∧ links' = nI (m - 1) := by
  have sh := fun d s v => E_sh (st := st) (b := b) d s v τ
  have hm' : mnL (Eh b st (τ + 1)) (Av I0) g H H u (m - 1) := ⟨(wL_sh sh H u _ (Nat.le_refl _)).mp hm.1, fun k' hk => hm.2 k' ((wL_sh sh H u _ (Nat.le_refl _)).mpr hk)⟩
  have hw : wF (Eh b st (τ + 1)) (Av I0) u H g := (wF_iff hg8 hu8).mpr ⟨_, hm'.1⟩
  obtain ⟨H0, rfl⟩ : ∃ H0, H = H0 + 1 := by
    rcases Nat.eq_zero_or_pos H with c | c
    · subst c
      exact absurd (show g = u from hw).symm hug
    · exact ⟨H - 1, by omega⟩
  rcases h with ⟨-, -, -, h⟩ | ⟨H', m', hH', h1, h2, h3, h4, -, -, h5, -⟩
  · exact absurd hw (h H0 (by omega))
  · have a1 : ¬ H0 < H' := fun q => h4 H0 q hw
    have a2 : ¬ H' < H0 := fun q => hmin (H' + 1) (by omega) (wF_sh sh (Or.inr ⟨hu8, nav, f, hf8, rfl, hE⟩) _ _ h3)
    have : H' = H0 := by omega
    subst this
    refine ⟨by rw [h1]; exact congrArg nI (by omega), ?_⟩
    rw [h2]
    exact congrArg nI (mnL_u h5 hm')
/-- no first station: the same an hour later -/
theorem wy_2 {f g τ H m : Nat} {I0 : Nat → Int32} {due links' next : Int32} (hf8 : f < 8) (hg8 : g < 8) (hfg : f ≠ g) (hmin : ∀ d, d < H → ¬ wF (Eh b st τ) (Av I0) f (d + 1) g) (hH : H < 24) (m0 : 0 < m) (hm : mnL (Eh b st τ) (Av I0) g (H + 1) (H + 1) f m) (hno : ∀ u, u < 8 → ¬ (Eh b st τ 0 f u ∧ ¬ Av I0 u ∧ mnL (Eh b st τ) (Av I0) g (H + 1) H u (m - 1)))
    (h : wyP (Eh b st (τ + 1)) (Av I0) f g (τ + 1) due links' next) : due = nI (τ + (H + 1)) ∧ links' = nI m := by
  have sh := fun d s v => E_sh (st := st) (b := b) d s v τ
  have hw0 : wL (Eh b st τ) (Av I0) g (H + 1) H f m := by
    rcases hm.1 with q | ⟨u, k, q1, q2, q3, q4, q5⟩
    · exact q
    · exfalso
      rw [Nat.sub_self] at q2
      refine hno u q1 ⟨q2, q3, ?_, fun k' hk => ?_⟩
      · rw [show m - 1 = k by omega]
        exact q5
      · have := hm.2 (k' + 1) (Or.inr ⟨u, k', q1, by rw [Nat.sub_self]; exact q2, q3, rfl, hk⟩)
        omega
  have hm' : mnL (Eh b st (τ + 1)) (Av I0) g H H f m := ⟨(wL_sh sh H f _ (Nat.le_refl _)).mp hw0, fun k' hk => hm.2 k' (Or.inl ((wL_sh sh H f _ (Nat.le_refl _)).mpr hk))⟩
  have hw : wF (Eh b st (τ + 1)) (Av I0) f H g := (wF_iff hg8 hf8).mpr ⟨_, hm'.1⟩
  obtain ⟨H0, rfl⟩ : ∃ H0, H = H0 + 1 := by
    rcases Nat.eq_zero_or_pos H with c | c
    · subst c
      exact absurd (show g = f from hw).symm hfg
    · exact ⟨H - 1, by omega⟩
  rcases h with ⟨-, -, -, h⟩ | ⟨H', m', hH', h1, h2, h3, h4, -, -, h5, -⟩
  · exact absurd hw (h H0 (by omega))
  · have a1 : ¬ H0 < H' := fun q => h4 H0 q hw
    have a2 : ¬ H' < H0 := fun q => hmin (H' + 1) (by omega) (wF_sh sh (Or.inl rfl) _ _ h3)
    have : H' = H0 := by omega
    subst this
    refine ⟨by rw [h1]; exact congrArg nI (by omega), ?_⟩
    rw [h2]
    exact congrArg nI (mnL_u h5 hm')
theorem ways_ok {ns q : Nat} {ws : Nat → Int32} (hN : 6000 ≤ N) (ht : t ≤ 90000) (h0 : rl0 t a b m e tt (tt + 1) sc lc mc tm life tries x stations links messages copies first size events st) (eH : ev_H b heard st) (hns : ns ≤ 260) (hq : q < 99990) (h1a : 1 ≤ a) (ar fe nx : Int32) :
    ∃ (q' : Nat) (ar' fe' nx' : Int32), q' ≤ q + 3 ∧ fL_ways N ns ws (nI q) sc lc mc tm life tries x stations links messages copies size ar fe nx heard = some (nI q', ar', fe', nx') := by
  have h : rl_net t sc lc mc tm life tries x stations links messages copies first size events heard st := ⟨a, b, m, e, tt, h0, eH⟩
  obtain ⟨⟨ha, hb, hm, he, htt⟩, z0, z1, z2, z3, z7, z6⟩ := h0.1.1
  have gL : gd_L a b st := h0.1.2.2.1
  have k0 : fL_count N sc lc mc tm life tries x stations links messages copies size (0 : Int32) = some (0, nI a) := by rw [rd_count hN ht h c7_0, z0]
  obtain ⟨f, hf, d1⟩ := dw (ws := ws) (q := q) (n := a) hns (by omega) h1a (by omega)
  obtain ⟨g, hg, d2⟩ := dw (ws := ws) (q := q + 1) (n := a) hns (by omega) h1a (by omega)
  obtain ⟨τ, hτ, d3⟩ := dw (ws := ws) (q := q + 1 + 1) (n := 200) hns (by omega) (by decide) (by decide)
  obtain ⟨I0, a1, a2⟩ := av7 (isA := zf) hN
  have nav : ∀ u, u < 8 → ¬ Av I0 u := fun u hu r => r (a2 u hu)
  unfold fL_ways
  rw [bz k0]
  dsimp only
  rw [d1, rn_bs]
  dsimp only
  rw [d2, rn_bs]
  dsimp only
  rw [show fL_draw ns ws (nI (q + 1 + 1)) (200 : Int32) = _ from d3, rn_bs]
  dsimp only
  by_cases c : f = g
  · obtain ⟨⟨y1, y2, y3⟩, r1⟩ := rd_way1 hN ht h ar fe nx zf zf zf (z := nI f) (z2 := nI g) (z3 := nI τ) (z4 := 0) ⟨(zf, zf, zf), (by
      unfold fX7_way
      rw [is7 z0 ha hf, rn_bs, if_neg n10, is7 z0 ha hg, rn_bs, if_neg n10, if_pos (show nI f = nI g by rw [c])]
      rfl : fX7_way N 0 st zf zf zf (nI f) (nI g) (nI τ) (0 : Int32) = some (0, 2, zf, zf, zf))⟩
    rw [if_pos (show nI f = nI g by rw [c]), r1, rn_bs]
    dsimp only
    rw [if_pos rfl]
    exact ⟨q + 1 + 1 + 1, _, _, _, by omega, rfl⟩
  · have cn : ¬ nI f = nI g := fun r => c ((nI_eq (by omega) (by omega)).mp r)
    obtain ⟨due, lks, next, P, rd⟩ := wy_c (τ := τ) hN ht h0 eH a1 a2 hf hg c (by omega)
    obtain ⟨due', lks', next', P', rd'⟩ := wy_c (τ := τ + 1) hN ht h0 eH a1 a2 hf hg c (by omega)
    obtain ⟨⟨y1, y2, y3⟩, r1⟩ := (rd ar fe nx).1
    obtain ⟨⟨y4, y5, y6⟩, r2⟩ := (rd y1 y2 y3).2.1
    obtain ⟨⟨y7, y8, y9⟩, r3⟩ := (rd y4 y5 y6).2.2
    obtain ⟨⟨y10, y11, y12⟩, r4⟩ := (rd' y7 y8 y9).1
    rw [if_neg cn, bz r1]
    dsimp only
    rw [bz r2]
    dsimp only
    rw [bz r3]
    dsimp only
    rw [nI_1, bz r4]
    dsimp only
    rcases P with ⟨rfl, rfl, rfl, hno⟩ | ⟨H, m', hH, rfl, rfl, p2, p3, m0, m7, p4, p5⟩
    · rw [if_neg (by decide), if_pos rfl, if_pos rfl, if_pos rfl]
      rcases wy_0 hno P' with w | w
      · rw [w, if_pos (by decide)]
        exact ⟨q + 1 + 1 + 1, _, _, _, by omega, rfl⟩
      · rw [w, if_neg (show ¬ nI (τ + 25) < 0 from nI_nlt (b := 0) (Nat.zero_le _) (by omega)), if_pos (show nI (τ + 25) = nI τ + (25 : Int32) from (nI_add τ 25).symm)]
        exact ⟨q + 1 + 1 + 1, _, _, _, by omega, rfl⟩
    · have ma := mnL_a (a := a) (fun d s u h8 hx => E_a ha hb gL d s u τ h8 hx) hg (show f < 8 by omega) p4
      have mr := mnL_r p4
      obtain ⟨a', ea⟩ : ∃ a', a = a' + 1 := ⟨a - 1, by omega⟩
      rw [if_pos (show (0 : Int32) ≤ nI (τ + (H + 1)) from nI_le (a := 0) (Nat.zero_le _) (by omega)), if_neg (nI_ge (show τ < τ + (H + 1) by omega) (by omega)), if_neg (show ¬ nI τ + (24 : Int32) < nI (τ + (H + 1)) by rw [show nI τ + (24 : Int32) = nI (τ + 24) from nI_add τ 24]; exact nI_nlt (by omega) (by omega)), if_neg (show ¬ nI m' < (1 : Int32) from nI_nlt (b := 1) (by omega) (by omega)), if_neg (show ¬ nI a - (1 : Int32) < nI m' by rw [ea, nI_p1]; exact nI_nlt (by omega) (by omega)), if_pos (show nI m' ≤ nI (τ + (H + 1)) - nI τ by rw [← nI_add, sub_l]; exact nI_le (by omega) (by omega))]
      rcases p5 with ⟨u, u8, rfl, u1, u2, u3, -⟩ | ⟨rfl, hno⟩
      · have ua : u < a := E_a ha hb gL 0 u f τ u8 (E_sym 0 f u u1)
        have uf : ¬ nI u = nI f := fun r => by
          have : u = f := (nI_eq (by omega) (by omega)).mp r
          subst this
          obtain ⟨l, l1, -, l3⟩ := u1
          have := ((gL l (by omega)).1 l1).2.2.1
          rcases l3 with ⟨q1, q2⟩ | ⟨q1, q2⟩
          · exact this (q1.trans q2.symm)
          · exact this (q1.trans q2.symm)
        rw [if_neg (show ¬ nI u < 0 from nI_nlt (b := 0) (Nat.zero_le _) (by omega)), if_neg uf, if_pos (nI_lt ua (by omega))]
        by_cases d : u = g
        · subst d
          have H0 : H = 0 := by
            rcases Nat.eq_zero_or_pos H with w | w
            · exact w
            · exact absurd (show wF (Eh b st τ) (Av I0) f 1 u from Or.inr ⟨u8, u2, f, by omega, rfl, u1⟩) (p3 0 w)
          subst H0
          have : m' = 1 := by omega
          subst this
          rw [if_pos rfl, rn_bs]
          dsimp only
          rw [if_pos rfl, rn_bs]
          dsimp only
          rw [if_pos rfl, if_pos (by decide)]
          exact ⟨q + 1 + 1 + 1, _, _, _, by omega, rfl⟩
        · have dn : ¬ nI u = nI g := fun r => d ((nI_eq (by omega) (by omega)).mp r)
          obtain ⟨due2, lks2, next2, P2, rd2⟩ := wy_c (τ := τ + 1) hN ht h0 eH a1 a2 ua hg d (by omega)
          obtain ⟨w1, w2⟩ := wy_1 (show f < 8 by omega) (show g < 8 by omega) u8 d u2 u1 p3 hH u3 P2
          obtain ⟨⟨y13, y14, y15⟩, r5⟩ := (rd2 y10 y11 y12).1
          obtain ⟨⟨y16, y17, y18⟩, r6⟩ := (rd2 y13 y14 y15).2.1
          obtain ⟨m1, em⟩ : ∃ m1, m' = m1 + 1 := ⟨m' - 1, by omega⟩
          rw [if_neg dn, bz r5, rn_bs]
          dsimp only
          rw [if_neg dn, bz r6, rn_bs]
          dsimp only
          rw [if_pos w1, if_pos (show lks2 = nI m' - (1 : Int32) by rw [w2, em, nI_p1]; rfl)]
          exact ⟨q + 1 + 1 + 1, _, _, _, by omega, rfl⟩
      · obtain ⟨w1, w2⟩ := wy_2 (show f < 8 by omega) (show g < 8 by omega) c p3 hH m0 p4 hno P'
        obtain ⟨⟨y13, y14, y15⟩, r5⟩ := (rd' y10 y11 y12).2.1
        rw [if_pos (by decide), if_pos w1, bz r5]
        dsimp only
        rw [if_pos w2]
        exact ⟨q + 1 + 1 + 1, _, _, _, by omega, rfl⟩
end B5
