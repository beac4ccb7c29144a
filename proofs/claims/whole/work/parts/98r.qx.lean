/-! saved nets: pure rows (generated, wip/whole/gen/lawi.py) -/
theorem rn_xc.dr {s : State} (h : rn_xc s) (d0 : Drawn) : rn_xc (s.setDrawn d0) := rn_xc.moved (u := s) (U := s.setDrawn d0) (Vm.Alike.refl s.vm) h
theorem rn_nc.dr {s : State} (h : rn_nc s) (d0 : Drawn) : rn_nc (s.setDrawn d0) := rn_nc.same (u := s) (U := s.setDrawn d0) rfl h
theorem sv_a (z : Int32) : (∃ j, j < 2 ∧ z = nI j ∧ z.toNatClampNeg = j ∧ ¬ z < 0 ∧ z < (2 : Int32)) ∨ ((z < 0 ∨ ¬ z < (2 : Int32)) ∧ fX7_isBetween z (0 : Int32) (1 : Int32) = some 0) := by
  rcases rg_em z 0 1 with ⟨j, h1, h2, rfl⟩ | q
  · refine Or.inl ⟨j, by omega, rfl, nI_clamp (by omega), nI_nlt (b := 0) (by omega) (by omega), nI_lt (b := 2) (by omega) (by omega)⟩
  · refine Or.inr ⟨?_, b7n (lo := 0) (hi := 1) q (by decide) (by decide)⟩
    rcases zc z with h | ⟨n, h, rfl⟩
    · exact Or.inl h
    · refine Or.inr (fun r => ?_)
      rcases Nat.lt_or_ge n 2 with c | c
      · exact q n (by omega) (by omega) rfl
      · exact nI_nlt (b := 2) c (by omega) r
theorem sv_s {N j : Nat} (hN : 6000 ≤ N) (hj : j < 2) (thr : Int32) (state saved isSaved : Nat → Int32) : ∃ saved', fX7_save N thr state saved isSaved (nI j) = some (0, saved', upd isSaved j 1) ∧ (∀ p, p < 2888 → saved' (2888 * j + p) = state p) ∧ ∀ i, i < 2 → ¬ i = j → ∀ p, p < 2888 → saved' (2888 * i + p) = saved (2888 * i + p) := by
  obtain ⟨g', w1, w2, w3⟩ := ca7 (n0 := 2888) (n2 := 5776) (i := 0) (j := 2888 * j) (g := saved) hN (by omega) (by omega) (by decide) (by decide) state
  refine ⟨g', ?_, fun p hp => ?_, fun i hi hij p hp => w3 _ (by omega)⟩
  · unfold fX7_save
    rw [show fX7_isBetween (nI j) (0 : Int32) (1 : Int32) = some 1 from b7y (lo := 0) (hi := 1) (by omega) (by omega) (by decide), rn_bs, if_neg (by decide), rn_bs, if_pos rfl, show (2888 : Int32) * nI j = nI (2888 * j) from nI_m 2888 j, show fX7_copyAll N 2888 5776 state saved (0 : Int32) (nI (2888 * j)) = some g' from w1, rn_bs, rn_gI (by omega) (by omega), nI_clamp (by omega)]
    rfl
  · have := w2 p hp
    rw [Nat.zero_add] at this
    exact this
theorem sv_r {N j : Nat} (hN : 6000 ≤ N) (hj : j < 2) (thr : Int32) (state saved isSaved : Nat → Int32) (h : isSaved j = 1) : ∃ state', fX7_restore N thr state saved isSaved (nI j) = some (0, state') ∧ ∀ p, p < 2888 → state' p = saved (2888 * j + p) := by
  obtain ⟨g', w1, w2, w3⟩ := ca7 (n0 := 5776) (n2 := 2888) (i := 2888 * j) (j := 0) (g := state) hN (by omega) (by omega) (by decide) (by decide) saved
  refine ⟨g', ?_, fun p hp => ?_⟩
  · unfold fX7_restore
    rw [show fX7_isBetween (nI j) (0 : Int32) (1 : Int32) = some 1 from b7y (lo := 0) (hi := 1) (by omega) (by omega) (by decide), rn_bs, if_neg (by decide), rn_gI (by omega) (by omega), nI_clamp (by omega), h, if_neg (by decide), rn_bs, if_pos rfl, show (2888 : Int32) * nI j = nI (2888 * j) from nI_m 2888 j, show fX7_copyAll N 5776 2888 saved state (nI (2888 * j)) (0 : Int32) = some g' from w1, rn_bs]
  · have := w2 p hp
    rw [Nat.zero_add] at this
    exact this
theorem sv_n {N j : Nat} (hj : j < 2) (thr : Int32) (state saved isSaved : Nat → Int32) (h : isSaved j = 0) : fX7_restore N thr state saved isSaved (nI j) = some (2, state) := by
  unfold fX7_restore
  rw [show fX7_isBetween (nI j) (0 : Int32) (1 : Int32) = some 1 from b7y (lo := 0) (hi := 1) (by omega) (by omega) (by decide), rn_bs, if_neg (by decide), rn_gI (by omega) (by omega), nI_clamp (by omega), h, if_pos rfl, rn_bs, if_neg (by decide)]
theorem sv_b {N : Nat} {z : Int32} (hz : fX7_isBetween z (0 : Int32) (1 : Int32) = some 0) (thr : Int32) (state saved isSaved : Nat → Int32) : fX7_save N thr state saved isSaved z = some (1, saved, isSaved) ∧ fX7_restore N thr state saved isSaved z = some (1, state) := by
  unfold fX7_save fX7_restore
  rw [hz, rn_bs, if_pos rfl, rn_bs, if_neg (by decide), rn_bs, if_pos rfl, rn_bs, if_neg (by decide)]
  exact ⟨rfl, rfl⟩
theorem va_up_s {f : Nat → Option Nat} {p j : Nat} {v : Option Nat} (h : p = j) : va_up f p v j = v := by
  subst h
  unfold va_up
  simp
theorem va_up_n {f : Nat → Option Nat} {p i : Nat} {v : Option Nat} (h : ¬ i = p) : va_up f p v i = f i := by
  unfold va_up
  simp [h]
theorem rn_app {D : va_G} {A : Nat → Prop} {s : State} {w1 w2 w3 : va_W} {H : Heap} {locs : List Loc} (h : rn_W D A s ((w1 ++ w2) ++ w3) H locs) : rn_W D A s (w1 ++ (w2 ++ w3)) H locs := by
  rw [List.append_assoc] at h
  exact h
theorem rn_app' {D : va_G} {A : Nat → Prop} {s : State} {w1 w2 w3 : va_W} {H : Heap} {locs : List Loc} (h : rn_W D A s (w1 ++ (w2 ++ w3)) H locs) : rn_W D A s ((w1 ++ w2) ++ w3) H locs := by
  rw [← List.append_assoc] at h
  exact h
