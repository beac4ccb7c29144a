/-! ways one hour later -/
section B4
section WS
variable {E E' : Nat → Nat → Nat → Prop} {av : Nat → Prop} {g f H a : Nat}
theorem wF_sh (hE : ∀ d s t, E' d s t ↔ E (d + 1) s t) {t0 : Nat} (h0 : wF E av f 1 t0) : ∀ (d s : Nat), wF E' av t0 d s → wF E av f (d + 1) s := by
  intro d
  induction d with
  | zero =>
    intro s h
    have h : s = t0 := h
    rw [h]
    exact h0
  | succ d ih =>
    intro s h
    rcases h with h | ⟨h1, h2, u, h3, h4, h5⟩
    · exact Or.inl (ih s h)
    · exact Or.inr ⟨h1, h2, u, h3, ih u h4, (hE _ _ _).mp h5⟩
theorem wL_sh (hE : ∀ d s t, E' d s t ↔ E (d + 1) s t) : ∀ (r s k : Nat), r ≤ H → (wL E av g (H + 1) r s k ↔ wL E' av g H r s k) := by
  intro r
  induction r with
  | zero => intro s k _; exact Iff.rfl
  | succ r ih =>
    intro s k hr
    constructor
    · rintro (h | ⟨t, k', h1, h2, h3, h4, h5⟩)
      · exact Or.inl ((ih s k (by omega)).mp h)
      · refine Or.inr ⟨t, k', h1, (hE _ _ _).mpr ?_, h3, h4, (ih t k' (by omega)).mp h5⟩
        rw [show H - (r + 1) + 1 = H + 1 - (r + 1) by omega]
        exact h2
    · rintro (h | ⟨t, k', h1, h2, h3, h4, h5⟩)
      · exact Or.inl ((ih s k (by omega)).mpr h)
      · refine Or.inr ⟨t, k', h1, ?_, h3, h4, (ih t k' (by omega)).mpr h5⟩
        have := (hE _ _ _).mp h2
        rw [show H - (r + 1) + 1 = H + 1 - (r + 1) by omega] at this
        exact this
theorem wL_m : ∀ (r s k : Nat), wL E av g H r s k → ∃ k', k' ≤ r ∧ wL E av g H r s k' := by
  intro r
  induction r with
  | zero => intro s k h; exact ⟨0, Nat.le_refl _, h⟩
  | succ r ih =>
    intro s k h
    rcases h with h | ⟨t, k1, h1, h2, h3, h4, h5⟩
    · obtain ⟨k', a1, a2⟩ := ih s k h
      exact ⟨k', by omega, Or.inl a2⟩
    · obtain ⟨k', a1, a2⟩ := ih t k1 h5
      exact ⟨k' + 1, by omega, Or.inr ⟨t, k', h1, h2, h3, rfl, a2⟩⟩
theorem mnL_r {r s k : Nat} (h : mnL E av g H r s k) : k ≤ r := by
  obtain ⟨k', a1, a2⟩ := wL_m _ _ _ h.1
  have := h.2 k' a2
  omega
theorem wL_E (hE : ∀ d s t, s < 8 → E d s t → s < a) : ∀ (r s k : Nat), s < 8 → wL E av g H r s k → s = g ∨ s < a := by
  intro r
  induction r with
  | zero => intro s k _ h; exact Or.inl h
  | succ r ih =>
    intro s k h8 h
    rcases h with h | ⟨t, k1, h1, h2, h3, h4, h5⟩
    · exact ih s k h8 h
    · exact Or.inr (hE _ _ _ h8 h2)
theorem mnL_a (hE : ∀ d s t, s < 8 → E d s t → s < a) (hg : g < a) {r s k : Nat} (hs : s < 8) (h : mnL E av g H r s k) : k + 1 ≤ a := by
  obtain ⟨x, ρ, h1, h2⟩ := mnL_path r s k hs h
  have key : ∀ i j, i < j → j ≤ k → x i ≠ x j := by
    intro i j hi hj he
    have a := (h1 i (by omega)).2.1.1
    have b := (h1 j hj).2.1.2 i (by rw [← he]; exact wL_r a (h2 i j hi hj))
    omega
  exact php a (k + 1) x (fun i hi => by
    rcases wL_E hE _ _ _ (h1 i (by omega)).1 (h1 i (by omega)).2.1.1 with q | q
    · rw [q]; exact hg
    · exact q) (fun i j hi hj he => by
    rcases Nat.lt_trichotomy i j with q | q | q
    · exact absurd he (key i j q (by omega))
    · exact q
    · exact absurd he.symm (key j i q (by omega)))
theorem mnL_u {r s k k' : Nat} (h : mnL E av g H r s k) (h' : mnL E av g H r s k') : k = k' := by
  have := h.2 k' h'.1
  have := h'.2 k h.1
  omega
end WS
variable {N t a b m e tt : Nat} {sc lc mc tm life tries x : Int32} {stations links messages copies : Nat → Int32} {first size : Int32} {events st : Nat → Int32} {heard : Nat → Int64}
/-- what a search says: no way; or the hour, the links, the first station -/
def wyP (E : Nat → Nat → Nat → Prop) (av : Nat → Prop) (f g τ : Nat) (due links next : Int32) : Prop :=
  (due = -1 ∧ links = -1 ∧ next = -1 ∧ ∀ d, d < 24 → ¬ wF E av f (d + 1) g) ∨
  ∃ H m, H < 24 ∧ due = nI (τ + (H + 1)) ∧ links = nI m ∧ wF E av f (H + 1) g ∧ (∀ d, d < H → ¬ wF E av f (d + 1) g) ∧ 0 < m ∧ m ≤ 7 ∧ mnL E av g (H + 1) (H + 1) f m ∧ fdP E av f g H m next
theorem wy_c {f g τ : Nat} {I0 : Nat → Int32} (hN : 6000 ≤ N) (ht : t ≤ 90000) (h0 : rl0 t a b m e tt (tt + 1) sc lc mc tm life tries x stations links messages copies first size events st) (eH : ev_H b heard st) (a1 : fX7_avoidNone N zf = some I0) (a2 : ∀ s, s < 8 → I0 s = 0) (hf : f < a) (hg : g < a) (hfg : f ≠ g) (hτ : τ ≤ 1000) :
    ∃ due links' next : Int32, wyP (Eh b st τ) (Av I0) f g τ due links' next ∧ ∀ ar fe nx, (∃ w, fL_way N sc ar fe nx heard (nI f) (nI g) (nI τ) (0 : Int32) = some (0, due, w)) ∧ (∃ w, fL_way N sc ar fe nx heard (nI f) (nI g) (nI τ) (1 : Int32) = some (0, links', w)) ∧ ∃ w, fL_way N sc ar fe nx heard (nI f) (nI g) (nI τ) (2 : Int32) = some (0, next, w) := by
  have h : rl_net t sc lc mc tm life tries x stations links messages copies first size events heard st := ⟨a, b, m, e, tt, h0, eH⟩
  obtain ⟨⟨ha, hb, hm, he, htt⟩, z0, z1, z2, z3, z7, z6⟩ := h0.1.1
  have gS : gd_S a st := h0.1.2.1
  have gL : gd_L a b st := h0.1.2.2.1
  have gU : gd_U b st := h0.1.2.2.2.1
  have hv : is8 (0 : Int32) (Av I0) := is8_w is8_0 (fun j hj => ⟨fun q => q.elim, fun q => q (a2 j hj)⟩)
  have cn : ¬ nI f = nI g := fun q => hfg ((nI_eq (by omega) (by omega)).mp q)
  obtain ⟨A', K', e1, e2⟩ := lay7 (isA := I0) (A := zf) (K := zf) (τ := τ) hN gS gL z1 ha hb (by omega) (show g < 8 by omega)
  have w := way_eq e2 (show f < 8 by omega) (show g < 8 by omega) hfg (by omega)
  have mdl : ∀ n, n ≤ 2 → fX7_way N 0 st zf zf zf (nI f) (nI g) (nI τ) (nI n) = (if A' f = (1000000000 : Int32) then some ((-1 : Int32), (0 : Int32), A', K', I0) else if nI n = 0 then some (A' f, (0 : Int32), A', K', I0) else if nI n = (1 : Int32) then some (K' f, (0 : Int32), A', K', I0) else (fX7_firstStep N st A' K' I0 (nI f) (nI τ)).bind fun t19 => some (t19, (0 : Int32), A', K', I0)) := fun n hn => by
    unfold fX7_way
    rw [is7 z0 ha hf, rn_bs, if_neg n10, is7 z0 ha hg, rn_bs, if_neg n10, if_neg cn, show fX7_isBetween (nI τ) (0 : Int32) (100000 : Int32) = some 1 from b7y (lo := 0) (hi := 100000) (by omega) (by omega) (by decide), rn_bs, if_neg n10, show fX7_isBetween (nI n) (0 : Int32) (2 : Int32) = some 1 from b7y (lo := 0) (hi := 2) (by omega) hn (by decide), rn_bs, if_neg n10, a1, rn_bs, e1, rn_bs, rn_gI (by omega) (by decide), rn_gI (by omega) (by decide), rn_gI (by omega) (by decide), nI_clamp (by omega)]
  rcases fd2 (ar := 0) (fe := 0) (nx := 0) hN (fun d _ => bs_H (τ := τ) eH d) E_sym hv (show f < 8 by omega) (show g < 8 by omega) hfg (by omega) with ⟨-, f2⟩ | ⟨H, m', nx', hH, -, f2, f3, m0, m7, f4, f5⟩
  · have hA := w.1 f2
    have val : ∀ n, n ≤ 2 → ∀ ar fe nx, ∃ w, fL_way N sc ar fe nx heard (nI f) (nI g) (nI τ) (nI n) = some (0, -1, w) := fun n hn ar fe nx => rd_way hN ht h ar fe nx zf zf zf ⟨_, by rw [mdl n hn, if_pos hA]⟩
    exact ⟨-1, -1, -1, Or.inl ⟨rfl, rfl, rfl, f2⟩, fun ar fe nx => ⟨val 0 (by decide) ar fe nx, val 1 (by decide) ar fe nx, val 2 (by decide) ar fe nx⟩⟩
  · obtain ⟨w1, w2, w3, w4⟩ := w.2 H m' hH f2 f3 f4
    have hne : ¬ A' f = 1000000000 := by
      rw [w1, far_nI]
      intro q
      have := (nI_eq (by omega) (by omega)).mp q
      omega
    have fs : fX7_firstStep N st A' K' I0 (nI f) (nI τ) = some nx' := by
      rw [fs7 hN gS gL z0 z1 ha hb (by omega) (show f < 8 by omega) hne, fs_eq gL gU ha hb (show f < 8 by omega) m0 w4 f5]
    refine ⟨nI (τ + (H + 1)), nI m', nx', Or.inr ⟨H, m', hH, rfl, rfl, f2, f3, m0, m7, f4, f5⟩, fun ar fe nx => ⟨?_, ?_, ?_⟩⟩
    · exact rd_way hN ht h ar fe nx zf zf zf ⟨_, by rw [show fX7_way N 0 st zf zf zf (nI f) (nI g) (nI τ) (0 : Int32) = _ from mdl 0 (by decide), if_neg hne, if_pos (show nI 0 = 0 by decide), w1]⟩
    · exact rd_way hN ht h ar fe nx zf zf zf ⟨_, by rw [show fX7_way N 0 st zf zf zf (nI f) (nI g) (nI τ) (1 : Int32) = _ from mdl 1 (by decide), if_neg hne, if_neg (show ¬ nI 1 = 0 by decide), if_pos (show nI 1 = (1 : Int32) by decide), w2]⟩
    · exact rd_way hN ht h ar fe nx zf zf zf ⟨_, by rw [show fX7_way N 0 st zf zf zf (nI f) (nI g) (nI τ) (2 : Int32) = _ from mdl 2 (by decide), if_neg hne, if_neg (show ¬ nI 2 = 0 by decide), if_neg (show ¬ nI 2 = (1 : Int32) by decide), fs, rn_bs]⟩
theorem E_sh (d s u τ : Nat) : Eh b st (τ + 1) d s u ↔ Eh b st τ (d + 1) s u := by
  show q_hr b st ((τ + 1 + d) % 24) s u ↔ q_hr b st ((τ + (d + 1)) % 24) s u
  rw [show τ + 1 + d = τ + (d + 1) by omega]
theorem E_a (ha : a ≤ 8) (hb : b ≤ 16) (gL : gd_L a b st) (d s u τ : Nat) (hs : s < 8) (h : Eh b st τ d s u) : s < a := by
  obtain ⟨l, l1, -, l3⟩ := h
  obtain ⟨⟨x, hx, ex⟩, ⟨y, hy, ey⟩, -⟩ := (gL l (by omega)).1 l1
  rcases l3 with ⟨q, -⟩ | ⟨-, q⟩
  · rw [ex] at q
    have := (nI_eq (by omega) (by omega)).mp q
    omega
  · rw [ey] at q
    have := (nI_eq (by omega) (by omega)).mp q
    omega
end B4
