/-! a word or not, on both sides -/
section QP
variable {N n : Nat} {B : Nat → Nat} {text mt : Nat → Int32}
theorem mgd {w : List Nat} {i : Nat} (hi : i < w.length) : (w.map nI).getD i 0 = nI (w.getD i 0) := by
  rw [List.getD_eq_getElem?_getD, List.getElem?_map, List.getD_eq_getElem?_getD, List.getElem?_eq_getElem hi]
  rfl
def isW (B : Nat → Nat) (s e : Nat) (w : List Nat) : Prop := e - s = w.length ∧ ∀ i, i < w.length → B (s + i) = w.getD i 0
theorem isw3 {s e : Nat} {w : List Nat} (hN : 6000 ≤ N) (h : tx n B text mt) (hs : s ≤ e) (he : e ≤ n) (hl : ∀ i, s ≤ i → i < e → kk (B i) = 1) (hw : ∀ i, i < w.length → 97 ≤ w.getD i 0 ∧ w.getD i 0 ≤ 122) (h7 : w.length ≤ 7) : (isW B s e w ∧ fX3_isWord N (nI s) (nI e) text (w.map nI) = some 1) ∨ (¬ isW B s e w ∧ fX3_isWord N (nI s) (nI e) text (w.map nI) = some 0) := by
  have h1 := h.1
  have sub : nI e - nI s = nI (e - s) := by
    rw [show e = (e - s) + s by omega, ← nI_add, Nat.add_sub_cancel]
    exact Int32.add_sub_cancel _ _
  have lw : (w.map nI).length = w.length := List.length_map ..
  unfold fX3_isWord
  rw [sub, lw]
  by_cases c : e - s = w.length
  · rw [if_pos (show nI (e - s) = Int32.ofNat w.length by rw [c]; rfl)]
    have lp : ∀ (f k : Nat), k ≤ w.length → w.length - k < f → (∀ i, i < k → B (s + i) = w.getD i 0) → (isW B s e w ∧ lX3_isWord_20 (nI s) text (w.map nI) f (nI k) = some 1) ∨ (¬ isW B s e w ∧ lX3_isWord_20 (nI s) text (w.map nI) f (nI k) = some 0) := by
      intro f
      induction f with
      | zero => intro k _ h; omega
      | succ f ih =>
        intro k hk hf hp
        rw [lX3_isWord_20, lw]
        rcases Nat.lt_or_ge k w.length with d | d
        · have hb := (h.2 (s + k) (by omega)).1
          have hk1 := kk_1 (hl (s + k) (by omega) (by omega))
          have hw1 := hw k d
          rw [if_neg (show ¬ Int32.ofNat w.length ≤ nI k from nI_ge (b := w.length) d (by omega)), nI_add, by3 h (show s + k < n by omega), rn_bs, rn_gI d (by omega), nI_clamp (by omega), mgd d, sx_id _ (by omega)]
          by_cases q : B (s + k) = w.getD k 0
          · rw [if_pos (by rw [q]), nI_1]
            exact ih (k + 1) (by omega) (by omega) (fun i hi => by
              by_cases r : i = k
              · rw [r]; exact q
              · exact hp i (by omega))
          · rw [if_neg (fun r => q ((nI_eq (by omega) (by omega)).mp r))]
            exact Or.inr ⟨fun r => q (r.2 k d), rfl⟩
        · have : k = w.length := by omega
          subst this
          rw [if_pos (show Int32.ofNat w.length ≤ nI w.length from nI_le (a := w.length) (Nat.le_refl _) (by omega))]
          exact Or.inl ⟨⟨c, hp⟩, rfl⟩
    exact lp N 0 (by omega) (by omega) (fun i hi => by omega)
  · rw [if_neg (show ¬ nI (e - s) = Int32.ofNat w.length from fun q => c ((nI_eq (b := w.length) (by omega) (by omega)).mp q))]
    exact Or.inr ⟨fun r => c r.1, rfl⟩
theorem isw7 {s e : Nat} {w : List Nat} (hN : 6000 ≤ N) (h : tx n B text mt) (hs : s ≤ e) (he : e ≤ n) (hl : ∀ i, s ≤ i → i < e → kk (B i) = 1) (hw : ∀ i, i < w.length → 97 ≤ w.getD i 0 ∧ w.getD i 0 ≤ 122) (h7 : w.length ≤ 7) : (isW B s e w ∧ fX7_isWord N (2 : Int32) (nI (e - s)) (wdn B s (e - s)) (w.map nI) = some 1) ∨ (¬ isW B s e w ∧ fX7_isWord N (2 : Int32) (nI (e - s)) (wdn B s (e - s)) (w.map nI) = some 0) := by
  have h1 := h.1
  have lw : (w.map nI).length = w.length := List.length_map ..
  have pk : ∀ (f k : Nat), k ≤ w.length → w.length - k < f → lX7_isWord_26 (w.map nI) f (lN (wn (fun i => w.getD i 0) 0 k)) (nI k) = some (lN (wn (fun i => w.getD i 0) 0 w.length)) := by
    intro f
    induction f with
    | zero => intro k _ h; omega
    | succ f ih =>
      intro k hk hf
      rw [lX7_isWord_26, lw]
      rcases Nat.lt_or_ge k w.length with d | d
      · have hw1 := hw k d
        rw [if_neg (show ¬ Int32.ofNat w.length ≤ nI k from nI_ge (b := w.length) d (by omega)), rn_gI d (by omega), nI_clamp (by omega), mgd d, rn_lt, nI_1, nI_l (by omega), show (27 : Int64) = lN 27 from rfl, lN_mul, lN_add, show (96 : Int64) = lN 96 from rfl, lN_sub (by omega)]
        have e1 : 27 * wn (fun i => w.getD i 0) 0 k + w.getD k 0 - 96 = wn (fun i => w.getD i 0) 0 (k + 1) := by
          show _ = 27 * wn (fun i => w.getD i 0) 0 k + (w.getD (0 + k) 0 - 96)
          rw [Nat.zero_add]
          omega
        rw [e1]
        exact ih (k + 1) (by omega) (by omega)
      · have : k = w.length := by omega
        subst this
        rw [if_pos (show Int32.ofNat w.length ≤ nI w.length from nI_le (a := w.length) (Nat.le_refl _) (by omega))]
  unfold fX7_isWord
  rw [if_pos rfl, lw]
  by_cases c : e - s = w.length
  · have hB : ∀ i, i < e - s → 97 ≤ B (s + i) ∧ B (s + i) ≤ 122 := fun i hi => kk_1 (hl (s + i) (by omega) (by omega))
    have hW : ∀ i, i < w.length → 97 ≤ (fun i => w.getD i 0) (0 + i) ∧ (fun i => w.getD i 0) (0 + i) ≤ 122 := fun i hi => by
      show 97 ≤ w.getD (0 + i) 0 ∧ w.getD (0 + i) 0 ≤ 122
      rw [Nat.zero_add]
      exact hw i hi
    have b1 := wn_lt (B := B) (s := s) (e - s) hB
    have b2' := wn_lt (B := fun i => w.getD i 0) (s := 0) w.length hW
    have p7 : ∀ k : Nat, k ≤ 7 → 27 ^ k ≤ 10460353203 := fun k hk => Nat.le_trans (Nat.pow_le_pow_right (by decide) hk) (by decide)
    have q1 := p7 (e - s) (by omega)
    have q2 := p7 w.length h7
    have pk0 := pk N 0 (by omega) (by omega)
    rw [if_pos (show nI (e - s) = Int32.ofNat w.length by rw [c]; rfl), wd_n (e - s) (by omega) hB, show lX7_isWord_26 (w.map nI) N (0 : Int64) (0 : Int32) = _ from pk0, rn_bs]
    by_cases d : wn B s (e - s) = wn (fun i => w.getD i 0) 0 w.length
    · rw [d, if_pos (by unfold lg_cmp; simp)]
      refine Or.inl ⟨⟨c, fun i hi => ?_⟩, rfl⟩
      rw [c] at d hB
      have := wn_inj w.length hB hW d i hi
      rw [this]
      show w.getD (0 + i) 0 = _
      rw [Nat.zero_add]
    · rw [if_neg (fun q => ?_)]
      · refine Or.inr ⟨fun r => d ?_, rfl⟩
        rw [c]
        exact wn_c w.length (fun i hi => by
          show B (s + i) = w.getD (0 + i) 0
          rw [Nat.zero_add]
          exact r.2 i hi)
      · unfold lg_cmp at q
        split at q
        · exact absurd q (by decide)
        · split at q
          · rename_i r
            exact d (lN_inj (Nat.lt_of_lt_of_le b1 (Nat.le_trans q1 (by decide))) (Nat.lt_of_lt_of_le b2' (Nat.le_trans q2 (by decide))) r)
          · exact absurd q (by decide)
  · rw [if_neg (show ¬ nI (e - s) = Int32.ofNat w.length from fun q => c ((nI_eq (b := w.length) (by omega) (by omega)).mp q))]
    exact Or.inr ⟨fun r => c r.1, rfl⟩
theorem isw {s e : Nat} {w : List Nat} (hN : 6000 ≤ N) (h : tx n B text mt) (hs : s ≤ e) (he : e ≤ n) (hl : ∀ i, s ≤ i → i < e → kk (B i) = 1) (hw : ∀ i, i < w.length → 97 ≤ w.getD i 0 ∧ w.getD i 0 ≤ 122) (h7 : w.length ≤ 7) : (isW B s e w → fX3_isWord N (nI s) (nI e) text (w.map nI) = some 1 ∧ fX7_isWord N (2 : Int32) (nI (e - s)) (wdn B s (e - s)) (w.map nI) = some 1) ∧ (¬ isW B s e w → fX3_isWord N (nI s) (nI e) text (w.map nI) = some 0 ∧ fX7_isWord N (2 : Int32) (nI (e - s)) (wdn B s (e - s)) (w.map nI) = some 0) := by
  refine ⟨fun c => ⟨?_, ?_⟩, fun c => ⟨?_, ?_⟩⟩
  · rcases isw3 hN h hs he hl hw h7 with q | q
    · exact q.2
    · exact absurd c q.1
  · rcases isw7 hN h hs he hl hw h7 with q | q
    · exact q.2
    · exact absurd c q.1
  · rcases isw3 hN h hs he hl hw h7 with q | q
    · exact absurd q.1 c
    · exact q.2
  · rcases isw7 hN h hs he hl hw h7 with q | q
    · exact absurd q.1 c
    · exact q.2
/-- two words of different letters at place i, or of different lengths -/
theorem isw_x {s e : Nat} {w w' : List Nat} (h : isW B s e w) (h' : isW B s e w') (i : Nat) (hi : i < w.length) (hi' : i < w'.length) : w.getD i 0 = w'.getD i 0 := by
  rw [← h.2 i hi, ← h'.2 i hi']
theorem isw_0 {w0 : Int32} {le : Int32} {wo : Int64} {w : List Int32} (h : ¬ w0 = 2) : fX7_isWord N w0 le wo w = some 0 := by
  unfold fX7_isWord
  rw [if_neg h]
end QP
