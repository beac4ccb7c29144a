/-! the frames of a station, in their order, on both sides -/
/-- the messages below n that go on, of one priority -/
def rdy (nv : Nat → Int32) (pr : Nat → Nat) (p n : Nat) : List Nat := (List.range n).filter (fun k => decide (¬ nv k = -1) && decide (pr k = p))
section PU
variable {nv : Nat → Int32} {pr : Nat → Nat}
theorem rdy_s (p n : Nat) : rdy nv pr p (n + 1) = rdy nv pr p n ++ (if ¬ nv n = -1 ∧ pr n = p then [n] else []) := by
  unfold rdy
  rw [List.range_succ, List.filter_append]
  congr 1
  by_cases h : ¬ nv n = -1 ∧ pr n = p
  · rw [if_pos h]
    exact List.filter_cons_of_pos (by simp [h.1, h.2])
  · rw [if_neg h]
    refine List.filter_cons_of_neg ?_
    simp only [Bool.and_eq_true, decide_eq_true_eq]
    exact h
theorem rdy_m {p n k : Nat} : k ∈ rdy nv pr p n ↔ k < n ∧ ¬ nv k = -1 ∧ pr k = p := by
  unfold rdy
  rw [List.mem_filter, List.mem_range, Bool.and_eq_true, decide_eq_true_eq, decide_eq_true_eq]
theorem rdy_x (p k : Nat) : ∀ d, ∃ r, rdy nv pr p (k + d) = rdy nv pr p k ++ r := by
  intro d
  induction d with
  | zero => exact ⟨[], by rw [List.append_nil]; rfl⟩
  | succ d ih =>
    obtain ⟨r, hr⟩ := ih
    rw [← Nat.add_assoc, rdy_s, hr, List.append_assoc]
    exact ⟨_, rfl⟩
theorem rdy_n (p n : Nat) : (rdy nv pr p n).Nodup := List.Nodup.sublist (List.filter_sublist) List.nodup_range
/-- all of them, the highest priority first -/
def msl (nv : Nat → Int32) (pr : Nat → Nat) (n : Nat) : List Nat := rdy nv pr 3 n ++ (rdy nv pr 2 n ++ (rdy nv pr 1 n ++ rdy nv pr 0 n))
theorem msl_m {n k : Nat} (h : k ∈ msl nv pr n) : k < n ∧ ¬ nv k = -1 := by
  unfold msl at h
  simp only [List.mem_append, rdy_m] at h
  rcases h with h | h | h | h <;> exact ⟨h.1, h.2.1⟩
theorem msl_n (n : Nat) : (msl nv pr n).Nodup := by
  unfold msl
  rw [List.nodup_append, List.nodup_append, List.nodup_append]
  refine ⟨rdy_n _ _, ⟨rdy_n _ _, ⟨rdy_n _ _, rdy_n _ _, fun x hx y hy q => ?_⟩, fun x hx y hy q => ?_⟩, fun x hx y hy q => ?_⟩
  · subst q
    rw [rdy_m] at hx hy
    omega
  · subst q
    simp only [List.mem_append, rdy_m] at hx hy
    omega
  · subst q
    simp only [List.mem_append, rdy_m] at hx hy
    omega
theorem msl_l (n : Nat) : (msl nv pr n).length ≤ n := by
  have h := List.Nodup.length_le_of_subset (msl_n (nv := nv) (pr := pr) n) (l₂ := List.range n) (fun k hk => List.mem_range.mpr (msl_m hk).1)
  rw [List.length_range] at h
  exact h
/-- one more message: behind those that are no lower -/
theorem msl_s {n : Nat} (h0 : ¬ nv n = -1) (h4 : pr n < 4) : ∃ A B, msl nv pr n = A ++ B ∧ msl nv pr (n + 1) = A ++ (n :: B) ∧ (∀ k, k ∈ A → pr n ≤ pr k) ∧ ∀ k, k ∈ B → pr k < pr n := by
  have e : ∀ p, ¬ pr n = p → rdy nv pr p (n + 1) = rdy nv pr p n := fun p hp => by
    rw [rdy_s, if_neg (fun q => hp q.2), List.append_nil]
  have e1 : ∀ p, pr n = p → rdy nv pr p (n + 1) = rdy nv pr p n ++ [n] := fun p hp => by
    rw [rdy_s, if_pos ⟨h0, hp⟩]
  have : pr n = 0 ∨ pr n = 1 ∨ pr n = 2 ∨ pr n = 3 := by omega
  rcases this with c | c | c | c
  · refine ⟨msl nv pr n, [], by rw [List.append_nil], ?_, fun k _ => by omega, fun k hk => by simp at hk⟩
    unfold msl
    rw [e 3 (by omega), e 2 (by omega), e 1 (by omega), e1 0 c]
    simp only [List.append_assoc]
  · refine ⟨rdy nv pr 3 n ++ (rdy nv pr 2 n ++ rdy nv pr 1 n), rdy nv pr 0 n, ?_, ?_, fun k hk => ?_, fun k hk => ?_⟩
    · unfold msl
      simp only [List.append_assoc]
    · unfold msl
      rw [e 3 (by omega), e 2 (by omega), e1 1 (by omega), e 0 (by omega)]
      simp only [List.append_assoc, List.singleton_append]
    · simp only [List.mem_append, rdy_m] at hk
      omega
    · rw [rdy_m] at hk
      omega
  · refine ⟨rdy nv pr 3 n ++ rdy nv pr 2 n, rdy nv pr 1 n ++ rdy nv pr 0 n, ?_, ?_, fun k hk => ?_, fun k hk => ?_⟩
    · unfold msl
      simp only [List.append_assoc]
    · unfold msl
      rw [e 3 (by omega), e1 2 (by omega), e 1 (by omega), e 0 (by omega)]
      simp only [List.append_assoc, List.singleton_append]
    · simp only [List.mem_append, rdy_m] at hk
      omega
    · simp only [List.mem_append, rdy_m] at hk
      omega
  · refine ⟨rdy nv pr 3 n, rdy nv pr 2 n ++ (rdy nv pr 1 n ++ rdy nv pr 0 n), ?_, ?_, fun k hk => ?_, fun k hk => ?_⟩
    · unfold msl
      rfl
    · unfold msl
      rw [e1 3 (by omega), e 2 (by omega), e 1 (by omega), e 0 (by omega)]
      simp only [List.append_assoc, List.singleton_append]
    · simp only [rdy_m] at hk
      omega
    · simp only [List.mem_append, rdy_m] at hk
      omega
theorem msl_0 {n : Nat} (h0 : nv n = -1) : msl nv pr (n + 1) = msl nv pr n := by
  have e : ∀ p, rdy nv pr p (n + 1) = rdy nv pr p n := fun p => by
    rw [rdy_s, if_neg (fun q => q.1 h0), List.append_nil]
  unfold msl
  rw [e, e, e, e]
end PU
/-- a list in two tables; in the class's table of frames -/
def lsT (nv : Nat → Int32) (T D : Nat → Int32) (l : List Nat) : Prop := ∀ i k, l[i]? = some k → T i = nI k ∧ D i = nv k
def lsF (nv : Nat → Int32) (F : Nat → Int32) (l : List Nat) : Prop := ∀ i k, l[i]? = some k → F (2 * i) = nI k ∧ F (2 * i + 1) = nv k
section PV
variable {N : Nat} {st : Nat → Int32} {nv : Nat → Int32} {pr : Nat → Nat}
/-- the model puts a message into its place -/
theorem ins7 {n m : Nat} {A B : List Nat} {T D : Nat → Int32} (hN : 6000 ≤ N) (hp : ∀ k, k < m → pr k < 4 ∧ qM st k 2 = nI (pr k)) (hm : m ≤ 24) (hn : n < m) (hA : ∀ k, k ∈ A → pr n ≤ pr k) (hB : ∀ k, k ∈ B → pr k < pr n) (hb : ∀ k, k ∈ A ++ B → k < m) (hl : (A ++ B).length < 24) (h : lsT nv T D (A ++ B)) :
    ∃ T' D', lX7_layFrames_96 st (nI n) N (nI (A ++ B).length) T D = some (nI A.length, T', D') ∧ lsT nv (upd T' A.length (nI n)) (upd D' A.length (nv n)) (A ++ (n :: B)) := by
  have lp : ∀ (f p : Nat) (T D : Nat → Int32), A.length ≤ p → p ≤ (A ++ B).length → p < f → (∀ i k, (A ++ B)[i]? = some k → (i < p → T i = nI k ∧ D i = nv k) ∧ (p ≤ i → T (i + 1) = nI k ∧ D (i + 1) = nv k)) → ∃ T' D', lX7_layFrames_96 st (nI n) f (nI p) T D = some (nI A.length, T', D') ∧ ∀ i k, (A ++ B)[i]? = some k → (i < A.length → T' i = nI k ∧ D' i = nv k) ∧ (A.length ≤ i → T' (i + 1) = nI k ∧ D' (i + 1) = nv k) := by
    intro f
    induction f with
    | zero => intro p T D _ _ h; omega
    | succ f ih =>
      intro p T D h1 h2 h3 h4
      rw [lX7_layFrames_96]
      by_cases c0 : p = 0
      · subst c0
        rw [if_pos (show nI 0 ≤ 0 by decide), show A.length = 0 by omega]
        exact ⟨T, D, rfl, h4⟩
      · have e1 : nI p - (1 : Int32) = nI (p - 1) := by rw [show p = (p - 1) + 1 by omega, ← nI_1 (p - 1), Nat.add_sub_cancel]; exact Int32.add_sub_cancel _ _
        have hk : (A ++ B)[p - 1]? = some ((A ++ B)[p - 1]'(by omega)) := List.getElem?_eq_getElem (by omega)
        obtain ⟨k, ek⟩ : ∃ k, (A ++ B)[p - 1]? = some k := ⟨_, hk⟩
        have t1 := (h4 (p - 1) k ek).1 (by omega)
        have hkm : k < m := hb k (List.mem_of_getElem? ek)
        have m1 := hp k hkm
        have m2 := hp n hn
        rw [if_neg (show ¬ nI p ≤ 0 from nI_ge (b := p) (a := 0) (by omega) (by omega)), e1, rn_gI (by omega) (by decide), nI_clamp (by omega), t1.1, t1.2, show fX7_ofMessage st (nI k) (2 : Int32) = some (nI (pr k)) from (oM (q := 2) (by omega) (by decide)).trans (congrArg some m1.2), rn_bs, show fX7_ofMessage st (nI n) (2 : Int32) = some (nI (pr n)) from (oM (q := 2) (by omega) (by decide)).trans (congrArg some m2.2), rn_bs]
        by_cases c1 : p = A.length
        · have : k ∈ A := by
            rw [List.getElem?_append_left (by omega)] at ek
            exact List.mem_of_getElem? ek
          rw [if_pos (nI_le (hA k this) (by omega)), c1]
          rw [c1] at h4
          exact ⟨T, D, rfl, h4⟩
        · have : k ∈ B := by
            rw [List.getElem?_append_right (by omega)] at ek
            exact List.mem_of_getElem? ek
          have e2 : nI p + (-1 : Int32) = nI (p - 1) := by rw [← e1]; exact (Int32.sub_eq_add_neg _ _).symm
          rw [if_neg (nI_ge (hB k this) (by omega)), rn_gI (by omega) (by decide), rn_gI (by omega) (by decide), rn_lt, rn_gI (by omega) (by decide), rn_gI (by omega) (by decide), rn_lt, nI_clamp (by omega), e2]
          refine ih (p - 1) _ _ (by omega) (by omega) (by omega) (fun i k' hi => ⟨fun q => ?_, fun q => ?_⟩)
          · rw [pk_un (by omega), pk_un (by omega)]
            exact (h4 i k' hi).1 (by omega)
          · by_cases c2 : i = p - 1
            · rw [c2, ek] at hi
              have hi := Option.some.inj hi
              subst hi
              rw [c2, show p - 1 + 1 = p by omega, pk_us, pk_us]
              exact ⟨rfl, rfl⟩
            · rw [pk_un (by omega), pk_un (by omega)]
              exact (h4 i k' hi).2 (by omega)
  obtain ⟨T', D', r1, r2⟩ := lp N (A ++ B).length T D (by rw [List.length_append]; omega) (Nat.le_refl _) (by omega) (fun i k hi => ⟨fun _ => h i k hi, fun q => by
    have := (List.getElem?_eq_some_iff.mp hi).1
    omega⟩)
  refine ⟨T', D', r1, fun i k hi => ?_⟩
  rcases Nat.lt_trichotomy i A.length with c | c | c
  · rw [pk_un (by omega), pk_un (by omega)]
    rw [List.getElem?_append_left c] at hi
    exact (r2 i k (by rw [List.getElem?_append_left c]; exact hi)).1 c
  · subst c
    rw [List.getElem?_append_right (Nat.le_refl _), Nat.sub_self] at hi
    have hi : some n = some k := hi
    have hi := Option.some.inj hi
    subst hi
    exact ⟨pk_us, pk_us⟩
  · rw [pk_un (by omega), pk_un (by omega)]
    rw [List.getElem?_append_right (by omega), show i - A.length = (i - 1 - A.length) + 1 by omega, List.getElem?_cons_succ] at hi
    have := (r2 (i - 1) k (by rw [List.getElem?_append_right (by omega)]; exact hi)).2 (by omega)
    rw [show i - 1 + 1 = i by omega] at this
    exact this
end PV
