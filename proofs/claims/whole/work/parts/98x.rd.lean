/-! what stands at the law's entry: the texts, the statics, the classes -/
def st_ws (q : String × Nat × String × List Int32) : List Cond :=
  .exactly (.string q.1 q.2.1) "java/lang/String" :: .eq (.field (.string q.1 q.2.1) "java/lang/String" "coder" "B") (.int 0) :: .arrayOf (.field (.string q.1 q.2.1) "java/lang/String" "value" "[B") .byte :: .eq (.length (.field (.string q.1 q.2.1) "java/lang/String" "value" "[B")) (.int (Int32.ofNat q.2.2.2.length)) ::
    (List.range q.2.2.2.length).map (fun j => .eq (.elem (.field (.string q.1 q.2.1) "java/lang/String" "value" "[B") (.int (Int32.ofNat j))) (.int (q.2.2.2.getD j 0)))
def st_sub : List Cond → List Cond → Bool
  | l, [] => l.isEmpty
  | [], _ :: _ => true
  | a :: l, b :: r => if a = b then st_sub l r else st_sub (a :: l) r
theorem st_sub_m : ∀ (r l : List Cond), st_sub l r = true → ∀ w ∈ l, w ∈ r := by
  intro r
  induction r with
  | nil =>
    intro l h w hw
    cases l with
    | nil => exact absurd hw List.not_mem_nil
    | cons a l => simp [st_sub] at h
  | cons b r ih =>
    intro l h w hw
    cases l with
    | nil => exact absurd hw List.not_mem_nil
    | cons a l =>
      rw [st_sub] at h
      by_cases c : a = b
      · rw [if_pos c] at h
        rcases List.mem_cons.mp hw with rfl | hw
        · rw [c]
          exact List.mem_cons_self
        · exact List.mem_cons_of_mem _ (ih l h w hw)
      · rw [if_neg c] at h
        exact List.mem_cons_of_mem _ (ih _ h w hw)
set_option maxRecDepth 100000 in
theorem st_all : st_sub (rn_str.flatMap st_ws) (flatC (Jvm.Cond.and given_1 narrow_1)) = true := by decide +kernel
set_option maxRecDepth 100000 in
theorem st_ref : rn_str.all (fun q => decide (Cond.stringRef q.1 q.2.1 q.2.2.1 ∈ lw_tbl)) = true := by decide +kernel
theorem st_len : rn_str.all (fun q => decide (q.2.2.2.length < 2 ^ 20)) = true := by decide +kernel
theorem st_one {args : Array Value} {s : State} {q : String × Nat × String × List Int32} (hw : ∀ w ∈ st_ws q, w.before args s = true) (hr : (Cond.stringRef q.1 q.2.1 q.2.2.1).before args s = true) (hlen : q.2.2.2.length < 2 ^ 20) {A : Nat → Prop} (hA : ∀ a : Nat, a < s.heap.size → ¬ A a) :
    ∃ at_ : Nat × Nat, vk_R q.1 q.2.1 q.2.2.1 at_.1 s ∧ va_O "java/lang/String" at_.1 A s s.heap ∧ va_OF "java/lang/String" "coder" "B" (.int 0) at_.1 A s s.heap ∧ va_OF "java/lang/String" "value" "[B" (.ref at_.2) at_.1 A s s.heap ∧ va_T .byte at_.2 q.2.2.2.length (fun i => .int (q.2.2.2.getD i 0)) A s s.heap := by
  have w1 : (Cond.exactly (.string q.1 q.2.1) "java/lang/String").before args s = true := hw _ List.mem_cons_self
  have w2 : (Cond.eq (.field (.string q.1 q.2.1) "java/lang/String" "coder" "B") (.int 0)).before args s = true := hw _ (List.mem_cons_of_mem _ List.mem_cons_self)
  have w3 : (Cond.arrayOf (.field (.string q.1 q.2.1) "java/lang/String" "value" "[B") .byte).before args s = true := hw _ (List.mem_cons_of_mem _ (List.mem_cons_of_mem _ List.mem_cons_self))
  have w4 : (Cond.eq (.length (.field (.string q.1 q.2.1) "java/lang/String" "value" "[B")) (.int (Int32.ofNat q.2.2.2.length))).before args s = true := hw _ (List.mem_cons_of_mem _ (List.mem_cons_of_mem _ (List.mem_cons_of_mem _ List.mem_cons_self)))
  have w5 : ∀ j, j < q.2.2.2.length → (Cond.eq (.elem (.field (.string q.1 q.2.1) "java/lang/String" "value" "[B") (.int (Int32.ofNat j))) (.int (q.2.2.2.getD j 0))).before args s = true := fun j hj => hw _ (List.mem_cons_of_mem _ (List.mem_cons_of_mem _ (List.mem_cons_of_mem _ (List.mem_cons_of_mem _ (List.mem_map.mpr ⟨j, List.mem_range.mpr hj, rfl⟩)))))
  obtain ⟨a, c, cell, k, e1, -⟩ := Cond.exactly_spec (args := args) (first := s) (o := none) (s := s) (idx := []) w1
  obtain ⟨t, e2, e3⟩ := va_Tof (N := q.2.2.2.length) (f := fun i => .int (q.2.2.2.getD i 0)) (by omega) w3 (va_eqt w4) (fun j hj => va_eqt (w5 j hj)) hA
  exact ⟨(a, t), vk_R.of hr e1, va_Oof w1 e1 hA, vk_OFof e1 (va_eqt w2) hA, vk_OFof e1 e2 hA, e3⟩
theorem st_S {s : State} {args : Array Value} (hn : ∀ w ∈ flatC (Jvm.Cond.and given_1 narrow_1), w.before args s = true) (hts : ∀ w ∈ lw_tbl, w.before args s = true) : ∃ z : (Nat → Nat) × (Nat → Nat), rn_S z (fun q : Nat => s.heap.size ≤ q) s s.heap := by
  have hA : ∀ a : Nat, a < s.heap.size → ¬ (fun q : Nat => s.heap.size ≤ q) a := fun a h => Nat.not_le.mpr h
  have K : ∀ j : Nat, ∃ at_ : Nat × Nat, ∀ q : String × Nat × String × List Int32, rn_str[j]? = some q → vk_R q.1 q.2.1 q.2.2.1 at_.1 s ∧ va_O "java/lang/String" at_.1 (fun q : Nat => s.heap.size ≤ q) s s.heap ∧ va_OF "java/lang/String" "coder" "B" (.int 0) at_.1 (fun q : Nat => s.heap.size ≤ q) s s.heap ∧ va_OF "java/lang/String" "value" "[B" (.ref at_.2) at_.1 (fun q : Nat => s.heap.size ≤ q) s s.heap ∧ va_T .byte at_.2 q.2.2.2.length (fun i => .int (q.2.2.2.getD i 0)) (fun q : Nat => s.heap.size ≤ q) s s.heap := by
    intro j
    cases hj : rn_str[j]? with
    | none => exact ⟨(0, 0), fun q hq => absurd hq (by simp)⟩
    | some q =>
      have hm : q ∈ rn_str := List.mem_of_getElem? hj
      obtain ⟨at_, h⟩ := st_one (q := q) (fun w hw => hn w (st_sub_m _ _ st_all w (List.mem_flatMap.mpr ⟨q, hm, hw⟩))) (hts _ (of_decide_eq_true (List.all_eq_true.mp st_ref q hm))) (of_decide_eq_true (List.all_eq_true.mp st_len q hm)) hA
      refine ⟨at_, fun q' hq' => ?_⟩
      cases hq'
      exact h
  obtain ⟨f, hf⟩ := Classical.axiomOfChoice K
  refine ⟨(fun j => (f j).1, fun j => (f j).2), fun j q hq => hf j q hq, ?_, ?_, ?_, ?_⟩
  · exact va_Zof (hts (.laysStatic "java/lang/String" "COMPACT_STRINGS" "Z") (by decide +kernel)) (hts (.initialized "java/lang/String") (by decide +kernel)) (va_eqi (hn (.eq (.static "java/lang/String" "COMPACT_STRINGS" "Z") (.int 1)) (by decide +kernel))) hA
  · exact va_Zqof (hts (.laysStatic "jdk/internal/util/Preconditions" "SIOOBE_FORMATTER" "Ljava/util/function/BiFunction;") (by decide +kernel)) (hts (.initialized "jdk/internal/util/Preconditions") (by decide +kernel)) (hn (.isRef (.static "jdk/internal/util/Preconditions" "SIOOBE_FORMATTER" "Ljava/util/function/BiFunction;")) (by decide +kernel)) hA
  · exact vx_Zqof (hts (.laysStatic Bundle.tN "UNASSIGNED_STACK" Bundle.steD) (by decide +kernel)) (hts (.initialized Bundle.tN) (by decide +kernel)) (hn (.isRef (.static Bundle.tN "UNASSIGNED_STACK" Bundle.steD)) (by decide +kernel)) hA
  · exact vx_Zqof (hts (.laysStatic Bundle.tN "SUPPRESSED_SENTINEL" Bundle.listD) (by decide +kernel)) (hts (.initialized Bundle.tN) (by decide +kernel)) (hn (.isRef (.static Bundle.tN "SUPPRESSED_SENTINEL" Bundle.listD)) (by decide +kernel)) hA
theorem st_xc {s : State} {args : Array Value} (hn : ∀ w ∈ flatC (Jvm.Cond.and given_1 narrow_1), w.before args s = true) (hts : ∀ w ∈ lw_tbl, w.before args s = true) : rn_xc s :=
  ⟨⟨va_Nw.of rfl (hts (.declares (Bundle.initS "java/lang/RuntimeException")) (by decide +kernel)), va_Nw.of rfl (hts (.declares (Bundle.initS "java/lang/Exception")) (by decide +kernel)), va_Nw.of rfl (hts (.declares (Bundle.initS "java/lang/Throwable")) (by decide +kernel))⟩,
   ⟨va_Nw.of (w := .castable (rn_ex 1) (rn_ex 1)) rfl (hts (.castable (rn_ex 1) (rn_ex 1)) (by decide +kernel)), va_Nw.of (w := .castable (rn_ex 2) (rn_ex 2)) rfl (hts (.castable (rn_ex 2) (rn_ex 2)) (by decide +kernel)), va_Nw.of (w := .castable (rn_ex 3) (rn_ex 3)) rfl (hts (.castable (rn_ex 3) (rn_ex 3)) (by decide +kernel))⟩,
   ⟨va_Nc.of (hn (.not (.castable (rn_ex 1) (rn_ex 2))) (by decide +kernel)), va_Nc.of (hn (.not (.castable (rn_ex 1) (rn_ex 3))) (by decide +kernel))⟩,
   ⟨va_Nc.of (hn (.not (.castable (rn_ex 2) (rn_ex 1))) (by decide +kernel)), va_Nc.of (hn (.not (.castable (rn_ex 2) (rn_ex 3))) (by decide +kernel))⟩,
   va_Nc.of (hn (.not (.castable (rn_ex 3) (rn_ex 1))) (by decide +kernel)), va_Nc.of (hn (.not (.castable (rn_ex 3) (rn_ex 2))) (by decide +kernel))⟩
theorem st_nc {s : State} {args : Array Value} (hts : ∀ w ∈ lw_tbl, w.before args s = true) : rn_nc s :=
  ⟨va_Nw.of rfl (hts (.methodLinkNest RX6 9 yX3_init "ReliefNet") (by decide +kernel)), va_Nw.of rfl (hts (.methodLinkNest RX6 25 yX2_init "ReliefNet") (by decide +kernel)), va_Nw.of rfl (hts (.methodLinkNest RX2 31 yX0_init "ReliefNet") (by decide +kernel)), va_Nw.of rfl (hts (.methodLinkNest RX2 38 yX5_init "ReliefNet") (by decide +kernel)), va_Nw.of rfl (hts (.methodLinkNest RX6 39 yX1_init "ReliefNet") (by decide +kernel)), va_AO.of (hts (.arrayOver (.object "ReliefNet$Net")) (by decide +kernel))⟩
theorem st_arr {s : State} {args : Array Value} {ty : FieldType} (h : (Cond.arrayClass ty).before args s = true) (hp : ∀ C, ty ≠ .object C) : ∃ cA : ClassId, ArrOfT s cA ty ∧ va_RA s cA ty := by
  obtain ⟨cA, kA, comp, h1, h2, h3⟩ := Cond.arrayClass_spec (args := args) (first := s) (o := none) (s := s) (idx := []) h
  refine ⟨cA, fun n z => ⟨fun k h => (by cases h), kA, h2, comp, h3⟩, ?_⟩
  cases ty with
  | object C => exact absurd rfl (hp C)
  | _ => exact h1
theorem st_arq {s : State} {args : Array Value} {C : String} (h : (Cond.arrayOver (.object C)).before args s = true) : ∃ cA : ClassId, ArrOfT s cA (.object C) ∧ va_RA s cA (.object C) := by
  obtain ⟨comp, cA, kA, h1, h2, h3, h4, h5⟩ := Cond.arrayOver_spec (args := args) (first := s) (o := none) (s := s) (idx := []) h
  exact ⟨cA, fun n z => ⟨fun k h => (by cases h), kA, h3, comp, h4⟩, kA, comp, h3, h4, h1, h5⟩
theorem st_K {s : State} {args : Array Value} (hts : ∀ w ∈ lw_tbl, w.before args s = true) : ∃ (D : va_G) (k : Nat → ClassId), va_K D vwCl (rn_ty k) s := by
  have hg : ∀ w ∈ rn_G, w.before args s = true := fun w h => hts w (List.mem_filter.mp h).1
  obtain ⟨c0, i0, h0⟩ := u_known hg gs_X0 (hg (.instantiable RX0 3) (rn_Gix 182 (by decide +kernel) rfl))
  obtain ⟨c1, i1, h1⟩ := u_known hg gs_X1 (hg (.instantiable RX1 2) (rn_Gix 264 (by decide +kernel) rfl))
  obtain ⟨c2, i2, h2⟩ := u_known hg gs_X2 (hg (.instantiable RX2 14) (rn_Gix 159 (by decide +kernel) rfl))
  obtain ⟨c3, i3, h3⟩ := u_known hg gs_X3 (hg (.instantiable RX3 8) (rn_Gix 127 (by decide +kernel) rfl))
  obtain ⟨c4, i4, h4⟩ := u_known hg gs_X4 (hg (.instantiable RX4 3) (rn_Gix 165 (by decide +kernel) rfl))
  obtain ⟨c5, i5, h5⟩ := u_known hg gs_X5 (hg (.instantiable RX5 4) (rn_Gix 200 (by decide +kernel) rfl))
  obtain ⟨c6, i6, h6⟩ := u_known hg gs_X6 (hg (.instantiable RX6 7) (rn_Gix 119 (by decide +kernel) rfl))
  obtain ⟨c7, i7, h7⟩ := u_known hg gs_X7 (hg (.instantiable RX7 24) (rn_Gix 1175 (by decide +kernel) rfl))
  obtain ⟨k0, a0⟩ := st_arr (hg _ gq_ai) (fun C => by simp)
  obtain ⟨k1, a1⟩ := st_arr (hg _ gq_al) (fun C => by simp)
  obtain ⟨k2, a2⟩ := st_arr (hg _ gq_ab) (fun C => by simp)
  obtain ⟨k3, a3⟩ := st_arr (hg _ gq_az) (fun C => by simp)
  obtain ⟨k4, a4⟩ := st_arq (hts (.arrayOver (.object "ReliefNet$Net")) (by decide +kernel))
  refine ⟨(fun c => match c with | 0 => c0 | 1 => c1 | 2 => c2 | 3 => c3 | 4 => c4 | 5 => c5 | 6 => c6 | _ => c7, fun c => match c with | 0 => i0 | 1 => i1 | 2 => i2 | 3 => i3 | 4 => i4 | 5 => i5 | 6 => i6 | _ => i7), (fun j => match j with | 0 => k0 | 1 => k1 | 2 => k2 | 3 => k3 | _ => k4), fun c q hq => ?_, fun j q hq => ?_⟩
  · rcases c with _ | _ | _ | _ | _ | _ | _ | _ | c
    · obtain rfl := Option.some.inj (show some (RX0, TX0, 3) = some q from hq)
      exact h0
    · obtain rfl := Option.some.inj (show some (RX1, TX1, 2) = some q from hq)
      exact h1
    · obtain rfl := Option.some.inj (show some (RX2, TX2, 14) = some q from hq)
      exact h2
    · obtain rfl := Option.some.inj (show some (RX3, TX3, 8) = some q from hq)
      exact h3
    · obtain rfl := Option.some.inj (show some (RX4, TX4, 3) = some q from hq)
      exact h4
    · obtain rfl := Option.some.inj (show some (RX5, TX5, 4) = some q from hq)
      exact h5
    · obtain rfl := Option.some.inj (show some (RX6, TX6, 7) = some q from hq)
      exact h6
    · obtain rfl := Option.some.inj (show some (RX7, TX7, 24) = some q from hq)
      exact h7
    · exact absurd (show c + 8 < 8 from (List.getElem?_eq_some_iff.mp hq).1) (by omega)
  · rcases j with _ | _ | _ | _ | _ | j
    · obtain rfl := Option.some.inj (show some (k0, FieldType.int) = some q from hq)
      exact a0
    · obtain rfl := Option.some.inj (show some (k1, FieldType.long) = some q from hq)
      exact a1
    · obtain rfl := Option.some.inj (show some (k2, FieldType.byte) = some q from hq)
      exact a2
    · obtain rfl := Option.some.inj (show some (k3, FieldType.boolean) = some q from hq)
      exact a3
    · obtain rfl := Option.some.inj (show some (k4, FieldType.object "ReliefNet$Net") = some q from hq)
      exact a4
    · exact absurd (show j + 5 < 5 from (List.getElem?_eq_some_iff.mp hq).1) (by omega)
