/-! what stands at the law's entry: the texts, the script, the statics, the classes -/
set_option maxRecDepth 100000 in
theorem st_exa : rn_str.all (fun q => decide (Cond.exactly (.string q.1 q.2.1) "java/lang/String" ∈ flatC (Jvm.Cond.and given_1 narrow_1))) = true := by decide +kernel
set_option maxRecDepth 100000 in
theorem st_ref : rn_str.all (fun q => decide (Cond.stringRef q.1 q.2.1 q.2.2.1 ∈ lw_tbl)) = true := by decide +kernel
theorem i32_t (v : Int32) : Int32.ofNat v.toBitVec.toNat = v := by
  apply Int32.toBitVec_inj.mp
  apply BitVec.eq_of_toNat_eq
  exact pk_tn (BitVec.isLt _)
theorem st_S {s : State} {args : Array Value} {b L : Nat} {xs : Nat → Int32} (hL : L ≤ 260) (hX : va_X b L xs s s.heap) (hbl : b < s.heap.size) (hn : ∀ w ∈ flatC (Jvm.Cond.and given_1 narrow_1), w.before args s = true) (hts : ∀ w ∈ lw_tbl, w.before args s = true) : ∃ z : (Nat → Nat) × (Nat → Nat), rn_S z (fun q : Nat => s.heap.size ≤ q) s s.heap ∧ z.2 0 = b ∧ zN z = L := by
  have hA : ∀ a : Nat, a < s.heap.size → ¬ (fun q : Nat => s.heap.size ≤ q) a := fun a h => Nat.not_le.mpr h
  have K : ∀ j : Nat, ∃ at_ : Nat, ∀ q : String × Nat × String × List Int32, rn_str[j]? = some q → vk_R q.1 q.2.1 q.2.2.1 at_ s := by
    intro j
    cases hj : rn_str[j]? with
    | none => exact ⟨0, fun q hq => absurd hq (by simp)⟩
    | some q =>
      have hm : q ∈ rn_str := List.mem_of_getElem? hj
      obtain ⟨a, c, cell, k, e1, -⟩ := Cond.exactly_spec (args := args) (first := s) (o := none) (s := s) (idx := []) (hn _ (of_decide_eq_true (List.all_eq_true.mp st_exa q hm)))
      refine ⟨a, fun q' hq' => ?_⟩
      cases hq'
      exact vk_R.of (hts _ (of_decide_eq_true (List.all_eq_true.mp st_ref q hm))) e1
  obtain ⟨f, hf⟩ := Classical.axiomOfChoice K
  refine ⟨(f, fun i => match i with | 0 => b | 1 => L | n + 2 => (xs n).toBitVec.toNat), ⟨fun j q hq => ⟨hf j q hq, trivial⟩, ?_, trivial, ?_, ?_⟩, rfl, rfl⟩
  · obtain ⟨scr, h1, h2, h3, h4, h5⟩ := hX
    refine ⟨scr, h1, h2, h3, Nat.le_of_eq h4.symm, ?_, fun j hj => ?_, hA b hbl⟩
    · rw [h4]
      rfl
    · rw [h5 j hj]
      exact congrArg (fun v => some (Value.int v)) (i32_t (xs j)).symm
  · exact vx_Zqof (hts (.laysStatic Bundle.tN "UNASSIGNED_STACK" Bundle.steD) (by decide +kernel)) (hts (.initialized Bundle.tN) (by decide +kernel)) (hn (.isRef (.static Bundle.tN "UNASSIGNED_STACK" Bundle.steD)) (by decide +kernel)) hA
  · exact vx_Zqof (hts (.laysStatic Bundle.tN "SUPPRESSED_SENTINEL" Bundle.listD) (by decide +kernel)) (hts (.initialized Bundle.tN) (by decide +kernel)) (hn (.isRef (.static Bundle.tN "SUPPRESSED_SENTINEL" Bundle.listD)) (by decide +kernel)) hA
theorem st_xc {s : State} {args : Array Value} (hn : ∀ w ∈ flatC (Jvm.Cond.and given_1 narrow_1), w.before args s = true) (hts : ∀ w ∈ lw_tbl, w.before args s = true) : rn_xc s :=
  ⟨⟨va_Nw.of rfl (hts (.declares (Bundle.initS "java/lang/RuntimeException")) (by decide +kernel)), va_Nw.of rfl (hts (.declares (Bundle.initS "java/lang/Exception")) (by decide +kernel)), va_Nw.of rfl (hts (.declares (Bundle.initS "java/lang/Throwable")) (by decide +kernel))⟩,
   ⟨va_Nw.of (w := .castable (rn_ex 1) (rn_ex 1)) rfl (hts (.castable (rn_ex 1) (rn_ex 1)) (by decide +kernel)), va_Nw.of (w := .castable (rn_ex 2) (rn_ex 2)) rfl (hts (.castable (rn_ex 2) (rn_ex 2)) (by decide +kernel)), va_Nw.of (w := .castable (rn_ex 3) (rn_ex 3)) rfl (hts (.castable (rn_ex 3) (rn_ex 3)) (by decide +kernel))⟩,
   ⟨va_Nc.of (hn (.not (.castable (rn_ex 1) (rn_ex 2))) (by decide +kernel)), va_Nc.of (hn (.not (.castable (rn_ex 1) (rn_ex 3))) (by decide +kernel))⟩,
   ⟨va_Nc.of (hn (.not (.castable (rn_ex 2) (rn_ex 1))) (by decide +kernel)), va_Nc.of (hn (.not (.castable (rn_ex 2) (rn_ex 3))) (by decide +kernel))⟩,
   va_Nc.of (hn (.not (.castable (rn_ex 3) (rn_ex 1))) (by decide +kernel)), va_Nc.of (hn (.not (.castable (rn_ex 3) (rn_ex 2))) (by decide +kernel))⟩
theorem st_nc {s : State} {args : Array Value} (hts : ∀ w ∈ lw_tbl, w.before args s = true) : rn_nc s :=
  ⟨va_Nw.of rfl (hts (.methodLinkNest RX6 9 yX3_init "ReliefNet") (by decide +kernel)), va_Nw.of rfl (hts (.methodLinkNest RX6 25 yX2_init "ReliefNet") (by decide +kernel)), va_Nw.of rfl (hts (.methodLinkNest RX2 31 yX0_init "ReliefNet") (by decide +kernel)), va_Nw.of rfl (hts (.methodLinkNest RX2 38 yX5_init "ReliefNet") (by decide +kernel)), va_Nw.of rfl (hts (.methodLinkNest RX6 39 yX1_init "ReliefNet") (by decide +kernel)), va_AO.of (hts (.arrayOver (.object "ReliefNet$Net")) (by decide +kernel))⟩
theorem st_arr {s : State} {args : Array Value} {ty : FieldType} (h : (Cond.arrayClass ty).before args s = true) (hp : ∀ C, ty ≠ .object C) : ∃ cA : ClassId, ArrOfT s cA ty ∧ va_RA s cA ty := by
  obtain ⟨cA, kA, comp, h1, h2, h3⟩ := Cond.arrayClass_spec (args := args) (first := s) (o := none) (s := s) (idx := []) h
  refine ⟨cA, fun n z => ⟨fun k h => (by cases h), kA, h2, comp, h3⟩, ?_⟩
  cases ty with
  | object C => exact absurd rfl (hp C)
  | _ => exact h1
theorem st_arq {s : State} {args : Array Value} {C : String} (h : (Cond.arrayOver (.object C)).before args s = true) : ∃ cA : ClassId, ArrOfT s cA (.object C) ∧ va_RA s cA (.object C) := by
  obtain ⟨comp, cA, kA, h1, h2, h3, h4, h5⟩ := Cond.arrayOver_spec (args := args) (first := s) (o := none) (s := s) (idx := []) h
  exact ⟨cA, fun n z => ⟨fun k h => (by cases h), kA, h3, comp, h4⟩, kA, comp, h3, h4, h1, h5⟩
theorem st_K {s : State} {args : Array Value} (hts : ∀ w ∈ lw_tbl, w.before args s = true) : ∃ (D : va_G) (k : Nat → ClassId), va_K D vwCl (rn_ty k) s := by
  have hg : ∀ w ∈ rn_G, w.before args s = true := fun w h => hts w (List.mem_filter.mp h).1
  obtain ⟨c0, i0, h0⟩ := u_known hg gs_X0 (hts (.instantiable RX0 3) (by decide +kernel))
  obtain ⟨c1, i1, h1⟩ := u_known hg gs_X1 (hts (.instantiable RX1 2) (by decide +kernel))
  obtain ⟨c2, i2, h2⟩ := u_known hg gs_X2 (hts (.instantiable RX2 14) (by decide +kernel))
  obtain ⟨c3, i3, h3⟩ := u_known hg gs_X3 (hts (.instantiable RX3 8) (by decide +kernel))
  obtain ⟨c4, i4, h4⟩ := u_known hg gs_X4 (hts (.instantiable RX4 3) (by decide +kernel))
  obtain ⟨c5, i5, h5⟩ := u_known hg gs_X5 (hts (.instantiable RX5 4) (by decide +kernel))
  obtain ⟨c6, i6, h6⟩ := u_known hg gs_X6 (hts (.instantiable RX6 7) (by decide +kernel))
  obtain ⟨c7, i7, h7⟩ := u_known hg gs_L (hts (.instantiable RL 4) (by decide +kernel))
  obtain ⟨k0, a0⟩ := st_arr (hg _ gq_ai) (fun C => by simp)
  obtain ⟨k1, a1⟩ := st_arr (hg _ gq_al) (fun C => by simp)
  obtain ⟨k2, a2⟩ := st_arr (hg _ gq_ab) (fun C => by simp)
  obtain ⟨k4, a4⟩ := st_arq (hts (.arrayOver (.object "ReliefNet$Net")) (by decide +kernel))
  refine ⟨(fun c => match c with | 0 => c0 | 1 => c1 | 2 => c2 | 3 => c3 | 4 => c4 | 5 => c5 | 6 => c6 | _ => c7, fun c => match c with | 0 => i0 | 1 => i1 | 2 => i2 | 3 => i3 | 4 => i4 | 5 => i5 | 6 => i6 | _ => i7), (fun j => match j with | 0 => k0 | 1 => k1 | 2 => k2 | 3 => k0 | _ => k4), fun c q hq => ?_, fun j q hq => ?_⟩
  · rcases c with _ | _ | _ | _ | _ | _ | _ | _ | c
    · obtain rfl := Option.some.inj (show some (RX0, TX0, 3) = some q from hq)
      exact h0
    · obtain rfl := Option.some.inj (show some (RX1, TX1, 2) = some q from hq)
      exact h1
    · obtain rfl := Option.some.inj (show some (RX2, TX2, 14) = some q from hq)
      exact h2
    · obtain rfl := Option.some.inj (show some (RX3, TX3, 8) = some q from hq)
      exact h3
    · obtain rfl := Option.some.inj (show some (RX4, TX4, 3) = some q from hq)
      exact h4
    · obtain rfl := Option.some.inj (show some (RX5, TX5, 4) = some q from hq)
      exact h5
    · obtain rfl := Option.some.inj (show some (RX6, TX6, 7) = some q from hq)
      exact h6
    · obtain rfl := Option.some.inj (show some (RL, TL, 4) = some q from hq)
      exact h7
    · exact absurd (show c + 8 < 8 from (List.getElem?_eq_some_iff.mp hq).1) (by omega)
  · rcases j with _ | _ | _ | _ | _ | j
    · obtain rfl := Option.some.inj (show some (k0, FieldType.int) = some q from hq)
      exact a0
    · obtain rfl := Option.some.inj (show some (k1, FieldType.long) = some q from hq)
      exact a1
    · obtain rfl := Option.some.inj (show some (k2, FieldType.byte) = some q from hq)
      exact a2
    · obtain rfl := Option.some.inj (show some (k0, FieldType.int) = some q from hq)
      exact a0
    · obtain rfl := Option.some.inj (show some (k4, FieldType.object "ReliefNet$Net") = some q from hq)
      exact a4
    · exact absurd (show j + 5 < 5 from (List.getElem?_eq_some_iff.mp hq).1) (by omega)
theorem rn_X.dr {p : Program} {m : MethodId} {c : Code} {cc : ByteArray} {nL : Nat} {s : State} {args : Array Value} {own : String} {D : va_G} {k : Nat → ClassId} {z : (Nat → Nat) × (Nat → Nat)} {A : Nat → Prop} (X : rn_X p m c cc nL s args own D k z A) (d0 : Drawn) : rn_X p m c cc nL (s.setDrawn d0) args own D k z A :=
  ⟨⟨X.1.1, X.1.2.1, X.1.2.2.1, X.1.2.2.2.1, dr_words X.1.2.2.2.2 d0⟩, va_K.moved (u := s) (U := s.setDrawn d0) (Vm.Alike.refl s.vm) X.2.1, X.2.2.1, rn_S.same (u := s) (U := s.setDrawn d0) rfl X.2.2.2⟩
theorem rn_nc.dr {s : State} (h : rn_nc s) (d0 : Drawn) : rn_nc (s.setDrawn d0) := rn_nc.same (u := s) (U := s.setDrawn d0) rfl h
