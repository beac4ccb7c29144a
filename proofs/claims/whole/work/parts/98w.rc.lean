/-! the law's loop -/
theorem cmp6 {L j : Nat} (hL : L ≤ 3072) (hj : 6 * j ≤ L) : (Int32.ofNat L - (6 : Int32) < nI (6 * j)) ↔ L < 6 * j + 6 := by
  rcases Nat.lt_or_ge L 6 with c | c
  · have hj0 : j = 0 := by omega
    subst hj0
    rcases (show L = 0 ∨ L = 1 ∨ L = 2 ∨ L = 3 ∨ L = 4 ∨ L = 5 by omega) with rfl | rfl | rfl | rfl | rfl | rfl <;> decide
  · have e : Int32.ofNat L - (6 : Int32) = nI (L - 6) := by
      show nI L - nI 6 = _
      rw [show L = (L - 6) + 6 by omega, ← nI_add, Nat.add_sub_cancel]
      exact Int32.add_sub_cancel _ _
    rw [e]
    constructor
    · intro h
      rcases Nat.lt_or_ge L (6 * j + 6) with d | d
      · exact d
      · exact absurd h (nI_nlt (by omega) (by omega))
    · intro h
      exact nI_lt (by omega) (by omega)
theorem lg_loop {p : Program} {l : Launch} {e : Env} {s : State} {m : MethodId} {below : List Frame} {meth : Method} {c : Code} {D : va_G} {k : Nat → ClassId} {z : (Nat → Nat) × (Nat → Nat)} {b L : Nat} {xs : Nat → Int32}
    (X : rn_X p m c cL_law 9 s #[Value.ref b] RL D k z (fun q : Nat => s.heap.size ≤ q)) (hxc : rn_xc s) (hnc : rn_nc s) (hst : l.stackTraces = false) (hX : va_X b L xs s s.heap) (hbl : b < s.heap.size) (hL : L ≤ 3072) (hcode : c.code = code) (hr : meth.sig.returnType = ret) (hlocks : meth.locks = false) (a_x a_m a_o : Nat) :
    ∀ (r j : Nat) (d0 : Drawn) (cells slots : Nat) (H : Heap) (locs : List Loc) (ls : Array Slot), s.drawn.sameBut d0 lw_cs → L < 6 * j + 6 * r → 6 * j ≤ L → cells ≤ 60 + 16 * j → slots ≤ 30000 + 1753 * j → lg_J D (fun q : Nat => s.heap.size ≤ q) s k a_x a_m a_o (73 * j) H locs → lv_has ls 9 [(4, .int (nI (6 * j))), (0, .ref b), (1, .ref a_x), (2, .ref a_m), (3, .ref a_o)] →
    W p l e room_1 (s.setDrawn d0) m #[Value.ref b] below meth c H locs cells slots (lw_Z below #[Value.ref b] s) (F0 m 23 ls []) := by
  have hx := X.1.1
  have hb := X.1.2.1
  have hbA : ¬ (fun q : Nat => s.heap.size ≤ q) b := Nat.not_le.mpr hbl
  intro r
  induction r with
  | zero => intro j d0 cells slots H locs ls _ h1 h2; omega
  | succ r ih =>
    intro j d0 cells slots H locs ls hd0 h1 h2 hc hs hJ hl
    have hS := hJ.S
    refine lv_iload hx hb dL_law_23 (lv_at hl 0 rfl) ?_
    refine lv_aload_n hx hb dL_law_25 rfl (lv_at hl 1 rfl) ?_
    refine va_slen (s := s.setDrawn d0) (H0 := s.heap) hx hb hX hbl hbA hS dL_law_26 ?_
    refine lv_bipush (v := 6) hx hb dL_law_27 (by decide) ?_
    refine lv_isub hx hb dL_law_29 ?_
    refine lv_icmp_gt (tgt := 2044) hx hb dL_law_30 (by decide) (fun _ => ?_) (fun h => ?_)
    · refine lv_iconst (v := 1) hx hb dL_law_2044 (by decide) ?_
      refine va_forget (fun q hq => hS.2.2 q hq) ?_
      refine W.widen (k := 601024) (n := 7293034) (by omega) (by omega) ?_
      exact lw_ret hd0 hx hcode hr hlocks dL_law_2045
    · have h6 : 6 * j + 6 ≤ L := by
        rcases Nat.lt_or_ge L (6 * j + 6) with d | d
        · exact absurd ((cmp6 hL h2).mpr d) h
        · exact d
      refine lg_disp hd0 X hxc hst hX hbl hbA (i := nI (6 * j)) (fun q hq => ?_) ⟨?_, ?_⟩ hnc (by omega) hJ hl (vp_nI (by omega) (by omega)) (fun d1 hd1 H locs ls hJ hl => ?_)
      · simp only [List.mem_cons, List.not_mem_nil, or_false] at hq
        rcases hq with rfl | rfl | rfl | rfl | rfl
        · show vp_in (nI (6 * j) + nI 1) L
          rw [nI_add]
          exact vp_nI (by omega) (by omega)
        · show vp_in (nI (6 * j) + nI 2) L
          rw [nI_add]
          exact vp_nI (by omega) (by omega)
        · show vp_in (nI (6 * j) + nI 3) L
          rw [nI_add]
          exact vp_nI (by omega) (by omega)
        · show vp_in (nI (6 * j) + nI 4) L
          rw [nI_add]
          exact vp_nI (by omega) (by omega)
        · show vp_in (nI (6 * j) + nI 5) L
          rw [nI_add]
          exact vp_nI (by omega) (by omega)
      · show cells + 16 ≤ 601024
        omega
      · show slots + 1753 ≤ 7293034
        omega
      · refine lv_iinc (v := nI (6 * (j + 1))) (k := 0) (lv' := [(4, .int (nI (6 * (j + 1)))), (0, .ref b), (1, .ref a_x), (2, .ref a_m), (3, .ref a_o)]) hx hb dL_law_2038 hl rfl (by show nI (6 * j) + nI 6 = _; rw [nI_add]; rfl) (by decide) rfl (fun ls hl => ?_)
        refine lv_goto (tgt := 23) hx hb dL_law_2041 (by decide) ?_
        exact ih (j + 1) d1 (cells + 16) (slots + 1753) H locs ls hd1 (by omega) (by omega) (by omega) (by omega) (by rw [show 73 * (j + 1) = 73 * j + 73 by omega]; exact hJ) hl
