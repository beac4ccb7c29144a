/-! the law: one step of the script, the loop (generated, wip/whole/gen/lawj.py) -/
theorem and63 (z : Int32) : ∃ w, w < 64 ∧ z &&& (63 : Int32) = nI w := by
  have e : z = nI z.toBitVec.toNat := by
    apply Int32.toBitVec_inj.mp
    show z.toBitVec = BitVec.ofNat 32 z.toBitVec.toNat
    rw [BitVec.ofNat_toNat, BitVec.setWidth_eq]
  refine ⟨z.toBitVec.toNat % 64, Nat.mod_lt _ (by decide), ?_⟩
  have h := nI_and (a := z.toBitVec.toNat) (b := 63) z.toBitVec.isLt (by decide)
  rw [← e] at h
  rw [show (63 : Int32) = nI 63 from rfl, h, show (63 : Nat) = 2 ^ 6 - 1 from rfl, Nat.and_two_pow_sub_one_eq_mod]
theorem vp_nI {a L : Nat} (h : a < L) (hL : L < 2 ^ 30) : vp_in (nI a) L := by
  unfold vp_in
  rw [nI_clamp (by omega)]
  rintro (r | r)
  · exact nI_pos (by omega) r
  · omega
set_option maxHeartbeats 4000000 in
set_option maxRecDepth 20000 in
theorem lg_disp {p : Program} {l : Launch} {e : Env} {s : State} {m : MethodId} {args : Array Value} {below : List Frame} {meth : Method} {c : Code} {Q : State → Prop} {D : va_G} {k : Nat → ClassId} {z : (Nat → Nat) × (Nat → Nat)} {A : Nat → Prop} {b L : Nat} {xs : Nat → Int32} {d0 : Drawn} (hd0 : s.drawn.sameBut d0 lw_cs) (X : rn_X p m c cL_law 9 s args RL D k z A) (hxc : rn_xc s) (hst : l.stackTraces = false) (hX : va_X b L xs s s.heap) (hbl : b < s.heap.size) (hbA : ¬ A b) {i : Int32} (hi : ∀ j : Int32, j ∈ [(1 : Int32), 2, 3, 4, 5] → vp_in (i + j) L) {cells slots : Nat} (hcs : cells + 16 ≤ room_1.cells ∧ slots + 1753 ≤ room_1.slots) {H : Heap} {locs : List Loc} {ls : Array Slot} (hnc : rn_nc s) {a_x a_m a_o t : Nat} (ht : t ≤ 90000) (hJ : lg_J D A s k a_x a_m a_o t H locs) (hl : lv_has ls 9 [(4, .int i), (0, .ref b), (1, .ref a_x), (2, .ref a_m), (3, .ref a_o)]) (hi0 : vp_in i L)
    (kk : ∀ (d1 : Drawn), s.drawn.sameBut d1 lw_cs → ∀ (H : Heap) (locs : List Loc) (ls : Array Slot), lg_J D A s k a_x a_m a_o (t + 73) H locs → lv_has ls 9 [(4, .int i), (0, .ref b), (1, .ref a_x), (2, .ref a_m), (3, .ref a_o)] → W p l e room_1 (s.setDrawn d1) m args below meth c H locs (cells + 16) (slots + 1753) Q (F0 m 2038 ls [])) : W p l e room_1 (s.setDrawn d0) m args below meth c H locs cells slots Q (F0 m 33 ls []) := by
  have hx := X.1.1
  have hb := X.1.2.1
  have hS := hJ.S
  refine lv_aload_n hx hb dL_law_33 rfl (lv_at hl 1 rfl) ?_
  refine lv_iload hx hb dL_law_34 (lv_at hl 0 rfl) ?_
  refine va_sld (s := s.setDrawn d0) (H0 := s.heap) hx hb hX hbl hbA hS hi0 dL_law_36 ?_
  refine lv_bipush (v := 63) hx hb dL_law_37 (by decide) ?_
  refine lv_iand hx hb dL_law_39 ?_
  obtain ⟨w, hw, ew⟩ := and63 (xs i.toNatClampNeg)
  rw [ew]
  rcases Nat.lt_or_ge 32 w with c | c
  · refine lv_tableOut (tgt := 2038) hx hb dL_law_40 (Or.inr (by rw [nI_toInt (by omega)]; omega)) (by decide) ?_
    exact W.widen (by omega) (by omega) (kk d0 hd0 H locs ls (hJ.mono (by omega) (by omega)) hl)
  · rcases (show w = 0 ∨ w = 1 ∨ w = 2 ∨ w = 3 ∨ w = 4 ∨ w = 5 ∨ w = 6 ∨ w = 7 ∨ w = 8 ∨ w = 9 ∨ w = 10 ∨ w = 11 ∨ w = 12 ∨ w = 13 ∨ w = 14 ∨ w = 15 ∨ w = 16 ∨ w = 17 ∨ w = 18 ∨ w = 19 ∨ w = 20 ∨ w = 21 ∨ w = 22 ∨ w = 23 ∨ w = 24 ∨ w = 25 ∨ w = 26 ∨ w = 27 ∨ w = 28 ∨ w = 29 ∨ w = 30 ∨ w = 31 ∨ w = 32 by omega) with rfl | rfl | rfl | rfl | rfl | rfl | rfl | rfl | rfl | rfl | rfl | rfl | rfl | rfl | rfl | rfl | rfl | rfl | rfl | rfl | rfl | rfl | rfl | rfl | rfl | rfl | rfl | rfl | rfl | rfl | rfl | rfl | rfl
    · refine lv_tableIn (off := 148) (tgt := 188) hx hb dL_law_40 (by decide) (by decide) rfl (by decide) ?_
      exact lg_appendText hd0 X hxc hst hX hbl hbA hi hcs hnc ht hJ hl kk
    · refine lv_tableIn (off := 204) (tgt := 244) hx hb dL_law_40 (by decide) (by decide) rfl (by decide) ?_
      exact lg_truncateText hd0 X hxc hst hX hbl hbA hi hcs hnc ht hJ hl kk
    · refine lv_tableIn (off := 260) (tgt := 300) hx hb dL_law_40 (by decide) (by decide) rfl (by decide) ?_
      exact lg_load hd0 X hxc hst hX hbl hbA hi hcs hnc ht hJ hl kk
    · refine lv_tableIn (off := 273) (tgt := 313) hx hb dL_law_40 (by decide) (by decide) rfl (by decide) ?_
      exact lg_errorCode hd0 X hxc hst hX hbl hbA hi hcs hnc ht hJ hl kk
    · refine lv_tableIn (off := 286) (tgt := 326) hx hb dL_law_40 (by decide) (by decide) rfl (by decide) ?_
      exact lg_errorPosition hd0 X hxc hst hX hbl hbA hi hcs hnc ht hJ hl kk
    · refine lv_tableIn (off := 299) (tgt := 339) hx hb dL_law_40 (by decide) (by decide) rfl (by decide) ?_
      exact lg_addStation hd0 X hxc hst hX hbl hbA hi hcs hnc ht hJ hl kk
    · refine lv_tableIn (off := 379) (tgt := 419) hx hb dL_law_40 (by decide) (by decide) rfl (by decide) ?_
      exact lg_addLink hd0 X hxc hst hX hbl hbA hi hcs hnc ht hJ hl kk
    · refine lv_tableIn (off := 483) (tgt := 523) hx hb dL_law_40 (by decide) (by decide) rfl (by decide) ?_
      exact lg_setStation hd0 X hxc hst hX hbl hbA hi hcs hnc ht hJ hl kk
    · refine lv_tableIn (off := 563) (tgt := 603) hx hb dL_law_40 (by decide) (by decide) rfl (by decide) ?_
      exact lg_setLink hd0 X hxc hst hX hbl hbA hi hcs hnc ht hJ hl kk
    · refine lv_tableIn (off := 643) (tgt := 683) hx hb dL_law_40 (by decide) (by decide) rfl (by decide) ?_
      exact lg_setRules hd0 X hxc hst hX hbl hbA hi hcs hnc ht hJ hl kk
    · refine lv_tableIn (off := 703) (tgt := 743) hx hb dL_law_40 (by decide) (by decide) rfl (by decide) ?_
      exact lg_station hd0 X hxc hst hX hbl hbA hi hcs hnc ht hJ hl kk
    · refine lv_tableIn (off := 771) (tgt := 811) hx hb dL_law_40 (by decide) (by decide) rfl (by decide) ?_
      exact lg_link hd0 X hxc hst hX hbl hbA hi hcs hnc ht hJ hl kk
    · refine lv_tableIn (off := 839) (tgt := 879) hx hb dL_law_40 (by decide) (by decide) rfl (by decide) ?_
      exact lg_count hd0 X hxc hst hX hbl hbA hi hcs hnc ht hJ hl kk
    · refine lv_tableIn (off := 895) (tgt := 935) hx hb dL_law_40 (by decide) (by decide) rfl (by decide) ?_
      exact lg_way hd0 X hxc hst hX hbl hbA hi hcs hnc ht hJ hl kk
    · refine lv_tableIn (off := 987) (tgt := 1027) hx hb dL_law_40 (by decide) (by decide) rfl (by decide) ?_
      exact lg_reachable hd0 X hxc hst hX hbl hbA hi hcs hnc ht hJ hl kk
    · refine lv_tableIn (off := 1000) (tgt := 1040) hx hb dL_law_40 (by decide) (by decide) rfl (by decide) ?_
      exact lg_keyStation hd0 X hxc hst hX hbl hbA hi hcs hnc ht hJ hl kk
    · refine lv_tableIn (off := 1013) (tgt := 1053) hx hb dL_law_40 (by decide) (by decide) rfl (by decide) ?_
      exact lg_send hd0 X hxc hst hX hbl hbA hi hcs hnc ht hJ hl kk
    · refine lv_tableIn (off := 1093) (tgt := 1133) hx hb dL_law_40 (by decide) (by decide) rfl (by decide) ?_
      exact lg_setPriority hd0 X hxc hst hX hbl hbA hi hcs hnc ht hJ hl kk
    · refine lv_tableIn (off := 1161) (tgt := 1201) hx hb dL_law_40 (by decide) (by decide) rfl (by decide) ?_
      exact lg_takeBack hd0 X hxc hst hX hbl hbA hi hcs hnc ht hJ hl kk
    · refine lv_tableIn (off := 1217) (tgt := 1257) hx hb dL_law_40 (by decide) (by decide) rfl (by decide) ?_
      exact lg_message hd0 X hxc hst hX hbl hbA hi hcs hnc ht hJ hl kk
    · refine lv_tableIn (off := 1285) (tgt := 1325) hx hb dL_law_40 (by decide) (by decide) rfl (by decide) ?_
      exact lg_copy hd0 X hxc hst hX hbl hbA hi hcs hnc ht hJ hl kk
    · refine lv_tableIn (off := 1365) (tgt := 1405) hx hb dL_law_40 (by decide) (by decide) rfl (by decide) ?_
      exact lg_path hd0 X hxc hst hX hbl hbA hi hcs hnc ht hJ hl kk
    · refine lv_tableIn (off := 1445) (tgt := 1485) hx hb dL_law_40 (by decide) (by decide) rfl (by decide) ?_
      exact lg_sends hd0 X hxc hst hX hbl hbA hi hcs hnc ht hJ hl kk
    · refine lv_tableIn (off := 1513) (tgt := 1553) hx hb dL_law_40 (by decide) (by decide) rfl (by decide) ?_
      exact lg_run hd0 X hxc hst hX hbl hbA hi hcs hnc ht hJ hl kk
    · refine lv_tableIn (off := 1569) (tgt := 1609) hx hb dL_law_40 (by decide) (by decide) rfl (by decide) ?_
      exact lg_stateAfter hd0 X hxc hst hX hbl hbA hi hcs hnc ht hJ hl kk
    · refine lv_tableIn (off := 1637) (tgt := 1677) hx hb dL_law_40 (by decide) (by decide) rfl (by decide) ?_
      exact lg_hoursTo hd0 X hxc hst hX hbl hbA hi hcs hnc ht hJ hl kk
    · refine lv_tableIn (off := 1693) (tgt := 1733) hx hb dL_law_40 (by decide) (by decide) rfl (by decide) ?_
      exact lg_meanHours hd0 X hxc hst hX hbl hbA hi hcs hnc ht hJ hl kk
    · refine lv_tableIn (off := 1734) (tgt := 1774) hx hb dL_law_40 (by decide) (by decide) rfl (by decide) ?_
      exact lg_lossRate hd0 X hxc hst hX hbl hbA hi hcs hnc ht hJ hl kk
    · refine lv_tableIn (off := 1777) (tgt := 1817) hx hb dL_law_40 (by decide) (by decide) rfl (by decide) ?_
      exact lg_event hd0 X hxc hst hX hbl hbA hi hcs hnc ht hJ hl kk
    · refine lv_tableIn (off := 1845) (tgt := 1885) hx hb dL_law_40 (by decide) (by decide) rfl (by decide) ?_
      exact lg_write hd0 X hxc hst hX hbl hbA hi hcs hnc ht hJ hl kk
    · refine lv_tableIn (off := 1901) (tgt := 1941) hx hb dL_law_40 (by decide) (by decide) rfl (by decide) ?_
      exact lg_output hd0 X hxc hst hX hbl hbA hi hcs hnc ht hJ hl kk
    · refine lv_tableIn (off := 1926) (tgt := 1966) hx hb dL_law_40 (by decide) (by decide) rfl (by decide) ?_
      exact lg_save hd0 X hxc hst hX hbl hbA hi hcs hnc ht hJ hl kk
    · refine lv_tableIn (off := 1962) (tgt := 2002) hx hb dL_law_40 (by decide) (by decide) rfl (by decide) ?_
      exact lg_restore hd0 X hxc hst hX hbl hbA hi hcs hnc ht hJ hl kk
