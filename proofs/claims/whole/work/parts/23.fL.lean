/-! the law's wrappers (generated, wip/whole/gen/wrap.py) -/
theorem rn_in01 : vp_in (0 : Int32) 1 := vp_in_iff.mpr (by decide)
def fL_appendText (N : Nat) (c_p0_setup_length : Int32) (c_p0_setup_text : Nat → Int32) (c_p2 : Nat → Int64) (i1 : Int32) : Option (Int32 × Int32 × (Nat → Int32) × (Nat → Int64)) :=
  (fX6_appendText N c_p0_setup_length c_p0_setup_text i1).bind fun t1 =>
  if t1.1 = 0 then
    rn_let (vp_updL c_p2 (0 : Int32).toNatClampNeg t1.2.1.toInt64) fun w1 =>
    some ((0 : Int32), t1.2.2.1, t1.2.2.2, w1)
  else
  if t1.1 = 2 then
    some ((1 : Int32), t1.2.2.1, t1.2.2.2, c_p2)
  else
  none
set_option maxHeartbeats 4000000 in
set_option maxRecDepth 20000 in
theorem kL_appendText (l : Launch) (D : va_G) (k : Nat → ClassId) (z : (Nat → Nat) × (Nat → Nat)) (N : Nat) (a_p0 : Nat) (a_p2 : Nat) (a_p0_setup : Nat) (a_p0_net : Nat) (a_p0_trial : Nat) (a_p0_saved : Nat) (a_p0_line : Nat) (a_p0_setup_text : Nat) (c_p0_latestError : Int32) (c_p0_latestErrorPosition : Int32) (c_p0_setup_length : Int32) (c_p0_setup_kind : Int32) (c_p0_setup_start : Int32) (c_p0_setup_end : Int32) (c_p0_setup_value : Int32) (c_p0_setup_error : Int32) (c_p0_setup_errorStart : Int32) (c_p0_setup_text : Nat → Int32) (c_p2 : Nat → Int64) (i1 : Int32) {u : Int32 × Int32 × (Nat → Int32) × (Nat → Int64)} (hf : fL_appendText N c_p0_setup_length c_p0_setup_text c_p2 i1 = some u) : rn_KW l D k z yL_appendText cL_appendText 4 hhL_appendText 7 104 [.ref a_p0, .int i1, .ref a_p2] [(a_p0, .inr (6, [.ref a_p0_setup, .int c_p0_latestError, .int c_p0_latestErrorPosition, .ref a_p0_net, .ref a_p0_trial, .ref a_p0_saved, .ref a_p0_line])), (a_p0_setup, .inr (3, [.ref a_p0_setup_text, .int c_p0_setup_length, .int c_p0_setup_kind, .int c_p0_setup_start, .int c_p0_setup_end, .int c_p0_setup_value, .int c_p0_setup_error, .int c_p0_setup_errorStart])), (a_p0_setup_text, .inl (k 2, 700, .inl c_p0_setup_text)), (a_p2, .inl (k 1, 1, .inr (.inl c_p2)))] [(a_p0, .inr (6, [.ref a_p0_setup, .int c_p0_latestError, .int c_p0_latestErrorPosition, .ref a_p0_net, .ref a_p0_trial, .ref a_p0_saved, .ref a_p0_line])), (a_p0_setup, .inr (3, [.ref a_p0_setup_text, .int u.2.1, .int c_p0_setup_kind, .int c_p0_setup_start, .int c_p0_setup_end, .int c_p0_setup_value, .int c_p0_setup_error, .int c_p0_setup_errorStart])), (a_p0_setup_text, .inl (k 2, 700, .inl u.2.2.1)), (a_p2, .inl (k 1, 1, .inr (.inl u.2.2.2)))] u.1 := by
  refine rn_KW.go (LOC := [(0, .ref a_p0), (1, .int i1), (2, .ref a_p2)]) rfl (by decide) (Nat.le_of_ble_eq_true rfl) rfl ?_
  intro p e s m args below meth c A ls R Q hst hxc htab X hR hE hW hl
  have hx := X.1.1
  have hb := X.1.2.1
  have hts := X.1.2.2.2.2
  unfold fL_appendText at hf
  obtain ⟨t1, ht1, hf⟩ := rn_bind hf
  refine lv_aload_n hx hb dL_appendText_0 rfl (lv_at hl 2 rfl) ?_
  refine lv_iconst (v := 0) hx hb dL_appendText_1 (by decide) ?_
  refine lv_aload_n hx hb dL_appendText_2 rfl (lv_at hl 0 rfl) ?_
  refine lv_iload_n hx hb dL_appendText_3 rfl (lv_at hl 1 rfl) ?_
  refine rr_xcallI (As := [.int i1]) (rest := [.int (0 : Int32), .ref a_p2]) X hxc hst hW (kX6_appendText l D k z N a_p0 a_p0_setup a_p0_net a_p0_trial a_p0_saved a_p0_line a_p0_setup_text c_p0_latestError c_p0_latestErrorPosition c_p0_setup_length c_p0_setup_kind c_p0_setup_start c_p0_setup_end c_p0_setup_value c_p0_setup_error c_p0_setup_errorStart c_p0_setup_text i1 ht1) gm_X6_appendText gl_L_7 [0, 1, 2] [3] [(a_p0, .inr (6, [.ref a_p0_setup, .int c_p0_latestError, .int c_p0_latestErrorPosition, .ref a_p0_net, .ref a_p0_trial, .ref a_p0_saved, .ref a_p0_line])), (a_p0_setup, .inr (3, [.ref a_p0_setup_text, .int t1.2.2.1, .int c_p0_setup_kind, .int c_p0_setup_start, .int c_p0_setup_end, .int c_p0_setup_value, .int c_p0_setup_error, .int c_p0_setup_errorStart])), (a_p0_setup_text, .inl (k 2, 700, .inl t1.2.2.2)), (a_p2, .inl (k 1, 1, .inr (.inl c_p2)))] rfl rfl rfl rfl ⟨rfl, rfl, rn_Bw (wr := [(a_p2, .inl (k 1, 1, .inr (.inl c_p2)))]) rfl rfl, rfl, rfl⟩ (rn_rT hR rfl) (rn_cs1 hR) hl.1 rfl (Nat.le_of_ble_eq_true rfl) dL_appendText_4 (fun hk H locs q9 ce hW hq9 hv hcl => ?_) (fun hk hn H locs hW => ?_)
  · replace hf := rn_f hf hk
    by_cases hk0 : t1.1 = 2
    · replace hf := rn_t hf hk0
      rw [hk0] at hcl
      refine vx_catch (name := rn_ex 2) X.1.2.2.2.1 [] (⟨0, 9, 12, 13⟩ : ExceptionTableEntry) [] (htab.trans rfl) (fun z hz => nomatch hz) (by decide) (by decide) (hts _ qc_2) (va_any rfl hxc.2.1.2.1) hq9 hv hcl ?_
      refine lv_astore_n (lv' := [(3, .ref q9), (0, .ref a_p0), (1, .int i1), (2, .ref a_p2)]) hx hb dL_appendText_12 rfl hl (Nat.le_of_ble_eq_true rfl) rfl (fun ls hl => ?_)
      refine lv_iconst (v := 1) hx hb dL_appendText_13 (by decide) ?_
      cases hf
      exact hE _ _ _ _ hW dL_appendText_14
    replace hf := rn_f hf hk0
    cases hf
  · replace hf := rn_t hf hk
    refine lv_i2l (v := t1.2.1.toInt64) hx hb dL_appendText_7 rfl ?_
    obtain ⟨w1, hw1, hf⟩ := rn_let_s hf
    refine rr_last' X hW 3 rfl rn_in01 hw1 (ws' := [(a_p0, .inr (6, [.ref a_p0_setup, .int c_p0_latestError, .int c_p0_latestErrorPosition, .ref a_p0_net, .ref a_p0_trial, .ref a_p0_saved, .ref a_p0_line])), (a_p0_setup, .inr (3, [.ref a_p0_setup_text, .int t1.2.2.1, .int c_p0_setup_kind, .int c_p0_setup_start, .int c_p0_setup_end, .int c_p0_setup_value, .int c_p0_setup_error, .int c_p0_setup_errorStart])), (a_p0_setup_text, .inl (k 2, 700, .inl t1.2.2.2)), (a_p2, .inl (k 1, 1, .inr (.inl w1)))]) rfl dL_appendText_8 (fun H locs hW => ?_)
    refine lv_goto (tgt := 15) hx hb dL_appendText_9 (by decide) ?_
    refine lv_iconst (v := 0) hx hb dL_appendText_15 (by decide) ?_
    cases hf
    exact hE _ _ _ _ hW dL_appendText_16
def fL_truncateText (c_p0_setup_length : Int32) (c_p2 : Nat → Int64) (i1 : Int32) : Option (Int32 × Int32 × (Nat → Int64)) :=
  (fX6_truncateText c_p0_setup_length i1).bind fun t1 =>
  if t1.1 = 0 then
    rn_let (vp_updL c_p2 (0 : Int32).toNatClampNeg t1.2.1.toInt64) fun w1 =>
    some ((0 : Int32), t1.2.2, w1)
  else
  if t1.1 = 1 then
    some ((1 : Int32), t1.2.2, c_p2)
  else
  none
set_option maxHeartbeats 4000000 in
set_option maxRecDepth 20000 in
theorem kL_truncateText (l : Launch) (D : va_G) (k : Nat → ClassId) (z : (Nat → Nat) × (Nat → Nat)) (a_p0 : Nat) (a_p2 : Nat) (a_p0_setup : Nat) (a_p0_net : Nat) (a_p0_trial : Nat) (a_p0_saved : Nat) (a_p0_line : Nat) (a_p0_setup_text : Nat) (c_p0_latestError : Int32) (c_p0_latestErrorPosition : Int32) (c_p0_setup_length : Int32) (c_p0_setup_kind : Int32) (c_p0_setup_start : Int32) (c_p0_setup_end : Int32) (c_p0_setup_value : Int32) (c_p0_setup_error : Int32) (c_p0_setup_errorStart : Int32) (c_p2 : Nat → Int64) (i1 : Int32) {u : Int32 × Int32 × (Nat → Int64)} (hf : fL_truncateText c_p0_setup_length c_p2 i1 = some u) : rn_KW l D k z yL_truncateText cL_truncateText 4 hhL_truncateText 7 103 [.ref a_p0, .int i1, .ref a_p2] [(a_p0, .inr (6, [.ref a_p0_setup, .int c_p0_latestError, .int c_p0_latestErrorPosition, .ref a_p0_net, .ref a_p0_trial, .ref a_p0_saved, .ref a_p0_line])), (a_p0_setup, .inr (3, [.ref a_p0_setup_text, .int c_p0_setup_length, .int c_p0_setup_kind, .int c_p0_setup_start, .int c_p0_setup_end, .int c_p0_setup_value, .int c_p0_setup_error, .int c_p0_setup_errorStart])), (a_p2, .inl (k 1, 1, .inr (.inl c_p2)))] [(a_p0, .inr (6, [.ref a_p0_setup, .int c_p0_latestError, .int c_p0_latestErrorPosition, .ref a_p0_net, .ref a_p0_trial, .ref a_p0_saved, .ref a_p0_line])), (a_p0_setup, .inr (3, [.ref a_p0_setup_text, .int u.2.1, .int c_p0_setup_kind, .int c_p0_setup_start, .int c_p0_setup_end, .int c_p0_setup_value, .int c_p0_setup_error, .int c_p0_setup_errorStart])), (a_p2, .inl (k 1, 1, .inr (.inl u.2.2)))] u.1 := by
  refine rn_KW.go (LOC := [(0, .ref a_p0), (1, .int i1), (2, .ref a_p2)]) rfl (by decide) (Nat.le_of_ble_eq_true rfl) rfl ?_
  intro p e s m args below meth c A ls R Q hst hxc htab X hR hE hW hl
  have hx := X.1.1
  have hb := X.1.2.1
  have hts := X.1.2.2.2.2
  unfold fL_truncateText at hf
  obtain ⟨t1, ht1, hf⟩ := rn_bind hf
  refine lv_aload_n hx hb dL_truncateText_0 rfl (lv_at hl 2 rfl) ?_
  refine lv_iconst (v := 0) hx hb dL_truncateText_1 (by decide) ?_
  refine lv_aload_n hx hb dL_truncateText_2 rfl (lv_at hl 0 rfl) ?_
  refine lv_iload_n hx hb dL_truncateText_3 rfl (lv_at hl 1 rfl) ?_
  refine rr_xcallI (As := [.int i1]) (rest := [.int (0 : Int32), .ref a_p2]) X hxc hst hW (kX6_truncateText l D k z a_p0 a_p0_setup a_p0_net a_p0_trial a_p0_saved a_p0_line a_p0_setup_text c_p0_latestError c_p0_latestErrorPosition c_p0_setup_length c_p0_setup_kind c_p0_setup_start c_p0_setup_end c_p0_setup_value c_p0_setup_error c_p0_setup_errorStart i1 ht1) gm_X6_truncateText gl_L_15 [0, 1] [2] [(a_p0, .inr (6, [.ref a_p0_setup, .int c_p0_latestError, .int c_p0_latestErrorPosition, .ref a_p0_net, .ref a_p0_trial, .ref a_p0_saved, .ref a_p0_line])), (a_p0_setup, .inr (3, [.ref a_p0_setup_text, .int t1.2.2, .int c_p0_setup_kind, .int c_p0_setup_start, .int c_p0_setup_end, .int c_p0_setup_value, .int c_p0_setup_error, .int c_p0_setup_errorStart])), (a_p2, .inl (k 1, 1, .inr (.inl c_p2)))] rfl rfl rfl rfl ⟨rfl, rfl, rn_Bw (wr := [(a_p2, .inl (k 1, 1, .inr (.inl c_p2)))]) rfl rfl, rfl, rfl⟩ (rn_rT hR rfl) (rn_cs1 hR) hl.1 rfl (Nat.le_of_ble_eq_true rfl) dL_truncateText_4 (fun hk H locs q9 ce hW hq9 hv hcl => ?_) (fun hk hn H locs hW => ?_)
  · replace hf := rn_f hf hk
    by_cases hk0 : t1.1 = 1
    · replace hf := rn_t hf hk0
      rw [hk0] at hcl
      refine vx_catch (name := rn_ex 1) X.1.2.2.2.1 [] (⟨0, 9, 12, 18⟩ : ExceptionTableEntry) [] (htab.trans rfl) (fun z hz => nomatch hz) (by decide) (by decide) (hts _ qc_1) (va_any rfl hxc.2.1.1) hq9 hv hcl ?_
      refine lv_astore_n (lv' := [(3, .ref q9), (0, .ref a_p0), (1, .int i1), (2, .ref a_p2)]) hx hb dL_truncateText_12 rfl hl (Nat.le_of_ble_eq_true rfl) rfl (fun ls hl => ?_)
      refine lv_iconst (v := 1) hx hb dL_truncateText_13 (by decide) ?_
      cases hf
      exact hE _ _ _ _ hW dL_truncateText_14
    replace hf := rn_f hf hk0
    cases hf
  · replace hf := rn_t hf hk
    refine lv_i2l (v := t1.2.1.toInt64) hx hb dL_truncateText_7 rfl ?_
    obtain ⟨w1, hw1, hf⟩ := rn_let_s hf
    refine rr_last' X hW 2 rfl rn_in01 hw1 (ws' := [(a_p0, .inr (6, [.ref a_p0_setup, .int c_p0_latestError, .int c_p0_latestErrorPosition, .ref a_p0_net, .ref a_p0_trial, .ref a_p0_saved, .ref a_p0_line])), (a_p0_setup, .inr (3, [.ref a_p0_setup_text, .int t1.2.2, .int c_p0_setup_kind, .int c_p0_setup_start, .int c_p0_setup_end, .int c_p0_setup_value, .int c_p0_setup_error, .int c_p0_setup_errorStart])), (a_p2, .inl (k 1, 1, .inr (.inl w1)))]) rfl dL_truncateText_8 (fun H locs hW => ?_)
    refine lv_goto (tgt := 15) hx hb dL_truncateText_9 (by decide) ?_
    refine lv_iconst (v := 0) hx hb dL_truncateText_15 (by decide) ?_
    cases hf
    exact hE _ _ _ _ hW dL_truncateText_16
def fL_addStation (c_p0_net_stationCount : Int32) (c_p0_net_stations : Nat → Int32) (c_p4 : Nat → Int64) (i1 : Int32) (i2 : Int32) (i3 : Int32) : Option (Int32 × Int32 × (Nat → Int32) × (Nat → Int64)) :=
  (fX6_addStation c_p0_net_stationCount c_p0_net_stations i1 i2 i3).bind fun t1 =>
  if t1.1 = 0 then
    rn_let (vp_updL c_p4 (0 : Int32).toNatClampNeg t1.2.1.toInt64) fun w1 =>
    some ((0 : Int32), t1.2.2.1, t1.2.2.2, w1)
  else
  if t1.1 = 1 then
    some ((1 : Int32), t1.2.2.1, t1.2.2.2, c_p4)
  else
  if t1.1 = 2 then
    some ((2 : Int32), t1.2.2.1, t1.2.2.2, c_p4)
  else
  none
set_option maxHeartbeats 4000000 in
set_option maxRecDepth 20000 in
theorem kL_addStation (l : Launch) (D : va_G) (k : Nat → ClassId) (z : (Nat → Nat) × (Nat → Nat)) (a_p0 : Nat) (a_p4 : Nat) (a_p0_setup : Nat) (a_p0_net : Nat) (a_p0_trial : Nat) (a_p0_saved : Nat) (a_p0_line : Nat) (a_p0_net_stations : Nat) (a_p0_net_links : Nat) (a_p0_net_messages : Nat) (a_p0_net_copies : Nat) (a_p0_net_log : Nat) (a_p0_net_ways : Nat) (a_p0_net_frames : Nat) (a_p0_net_stations_cells : Nat) (c_p0_latestError : Int32) (c_p0_latestErrorPosition : Int32) (c_p0_net_stationCount : Int32) (c_p0_net_linkCount : Int32) (c_p0_net_messageCount : Int32) (c_p0_net_time : Int32) (c_p0_net_life : Int32) (c_p0_net_tries : Int32) (c_p0_net_x : Int32) (c_p0_net_stations : Nat → Int32) (c_p4 : Nat → Int64) (i1 : Int32) (i2 : Int32) (i3 : Int32) {u : Int32 × Int32 × (Nat → Int32) × (Nat → Int64)} (hf : fL_addStation c_p0_net_stationCount c_p0_net_stations c_p4 i1 i2 i3 = some u) : rn_KW l D k z yL_addStation cL_addStation 6 hhL_addStation 7 105 [.ref a_p0, .int i1, .int i2, .int i3, .ref a_p4] [(a_p0, .inr (6, [.ref a_p0_setup, .int c_p0_latestError, .int c_p0_latestErrorPosition, .ref a_p0_net, .ref a_p0_trial, .ref a_p0_saved, .ref a_p0_line])), (a_p0_net, .inr (2, [.ref a_p0_net_stations, .ref a_p0_net_links, .ref a_p0_net_messages, .ref a_p0_net_copies, .ref a_p0_net_log, .ref a_p0_net_ways, .ref a_p0_net_frames, .int c_p0_net_stationCount, .int c_p0_net_linkCount, .int c_p0_net_messageCount, .int c_p0_net_time, .int c_p0_net_life, .int c_p0_net_tries, .int c_p0_net_x])), (a_p0_net_stations, .inr (4, [.int (8 : Int32), .int (10 : Int32), .ref a_p0_net_stations_cells])), (a_p0_net_stations_cells, .inl (k 0, 80, .inl c_p0_net_stations)), (a_p4, .inl (k 1, 1, .inr (.inl c_p4)))] [(a_p0, .inr (6, [.ref a_p0_setup, .int c_p0_latestError, .int c_p0_latestErrorPosition, .ref a_p0_net, .ref a_p0_trial, .ref a_p0_saved, .ref a_p0_line])), (a_p0_net, .inr (2, [.ref a_p0_net_stations, .ref a_p0_net_links, .ref a_p0_net_messages, .ref a_p0_net_copies, .ref a_p0_net_log, .ref a_p0_net_ways, .ref a_p0_net_frames, .int u.2.1, .int c_p0_net_linkCount, .int c_p0_net_messageCount, .int c_p0_net_time, .int c_p0_net_life, .int c_p0_net_tries, .int c_p0_net_x])), (a_p0_net_stations, .inr (4, [.int (8 : Int32), .int (10 : Int32), .ref a_p0_net_stations_cells])), (a_p0_net_stations_cells, .inl (k 0, 80, .inl u.2.2.1)), (a_p4, .inl (k 1, 1, .inr (.inl u.2.2.2)))] u.1 := by
  refine rn_KW.go (LOC := [(0, .ref a_p0), (1, .int i1), (2, .int i2), (3, .int i3), (4, .ref a_p4)]) rfl (by decide) (Nat.le_of_ble_eq_true rfl) rfl ?_
  intro p e s m args below meth c A ls R Q hst hxc htab X hR hE hW hl
  have hx := X.1.1
  have hb := X.1.2.1
  have hts := X.1.2.2.2.2
  unfold fL_addStation at hf
  obtain ⟨t1, ht1, hf⟩ := rn_bind hf
  refine lv_aload hx hb dL_addStation_0 (lv_at hl 4 rfl) ?_
  refine lv_iconst (v := 0) hx hb dL_addStation_2 (by decide) ?_
  refine lv_aload_n hx hb dL_addStation_3 rfl (lv_at hl 0 rfl) ?_
  refine lv_iload_n hx hb dL_addStation_4 rfl (lv_at hl 1 rfl) ?_
  refine lv_iload_n hx hb dL_addStation_5 rfl (lv_at hl 2 rfl) ?_
  refine lv_iload_n hx hb dL_addStation_6 rfl (lv_at hl 3 rfl) ?_
  refine rr_xcallI (As := [.int i1, .int i2, .int i3]) (rest := [.int (0 : Int32), .ref a_p4]) X hxc hst hW (kX6_addStation l D k z a_p0 a_p0_setup a_p0_net a_p0_trial a_p0_saved a_p0_line a_p0_net_stations a_p0_net_links a_p0_net_messages a_p0_net_copies a_p0_net_log a_p0_net_ways a_p0_net_frames a_p0_net_stations_cells c_p0_latestError c_p0_latestErrorPosition c_p0_net_stationCount c_p0_net_linkCount c_p0_net_messageCount c_p0_net_time c_p0_net_life c_p0_net_tries c_p0_net_x c_p0_net_stations i1 i2 i3 ht1) gm_X6_addStation gl_L_20 [0, 1, 2, 3] [4] [(a_p0, .inr (6, [.ref a_p0_setup, .int c_p0_latestError, .int c_p0_latestErrorPosition, .ref a_p0_net, .ref a_p0_trial, .ref a_p0_saved, .ref a_p0_line])), (a_p0_net, .inr (2, [.ref a_p0_net_stations, .ref a_p0_net_links, .ref a_p0_net_messages, .ref a_p0_net_copies, .ref a_p0_net_log, .ref a_p0_net_ways, .ref a_p0_net_frames, .int t1.2.2.1, .int c_p0_net_linkCount, .int c_p0_net_messageCount, .int c_p0_net_time, .int c_p0_net_life, .int c_p0_net_tries, .int c_p0_net_x])), (a_p0_net_stations, .inr (4, [.int (8 : Int32), .int (10 : Int32), .ref a_p0_net_stations_cells])), (a_p0_net_stations_cells, .inl (k 0, 80, .inl t1.2.2.2)), (a_p4, .inl (k 1, 1, .inr (.inl c_p4)))] rfl rfl rfl rfl ⟨rfl, rfl, rn_Bw (wr := [(a_p4, .inl (k 1, 1, .inr (.inl c_p4)))]) rfl rfl, rfl, rfl⟩ (rn_rT hR rfl) (rn_cs1 hR) hl.1 rfl (Nat.le_of_ble_eq_true rfl) dL_addStation_7 (fun hk H locs q9 ce hW hq9 hv hcl => ?_) (fun hk hn H locs hW => ?_)
  · replace hf := rn_f hf hk
    by_cases hk0 : t1.1 = 1
    · replace hf := rn_t hf hk0
      rw [hk0] at hcl
      refine vx_catch (name := rn_ex 1) X.1.2.2.2.1 [] (⟨0, 12, 15, 18⟩ : ExceptionTableEntry) [(⟨0, 12, 19, 13⟩ : ExceptionTableEntry)] (htab.trans rfl) (fun z hz => nomatch hz) (by decide) (by decide) (hts _ qc_1) (va_any rfl hxc.2.1.1) hq9 hv hcl ?_
      refine lv_astore (lv' := [(5, .ref q9), (0, .ref a_p0), (1, .int i1), (2, .int i2), (3, .int i3), (4, .ref a_p4)]) hx hb dL_addStation_15 hl (Nat.le_of_ble_eq_true rfl) rfl (fun ls hl => ?_)
      refine lv_iconst (v := 1) hx hb dL_addStation_17 (by decide) ?_
      cases hf
      exact hE _ _ _ _ hW dL_addStation_18
    replace hf := rn_f hf hk0
    by_cases hk1 : t1.1 = 2
    · replace hf := rn_t hf hk1
      rw [hk1] at hcl
      refine vx_catch (name := rn_ex 2) X.1.2.2.2.1 [(⟨0, 12, 15, 18⟩ : ExceptionTableEntry)] (⟨0, 12, 19, 13⟩ : ExceptionTableEntry) [] (htab.trans rfl) (fun z hz => by rcases List.mem_singleton.mp hz with rfl; exact Or.inr ⟨by decide, rn_ex 1, hts _ qc_1, hxc.2.2.2.1.1⟩) (by decide) (by decide) (hts _ qc_2) (va_any rfl hxc.2.1.2.1) hq9 hv hcl ?_
      refine lv_astore (lv' := [(5, .ref q9), (0, .ref a_p0), (1, .int i1), (2, .int i2), (3, .int i3), (4, .ref a_p4)]) hx hb dL_addStation_19 hl (Nat.le_of_ble_eq_true rfl) rfl (fun ls hl => ?_)
      refine lv_iconst (v := 2) hx hb dL_addStation_21 (by decide) ?_
      cases hf
      exact hE _ _ _ _ hW dL_addStation_22
    replace hf := rn_f hf hk1
    cases hf
  · replace hf := rn_t hf hk
    refine lv_i2l (v := t1.2.1.toInt64) hx hb dL_addStation_10 rfl ?_
    obtain ⟨w1, hw1, hf⟩ := rn_let_s hf
    refine rr_last' X hW 4 rfl rn_in01 hw1 (ws' := [(a_p0, .inr (6, [.ref a_p0_setup, .int c_p0_latestError, .int c_p0_latestErrorPosition, .ref a_p0_net, .ref a_p0_trial, .ref a_p0_saved, .ref a_p0_line])), (a_p0_net, .inr (2, [.ref a_p0_net_stations, .ref a_p0_net_links, .ref a_p0_net_messages, .ref a_p0_net_copies, .ref a_p0_net_log, .ref a_p0_net_ways, .ref a_p0_net_frames, .int t1.2.2.1, .int c_p0_net_linkCount, .int c_p0_net_messageCount, .int c_p0_net_time, .int c_p0_net_life, .int c_p0_net_tries, .int c_p0_net_x])), (a_p0_net_stations, .inr (4, [.int (8 : Int32), .int (10 : Int32), .ref a_p0_net_stations_cells])), (a_p0_net_stations_cells, .inl (k 0, 80, .inl t1.2.2.2)), (a_p4, .inl (k 1, 1, .inr (.inl w1)))]) rfl dL_addStation_11 (fun H locs hW => ?_)
    refine lv_goto (tgt := 23) hx hb dL_addStation_12 (by decide) ?_
    refine lv_iconst (v := 0) hx hb dL_addStation_23 (by decide) ?_
    cases hf
    exact hE _ _ _ _ hW dL_addStation_24
def fL_addLink (N : Nat) (c_p0_net_stationCount : Int32) (c_p0_net_linkCount : Int32) (c_p0_net_stations : Nat → Int32) (c_p0_net_links : Nat → Int32) (c_p0_net_ways_heard : Nat → Int64) (c_p6 : Nat → Int64) (i1 : Int32) (i2 : Int32) (i3 : Int32) (i4 : Int32) (i5 : Int32) : Option (Int32 × Int32 × (Nat → Int32) × (Nat → Int64) × (Nat → Int64)) :=
  (fX6_addLink N c_p0_net_stationCount c_p0_net_linkCount c_p0_net_stations c_p0_net_links c_p0_net_ways_heard i1 i2 i3 i4 i5).bind fun t1 =>
  if t1.1 = 0 then
    rn_let (vp_updL c_p6 (0 : Int32).toNatClampNeg t1.2.1.toInt64) fun w1 =>
    some ((0 : Int32), t1.2.2.1, t1.2.2.2.1, t1.2.2.2.2, w1)
  else
  if t1.1 = 3 then
    some ((1 : Int32), t1.2.2.1, t1.2.2.2.1, t1.2.2.2.2, c_p6)
  else
  if t1.1 = 1 then
    some ((2 : Int32), t1.2.2.1, t1.2.2.2.1, t1.2.2.2.2, c_p6)
  else
  if t1.1 = 2 then
    some ((3 : Int32), t1.2.2.1, t1.2.2.2.1, t1.2.2.2.2, c_p6)
  else
  none
set_option maxHeartbeats 4000000 in
set_option maxRecDepth 20000 in
theorem kL_addLink (l : Launch) (D : va_G) (k : Nat → ClassId) (z : (Nat → Nat) × (Nat → Nat)) (N : Nat) (a_p0 : Nat) (a_p6 : Nat) (a_p0_setup : Nat) (a_p0_net : Nat) (a_p0_trial : Nat) (a_p0_saved : Nat) (a_p0_line : Nat) (a_p0_net_stations : Nat) (a_p0_net_links : Nat) (a_p0_net_messages : Nat) (a_p0_net_copies : Nat) (a_p0_net_log : Nat) (a_p0_net_ways : Nat) (a_p0_net_frames : Nat) (a_p0_net_stations_cells : Nat) (a_p0_net_links_cells : Nat) (a_p0_net_ways_heard : Nat) (c_p0_latestError : Int32) (c_p0_latestErrorPosition : Int32) (c_p0_net_stationCount : Int32) (c_p0_net_linkCount : Int32) (c_p0_net_messageCount : Int32) (c_p0_net_time : Int32) (c_p0_net_life : Int32) (c_p0_net_tries : Int32) (c_p0_net_x : Int32) (c_p0_net_stations : Nat → Int32) (c_p0_net_links : Nat → Int32) (c_p0_net_ways_arrival : Int32) (c_p0_net_ways_fewest : Int32) (c_p0_net_ways_next : Int32) (c_p0_net_ways_heard : Nat → Int64) (c_p6 : Nat → Int64) (i1 : Int32) (i2 : Int32) (i3 : Int32) (i4 : Int32) (i5 : Int32) {u : Int32 × Int32 × (Nat → Int32) × (Nat → Int64) × (Nat → Int64)} (hf : fL_addLink N c_p0_net_stationCount c_p0_net_linkCount c_p0_net_stations c_p0_net_links c_p0_net_ways_heard c_p6 i1 i2 i3 i4 i5 = some u) : rn_KW l D k z yL_addLink cL_addLink 8 hhL_addLink 7 115 [.ref a_p0, .int i1, .int i2, .int i3, .int i4, .int i5, .ref a_p6] [(a_p0, .inr (6, [.ref a_p0_setup, .int c_p0_latestError, .int c_p0_latestErrorPosition, .ref a_p0_net, .ref a_p0_trial, .ref a_p0_saved, .ref a_p0_line])), (a_p0_net, .inr (2, [.ref a_p0_net_stations, .ref a_p0_net_links, .ref a_p0_net_messages, .ref a_p0_net_copies, .ref a_p0_net_log, .ref a_p0_net_ways, .ref a_p0_net_frames, .int c_p0_net_stationCount, .int c_p0_net_linkCount, .int c_p0_net_messageCount, .int c_p0_net_time, .int c_p0_net_life, .int c_p0_net_tries, .int c_p0_net_x])), (a_p0_net_stations, .inr (4, [.int (8 : Int32), .int (10 : Int32), .ref a_p0_net_stations_cells])), (a_p0_net_stations_cells, .inl (k 0, 80, .inl c_p0_net_stations)), (a_p0_net_links, .inr (4, [.int (16 : Int32), .int (9 : Int32), .ref a_p0_net_links_cells])), (a_p0_net_links_cells, .inl (k 0, 144, .inl c_p0_net_links)), (a_p0_net_ways, .inr (5, [.ref a_p0_net_ways_heard, .int c_p0_net_ways_arrival, .int c_p0_net_ways_fewest, .int c_p0_net_ways_next])), (a_p0_net_ways_heard, .inl (k 1, 24, .inr (.inl c_p0_net_ways_heard))), (a_p6, .inl (k 1, 1, .inr (.inl c_p6)))] [(a_p0, .inr (6, [.ref a_p0_setup, .int c_p0_latestError, .int c_p0_latestErrorPosition, .ref a_p0_net, .ref a_p0_trial, .ref a_p0_saved, .ref a_p0_line])), (a_p0_net, .inr (2, [.ref a_p0_net_stations, .ref a_p0_net_links, .ref a_p0_net_messages, .ref a_p0_net_copies, .ref a_p0_net_log, .ref a_p0_net_ways, .ref a_p0_net_frames, .int c_p0_net_stationCount, .int u.2.1, .int c_p0_net_messageCount, .int c_p0_net_time, .int c_p0_net_life, .int c_p0_net_tries, .int c_p0_net_x])), (a_p0_net_stations, .inr (4, [.int (8 : Int32), .int (10 : Int32), .ref a_p0_net_stations_cells])), (a_p0_net_stations_cells, .inl (k 0, 80, .inl c_p0_net_stations)), (a_p0_net_links, .inr (4, [.int (16 : Int32), .int (9 : Int32), .ref a_p0_net_links_cells])), (a_p0_net_links_cells, .inl (k 0, 144, .inl u.2.2.1)), (a_p0_net_ways, .inr (5, [.ref a_p0_net_ways_heard, .int c_p0_net_ways_arrival, .int c_p0_net_ways_fewest, .int c_p0_net_ways_next])), (a_p0_net_ways_heard, .inl (k 1, 24, .inr (.inl u.2.2.2.1))), (a_p6, .inl (k 1, 1, .inr (.inl u.2.2.2.2)))] u.1 := by
  refine rn_KW.go (LOC := [(0, .ref a_p0), (1, .int i1), (2, .int i2), (3, .int i3), (4, .int i4), (5, .int i5), (6, .ref a_p6)]) rfl (by decide) (Nat.le_of_ble_eq_true rfl) rfl ?_
  intro p e s m args below meth c A ls R Q hst hxc htab X hR hE hW hl
  have hx := X.1.1
  have hb := X.1.2.1
  have hts := X.1.2.2.2.2
  unfold fL_addLink at hf
  obtain ⟨t1, ht1, hf⟩ := rn_bind hf
  refine lv_aload hx hb dL_addLink_0 (lv_at hl 6 rfl) ?_
  refine lv_iconst (v := 0) hx hb dL_addLink_2 (by decide) ?_
  refine lv_aload_n hx hb dL_addLink_3 rfl (lv_at hl 0 rfl) ?_
  refine lv_iload_n hx hb dL_addLink_4 rfl (lv_at hl 1 rfl) ?_
  refine lv_iload_n hx hb dL_addLink_5 rfl (lv_at hl 2 rfl) ?_
  refine lv_iload_n hx hb dL_addLink_6 rfl (lv_at hl 3 rfl) ?_
  refine lv_iload hx hb dL_addLink_7 (lv_at hl 4 rfl) ?_
  refine lv_iload hx hb dL_addLink_9 (lv_at hl 5 rfl) ?_
  refine rr_xcallI (As := [.int i1, .int i2, .int i3, .int i4, .int i5]) (rest := [.int (0 : Int32), .ref a_p6]) X hxc hst hW (kX6_addLink l D k z N a_p0 a_p0_setup a_p0_net a_p0_trial a_p0_saved a_p0_line a_p0_net_stations a_p0_net_links a_p0_net_messages a_p0_net_copies a_p0_net_log a_p0_net_ways a_p0_net_frames a_p0_net_stations_cells a_p0_net_links_cells a_p0_net_ways_heard c_p0_latestError c_p0_latestErrorPosition c_p0_net_stationCount c_p0_net_linkCount c_p0_net_messageCount c_p0_net_time c_p0_net_life c_p0_net_tries c_p0_net_x c_p0_net_stations c_p0_net_links c_p0_net_ways_arrival c_p0_net_ways_fewest c_p0_net_ways_next c_p0_net_ways_heard i1 i2 i3 i4 i5 ht1) gm_X6_addLink gl_L_24 [0, 1, 2, 3, 4, 5, 6, 7] [8] [(a_p0, .inr (6, [.ref a_p0_setup, .int c_p0_latestError, .int c_p0_latestErrorPosition, .ref a_p0_net, .ref a_p0_trial, .ref a_p0_saved, .ref a_p0_line])), (a_p0_net, .inr (2, [.ref a_p0_net_stations, .ref a_p0_net_links, .ref a_p0_net_messages, .ref a_p0_net_copies, .ref a_p0_net_log, .ref a_p0_net_ways, .ref a_p0_net_frames, .int c_p0_net_stationCount, .int t1.2.2.1, .int c_p0_net_messageCount, .int c_p0_net_time, .int c_p0_net_life, .int c_p0_net_tries, .int c_p0_net_x])), (a_p0_net_stations, .inr (4, [.int (8 : Int32), .int (10 : Int32), .ref a_p0_net_stations_cells])), (a_p0_net_stations_cells, .inl (k 0, 80, .inl c_p0_net_stations)), (a_p0_net_links, .inr (4, [.int (16 : Int32), .int (9 : Int32), .ref a_p0_net_links_cells])), (a_p0_net_links_cells, .inl (k 0, 144, .inl t1.2.2.2.1)), (a_p0_net_ways, .inr (5, [.ref a_p0_net_ways_heard, .int c_p0_net_ways_arrival, .int c_p0_net_ways_fewest, .int c_p0_net_ways_next])), (a_p0_net_ways_heard, .inl (k 1, 24, .inr (.inl t1.2.2.2.2))), (a_p6, .inl (k 1, 1, .inr (.inl c_p6)))] rfl rfl rfl rfl ⟨rfl, rfl, rn_Bw (wr := [(a_p6, .inl (k 1, 1, .inr (.inl c_p6)))]) rfl rfl, rfl, rfl⟩ (rn_rT hR rfl) (rn_cs1 hR) hl.1 rfl (Nat.le_of_ble_eq_true rfl) dL_addLink_11 (fun hk H locs q9 ce hW hq9 hv hcl => ?_) (fun hk hn H locs hW => ?_)
  · replace hf := rn_f hf hk
    by_cases hk0 : t1.1 = 3
    · replace hf := rn_t hf hk0
      rw [hk0] at hcl
      refine vx_catch (name := rn_ex 3) X.1.2.2.2.1 [] (⟨0, 16, 19, 28⟩ : ExceptionTableEntry) [(⟨0, 16, 23, 18⟩ : ExceptionTableEntry), (⟨0, 16, 27, 13⟩ : ExceptionTableEntry)] (htab.trans rfl) (fun z hz => nomatch hz) (by decide) (by decide) (hts _ qc_3) (va_any rfl hxc.2.1.2.2) hq9 hv hcl ?_
      refine lv_astore (lv' := [(7, .ref q9), (0, .ref a_p0), (1, .int i1), (2, .int i2), (3, .int i3), (4, .int i4), (5, .int i5), (6, .ref a_p6)]) hx hb dL_addLink_19 hl (Nat.le_of_ble_eq_true rfl) rfl (fun ls hl => ?_)
      refine lv_iconst (v := 1) hx hb dL_addLink_21 (by decide) ?_
      cases hf
      exact hE _ _ _ _ hW dL_addLink_22
    replace hf := rn_f hf hk0
    by_cases hk1 : t1.1 = 1
    · replace hf := rn_t hf hk1
      rw [hk1] at hcl
      refine vx_catch (name := rn_ex 1) X.1.2.2.2.1 [(⟨0, 16, 19, 28⟩ : ExceptionTableEntry)] (⟨0, 16, 23, 18⟩ : ExceptionTableEntry) [(⟨0, 16, 27, 13⟩ : ExceptionTableEntry)] (htab.trans rfl) (fun z hz => by rcases List.mem_singleton.mp hz with rfl; exact Or.inr ⟨by decide, rn_ex 3, hts _ qc_3, hxc.2.2.1.2⟩) (by decide) (by decide) (hts _ qc_1) (va_any rfl hxc.2.1.1) hq9 hv hcl ?_
      refine lv_astore (lv' := [(7, .ref q9), (0, .ref a_p0), (1, .int i1), (2, .int i2), (3, .int i3), (4, .int i4), (5, .int i5), (6, .ref a_p6)]) hx hb dL_addLink_23 hl (Nat.le_of_ble_eq_true rfl) rfl (fun ls hl => ?_)
      refine lv_iconst (v := 2) hx hb dL_addLink_25 (by decide) ?_
      cases hf
      exact hE _ _ _ _ hW dL_addLink_26
    replace hf := rn_f hf hk1
    by_cases hk2 : t1.1 = 2
    · replace hf := rn_t hf hk2
      rw [hk2] at hcl
      refine vx_catch (name := rn_ex 2) X.1.2.2.2.1 [(⟨0, 16, 19, 28⟩ : ExceptionTableEntry), (⟨0, 16, 23, 18⟩ : ExceptionTableEntry)] (⟨0, 16, 27, 13⟩ : ExceptionTableEntry) [] (htab.trans rfl) (fun z hz => by rcases List.mem_cons.mp hz with rfl | hz; exact Or.inr ⟨by decide, rn_ex 3, hts _ qc_3, hxc.2.2.2.1.2⟩; rcases List.mem_singleton.mp hz with rfl; exact Or.inr ⟨by decide, rn_ex 1, hts _ qc_1, hxc.2.2.2.1.1⟩) (by decide) (by decide) (hts _ qc_2) (va_any rfl hxc.2.1.2.1) hq9 hv hcl ?_
      refine lv_astore (lv' := [(7, .ref q9), (0, .ref a_p0), (1, .int i1), (2, .int i2), (3, .int i3), (4, .int i4), (5, .int i5), (6, .ref a_p6)]) hx hb dL_addLink_27 hl (Nat.le_of_ble_eq_true rfl) rfl (fun ls hl => ?_)
      refine lv_iconst (v := 3) hx hb dL_addLink_29 (by decide) ?_
      cases hf
      exact hE _ _ _ _ hW dL_addLink_30
    replace hf := rn_f hf hk2
    cases hf
  · replace hf := rn_t hf hk
    refine lv_i2l (v := t1.2.1.toInt64) hx hb dL_addLink_14 rfl ?_
    obtain ⟨w1, hw1, hf⟩ := rn_let_s hf
    refine rr_last' X hW 8 rfl rn_in01 hw1 (ws' := [(a_p0, .inr (6, [.ref a_p0_setup, .int c_p0_latestError, .int c_p0_latestErrorPosition, .ref a_p0_net, .ref a_p0_trial, .ref a_p0_saved, .ref a_p0_line])), (a_p0_net, .inr (2, [.ref a_p0_net_stations, .ref a_p0_net_links, .ref a_p0_net_messages, .ref a_p0_net_copies, .ref a_p0_net_log, .ref a_p0_net_ways, .ref a_p0_net_frames, .int c_p0_net_stationCount, .int t1.2.2.1, .int c_p0_net_messageCount, .int c_p0_net_time, .int c_p0_net_life, .int c_p0_net_tries, .int c_p0_net_x])), (a_p0_net_stations, .inr (4, [.int (8 : Int32), .int (10 : Int32), .ref a_p0_net_stations_cells])), (a_p0_net_stations_cells, .inl (k 0, 80, .inl c_p0_net_stations)), (a_p0_net_links, .inr (4, [.int (16 : Int32), .int (9 : Int32), .ref a_p0_net_links_cells])), (a_p0_net_links_cells, .inl (k 0, 144, .inl t1.2.2.2.1)), (a_p0_net_ways, .inr (5, [.ref a_p0_net_ways_heard, .int c_p0_net_ways_arrival, .int c_p0_net_ways_fewest, .int c_p0_net_ways_next])), (a_p0_net_ways_heard, .inl (k 1, 24, .inr (.inl t1.2.2.2.2))), (a_p6, .inl (k 1, 1, .inr (.inl w1)))]) rfl dL_addLink_15 (fun H locs hW => ?_)
    refine lv_goto (tgt := 31) hx hb dL_addLink_16 (by decide) ?_
    refine lv_iconst (v := 0) hx hb dL_addLink_31 (by decide) ?_
    cases hf
    exact hE _ _ _ _ hW dL_addLink_32
def fL_setStation (N : Nat) (c_p0_net_stationCount : Int32) (c_p0_net_linkCount : Int32) (c_p0_net_stations : Nat → Int32) (c_p0_net_links : Nat → Int32) (c_p0_net_ways_heard : Nat → Int64) (c_p4 : Nat → Int64) (i1 : Int32) (i2 : Int32) (i3 : Int32) : Option (Int32 × (Nat → Int32) × (Nat → Int64) × (Nat → Int64)) :=
  (fX6_setStation N c_p0_net_stationCount c_p0_net_linkCount c_p0_net_stations c_p0_net_links c_p0_net_ways_heard i1 i2 i3).bind fun t1 =>
  if t1.1 = 0 then
    rn_let (vp_updL c_p4 (0 : Int32).toNatClampNeg t1.2.1.toInt64) fun w1 =>
    some ((0 : Int32), t1.2.2.1, t1.2.2.2, w1)
  else
  if t1.1 = 3 then
    some ((1 : Int32), t1.2.2.1, t1.2.2.2, c_p4)
  else
  if t1.1 = 1 then
    some ((2 : Int32), t1.2.2.1, t1.2.2.2, c_p4)
  else
  none
set_option maxHeartbeats 4000000 in
set_option maxRecDepth 20000 in
theorem kL_setStation (l : Launch) (D : va_G) (k : Nat → ClassId) (z : (Nat → Nat) × (Nat → Nat)) (N : Nat) (a_p0 : Nat) (a_p4 : Nat) (a_p0_setup : Nat) (a_p0_net : Nat) (a_p0_trial : Nat) (a_p0_saved : Nat) (a_p0_line : Nat) (a_p0_net_stations : Nat) (a_p0_net_links : Nat) (a_p0_net_messages : Nat) (a_p0_net_copies : Nat) (a_p0_net_log : Nat) (a_p0_net_ways : Nat) (a_p0_net_frames : Nat) (a_p0_net_stations_cells : Nat) (a_p0_net_links_cells : Nat) (a_p0_net_ways_heard : Nat) (c_p0_latestError : Int32) (c_p0_latestErrorPosition : Int32) (c_p0_net_stationCount : Int32) (c_p0_net_linkCount : Int32) (c_p0_net_messageCount : Int32) (c_p0_net_time : Int32) (c_p0_net_life : Int32) (c_p0_net_tries : Int32) (c_p0_net_x : Int32) (c_p0_net_stations : Nat → Int32) (c_p0_net_links : Nat → Int32) (c_p0_net_ways_arrival : Int32) (c_p0_net_ways_fewest : Int32) (c_p0_net_ways_next : Int32) (c_p0_net_ways_heard : Nat → Int64) (c_p4 : Nat → Int64) (i1 : Int32) (i2 : Int32) (i3 : Int32) {u : Int32 × (Nat → Int32) × (Nat → Int64) × (Nat → Int64)} (hf : fL_setStation N c_p0_net_stationCount c_p0_net_linkCount c_p0_net_stations c_p0_net_links c_p0_net_ways_heard c_p4 i1 i2 i3 = some u) : rn_KW l D k z yL_setStation cL_setStation 6 hhL_setStation 7 137 [.ref a_p0, .int i1, .int i2, .int i3, .ref a_p4] [(a_p0, .inr (6, [.ref a_p0_setup, .int c_p0_latestError, .int c_p0_latestErrorPosition, .ref a_p0_net, .ref a_p0_trial, .ref a_p0_saved, .ref a_p0_line])), (a_p0_net, .inr (2, [.ref a_p0_net_stations, .ref a_p0_net_links, .ref a_p0_net_messages, .ref a_p0_net_copies, .ref a_p0_net_log, .ref a_p0_net_ways, .ref a_p0_net_frames, .int c_p0_net_stationCount, .int c_p0_net_linkCount, .int c_p0_net_messageCount, .int c_p0_net_time, .int c_p0_net_life, .int c_p0_net_tries, .int c_p0_net_x])), (a_p0_net_stations, .inr (4, [.int (8 : Int32), .int (10 : Int32), .ref a_p0_net_stations_cells])), (a_p0_net_stations_cells, .inl (k 0, 80, .inl c_p0_net_stations)), (a_p0_net_links, .inr (4, [.int (16 : Int32), .int (9 : Int32), .ref a_p0_net_links_cells])), (a_p0_net_links_cells, .inl (k 0, 144, .inl c_p0_net_links)), (a_p0_net_ways, .inr (5, [.ref a_p0_net_ways_heard, .int c_p0_net_ways_arrival, .int c_p0_net_ways_fewest, .int c_p0_net_ways_next])), (a_p0_net_ways_heard, .inl (k 1, 24, .inr (.inl c_p0_net_ways_heard))), (a_p4, .inl (k 1, 1, .inr (.inl c_p4)))] [(a_p0, .inr (6, [.ref a_p0_setup, .int c_p0_latestError, .int c_p0_latestErrorPosition, .ref a_p0_net, .ref a_p0_trial, .ref a_p0_saved, .ref a_p0_line])), (a_p0_net, .inr (2, [.ref a_p0_net_stations, .ref a_p0_net_links, .ref a_p0_net_messages, .ref a_p0_net_copies, .ref a_p0_net_log, .ref a_p0_net_ways, .ref a_p0_net_frames, .int c_p0_net_stationCount, .int c_p0_net_linkCount, .int c_p0_net_messageCount, .int c_p0_net_time, .int c_p0_net_life, .int c_p0_net_tries, .int c_p0_net_x])), (a_p0_net_stations, .inr (4, [.int (8 : Int32), .int (10 : Int32), .ref a_p0_net_stations_cells])), (a_p0_net_stations_cells, .inl (k 0, 80, .inl u.2.1)), (a_p0_net_links, .inr (4, [.int (16 : Int32), .int (9 : Int32), .ref a_p0_net_links_cells])), (a_p0_net_links_cells, .inl (k 0, 144, .inl c_p0_net_links)), (a_p0_net_ways, .inr (5, [.ref a_p0_net_ways_heard, .int c_p0_net_ways_arrival, .int c_p0_net_ways_fewest, .int c_p0_net_ways_next])), (a_p0_net_ways_heard, .inl (k 1, 24, .inr (.inl u.2.2.1))), (a_p4, .inl (k 1, 1, .inr (.inl u.2.2.2)))] u.1 := by
  refine rn_KW.go (LOC := [(0, .ref a_p0), (1, .int i1), (2, .int i2), (3, .int i3), (4, .ref a_p4)]) rfl (by decide) (Nat.le_of_ble_eq_true rfl) rfl ?_
  intro p e s m args below meth c A ls R Q hst hxc htab X hR hE hW hl
  have hx := X.1.1
  have hb := X.1.2.1
  have hts := X.1.2.2.2.2
  unfold fL_setStation at hf
  obtain ⟨t1, ht1, hf⟩ := rn_bind hf
  refine lv_aload hx hb dL_setStation_0 (lv_at hl 4 rfl) ?_
  refine lv_iconst (v := 0) hx hb dL_setStation_2 (by decide) ?_
  refine lv_aload_n hx hb dL_setStation_3 rfl (lv_at hl 0 rfl) ?_
  refine lv_iload_n hx hb dL_setStation_4 rfl (lv_at hl 1 rfl) ?_
  refine lv_iload_n hx hb dL_setStation_5 rfl (lv_at hl 2 rfl) ?_
  refine lv_iload_n hx hb dL_setStation_6 rfl (lv_at hl 3 rfl) ?_
  refine rr_xcallI (As := [.int i1, .int i2, .int i3]) (rest := [.int (0 : Int32), .ref a_p4]) X hxc hst hW (kX6_setStation l D k z N a_p0 a_p0_setup a_p0_net a_p0_trial a_p0_saved a_p0_line a_p0_net_stations a_p0_net_links a_p0_net_messages a_p0_net_copies a_p0_net_log a_p0_net_ways a_p0_net_frames a_p0_net_stations_cells a_p0_net_links_cells a_p0_net_ways_heard c_p0_latestError c_p0_latestErrorPosition c_p0_net_stationCount c_p0_net_linkCount c_p0_net_messageCount c_p0_net_time c_p0_net_life c_p0_net_tries c_p0_net_x c_p0_net_stations c_p0_net_links c_p0_net_ways_arrival c_p0_net_ways_fewest c_p0_net_ways_next c_p0_net_ways_heard i1 i2 i3 ht1) gm_X6_setStation gl_L_30 [0, 1, 2, 3, 4, 5, 6, 7] [8] [(a_p0, .inr (6, [.ref a_p0_setup, .int c_p0_latestError, .int c_p0_latestErrorPosition, .ref a_p0_net, .ref a_p0_trial, .ref a_p0_saved, .ref a_p0_line])), (a_p0_net, .inr (2, [.ref a_p0_net_stations, .ref a_p0_net_links, .ref a_p0_net_messages, .ref a_p0_net_copies, .ref a_p0_net_log, .ref a_p0_net_ways, .ref a_p0_net_frames, .int c_p0_net_stationCount, .int c_p0_net_linkCount, .int c_p0_net_messageCount, .int c_p0_net_time, .int c_p0_net_life, .int c_p0_net_tries, .int c_p0_net_x])), (a_p0_net_stations, .inr (4, [.int (8 : Int32), .int (10 : Int32), .ref a_p0_net_stations_cells])), (a_p0_net_stations_cells, .inl (k 0, 80, .inl t1.2.2.1)), (a_p0_net_links, .inr (4, [.int (16 : Int32), .int (9 : Int32), .ref a_p0_net_links_cells])), (a_p0_net_links_cells, .inl (k 0, 144, .inl c_p0_net_links)), (a_p0_net_ways, .inr (5, [.ref a_p0_net_ways_heard, .int c_p0_net_ways_arrival, .int c_p0_net_ways_fewest, .int c_p0_net_ways_next])), (a_p0_net_ways_heard, .inl (k 1, 24, .inr (.inl t1.2.2.2))), (a_p4, .inl (k 1, 1, .inr (.inl c_p4)))] rfl rfl rfl rfl ⟨rfl, rfl, rn_Bw (wr := [(a_p4, .inl (k 1, 1, .inr (.inl c_p4)))]) rfl rfl, rfl, rfl⟩ (rn_rT hR rfl) (rn_cs1 hR) hl.1 rfl (Nat.le_of_ble_eq_true rfl) dL_setStation_7 (fun hk H locs q9 ce hW hq9 hv hcl => ?_) (fun hk hn H locs hW => ?_)
  · replace hf := rn_f hf hk
    by_cases hk0 : t1.1 = 3
    · replace hf := rn_t hf hk0
      rw [hk0] at hcl
      refine vx_catch (name := rn_ex 3) X.1.2.2.2.1 [] (⟨0, 12, 15, 28⟩ : ExceptionTableEntry) [(⟨0, 12, 19, 18⟩ : ExceptionTableEntry)] (htab.trans rfl) (fun z hz => nomatch hz) (by decide) (by decide) (hts _ qc_3) (va_any rfl hxc.2.1.2.2) hq9 hv hcl ?_
      refine lv_astore (lv' := [(5, .ref q9), (0, .ref a_p0), (1, .int i1), (2, .int i2), (3, .int i3), (4, .ref a_p4)]) hx hb dL_setStation_15 hl (Nat.le_of_ble_eq_true rfl) rfl (fun ls hl => ?_)
      refine lv_iconst (v := 1) hx hb dL_setStation_17 (by decide) ?_
      cases hf
      exact hE _ _ _ _ hW dL_setStation_18
    replace hf := rn_f hf hk0
    by_cases hk1 : t1.1 = 1
    · replace hf := rn_t hf hk1
      rw [hk1] at hcl
      refine vx_catch (name := rn_ex 1) X.1.2.2.2.1 [(⟨0, 12, 15, 28⟩ : ExceptionTableEntry)] (⟨0, 12, 19, 18⟩ : ExceptionTableEntry) [] (htab.trans rfl) (fun z hz => by rcases List.mem_singleton.mp hz with rfl; exact Or.inr ⟨by decide, rn_ex 3, hts _ qc_3, hxc.2.2.1.2⟩) (by decide) (by decide) (hts _ qc_1) (va_any rfl hxc.2.1.1) hq9 hv hcl ?_
      refine lv_astore (lv' := [(5, .ref q9), (0, .ref a_p0), (1, .int i1), (2, .int i2), (3, .int i3), (4, .ref a_p4)]) hx hb dL_setStation_19 hl (Nat.le_of_ble_eq_true rfl) rfl (fun ls hl => ?_)
      refine lv_iconst (v := 2) hx hb dL_setStation_21 (by decide) ?_
      cases hf
      exact hE _ _ _ _ hW dL_setStation_22
    replace hf := rn_f hf hk1
    cases hf
  · replace hf := rn_t hf hk
    refine lv_i2l (v := t1.2.1.toInt64) hx hb dL_setStation_10 rfl ?_
    obtain ⟨w1, hw1, hf⟩ := rn_let_s hf
    refine rr_last' X hW 8 rfl rn_in01 hw1 (ws' := [(a_p0, .inr (6, [.ref a_p0_setup, .int c_p0_latestError, .int c_p0_latestErrorPosition, .ref a_p0_net, .ref a_p0_trial, .ref a_p0_saved, .ref a_p0_line])), (a_p0_net, .inr (2, [.ref a_p0_net_stations, .ref a_p0_net_links, .ref a_p0_net_messages, .ref a_p0_net_copies, .ref a_p0_net_log, .ref a_p0_net_ways, .ref a_p0_net_frames, .int c_p0_net_stationCount, .int c_p0_net_linkCount, .int c_p0_net_messageCount, .int c_p0_net_time, .int c_p0_net_life, .int c_p0_net_tries, .int c_p0_net_x])), (a_p0_net_stations, .inr (4, [.int (8 : Int32), .int (10 : Int32), .ref a_p0_net_stations_cells])), (a_p0_net_stations_cells, .inl (k 0, 80, .inl t1.2.2.1)), (a_p0_net_links, .inr (4, [.int (16 : Int32), .int (9 : Int32), .ref a_p0_net_links_cells])), (a_p0_net_links_cells, .inl (k 0, 144, .inl c_p0_net_links)), (a_p0_net_ways, .inr (5, [.ref a_p0_net_ways_heard, .int c_p0_net_ways_arrival, .int c_p0_net_ways_fewest, .int c_p0_net_ways_next])), (a_p0_net_ways_heard, .inl (k 1, 24, .inr (.inl t1.2.2.2))), (a_p4, .inl (k 1, 1, .inr (.inl w1)))]) rfl dL_setStation_11 (fun H locs hW => ?_)
    refine lv_goto (tgt := 23) hx hb dL_setStation_12 (by decide) ?_
    refine lv_iconst (v := 0) hx hb dL_setStation_23 (by decide) ?_
    cases hf
    exact hE _ _ _ _ hW dL_setStation_24
def fL_setLink (N : Nat) (c_p0_net_linkCount : Int32) (c_p0_net_stations : Nat → Int32) (c_p0_net_links : Nat → Int32) (c_p0_net_ways_heard : Nat → Int64) (c_p4 : Nat → Int64) (i1 : Int32) (i2 : Int32) (i3 : Int32) : Option (Int32 × (Nat → Int32) × (Nat → Int64) × (Nat → Int64)) :=
  (fX6_setLink N c_p0_net_linkCount c_p0_net_stations c_p0_net_links c_p0_net_ways_heard i1 i2 i3).bind fun t1 =>
  if t1.1 = 0 then
    rn_let (vp_updL c_p4 (0 : Int32).toNatClampNeg t1.2.1.toInt64) fun w1 =>
    some ((0 : Int32), t1.2.2.1, t1.2.2.2, w1)
  else
  if t1.1 = 3 then
    some ((1 : Int32), t1.2.2.1, t1.2.2.2, c_p4)
  else
  if t1.1 = 1 then
    some ((2 : Int32), t1.2.2.1, t1.2.2.2, c_p4)
  else
  none
set_option maxHeartbeats 4000000 in
set_option maxRecDepth 20000 in
theorem kL_setLink (l : Launch) (D : va_G) (k : Nat → ClassId) (z : (Nat → Nat) × (Nat → Nat)) (N : Nat) (a_p0 : Nat) (a_p4 : Nat) (a_p0_setup : Nat) (a_p0_net : Nat) (a_p0_trial : Nat) (a_p0_saved : Nat) (a_p0_line : Nat) (a_p0_net_stations : Nat) (a_p0_net_links : Nat) (a_p0_net_messages : Nat) (a_p0_net_copies : Nat) (a_p0_net_log : Nat) (a_p0_net_ways : Nat) (a_p0_net_frames : Nat) (a_p0_net_stations_cells : Nat) (a_p0_net_links_cells : Nat) (a_p0_net_ways_heard : Nat) (c_p0_latestError : Int32) (c_p0_latestErrorPosition : Int32) (c_p0_net_stationCount : Int32) (c_p0_net_linkCount : Int32) (c_p0_net_messageCount : Int32) (c_p0_net_time : Int32) (c_p0_net_life : Int32) (c_p0_net_tries : Int32) (c_p0_net_x : Int32) (c_p0_net_stations : Nat → Int32) (c_p0_net_links : Nat → Int32) (c_p0_net_ways_arrival : Int32) (c_p0_net_ways_fewest : Int32) (c_p0_net_ways_next : Int32) (c_p0_net_ways_heard : Nat → Int64) (c_p4 : Nat → Int64) (i1 : Int32) (i2 : Int32) (i3 : Int32) {u : Int32 × (Nat → Int32) × (Nat → Int64) × (Nat → Int64)} (hf : fL_setLink N c_p0_net_linkCount c_p0_net_stations c_p0_net_links c_p0_net_ways_heard c_p4 i1 i2 i3 = some u) : rn_KW l D k z yL_setLink cL_setLink 6 hhL_setLink 7 137 [.ref a_p0, .int i1, .int i2, .int i3, .ref a_p4] [(a_p0, .inr (6, [.ref a_p0_setup, .int c_p0_latestError, .int c_p0_latestErrorPosition, .ref a_p0_net, .ref a_p0_trial, .ref a_p0_saved, .ref a_p0_line])), (a_p0_net, .inr (2, [.ref a_p0_net_stations, .ref a_p0_net_links, .ref a_p0_net_messages, .ref a_p0_net_copies, .ref a_p0_net_log, .ref a_p0_net_ways, .ref a_p0_net_frames, .int c_p0_net_stationCount, .int c_p0_net_linkCount, .int c_p0_net_messageCount, .int c_p0_net_time, .int c_p0_net_life, .int c_p0_net_tries, .int c_p0_net_x])), (a_p0_net_stations, .inr (4, [.int (8 : Int32), .int (10 : Int32), .ref a_p0_net_stations_cells])), (a_p0_net_stations_cells, .inl (k 0, 80, .inl c_p0_net_stations)), (a_p0_net_links, .inr (4, [.int (16 : Int32), .int (9 : Int32), .ref a_p0_net_links_cells])), (a_p0_net_links_cells, .inl (k 0, 144, .inl c_p0_net_links)), (a_p0_net_ways, .inr (5, [.ref a_p0_net_ways_heard, .int c_p0_net_ways_arrival, .int c_p0_net_ways_fewest, .int c_p0_net_ways_next])), (a_p0_net_ways_heard, .inl (k 1, 24, .inr (.inl c_p0_net_ways_heard))), (a_p4, .inl (k 1, 1, .inr (.inl c_p4)))] [(a_p0, .inr (6, [.ref a_p0_setup, .int c_p0_latestError, .int c_p0_latestErrorPosition, .ref a_p0_net, .ref a_p0_trial, .ref a_p0_saved, .ref a_p0_line])), (a_p0_net, .inr (2, [.ref a_p0_net_stations, .ref a_p0_net_links, .ref a_p0_net_messages, .ref a_p0_net_copies, .ref a_p0_net_log, .ref a_p0_net_ways, .ref a_p0_net_frames, .int c_p0_net_stationCount, .int c_p0_net_linkCount, .int c_p0_net_messageCount, .int c_p0_net_time, .int c_p0_net_life, .int c_p0_net_tries, .int c_p0_net_x])), (a_p0_net_stations, .inr (4, [.int (8 : Int32), .int (10 : Int32), .ref a_p0_net_stations_cells])), (a_p0_net_stations_cells, .inl (k 0, 80, .inl c_p0_net_stations)), (a_p0_net_links, .inr (4, [.int (16 : Int32), .int (9 : Int32), .ref a_p0_net_links_cells])), (a_p0_net_links_cells, .inl (k 0, 144, .inl u.2.1)), (a_p0_net_ways, .inr (5, [.ref a_p0_net_ways_heard, .int c_p0_net_ways_arrival, .int c_p0_net_ways_fewest, .int c_p0_net_ways_next])), (a_p0_net_ways_heard, .inl (k 1, 24, .inr (.inl u.2.2.1))), (a_p4, .inl (k 1, 1, .inr (.inl u.2.2.2)))] u.1 := by
  refine rn_KW.go (LOC := [(0, .ref a_p0), (1, .int i1), (2, .int i2), (3, .int i3), (4, .ref a_p4)]) rfl (by decide) (Nat.le_of_ble_eq_true rfl) rfl ?_
  intro p e s m args below meth c A ls R Q hst hxc htab X hR hE hW hl
  have hx := X.1.1
  have hb := X.1.2.1
  have hts := X.1.2.2.2.2
  unfold fL_setLink at hf
  obtain ⟨t1, ht1, hf⟩ := rn_bind hf
  refine lv_aload hx hb dL_setLink_0 (lv_at hl 4 rfl) ?_
  refine lv_iconst (v := 0) hx hb dL_setLink_2 (by decide) ?_
  refine lv_aload_n hx hb dL_setLink_3 rfl (lv_at hl 0 rfl) ?_
  refine lv_iload_n hx hb dL_setLink_4 rfl (lv_at hl 1 rfl) ?_
  refine lv_iload_n hx hb dL_setLink_5 rfl (lv_at hl 2 rfl) ?_
  refine lv_iload_n hx hb dL_setLink_6 rfl (lv_at hl 3 rfl) ?_
  refine rr_xcallI (As := [.int i1, .int i2, .int i3]) (rest := [.int (0 : Int32), .ref a_p4]) X hxc hst hW (kX6_setLink l D k z N a_p0 a_p0_setup a_p0_net a_p0_trial a_p0_saved a_p0_line a_p0_net_stations a_p0_net_links a_p0_net_messages a_p0_net_copies a_p0_net_log a_p0_net_ways a_p0_net_frames a_p0_net_stations_cells a_p0_net_links_cells a_p0_net_ways_heard c_p0_latestError c_p0_latestErrorPosition c_p0_net_stationCount c_p0_net_linkCount c_p0_net_messageCount c_p0_net_time c_p0_net_life c_p0_net_tries c_p0_net_x c_p0_net_stations c_p0_net_links c_p0_net_ways_arrival c_p0_net_ways_fewest c_p0_net_ways_next c_p0_net_ways_heard i1 i2 i3 ht1) gm_X6_setLink gl_L_33 [0, 1, 2, 3, 4, 5, 6, 7] [8] [(a_p0, .inr (6, [.ref a_p0_setup, .int c_p0_latestError, .int c_p0_latestErrorPosition, .ref a_p0_net, .ref a_p0_trial, .ref a_p0_saved, .ref a_p0_line])), (a_p0_net, .inr (2, [.ref a_p0_net_stations, .ref a_p0_net_links, .ref a_p0_net_messages, .ref a_p0_net_copies, .ref a_p0_net_log, .ref a_p0_net_ways, .ref a_p0_net_frames, .int c_p0_net_stationCount, .int c_p0_net_linkCount, .int c_p0_net_messageCount, .int c_p0_net_time, .int c_p0_net_life, .int c_p0_net_tries, .int c_p0_net_x])), (a_p0_net_stations, .inr (4, [.int (8 : Int32), .int (10 : Int32), .ref a_p0_net_stations_cells])), (a_p0_net_stations_cells, .inl (k 0, 80, .inl c_p0_net_stations)), (a_p0_net_links, .inr (4, [.int (16 : Int32), .int (9 : Int32), .ref a_p0_net_links_cells])), (a_p0_net_links_cells, .inl (k 0, 144, .inl t1.2.2.1)), (a_p0_net_ways, .inr (5, [.ref a_p0_net_ways_heard, .int c_p0_net_ways_arrival, .int c_p0_net_ways_fewest, .int c_p0_net_ways_next])), (a_p0_net_ways_heard, .inl (k 1, 24, .inr (.inl t1.2.2.2))), (a_p4, .inl (k 1, 1, .inr (.inl c_p4)))] rfl rfl rfl rfl ⟨rfl, rfl, rn_Bw (wr := [(a_p4, .inl (k 1, 1, .inr (.inl c_p4)))]) rfl rfl, rfl, rfl⟩ (rn_rT hR rfl) (rn_cs1 hR) hl.1 rfl (Nat.le_of_ble_eq_true rfl) dL_setLink_7 (fun hk H locs q9 ce hW hq9 hv hcl => ?_) (fun hk hn H locs hW => ?_)
  · replace hf := rn_f hf hk
    by_cases hk0 : t1.1 = 3
    · replace hf := rn_t hf hk0
      rw [hk0] at hcl
      refine vx_catch (name := rn_ex 3) X.1.2.2.2.1 [] (⟨0, 12, 15, 28⟩ : ExceptionTableEntry) [(⟨0, 12, 19, 18⟩ : ExceptionTableEntry)] (htab.trans rfl) (fun z hz => nomatch hz) (by decide) (by decide) (hts _ qc_3) (va_any rfl hxc.2.1.2.2) hq9 hv hcl ?_
      refine lv_astore (lv' := [(5, .ref q9), (0, .ref a_p0), (1, .int i1), (2, .int i2), (3, .int i3), (4, .ref a_p4)]) hx hb dL_setLink_15 hl (Nat.le_of_ble_eq_true rfl) rfl (fun ls hl => ?_)
      refine lv_iconst (v := 1) hx hb dL_setLink_17 (by decide) ?_
      cases hf
      exact hE _ _ _ _ hW dL_setLink_18
    replace hf := rn_f hf hk0
    by_cases hk1 : t1.1 = 1
    · replace hf := rn_t hf hk1
      rw [hk1] at hcl
      refine vx_catch (name := rn_ex 1) X.1.2.2.2.1 [(⟨0, 12, 15, 28⟩ : ExceptionTableEntry)] (⟨0, 12, 19, 18⟩ : ExceptionTableEntry) [] (htab.trans rfl) (fun z hz => by rcases List.mem_singleton.mp hz with rfl; exact Or.inr ⟨by decide, rn_ex 3, hts _ qc_3, hxc.2.2.1.2⟩) (by decide) (by decide) (hts _ qc_1) (va_any rfl hxc.2.1.1) hq9 hv hcl ?_
      refine lv_astore (lv' := [(5, .ref q9), (0, .ref a_p0), (1, .int i1), (2, .int i2), (3, .int i3), (4, .ref a_p4)]) hx hb dL_setLink_19 hl (Nat.le_of_ble_eq_true rfl) rfl (fun ls hl => ?_)
      refine lv_iconst (v := 2) hx hb dL_setLink_21 (by decide) ?_
      cases hf
      exact hE _ _ _ _ hW dL_setLink_22
    replace hf := rn_f hf hk1
    cases hf
  · replace hf := rn_t hf hk
    refine lv_i2l (v := t1.2.1.toInt64) hx hb dL_setLink_10 rfl ?_
    obtain ⟨w1, hw1, hf⟩ := rn_let_s hf
    refine rr_last' X hW 8 rfl rn_in01 hw1 (ws' := [(a_p0, .inr (6, [.ref a_p0_setup, .int c_p0_latestError, .int c_p0_latestErrorPosition, .ref a_p0_net, .ref a_p0_trial, .ref a_p0_saved, .ref a_p0_line])), (a_p0_net, .inr (2, [.ref a_p0_net_stations, .ref a_p0_net_links, .ref a_p0_net_messages, .ref a_p0_net_copies, .ref a_p0_net_log, .ref a_p0_net_ways, .ref a_p0_net_frames, .int c_p0_net_stationCount, .int c_p0_net_linkCount, .int c_p0_net_messageCount, .int c_p0_net_time, .int c_p0_net_life, .int c_p0_net_tries, .int c_p0_net_x])), (a_p0_net_stations, .inr (4, [.int (8 : Int32), .int (10 : Int32), .ref a_p0_net_stations_cells])), (a_p0_net_stations_cells, .inl (k 0, 80, .inl c_p0_net_stations)), (a_p0_net_links, .inr (4, [.int (16 : Int32), .int (9 : Int32), .ref a_p0_net_links_cells])), (a_p0_net_links_cells, .inl (k 0, 144, .inl t1.2.2.1)), (a_p0_net_ways, .inr (5, [.ref a_p0_net_ways_heard, .int c_p0_net_ways_arrival, .int c_p0_net_ways_fewest, .int c_p0_net_ways_next])), (a_p0_net_ways_heard, .inl (k 1, 24, .inr (.inl t1.2.2.2))), (a_p4, .inl (k 1, 1, .inr (.inl w1)))]) rfl dL_setLink_11 (fun H locs hW => ?_)
    refine lv_goto (tgt := 23) hx hb dL_setLink_12 (by decide) ?_
    refine lv_iconst (v := 0) hx hb dL_setLink_23 (by decide) ?_
    cases hf
    exact hE _ _ _ _ hW dL_setLink_24
def fL_setRules (c_p0_net_life : Int32) (c_p0_net_tries : Int32) (c_p0_net_x : Int32) (i1 : Int32) (i2 : Int32) (i3 : Int32) : Option (Int32 × Int32 × Int32 × Int32) :=
  (fX6_setRules c_p0_net_life c_p0_net_tries c_p0_net_x i1 i2 i3).bind fun t1 =>
  if t1.1 = 0 then
    some ((0 : Int32), t1.2.1, t1.2.2.1, t1.2.2.2)
  else
  if t1.1 = 1 then
    some ((1 : Int32), t1.2.1, t1.2.2.1, t1.2.2.2)
  else
  none
set_option maxHeartbeats 4000000 in
set_option maxRecDepth 20000 in
theorem kL_setRules (l : Launch) (D : va_G) (k : Nat → ClassId) (z : (Nat → Nat) × (Nat → Nat)) (a_p0 : Nat) (a_p0_setup : Nat) (a_p0_net : Nat) (a_p0_trial : Nat) (a_p0_saved : Nat) (a_p0_line : Nat) (a_p0_net_stations : Nat) (a_p0_net_links : Nat) (a_p0_net_messages : Nat) (a_p0_net_copies : Nat) (a_p0_net_log : Nat) (a_p0_net_ways : Nat) (a_p0_net_frames : Nat) (c_p0_latestError : Int32) (c_p0_latestErrorPosition : Int32) (c_p0_net_stationCount : Int32) (c_p0_net_linkCount : Int32) (c_p0_net_messageCount : Int32) (c_p0_net_time : Int32) (c_p0_net_life : Int32) (c_p0_net_tries : Int32) (c_p0_net_x : Int32) (i1 : Int32) (i2 : Int32) (i3 : Int32) {u : Int32 × Int32 × Int32 × Int32} (hf : fL_setRules c_p0_net_life c_p0_net_tries c_p0_net_x i1 i2 i3 = some u) : rn_KW l D k z yL_setRules cL_setRules 5 hhL_setRules 7 105 [.ref a_p0, .int i1, .int i2, .int i3] [(a_p0, .inr (6, [.ref a_p0_setup, .int c_p0_latestError, .int c_p0_latestErrorPosition, .ref a_p0_net, .ref a_p0_trial, .ref a_p0_saved, .ref a_p0_line])), (a_p0_net, .inr (2, [.ref a_p0_net_stations, .ref a_p0_net_links, .ref a_p0_net_messages, .ref a_p0_net_copies, .ref a_p0_net_log, .ref a_p0_net_ways, .ref a_p0_net_frames, .int c_p0_net_stationCount, .int c_p0_net_linkCount, .int c_p0_net_messageCount, .int c_p0_net_time, .int c_p0_net_life, .int c_p0_net_tries, .int c_p0_net_x]))] [(a_p0, .inr (6, [.ref a_p0_setup, .int c_p0_latestError, .int c_p0_latestErrorPosition, .ref a_p0_net, .ref a_p0_trial, .ref a_p0_saved, .ref a_p0_line])), (a_p0_net, .inr (2, [.ref a_p0_net_stations, .ref a_p0_net_links, .ref a_p0_net_messages, .ref a_p0_net_copies, .ref a_p0_net_log, .ref a_p0_net_ways, .ref a_p0_net_frames, .int c_p0_net_stationCount, .int c_p0_net_linkCount, .int c_p0_net_messageCount, .int c_p0_net_time, .int u.2.1, .int u.2.2.1, .int u.2.2.2]))] u.1 := by
  refine rn_KW.go (LOC := [(0, .ref a_p0), (1, .int i1), (2, .int i2), (3, .int i3)]) rfl (by decide) (Nat.le_of_ble_eq_true rfl) rfl ?_
  intro p e s m args below meth c A ls R Q hst hxc htab X hR hE hW hl
  have hx := X.1.1
  have hb := X.1.2.1
  have hts := X.1.2.2.2.2
  unfold fL_setRules at hf
  obtain ⟨t1, ht1, hf⟩ := rn_bind hf
  refine lv_aload_n hx hb dL_setRules_0 rfl (lv_at hl 0 rfl) ?_
  refine lv_iload_n hx hb dL_setRules_1 rfl (lv_at hl 1 rfl) ?_
  refine lv_iload_n hx hb dL_setRules_2 rfl (lv_at hl 2 rfl) ?_
  refine lv_iload_n hx hb dL_setRules_3 rfl (lv_at hl 3 rfl) ?_
  refine rr_xcallV (As := [.int i1, .int i2, .int i3]) (rest := []) X hxc hst hW (kX6_setRules l D k z a_p0 a_p0_setup a_p0_net a_p0_trial a_p0_saved a_p0_line a_p0_net_stations a_p0_net_links a_p0_net_messages a_p0_net_copies a_p0_net_log a_p0_net_ways a_p0_net_frames c_p0_latestError c_p0_latestErrorPosition c_p0_net_stationCount c_p0_net_linkCount c_p0_net_messageCount c_p0_net_time c_p0_net_life c_p0_net_tries c_p0_net_x i1 i2 i3 ht1) gm_X6_setRules gl_L_36 [0, 1] [] [(a_p0, .inr (6, [.ref a_p0_setup, .int c_p0_latestError, .int c_p0_latestErrorPosition, .ref a_p0_net, .ref a_p0_trial, .ref a_p0_saved, .ref a_p0_line])), (a_p0_net, .inr (2, [.ref a_p0_net_stations, .ref a_p0_net_links, .ref a_p0_net_messages, .ref a_p0_net_copies, .ref a_p0_net_log, .ref a_p0_net_ways, .ref a_p0_net_frames, .int c_p0_net_stationCount, .int c_p0_net_linkCount, .int c_p0_net_messageCount, .int c_p0_net_time, .int t1.2.1, .int t1.2.2.1, .int t1.2.2.2]))] rfl rfl rfl rfl ⟨rfl, rfl, rfl, rfl, rfl⟩ (rn_rT hR rfl) (rn_cs1 hR) hl.1 rfl (Nat.le_of_ble_eq_true rfl) dL_setRules_4 (fun hk H locs q9 ce hW hq9 hv hcl => ?_) (fun hk H locs hW => ?_)
  · replace hf := rn_f hf hk
    by_cases hk0 : t1.1 = 1
    · replace hf := rn_t hf hk0
      rw [hk0] at hcl
      refine vx_catch (name := rn_ex 1) X.1.2.2.2.1 [] (⟨0, 7, 10, 18⟩ : ExceptionTableEntry) [] (htab.trans rfl) (fun z hz => nomatch hz) (by decide) (by decide) (hts _ qc_1) (va_any rfl hxc.2.1.1) hq9 hv hcl ?_
      refine lv_astore (lv' := [(4, .ref q9), (0, .ref a_p0), (1, .int i1), (2, .int i2), (3, .int i3)]) hx hb dL_setRules_10 hl (Nat.le_of_ble_eq_true rfl) rfl (fun ls hl => ?_)
      refine lv_iconst (v := 1) hx hb dL_setRules_12 (by decide) ?_
      cases hf
      exact hE _ _ _ _ hW dL_setRules_13
    replace hf := rn_f hf hk0
    cases hf
  · replace hf := rn_t hf hk
    refine lv_goto (tgt := 14) hx hb dL_setRules_7 (by decide) ?_
    refine lv_iconst (v := 0) hx hb dL_setRules_14 (by decide) ?_
    cases hf
    exact hE _ _ _ _ hW dL_setRules_15
def fL_station (N : Nat) (c_p0_net_stationCount : Int32) (c_p0_net_linkCount : Int32) (c_p0_net_messageCount : Int32) (c_p0_net_time : Int32) (c_p0_net_stations : Nat → Int32) (c_p0_net_links : Nat → Int32) (c_p0_net_copies : Nat → Int32) (c_p3 : Nat → Int64) (i1 : Int32) (i2 : Int32) : Option (Int32 × (Nat → Int64)) :=
  (fX6_station N c_p0_net_stationCount c_p0_net_linkCount c_p0_net_messageCount c_p0_net_time c_p0_net_stations c_p0_net_links c_p0_net_copies i1 i2).bind fun t1 =>
  if t1.1 = 0 then
    rn_let (vp_updL c_p3 (0 : Int32).toNatClampNeg t1.2.toInt64) fun w1 =>
    some ((0 : Int32), w1)
  else
  if t1.1 = 3 then
    some ((1 : Int32), c_p3)
  else
  if t1.1 = 1 then
    some ((2 : Int32), c_p3)
  else
  none
set_option maxHeartbeats 4000000 in
set_option maxRecDepth 20000 in
theorem kL_station (l : Launch) (D : va_G) (k : Nat → ClassId) (z : (Nat → Nat) × (Nat → Nat)) (N : Nat) (a_p0 : Nat) (a_p3 : Nat) (a_p0_setup : Nat) (a_p0_net : Nat) (a_p0_trial : Nat) (a_p0_saved : Nat) (a_p0_line : Nat) (a_p0_net_stations : Nat) (a_p0_net_links : Nat) (a_p0_net_messages : Nat) (a_p0_net_copies : Nat) (a_p0_net_log : Nat) (a_p0_net_ways : Nat) (a_p0_net_frames : Nat) (a_p0_net_stations_cells : Nat) (a_p0_net_links_cells : Nat) (a_p0_net_copies_cells : Nat) (c_p0_latestError : Int32) (c_p0_latestErrorPosition : Int32) (c_p0_net_stationCount : Int32) (c_p0_net_linkCount : Int32) (c_p0_net_messageCount : Int32) (c_p0_net_time : Int32) (c_p0_net_life : Int32) (c_p0_net_tries : Int32) (c_p0_net_x : Int32) (c_p0_net_stations : Nat → Int32) (c_p0_net_links : Nat → Int32) (c_p0_net_copies : Nat → Int32) (c_p3 : Nat → Int64) (i1 : Int32) (i2 : Int32) {u : Int32 × (Nat → Int64)} (hf : fL_station N c_p0_net_stationCount c_p0_net_linkCount c_p0_net_messageCount c_p0_net_time c_p0_net_stations c_p0_net_links c_p0_net_copies c_p3 i1 i2 = some u) : rn_KW l D k z yL_station cL_station 5 hhL_station 7 116 [.ref a_p0, .int i1, .int i2, .ref a_p3] [(a_p0, .inr (6, [.ref a_p0_setup, .int c_p0_latestError, .int c_p0_latestErrorPosition, .ref a_p0_net, .ref a_p0_trial, .ref a_p0_saved, .ref a_p0_line])), (a_p0_net, .inr (2, [.ref a_p0_net_stations, .ref a_p0_net_links, .ref a_p0_net_messages, .ref a_p0_net_copies, .ref a_p0_net_log, .ref a_p0_net_ways, .ref a_p0_net_frames, .int c_p0_net_stationCount, .int c_p0_net_linkCount, .int c_p0_net_messageCount, .int c_p0_net_time, .int c_p0_net_life, .int c_p0_net_tries, .int c_p0_net_x])), (a_p0_net_stations, .inr (4, [.int (8 : Int32), .int (10 : Int32), .ref a_p0_net_stations_cells])), (a_p0_net_stations_cells, .inl (k 0, 80, .inl c_p0_net_stations)), (a_p0_net_links, .inr (4, [.int (16 : Int32), .int (9 : Int32), .ref a_p0_net_links_cells])), (a_p0_net_links_cells, .inl (k 0, 144, .inl c_p0_net_links)), (a_p0_net_copies, .inr (4, [.int (192 : Int32), .int (5 : Int32), .ref a_p0_net_copies_cells])), (a_p0_net_copies_cells, .inl (k 0, 960, .inl c_p0_net_copies)), (a_p3, .inl (k 1, 1, .inr (.inl c_p3)))] [(a_p0, .inr (6, [.ref a_p0_setup, .int c_p0_latestError, .int c_p0_latestErrorPosition, .ref a_p0_net, .ref a_p0_trial, .ref a_p0_saved, .ref a_p0_line])), (a_p0_net, .inr (2, [.ref a_p0_net_stations, .ref a_p0_net_links, .ref a_p0_net_messages, .ref a_p0_net_copies, .ref a_p0_net_log, .ref a_p0_net_ways, .ref a_p0_net_frames, .int c_p0_net_stationCount, .int c_p0_net_linkCount, .int c_p0_net_messageCount, .int c_p0_net_time, .int c_p0_net_life, .int c_p0_net_tries, .int c_p0_net_x])), (a_p0_net_stations, .inr (4, [.int (8 : Int32), .int (10 : Int32), .ref a_p0_net_stations_cells])), (a_p0_net_stations_cells, .inl (k 0, 80, .inl c_p0_net_stations)), (a_p0_net_links, .inr (4, [.int (16 : Int32), .int (9 : Int32), .ref a_p0_net_links_cells])), (a_p0_net_links_cells, .inl (k 0, 144, .inl c_p0_net_links)), (a_p0_net_copies, .inr (4, [.int (192 : Int32), .int (5 : Int32), .ref a_p0_net_copies_cells])), (a_p0_net_copies_cells, .inl (k 0, 960, .inl c_p0_net_copies)), (a_p3, .inl (k 1, 1, .inr (.inl u.2)))] u.1 := by
  refine rn_KW.go (LOC := [(0, .ref a_p0), (1, .int i1), (2, .int i2), (3, .ref a_p3)]) rfl (by decide) (Nat.le_of_ble_eq_true rfl) rfl ?_
  intro p e s m args below meth c A ls R Q hst hxc htab X hR hE hW hl
  have hx := X.1.1
  have hb := X.1.2.1
  have hts := X.1.2.2.2.2
  unfold fL_station at hf
  obtain ⟨t1, ht1, hf⟩ := rn_bind hf
  refine lv_aload_n hx hb dL_station_0 rfl (lv_at hl 3 rfl) ?_
  refine lv_iconst (v := 0) hx hb dL_station_1 (by decide) ?_
  refine lv_aload_n hx hb dL_station_2 rfl (lv_at hl 0 rfl) ?_
  refine lv_iload_n hx hb dL_station_3 rfl (lv_at hl 1 rfl) ?_
  refine lv_iload_n hx hb dL_station_4 rfl (lv_at hl 2 rfl) ?_
  refine rr_xcallI (As := [.int i1, .int i2]) (rest := [.int (0 : Int32), .ref a_p3]) X hxc hst hW (kX6_station l D k z N a_p0 a_p0_setup a_p0_net a_p0_trial a_p0_saved a_p0_line a_p0_net_stations a_p0_net_links a_p0_net_messages a_p0_net_copies a_p0_net_log a_p0_net_ways a_p0_net_frames a_p0_net_stations_cells a_p0_net_links_cells a_p0_net_copies_cells c_p0_latestError c_p0_latestErrorPosition c_p0_net_stationCount c_p0_net_linkCount c_p0_net_messageCount c_p0_net_time c_p0_net_life c_p0_net_tries c_p0_net_x c_p0_net_stations c_p0_net_links c_p0_net_copies i1 i2 ht1) gm_X6_station gl_L_40 [0, 1, 2, 3, 4, 5, 6, 7] [8] [(a_p0, .inr (6, [.ref a_p0_setup, .int c_p0_latestError, .int c_p0_latestErrorPosition, .ref a_p0_net, .ref a_p0_trial, .ref a_p0_saved, .ref a_p0_line])), (a_p0_net, .inr (2, [.ref a_p0_net_stations, .ref a_p0_net_links, .ref a_p0_net_messages, .ref a_p0_net_copies, .ref a_p0_net_log, .ref a_p0_net_ways, .ref a_p0_net_frames, .int c_p0_net_stationCount, .int c_p0_net_linkCount, .int c_p0_net_messageCount, .int c_p0_net_time, .int c_p0_net_life, .int c_p0_net_tries, .int c_p0_net_x])), (a_p0_net_stations, .inr (4, [.int (8 : Int32), .int (10 : Int32), .ref a_p0_net_stations_cells])), (a_p0_net_stations_cells, .inl (k 0, 80, .inl c_p0_net_stations)), (a_p0_net_links, .inr (4, [.int (16 : Int32), .int (9 : Int32), .ref a_p0_net_links_cells])), (a_p0_net_links_cells, .inl (k 0, 144, .inl c_p0_net_links)), (a_p0_net_copies, .inr (4, [.int (192 : Int32), .int (5 : Int32), .ref a_p0_net_copies_cells])), (a_p0_net_copies_cells, .inl (k 0, 960, .inl c_p0_net_copies)), (a_p3, .inl (k 1, 1, .inr (.inl c_p3)))] rfl rfl rfl rfl ⟨rfl, rfl, rn_Bw (wr := [(a_p3, .inl (k 1, 1, .inr (.inl c_p3)))]) rfl rfl, rfl, rfl⟩ (rn_rT hR rfl) (rn_cs1 hR) hl.1 rfl (Nat.le_of_ble_eq_true rfl) dL_station_5 (fun hk H locs q9 ce hW hq9 hv hcl => ?_) (fun hk hn H locs hW => ?_)
  · replace hf := rn_f hf hk
    by_cases hk0 : t1.1 = 3
    · replace hf := rn_t hf hk0
      rw [hk0] at hcl
      refine vx_catch (name := rn_ex 3) X.1.2.2.2.1 [] (⟨0, 10, 13, 28⟩ : ExceptionTableEntry) [(⟨0, 10, 17, 18⟩ : ExceptionTableEntry)] (htab.trans rfl) (fun z hz => nomatch hz) (by decide) (by decide) (hts _ qc_3) (va_any rfl hxc.2.1.2.2) hq9 hv hcl ?_
      refine lv_astore (lv' := [(4, .ref q9), (0, .ref a_p0), (1, .int i1), (2, .int i2), (3, .ref a_p3)]) hx hb dL_station_13 hl (Nat.le_of_ble_eq_true rfl) rfl (fun ls hl => ?_)
      refine lv_iconst (v := 1) hx hb dL_station_15 (by decide) ?_
      cases hf
      exact hE _ _ _ _ hW dL_station_16
    replace hf := rn_f hf hk0
    by_cases hk1 : t1.1 = 1
    · replace hf := rn_t hf hk1
      rw [hk1] at hcl
      refine vx_catch (name := rn_ex 1) X.1.2.2.2.1 [(⟨0, 10, 13, 28⟩ : ExceptionTableEntry)] (⟨0, 10, 17, 18⟩ : ExceptionTableEntry) [] (htab.trans rfl) (fun z hz => by rcases List.mem_singleton.mp hz with rfl; exact Or.inr ⟨by decide, rn_ex 3, hts _ qc_3, hxc.2.2.1.2⟩) (by decide) (by decide) (hts _ qc_1) (va_any rfl hxc.2.1.1) hq9 hv hcl ?_
      refine lv_astore (lv' := [(4, .ref q9), (0, .ref a_p0), (1, .int i1), (2, .int i2), (3, .ref a_p3)]) hx hb dL_station_17 hl (Nat.le_of_ble_eq_true rfl) rfl (fun ls hl => ?_)
      refine lv_iconst (v := 2) hx hb dL_station_19 (by decide) ?_
      cases hf
      exact hE _ _ _ _ hW dL_station_20
    replace hf := rn_f hf hk1
    cases hf
  · replace hf := rn_t hf hk
    refine lv_i2l (v := t1.2.toInt64) hx hb dL_station_8 rfl ?_
    obtain ⟨w1, hw1, hf⟩ := rn_let_s hf
    refine rr_last' X hW 8 rfl rn_in01 hw1 (ws' := [(a_p0, .inr (6, [.ref a_p0_setup, .int c_p0_latestError, .int c_p0_latestErrorPosition, .ref a_p0_net, .ref a_p0_trial, .ref a_p0_saved, .ref a_p0_line])), (a_p0_net, .inr (2, [.ref a_p0_net_stations, .ref a_p0_net_links, .ref a_p0_net_messages, .ref a_p0_net_copies, .ref a_p0_net_log, .ref a_p0_net_ways, .ref a_p0_net_frames, .int c_p0_net_stationCount, .int c_p0_net_linkCount, .int c_p0_net_messageCount, .int c_p0_net_time, .int c_p0_net_life, .int c_p0_net_tries, .int c_p0_net_x])), (a_p0_net_stations, .inr (4, [.int (8 : Int32), .int (10 : Int32), .ref a_p0_net_stations_cells])), (a_p0_net_stations_cells, .inl (k 0, 80, .inl c_p0_net_stations)), (a_p0_net_links, .inr (4, [.int (16 : Int32), .int (9 : Int32), .ref a_p0_net_links_cells])), (a_p0_net_links_cells, .inl (k 0, 144, .inl c_p0_net_links)), (a_p0_net_copies, .inr (4, [.int (192 : Int32), .int (5 : Int32), .ref a_p0_net_copies_cells])), (a_p0_net_copies_cells, .inl (k 0, 960, .inl c_p0_net_copies)), (a_p3, .inl (k 1, 1, .inr (.inl w1)))]) rfl dL_station_9 (fun H locs hW => ?_)
    refine lv_goto (tgt := 21) hx hb dL_station_10 (by decide) ?_
    refine lv_iconst (v := 0) hx hb dL_station_21 (by decide) ?_
    cases hf
    exact hE _ _ _ _ hW dL_station_22
def fL_link (c_p0_net_linkCount : Int32) (c_p0_net_time : Int32) (c_p0_net_stations : Nat → Int32) (c_p0_net_links : Nat → Int32) (c_p3 : Nat → Int64) (i1 : Int32) (i2 : Int32) : Option (Int32 × (Nat → Int64)) :=
  (fX6_link c_p0_net_linkCount c_p0_net_time c_p0_net_stations c_p0_net_links i1 i2).bind fun t1 =>
  if t1.1 = 0 then
    rn_let (vp_updL c_p3 (0 : Int32).toNatClampNeg t1.2.toInt64) fun w1 =>
    some ((0 : Int32), w1)
  else
  if t1.1 = 3 then
    some ((1 : Int32), c_p3)
  else
  if t1.1 = 1 then
    some ((2 : Int32), c_p3)
  else
  none
set_option maxHeartbeats 4000000 in
set_option maxRecDepth 20000 in
theorem kL_link (l : Launch) (D : va_G) (k : Nat → ClassId) (z : (Nat → Nat) × (Nat → Nat)) (a_p0 : Nat) (a_p3 : Nat) (a_p0_setup : Nat) (a_p0_net : Nat) (a_p0_trial : Nat) (a_p0_saved : Nat) (a_p0_line : Nat) (a_p0_net_stations : Nat) (a_p0_net_links : Nat) (a_p0_net_messages : Nat) (a_p0_net_copies : Nat) (a_p0_net_log : Nat) (a_p0_net_ways : Nat) (a_p0_net_frames : Nat) (a_p0_net_stations_cells : Nat) (a_p0_net_links_cells : Nat) (c_p0_latestError : Int32) (c_p0_latestErrorPosition : Int32) (c_p0_net_stationCount : Int32) (c_p0_net_linkCount : Int32) (c_p0_net_messageCount : Int32) (c_p0_net_time : Int32) (c_p0_net_life : Int32) (c_p0_net_tries : Int32) (c_p0_net_x : Int32) (c_p0_net_stations : Nat → Int32) (c_p0_net_links : Nat → Int32) (c_p3 : Nat → Int64) (i1 : Int32) (i2 : Int32) {u : Int32 × (Nat → Int64)} (hf : fL_link c_p0_net_linkCount c_p0_net_time c_p0_net_stations c_p0_net_links c_p3 i1 i2 = some u) : rn_KW l D k z yL_link cL_link 5 hhL_link 7 111 [.ref a_p0, .int i1, .int i2, .ref a_p3] [(a_p0, .inr (6, [.ref a_p0_setup, .int c_p0_latestError, .int c_p0_latestErrorPosition, .ref a_p0_net, .ref a_p0_trial, .ref a_p0_saved, .ref a_p0_line])), (a_p0_net, .inr (2, [.ref a_p0_net_stations, .ref a_p0_net_links, .ref a_p0_net_messages, .ref a_p0_net_copies, .ref a_p0_net_log, .ref a_p0_net_ways, .ref a_p0_net_frames, .int c_p0_net_stationCount, .int c_p0_net_linkCount, .int c_p0_net_messageCount, .int c_p0_net_time, .int c_p0_net_life, .int c_p0_net_tries, .int c_p0_net_x])), (a_p0_net_stations, .inr (4, [.int (8 : Int32), .int (10 : Int32), .ref a_p0_net_stations_cells])), (a_p0_net_stations_cells, .inl (k 0, 80, .inl c_p0_net_stations)), (a_p0_net_links, .inr (4, [.int (16 : Int32), .int (9 : Int32), .ref a_p0_net_links_cells])), (a_p0_net_links_cells, .inl (k 0, 144, .inl c_p0_net_links)), (a_p3, .inl (k 1, 1, .inr (.inl c_p3)))] [(a_p0, .inr (6, [.ref a_p0_setup, .int c_p0_latestError, .int c_p0_latestErrorPosition, .ref a_p0_net, .ref a_p0_trial, .ref a_p0_saved, .ref a_p0_line])), (a_p0_net, .inr (2, [.ref a_p0_net_stations, .ref a_p0_net_links, .ref a_p0_net_messages, .ref a_p0_net_copies, .ref a_p0_net_log, .ref a_p0_net_ways, .ref a_p0_net_frames, .int c_p0_net_stationCount, .int c_p0_net_linkCount, .int c_p0_net_messageCount, .int c_p0_net_time, .int c_p0_net_life, .int c_p0_net_tries, .int c_p0_net_x])), (a_p0_net_stations, .inr (4, [.int (8 : Int32), .int (10 : Int32), .ref a_p0_net_stations_cells])), (a_p0_net_stations_cells, .inl (k 0, 80, .inl c_p0_net_stations)), (a_p0_net_links, .inr (4, [.int (16 : Int32), .int (9 : Int32), .ref a_p0_net_links_cells])), (a_p0_net_links_cells, .inl (k 0, 144, .inl c_p0_net_links)), (a_p3, .inl (k 1, 1, .inr (.inl u.2)))] u.1 := by
  refine rn_KW.go (LOC := [(0, .ref a_p0), (1, .int i1), (2, .int i2), (3, .ref a_p3)]) rfl (by decide) (Nat.le_of_ble_eq_true rfl) rfl ?_
  intro p e s m args below meth c A ls R Q hst hxc htab X hR hE hW hl
  have hx := X.1.1
  have hb := X.1.2.1
  have hts := X.1.2.2.2.2
  unfold fL_link at hf
  obtain ⟨t1, ht1, hf⟩ := rn_bind hf
  refine lv_aload_n hx hb dL_link_0 rfl (lv_at hl 3 rfl) ?_
  refine lv_iconst (v := 0) hx hb dL_link_1 (by decide) ?_
  refine lv_aload_n hx hb dL_link_2 rfl (lv_at hl 0 rfl) ?_
  refine lv_iload_n hx hb dL_link_3 rfl (lv_at hl 1 rfl) ?_
  refine lv_iload_n hx hb dL_link_4 rfl (lv_at hl 2 rfl) ?_
  refine rr_xcallI (As := [.int i1, .int i2]) (rest := [.int (0 : Int32), .ref a_p3]) X hxc hst hW (kX6_link l D k z a_p0 a_p0_setup a_p0_net a_p0_trial a_p0_saved a_p0_line a_p0_net_stations a_p0_net_links a_p0_net_messages a_p0_net_copies a_p0_net_log a_p0_net_ways a_p0_net_frames a_p0_net_stations_cells a_p0_net_links_cells c_p0_latestError c_p0_latestErrorPosition c_p0_net_stationCount c_p0_net_linkCount c_p0_net_messageCount c_p0_net_time c_p0_net_life c_p0_net_tries c_p0_net_x c_p0_net_stations c_p0_net_links i1 i2 ht1) gm_X6_link gl_L_44 [0, 1, 2, 3, 4, 5] [6] [(a_p0, .inr (6, [.ref a_p0_setup, .int c_p0_latestError, .int c_p0_latestErrorPosition, .ref a_p0_net, .ref a_p0_trial, .ref a_p0_saved, .ref a_p0_line])), (a_p0_net, .inr (2, [.ref a_p0_net_stations, .ref a_p0_net_links, .ref a_p0_net_messages, .ref a_p0_net_copies, .ref a_p0_net_log, .ref a_p0_net_ways, .ref a_p0_net_frames, .int c_p0_net_stationCount, .int c_p0_net_linkCount, .int c_p0_net_messageCount, .int c_p0_net_time, .int c_p0_net_life, .int c_p0_net_tries, .int c_p0_net_x])), (a_p0_net_stations, .inr (4, [.int (8 : Int32), .int (10 : Int32), .ref a_p0_net_stations_cells])), (a_p0_net_stations_cells, .inl (k 0, 80, .inl c_p0_net_stations)), (a_p0_net_links, .inr (4, [.int (16 : Int32), .int (9 : Int32), .ref a_p0_net_links_cells])), (a_p0_net_links_cells, .inl (k 0, 144, .inl c_p0_net_links)), (a_p3, .inl (k 1, 1, .inr (.inl c_p3)))] rfl rfl rfl rfl ⟨rfl, rfl, rn_Bw (wr := [(a_p3, .inl (k 1, 1, .inr (.inl c_p3)))]) rfl rfl, rfl, rfl⟩ (rn_rT hR rfl) (rn_cs1 hR) hl.1 rfl (Nat.le_of_ble_eq_true rfl) dL_link_5 (fun hk H locs q9 ce hW hq9 hv hcl => ?_) (fun hk hn H locs hW => ?_)
  · replace hf := rn_f hf hk
    by_cases hk0 : t1.1 = 3
    · replace hf := rn_t hf hk0
      rw [hk0] at hcl
      refine vx_catch (name := rn_ex 3) X.1.2.2.2.1 [] (⟨0, 10, 13, 28⟩ : ExceptionTableEntry) [(⟨0, 10, 17, 18⟩ : ExceptionTableEntry)] (htab.trans rfl) (fun z hz => nomatch hz) (by decide) (by decide) (hts _ qc_3) (va_any rfl hxc.2.1.2.2) hq9 hv hcl ?_
      refine lv_astore (lv' := [(4, .ref q9), (0, .ref a_p0), (1, .int i1), (2, .int i2), (3, .ref a_p3)]) hx hb dL_link_13 hl (Nat.le_of_ble_eq_true rfl) rfl (fun ls hl => ?_)
      refine lv_iconst (v := 1) hx hb dL_link_15 (by decide) ?_
      cases hf
      exact hE _ _ _ _ hW dL_link_16
    replace hf := rn_f hf hk0
    by_cases hk1 : t1.1 = 1
    · replace hf := rn_t hf hk1
      rw [hk1] at hcl
      refine vx_catch (name := rn_ex 1) X.1.2.2.2.1 [(⟨0, 10, 13, 28⟩ : ExceptionTableEntry)] (⟨0, 10, 17, 18⟩ : ExceptionTableEntry) [] (htab.trans rfl) (fun z hz => by rcases List.mem_singleton.mp hz with rfl; exact Or.inr ⟨by decide, rn_ex 3, hts _ qc_3, hxc.2.2.1.2⟩) (by decide) (by decide) (hts _ qc_1) (va_any rfl hxc.2.1.1) hq9 hv hcl ?_
      refine lv_astore (lv' := [(4, .ref q9), (0, .ref a_p0), (1, .int i1), (2, .int i2), (3, .ref a_p3)]) hx hb dL_link_17 hl (Nat.le_of_ble_eq_true rfl) rfl (fun ls hl => ?_)
      refine lv_iconst (v := 2) hx hb dL_link_19 (by decide) ?_
      cases hf
      exact hE _ _ _ _ hW dL_link_20
    replace hf := rn_f hf hk1
    cases hf
  · replace hf := rn_t hf hk
    refine lv_i2l (v := t1.2.toInt64) hx hb dL_link_8 rfl ?_
    obtain ⟨w1, hw1, hf⟩ := rn_let_s hf
    refine rr_last' X hW 6 rfl rn_in01 hw1 (ws' := [(a_p0, .inr (6, [.ref a_p0_setup, .int c_p0_latestError, .int c_p0_latestErrorPosition, .ref a_p0_net, .ref a_p0_trial, .ref a_p0_saved, .ref a_p0_line])), (a_p0_net, .inr (2, [.ref a_p0_net_stations, .ref a_p0_net_links, .ref a_p0_net_messages, .ref a_p0_net_copies, .ref a_p0_net_log, .ref a_p0_net_ways, .ref a_p0_net_frames, .int c_p0_net_stationCount, .int c_p0_net_linkCount, .int c_p0_net_messageCount, .int c_p0_net_time, .int c_p0_net_life, .int c_p0_net_tries, .int c_p0_net_x])), (a_p0_net_stations, .inr (4, [.int (8 : Int32), .int (10 : Int32), .ref a_p0_net_stations_cells])), (a_p0_net_stations_cells, .inl (k 0, 80, .inl c_p0_net_stations)), (a_p0_net_links, .inr (4, [.int (16 : Int32), .int (9 : Int32), .ref a_p0_net_links_cells])), (a_p0_net_links_cells, .inl (k 0, 144, .inl c_p0_net_links)), (a_p3, .inl (k 1, 1, .inr (.inl w1)))]) rfl dL_link_9 (fun H locs hW => ?_)
    refine lv_goto (tgt := 21) hx hb dL_link_10 (by decide) ?_
    refine lv_iconst (v := 0) hx hb dL_link_21 (by decide) ?_
    cases hf
    exact hE _ _ _ _ hW dL_link_22
def fL_count (N : Nat) (c_p0_net_stationCount : Int32) (c_p0_net_linkCount : Int32) (c_p0_net_messageCount : Int32) (c_p0_net_time : Int32) (c_p0_net_life : Int32) (c_p0_net_tries : Int32) (c_p0_net_x : Int32) (c_p0_net_stations : Nat → Int32) (c_p0_net_links : Nat → Int32) (c_p0_net_messages : Nat → Int32) (c_p0_net_copies : Nat → Int32) (c_p0_net_log_size : Int32) (c_p2 : Nat → Int64) (i1 : Int32) : Option (Int32 × (Nat → Int64)) :=
  (fX6_count N c_p0_net_stationCount c_p0_net_linkCount c_p0_net_messageCount c_p0_net_time c_p0_net_life c_p0_net_tries c_p0_net_x c_p0_net_stations c_p0_net_links c_p0_net_messages c_p0_net_copies c_p0_net_log_size i1).bind fun t1 =>
  if t1.1 = 0 then
    rn_let (vp_updL c_p2 (0 : Int32).toNatClampNeg t1.2.toInt64) fun w1 =>
    some ((0 : Int32), w1)
  else
  if t1.1 = 1 then
    some ((1 : Int32), c_p2)
  else
  none
set_option maxHeartbeats 4000000 in
set_option maxRecDepth 20000 in
theorem kL_count (l : Launch) (D : va_G) (k : Nat → ClassId) (z : (Nat → Nat) × (Nat → Nat)) (N : Nat) (a_p0 : Nat) (a_p2 : Nat) (a_p0_setup : Nat) (a_p0_net : Nat) (a_p0_trial : Nat) (a_p0_saved : Nat) (a_p0_line : Nat) (a_p0_net_stations : Nat) (a_p0_net_links : Nat) (a_p0_net_messages : Nat) (a_p0_net_copies : Nat) (a_p0_net_log : Nat) (a_p0_net_ways : Nat) (a_p0_net_frames : Nat) (a_p0_net_stations_cells : Nat) (a_p0_net_links_cells : Nat) (a_p0_net_messages_cells : Nat) (a_p0_net_copies_cells : Nat) (a_p0_net_log_events : Nat) (c_p0_latestError : Int32) (c_p0_latestErrorPosition : Int32) (c_p0_net_stationCount : Int32) (c_p0_net_linkCount : Int32) (c_p0_net_messageCount : Int32) (c_p0_net_time : Int32) (c_p0_net_life : Int32) (c_p0_net_tries : Int32) (c_p0_net_x : Int32) (c_p0_net_stations : Nat → Int32) (c_p0_net_links : Nat → Int32) (c_p0_net_messages : Nat → Int32) (c_p0_net_copies : Nat → Int32) (c_p0_net_log_first : Int32) (c_p0_net_log_size : Int32) (c_p2 : Nat → Int64) (i1 : Int32) {u : Int32 × (Nat → Int64)} (hf : fL_count N c_p0_net_stationCount c_p0_net_linkCount c_p0_net_messageCount c_p0_net_time c_p0_net_life c_p0_net_tries c_p0_net_x c_p0_net_stations c_p0_net_links c_p0_net_messages c_p0_net_copies c_p0_net_log_size c_p2 i1 = some u) : rn_KW l D k z yL_count cL_count 4 hhL_count 7 158 [.ref a_p0, .int i1, .ref a_p2] [(a_p0, .inr (6, [.ref a_p0_setup, .int c_p0_latestError, .int c_p0_latestErrorPosition, .ref a_p0_net, .ref a_p0_trial, .ref a_p0_saved, .ref a_p0_line])), (a_p0_net, .inr (2, [.ref a_p0_net_stations, .ref a_p0_net_links, .ref a_p0_net_messages, .ref a_p0_net_copies, .ref a_p0_net_log, .ref a_p0_net_ways, .ref a_p0_net_frames, .int c_p0_net_stationCount, .int c_p0_net_linkCount, .int c_p0_net_messageCount, .int c_p0_net_time, .int c_p0_net_life, .int c_p0_net_tries, .int c_p0_net_x])), (a_p0_net_stations, .inr (4, [.int (8 : Int32), .int (10 : Int32), .ref a_p0_net_stations_cells])), (a_p0_net_stations_cells, .inl (k 0, 80, .inl c_p0_net_stations)), (a_p0_net_links, .inr (4, [.int (16 : Int32), .int (9 : Int32), .ref a_p0_net_links_cells])), (a_p0_net_links_cells, .inl (k 0, 144, .inl c_p0_net_links)), (a_p0_net_messages, .inr (4, [.int (24 : Int32), .int (12 : Int32), .ref a_p0_net_messages_cells])), (a_p0_net_messages_cells, .inl (k 0, 288, .inl c_p0_net_messages)), (a_p0_net_copies, .inr (4, [.int (192 : Int32), .int (5 : Int32), .ref a_p0_net_copies_cells])), (a_p0_net_copies_cells, .inl (k 0, 960, .inl c_p0_net_copies)), (a_p0_net_log, .inr (0, [.ref a_p0_net_log_events, .int c_p0_net_log_first, .int c_p0_net_log_size])), (a_p2, .inl (k 1, 1, .inr (.inl c_p2)))] [(a_p0, .inr (6, [.ref a_p0_setup, .int c_p0_latestError, .int c_p0_latestErrorPosition, .ref a_p0_net, .ref a_p0_trial, .ref a_p0_saved, .ref a_p0_line])), (a_p0_net, .inr (2, [.ref a_p0_net_stations, .ref a_p0_net_links, .ref a_p0_net_messages, .ref a_p0_net_copies, .ref a_p0_net_log, .ref a_p0_net_ways, .ref a_p0_net_frames, .int c_p0_net_stationCount, .int c_p0_net_linkCount, .int c_p0_net_messageCount, .int c_p0_net_time, .int c_p0_net_life, .int c_p0_net_tries, .int c_p0_net_x])), (a_p0_net_stations, .inr (4, [.int (8 : Int32), .int (10 : Int32), .ref a_p0_net_stations_cells])), (a_p0_net_stations_cells, .inl (k 0, 80, .inl c_p0_net_stations)), (a_p0_net_links, .inr (4, [.int (16 : Int32), .int (9 : Int32), .ref a_p0_net_links_cells])), (a_p0_net_links_cells, .inl (k 0, 144, .inl c_p0_net_links)), (a_p0_net_messages, .inr (4, [.int (24 : Int32), .int (12 : Int32), .ref a_p0_net_messages_cells])), (a_p0_net_messages_cells, .inl (k 0, 288, .inl c_p0_net_messages)), (a_p0_net_copies, .inr (4, [.int (192 : Int32), .int (5 : Int32), .ref a_p0_net_copies_cells])), (a_p0_net_copies_cells, .inl (k 0, 960, .inl c_p0_net_copies)), (a_p0_net_log, .inr (0, [.ref a_p0_net_log_events, .int c_p0_net_log_first, .int c_p0_net_log_size])), (a_p2, .inl (k 1, 1, .inr (.inl u.2)))] u.1 := by
  refine rn_KW.go (LOC := [(0, .ref a_p0), (1, .int i1), (2, .ref a_p2)]) rfl (by decide) (Nat.le_of_ble_eq_true rfl) rfl ?_
  intro p e s m args below meth c A ls R Q hst hxc htab X hR hE hW hl
  have hx := X.1.1
  have hb := X.1.2.1
  have hts := X.1.2.2.2.2
  unfold fL_count at hf
  obtain ⟨t1, ht1, hf⟩ := rn_bind hf
  refine lv_aload_n hx hb dL_count_0 rfl (lv_at hl 2 rfl) ?_
  refine lv_iconst (v := 0) hx hb dL_count_1 (by decide) ?_
  refine lv_aload_n hx hb dL_count_2 rfl (lv_at hl 0 rfl) ?_
  refine lv_iload_n hx hb dL_count_3 rfl (lv_at hl 1 rfl) ?_
  refine rr_xcallI (As := [.int i1]) (rest := [.int (0 : Int32), .ref a_p2]) X hxc hst hW (kX6_count l D k z N a_p0 a_p0_setup a_p0_net a_p0_trial a_p0_saved a_p0_line a_p0_net_stations a_p0_net_links a_p0_net_messages a_p0_net_copies a_p0_net_log a_p0_net_ways a_p0_net_frames a_p0_net_stations_cells a_p0_net_links_cells a_p0_net_messages_cells a_p0_net_copies_cells a_p0_net_log_events c_p0_latestError c_p0_latestErrorPosition c_p0_net_stationCount c_p0_net_linkCount c_p0_net_messageCount c_p0_net_time c_p0_net_life c_p0_net_tries c_p0_net_x c_p0_net_stations c_p0_net_links c_p0_net_messages c_p0_net_copies c_p0_net_log_first c_p0_net_log_size i1 ht1) gm_X6_count gl_L_47 [0, 1, 2, 3, 4, 5, 6, 7, 8, 9, 10] [11] [(a_p0, .inr (6, [.ref a_p0_setup, .int c_p0_latestError, .int c_p0_latestErrorPosition, .ref a_p0_net, .ref a_p0_trial, .ref a_p0_saved, .ref a_p0_line])), (a_p0_net, .inr (2, [.ref a_p0_net_stations, .ref a_p0_net_links, .ref a_p0_net_messages, .ref a_p0_net_copies, .ref a_p0_net_log, .ref a_p0_net_ways, .ref a_p0_net_frames, .int c_p0_net_stationCount, .int c_p0_net_linkCount, .int c_p0_net_messageCount, .int c_p0_net_time, .int c_p0_net_life, .int c_p0_net_tries, .int c_p0_net_x])), (a_p0_net_stations, .inr (4, [.int (8 : Int32), .int (10 : Int32), .ref a_p0_net_stations_cells])), (a_p0_net_stations_cells, .inl (k 0, 80, .inl c_p0_net_stations)), (a_p0_net_links, .inr (4, [.int (16 : Int32), .int (9 : Int32), .ref a_p0_net_links_cells])), (a_p0_net_links_cells, .inl (k 0, 144, .inl c_p0_net_links)), (a_p0_net_messages, .inr (4, [.int (24 : Int32), .int (12 : Int32), .ref a_p0_net_messages_cells])), (a_p0_net_messages_cells, .inl (k 0, 288, .inl c_p0_net_messages)), (a_p0_net_copies, .inr (4, [.int (192 : Int32), .int (5 : Int32), .ref a_p0_net_copies_cells])), (a_p0_net_copies_cells, .inl (k 0, 960, .inl c_p0_net_copies)), (a_p0_net_log, .inr (0, [.ref a_p0_net_log_events, .int c_p0_net_log_first, .int c_p0_net_log_size])), (a_p2, .inl (k 1, 1, .inr (.inl c_p2)))] rfl rfl rfl rfl ⟨rfl, rfl, rn_Bw (wr := [(a_p2, .inl (k 1, 1, .inr (.inl c_p2)))]) rfl rfl, rfl, rfl⟩ (rn_rT hR rfl) (rn_cs1 hR) hl.1 rfl (Nat.le_of_ble_eq_true rfl) dL_count_4 (fun hk H locs q9 ce hW hq9 hv hcl => ?_) (fun hk hn H locs hW => ?_)
  · replace hf := rn_f hf hk
    by_cases hk0 : t1.1 = 1
    · replace hf := rn_t hf hk0
      rw [hk0] at hcl
      refine vx_catch (name := rn_ex 1) X.1.2.2.2.1 [] (⟨0, 9, 12, 18⟩ : ExceptionTableEntry) [] (htab.trans rfl) (fun z hz => nomatch hz) (by decide) (by decide) (hts _ qc_1) (va_any rfl hxc.2.1.1) hq9 hv hcl ?_
      refine lv_astore_n (lv' := [(3, .ref q9), (0, .ref a_p0), (1, .int i1), (2, .ref a_p2)]) hx hb dL_count_12 rfl hl (Nat.le_of_ble_eq_true rfl) rfl (fun ls hl => ?_)
      refine lv_iconst (v := 1) hx hb dL_count_13 (by decide) ?_
      cases hf
      exact hE _ _ _ _ hW dL_count_14
    replace hf := rn_f hf hk0
    cases hf
  · replace hf := rn_t hf hk
    refine lv_i2l (v := t1.2.toInt64) hx hb dL_count_7 rfl ?_
    obtain ⟨w1, hw1, hf⟩ := rn_let_s hf
    refine rr_last' X hW 11 rfl rn_in01 hw1 (ws' := [(a_p0, .inr (6, [.ref a_p0_setup, .int c_p0_latestError, .int c_p0_latestErrorPosition, .ref a_p0_net, .ref a_p0_trial, .ref a_p0_saved, .ref a_p0_line])), (a_p0_net, .inr (2, [.ref a_p0_net_stations, .ref a_p0_net_links, .ref a_p0_net_messages, .ref a_p0_net_copies, .ref a_p0_net_log, .ref a_p0_net_ways, .ref a_p0_net_frames, .int c_p0_net_stationCount, .int c_p0_net_linkCount, .int c_p0_net_messageCount, .int c_p0_net_time, .int c_p0_net_life, .int c_p0_net_tries, .int c_p0_net_x])), (a_p0_net_stations, .inr (4, [.int (8 : Int32), .int (10 : Int32), .ref a_p0_net_stations_cells])), (a_p0_net_stations_cells, .inl (k 0, 80, .inl c_p0_net_stations)), (a_p0_net_links, .inr (4, [.int (16 : Int32), .int (9 : Int32), .ref a_p0_net_links_cells])), (a_p0_net_links_cells, .inl (k 0, 144, .inl c_p0_net_links)), (a_p0_net_messages, .inr (4, [.int (24 : Int32), .int (12 : Int32), .ref a_p0_net_messages_cells])), (a_p0_net_messages_cells, .inl (k 0, 288, .inl c_p0_net_messages)), (a_p0_net_copies, .inr (4, [.int (192 : Int32), .int (5 : Int32), .ref a_p0_net_copies_cells])), (a_p0_net_copies_cells, .inl (k 0, 960, .inl c_p0_net_copies)), (a_p0_net_log, .inr (0, [.ref a_p0_net_log_events, .int c_p0_net_log_first, .int c_p0_net_log_size])), (a_p2, .inl (k 1, 1, .inr (.inl w1)))]) rfl dL_count_8 (fun H locs hW => ?_)
    refine lv_goto (tgt := 15) hx hb dL_count_9 (by decide) ?_
    refine lv_iconst (v := 0) hx hb dL_count_15 (by decide) ?_
    cases hf
    exact hE _ _ _ _ hW dL_count_16
def fL_way (N : Nat) (c_p0_net_stationCount : Int32) (c_p0_net_ways_arrival : Int32) (c_p0_net_ways_fewest : Int32) (c_p0_net_ways_next : Int32) (c_p0_net_ways_heard : Nat → Int64) (c_p5 : Nat → Int64) (i1 : Int32) (i2 : Int32) (i3 : Int32) (i4 : Int32) : Option (Int32 × Int32 × Int32 × Int32 × (Nat → Int64)) :=
  (fX6_way N c_p0_net_stationCount c_p0_net_ways_arrival c_p0_net_ways_fewest c_p0_net_ways_next c_p0_net_ways_heard i1 i2 i3 i4).bind fun t1 =>
  if t1.1 = 0 then
    rn_let (vp_updL c_p5 (0 : Int32).toNatClampNeg t1.2.1.toInt64) fun w1 =>
    some ((0 : Int32), t1.2.2.1, t1.2.2.2.1, t1.2.2.2.2, w1)
  else
  if t1.1 = 3 then
    some ((1 : Int32), t1.2.2.1, t1.2.2.2.1, t1.2.2.2.2, c_p5)
  else
  if t1.1 = 1 then
    some ((2 : Int32), t1.2.2.1, t1.2.2.2.1, t1.2.2.2.2, c_p5)
  else
  none
set_option maxHeartbeats 4000000 in
set_option maxRecDepth 20000 in
theorem kL_way (l : Launch) (D : va_G) (k : Nat → ClassId) (z : (Nat → Nat) × (Nat → Nat)) (N : Nat) (a_p0 : Nat) (a_p5 : Nat) (a_p0_setup : Nat) (a_p0_net : Nat) (a_p0_trial : Nat) (a_p0_saved : Nat) (a_p0_line : Nat) (a_p0_net_stations : Nat) (a_p0_net_links : Nat) (a_p0_net_messages : Nat) (a_p0_net_copies : Nat) (a_p0_net_log : Nat) (a_p0_net_ways : Nat) (a_p0_net_frames : Nat) (a_p0_net_ways_heard : Nat) (c_p0_latestError : Int32) (c_p0_latestErrorPosition : Int32) (c_p0_net_stationCount : Int32) (c_p0_net_linkCount : Int32) (c_p0_net_messageCount : Int32) (c_p0_net_time : Int32) (c_p0_net_life : Int32) (c_p0_net_tries : Int32) (c_p0_net_x : Int32) (c_p0_net_ways_arrival : Int32) (c_p0_net_ways_fewest : Int32) (c_p0_net_ways_next : Int32) (c_p0_net_ways_heard : Nat → Int64) (c_p5 : Nat → Int64) (i1 : Int32) (i2 : Int32) (i3 : Int32) (i4 : Int32) {u : Int32 × Int32 × Int32 × Int32 × (Nat → Int64)} (hf : fL_way N c_p0_net_stationCount c_p0_net_ways_arrival c_p0_net_ways_fewest c_p0_net_ways_next c_p0_net_ways_heard c_p5 i1 i2 i3 i4 = some u) : rn_KW l D k z yL_way cL_way 7 hhL_way 7 134 [.ref a_p0, .int i1, .int i2, .int i3, .int i4, .ref a_p5] [(a_p0, .inr (6, [.ref a_p0_setup, .int c_p0_latestError, .int c_p0_latestErrorPosition, .ref a_p0_net, .ref a_p0_trial, .ref a_p0_saved, .ref a_p0_line])), (a_p0_net, .inr (2, [.ref a_p0_net_stations, .ref a_p0_net_links, .ref a_p0_net_messages, .ref a_p0_net_copies, .ref a_p0_net_log, .ref a_p0_net_ways, .ref a_p0_net_frames, .int c_p0_net_stationCount, .int c_p0_net_linkCount, .int c_p0_net_messageCount, .int c_p0_net_time, .int c_p0_net_life, .int c_p0_net_tries, .int c_p0_net_x])), (a_p0_net_ways, .inr (5, [.ref a_p0_net_ways_heard, .int c_p0_net_ways_arrival, .int c_p0_net_ways_fewest, .int c_p0_net_ways_next])), (a_p0_net_ways_heard, .inl (k 1, 24, .inr (.inl c_p0_net_ways_heard))), (a_p5, .inl (k 1, 1, .inr (.inl c_p5)))] [(a_p0, .inr (6, [.ref a_p0_setup, .int c_p0_latestError, .int c_p0_latestErrorPosition, .ref a_p0_net, .ref a_p0_trial, .ref a_p0_saved, .ref a_p0_line])), (a_p0_net, .inr (2, [.ref a_p0_net_stations, .ref a_p0_net_links, .ref a_p0_net_messages, .ref a_p0_net_copies, .ref a_p0_net_log, .ref a_p0_net_ways, .ref a_p0_net_frames, .int c_p0_net_stationCount, .int c_p0_net_linkCount, .int c_p0_net_messageCount, .int c_p0_net_time, .int c_p0_net_life, .int c_p0_net_tries, .int c_p0_net_x])), (a_p0_net_ways, .inr (5, [.ref a_p0_net_ways_heard, .int u.2.1, .int u.2.2.1, .int u.2.2.2.1])), (a_p0_net_ways_heard, .inl (k 1, 24, .inr (.inl c_p0_net_ways_heard))), (a_p5, .inl (k 1, 1, .inr (.inl u.2.2.2.2)))] u.1 := by
  refine rn_KW.go (LOC := [(0, .ref a_p0), (1, .int i1), (2, .int i2), (3, .int i3), (4, .int i4), (5, .ref a_p5)]) rfl (by decide) (Nat.le_of_ble_eq_true rfl) rfl ?_
  intro p e s m args below meth c A ls R Q hst hxc htab X hR hE hW hl
  have hx := X.1.1
  have hb := X.1.2.1
  have hts := X.1.2.2.2.2
  unfold fL_way at hf
  obtain ⟨t1, ht1, hf⟩ := rn_bind hf
  refine lv_aload hx hb dL_way_0 (lv_at hl 5 rfl) ?_
  refine lv_iconst (v := 0) hx hb dL_way_2 (by decide) ?_
  refine lv_aload_n hx hb dL_way_3 rfl (lv_at hl 0 rfl) ?_
  refine lv_iload_n hx hb dL_way_4 rfl (lv_at hl 1 rfl) ?_
  refine lv_iload_n hx hb dL_way_5 rfl (lv_at hl 2 rfl) ?_
  refine lv_iload_n hx hb dL_way_6 rfl (lv_at hl 3 rfl) ?_
  refine lv_iload hx hb dL_way_7 (lv_at hl 4 rfl) ?_
  refine rr_xcallI (As := [.int i1, .int i2, .int i3, .int i4]) (rest := [.int (0 : Int32), .ref a_p5]) X hxc hst hW (kX6_way l D k z N a_p0 a_p0_setup a_p0_net a_p0_trial a_p0_saved a_p0_line a_p0_net_stations a_p0_net_links a_p0_net_messages a_p0_net_copies a_p0_net_log a_p0_net_ways a_p0_net_frames a_p0_net_ways_heard c_p0_latestError c_p0_latestErrorPosition c_p0_net_stationCount c_p0_net_linkCount c_p0_net_messageCount c_p0_net_time c_p0_net_life c_p0_net_tries c_p0_net_x c_p0_net_ways_arrival c_p0_net_ways_fewest c_p0_net_ways_next c_p0_net_ways_heard i1 i2 i3 i4 ht1) gm_X6_way gl_L_50 [0, 1, 2, 3] [4] [(a_p0, .inr (6, [.ref a_p0_setup, .int c_p0_latestError, .int c_p0_latestErrorPosition, .ref a_p0_net, .ref a_p0_trial, .ref a_p0_saved, .ref a_p0_line])), (a_p0_net, .inr (2, [.ref a_p0_net_stations, .ref a_p0_net_links, .ref a_p0_net_messages, .ref a_p0_net_copies, .ref a_p0_net_log, .ref a_p0_net_ways, .ref a_p0_net_frames, .int c_p0_net_stationCount, .int c_p0_net_linkCount, .int c_p0_net_messageCount, .int c_p0_net_time, .int c_p0_net_life, .int c_p0_net_tries, .int c_p0_net_x])), (a_p0_net_ways, .inr (5, [.ref a_p0_net_ways_heard, .int t1.2.2.1, .int t1.2.2.2.1, .int t1.2.2.2.2])), (a_p0_net_ways_heard, .inl (k 1, 24, .inr (.inl c_p0_net_ways_heard))), (a_p5, .inl (k 1, 1, .inr (.inl c_p5)))] rfl rfl rfl rfl ⟨rfl, rfl, rn_Bw (wr := [(a_p5, .inl (k 1, 1, .inr (.inl c_p5)))]) rfl rfl, rfl, rfl⟩ (rn_rT hR rfl) (rn_cs1 hR) hl.1 rfl (Nat.le_of_ble_eq_true rfl) dL_way_9 (fun hk H locs q9 ce hW hq9 hv hcl => ?_) (fun hk hn H locs hW => ?_)
  · replace hf := rn_f hf hk
    by_cases hk0 : t1.1 = 3
    · replace hf := rn_t hf hk0
      rw [hk0] at hcl
      refine vx_catch (name := rn_ex 3) X.1.2.2.2.1 [] (⟨0, 14, 17, 28⟩ : ExceptionTableEntry) [(⟨0, 14, 21, 18⟩ : ExceptionTableEntry)] (htab.trans rfl) (fun z hz => nomatch hz) (by decide) (by decide) (hts _ qc_3) (va_any rfl hxc.2.1.2.2) hq9 hv hcl ?_
      refine lv_astore (lv' := [(6, .ref q9), (0, .ref a_p0), (1, .int i1), (2, .int i2), (3, .int i3), (4, .int i4), (5, .ref a_p5)]) hx hb dL_way_17 hl (Nat.le_of_ble_eq_true rfl) rfl (fun ls hl => ?_)
      refine lv_iconst (v := 1) hx hb dL_way_19 (by decide) ?_
      cases hf
      exact hE _ _ _ _ hW dL_way_20
    replace hf := rn_f hf hk0
    by_cases hk1 : t1.1 = 1
    · replace hf := rn_t hf hk1
      rw [hk1] at hcl
      refine vx_catch (name := rn_ex 1) X.1.2.2.2.1 [(⟨0, 14, 17, 28⟩ : ExceptionTableEntry)] (⟨0, 14, 21, 18⟩ : ExceptionTableEntry) [] (htab.trans rfl) (fun z hz => by rcases List.mem_singleton.mp hz with rfl; exact Or.inr ⟨by decide, rn_ex 3, hts _ qc_3, hxc.2.2.1.2⟩) (by decide) (by decide) (hts _ qc_1) (va_any rfl hxc.2.1.1) hq9 hv hcl ?_
      refine lv_astore (lv' := [(6, .ref q9), (0, .ref a_p0), (1, .int i1), (2, .int i2), (3, .int i3), (4, .int i4), (5, .ref a_p5)]) hx hb dL_way_21 hl (Nat.le_of_ble_eq_true rfl) rfl (fun ls hl => ?_)
      refine lv_iconst (v := 2) hx hb dL_way_23 (by decide) ?_
      cases hf
      exact hE _ _ _ _ hW dL_way_24
    replace hf := rn_f hf hk1
    cases hf
  · replace hf := rn_t hf hk
    refine lv_i2l (v := t1.2.1.toInt64) hx hb dL_way_12 rfl ?_
    obtain ⟨w1, hw1, hf⟩ := rn_let_s hf
    refine rr_last' X hW 4 rfl rn_in01 hw1 (ws' := [(a_p0, .inr (6, [.ref a_p0_setup, .int c_p0_latestError, .int c_p0_latestErrorPosition, .ref a_p0_net, .ref a_p0_trial, .ref a_p0_saved, .ref a_p0_line])), (a_p0_net, .inr (2, [.ref a_p0_net_stations, .ref a_p0_net_links, .ref a_p0_net_messages, .ref a_p0_net_copies, .ref a_p0_net_log, .ref a_p0_net_ways, .ref a_p0_net_frames, .int c_p0_net_stationCount, .int c_p0_net_linkCount, .int c_p0_net_messageCount, .int c_p0_net_time, .int c_p0_net_life, .int c_p0_net_tries, .int c_p0_net_x])), (a_p0_net_ways, .inr (5, [.ref a_p0_net_ways_heard, .int t1.2.2.1, .int t1.2.2.2.1, .int t1.2.2.2.2])), (a_p0_net_ways_heard, .inl (k 1, 24, .inr (.inl c_p0_net_ways_heard))), (a_p5, .inl (k 1, 1, .inr (.inl w1)))]) rfl dL_way_13 (fun H locs hW => ?_)
    refine lv_goto (tgt := 25) hx hb dL_way_14 (by decide) ?_
    refine lv_iconst (v := 0) hx hb dL_way_25 (by decide) ?_
    cases hf
    exact hE _ _ _ _ hW dL_way_26
def fL_send (c_p0_net_stationCount : Int32) (c_p0_net_messageCount : Int32) (c_p0_net_time : Int32) (c_p0_net_messages : Nat → Int32) (c_p0_net_copies : Nat → Int32) (c_p0_net_log_first : Int32) (c_p0_net_log_size : Int32) (c_p0_net_log_events : Nat → Int32) (c_p4 : Nat → Int64) (i1 : Int32) (i2 : Int32) (i3 : Int32) : Option (Int32 × Int32 × (Nat → Int32) × (Nat → Int32) × Int32 × Int32 × (Nat → Int32) × (Nat → Int64)) :=
  (fX6_send c_p0_net_stationCount c_p0_net_messageCount c_p0_net_time c_p0_net_messages c_p0_net_copies c_p0_net_log_first c_p0_net_log_size c_p0_net_log_events i1 i2 i3).bind fun t1 =>
  if t1.1 = 0 then
    rn_let (vp_updL c_p4 (0 : Int32).toNatClampNeg t1.2.1.toInt64) fun w1 =>
    some ((0 : Int32), t1.2.2.1, t1.2.2.2.1, t1.2.2.2.2.1, t1.2.2.2.2.2.1, t1.2.2.2.2.2.2.1, t1.2.2.2.2.2.2.2, w1)
  else
  if t1.1 = 3 then
    some ((1 : Int32), t1.2.2.1, t1.2.2.2.1, t1.2.2.2.2.1, t1.2.2.2.2.2.1, t1.2.2.2.2.2.2.1, t1.2.2.2.2.2.2.2, c_p4)
  else
  if t1.1 = 1 then
    some ((2 : Int32), t1.2.2.1, t1.2.2.2.1, t1.2.2.2.2.1, t1.2.2.2.2.2.1, t1.2.2.2.2.2.2.1, t1.2.2.2.2.2.2.2, c_p4)
  else
  if t1.1 = 2 then
    some ((3 : Int32), t1.2.2.1, t1.2.2.2.1, t1.2.2.2.2.1, t1.2.2.2.2.2.1, t1.2.2.2.2.2.2.1, t1.2.2.2.2.2.2.2, c_p4)
  else
  none
set_option maxHeartbeats 4000000 in
set_option maxRecDepth 20000 in
theorem kL_send (l : Launch) (D : va_G) (k : Nat → ClassId) (z : (Nat → Nat) × (Nat → Nat)) (a_p0 : Nat) (a_p4 : Nat) (a_p0_setup : Nat) (a_p0_net : Nat) (a_p0_trial : Nat) (a_p0_saved : Nat) (a_p0_line : Nat) (a_p0_net_stations : Nat) (a_p0_net_links : Nat) (a_p0_net_messages : Nat) (a_p0_net_copies : Nat) (a_p0_net_log : Nat) (a_p0_net_ways : Nat) (a_p0_net_frames : Nat) (a_p0_net_messages_cells : Nat) (a_p0_net_copies_cells : Nat) (a_p0_net_log_events : Nat) (a_p0_net_log_events_cells : Nat) (c_p0_latestError : Int32) (c_p0_latestErrorPosition : Int32) (c_p0_net_stationCount : Int32) (c_p0_net_linkCount : Int32) (c_p0_net_messageCount : Int32) (c_p0_net_time : Int32) (c_p0_net_life : Int32) (c_p0_net_tries : Int32) (c_p0_net_x : Int32) (c_p0_net_messages : Nat → Int32) (c_p0_net_copies : Nat → Int32) (c_p0_net_log_first : Int32) (c_p0_net_log_size : Int32) (c_p0_net_log_events : Nat → Int32) (c_p4 : Nat → Int64) (i1 : Int32) (i2 : Int32) (i3 : Int32) {u : Int32 × Int32 × (Nat → Int32) × (Nat → Int32) × Int32 × Int32 × (Nat → Int32) × (Nat → Int64)} (hf : fL_send c_p0_net_stationCount c_p0_net_messageCount c_p0_net_time c_p0_net_messages c_p0_net_copies c_p0_net_log_first c_p0_net_log_size c_p0_net_log_events c_p4 i1 i2 i3 = some u) : rn_KW l D k z yL_send cL_send 6 hhL_send 7 105 [.ref a_p0, .int i1, .int i2, .int i3, .ref a_p4] [(a_p0, .inr (6, [.ref a_p0_setup, .int c_p0_latestError, .int c_p0_latestErrorPosition, .ref a_p0_net, .ref a_p0_trial, .ref a_p0_saved, .ref a_p0_line])), (a_p0_net, .inr (2, [.ref a_p0_net_stations, .ref a_p0_net_links, .ref a_p0_net_messages, .ref a_p0_net_copies, .ref a_p0_net_log, .ref a_p0_net_ways, .ref a_p0_net_frames, .int c_p0_net_stationCount, .int c_p0_net_linkCount, .int c_p0_net_messageCount, .int c_p0_net_time, .int c_p0_net_life, .int c_p0_net_tries, .int c_p0_net_x])), (a_p0_net_messages, .inr (4, [.int (24 : Int32), .int (12 : Int32), .ref a_p0_net_messages_cells])), (a_p0_net_messages_cells, .inl (k 0, 288, .inl c_p0_net_messages)), (a_p0_net_copies, .inr (4, [.int (192 : Int32), .int (5 : Int32), .ref a_p0_net_copies_cells])), (a_p0_net_copies_cells, .inl (k 0, 960, .inl c_p0_net_copies)), (a_p0_net_log, .inr (0, [.ref a_p0_net_log_events, .int c_p0_net_log_first, .int c_p0_net_log_size])), (a_p0_net_log_events, .inr (4, [.int (40 : Int32), .int (5 : Int32), .ref a_p0_net_log_events_cells])), (a_p0_net_log_events_cells, .inl (k 0, 200, .inl c_p0_net_log_events)), (a_p4, .inl (k 1, 1, .inr (.inl c_p4)))] [(a_p0, .inr (6, [.ref a_p0_setup, .int c_p0_latestError, .int c_p0_latestErrorPosition, .ref a_p0_net, .ref a_p0_trial, .ref a_p0_saved, .ref a_p0_line])), (a_p0_net, .inr (2, [.ref a_p0_net_stations, .ref a_p0_net_links, .ref a_p0_net_messages, .ref a_p0_net_copies, .ref a_p0_net_log, .ref a_p0_net_ways, .ref a_p0_net_frames, .int c_p0_net_stationCount, .int c_p0_net_linkCount, .int u.2.1, .int c_p0_net_time, .int c_p0_net_life, .int c_p0_net_tries, .int c_p0_net_x])), (a_p0_net_messages, .inr (4, [.int (24 : Int32), .int (12 : Int32), .ref a_p0_net_messages_cells])), (a_p0_net_messages_cells, .inl (k 0, 288, .inl u.2.2.1)), (a_p0_net_copies, .inr (4, [.int (192 : Int32), .int (5 : Int32), .ref a_p0_net_copies_cells])), (a_p0_net_copies_cells, .inl (k 0, 960, .inl u.2.2.2.1)), (a_p0_net_log, .inr (0, [.ref a_p0_net_log_events, .int u.2.2.2.2.1, .int u.2.2.2.2.2.1])), (a_p0_net_log_events, .inr (4, [.int (40 : Int32), .int (5 : Int32), .ref a_p0_net_log_events_cells])), (a_p0_net_log_events_cells, .inl (k 0, 200, .inl u.2.2.2.2.2.2.1)), (a_p4, .inl (k 1, 1, .inr (.inl u.2.2.2.2.2.2.2)))] u.1 := by
  refine rn_KW.go (LOC := [(0, .ref a_p0), (1, .int i1), (2, .int i2), (3, .int i3), (4, .ref a_p4)]) rfl (by decide) (Nat.le_of_ble_eq_true rfl) rfl ?_
  intro p e s m args below meth c A ls R Q hst hxc htab X hR hE hW hl
  have hx := X.1.1
  have hb := X.1.2.1
  have hts := X.1.2.2.2.2
  unfold fL_send at hf
  obtain ⟨t1, ht1, hf⟩ := rn_bind hf
  obtain ⟨u0, u1, u2, u3, u4, u5, u6, u7⟩ := u
  dsimp only at hE
  refine lv_aload hx hb dL_send_0 (lv_at hl 4 rfl) ?_
  refine lv_iconst (v := 0) hx hb dL_send_2 (by decide) ?_
  refine lv_aload_n hx hb dL_send_3 rfl (lv_at hl 0 rfl) ?_
  refine lv_iload_n hx hb dL_send_4 rfl (lv_at hl 1 rfl) ?_
  refine lv_iload_n hx hb dL_send_5 rfl (lv_at hl 2 rfl) ?_
  refine lv_iload_n hx hb dL_send_6 rfl (lv_at hl 3 rfl) ?_
  refine rr_xcallI (As := [.int i1, .int i2, .int i3]) (rest := [.int (0 : Int32), .ref a_p4]) X hxc hst hW (kX6_send l D k z a_p0 a_p0_setup a_p0_net a_p0_trial a_p0_saved a_p0_line a_p0_net_stations a_p0_net_links a_p0_net_messages a_p0_net_copies a_p0_net_log a_p0_net_ways a_p0_net_frames a_p0_net_messages_cells a_p0_net_copies_cells a_p0_net_log_events a_p0_net_log_events_cells c_p0_latestError c_p0_latestErrorPosition c_p0_net_stationCount c_p0_net_linkCount c_p0_net_messageCount c_p0_net_time c_p0_net_life c_p0_net_tries c_p0_net_x c_p0_net_messages c_p0_net_copies c_p0_net_log_first c_p0_net_log_size c_p0_net_log_events i1 i2 i3 ht1) gm_X6_send gl_L_54 [0, 1, 2, 3, 4, 5, 6, 7, 8] [9] [(a_p0, .inr (6, [.ref a_p0_setup, .int c_p0_latestError, .int c_p0_latestErrorPosition, .ref a_p0_net, .ref a_p0_trial, .ref a_p0_saved, .ref a_p0_line])), (a_p0_net, .inr (2, [.ref a_p0_net_stations, .ref a_p0_net_links, .ref a_p0_net_messages, .ref a_p0_net_copies, .ref a_p0_net_log, .ref a_p0_net_ways, .ref a_p0_net_frames, .int c_p0_net_stationCount, .int c_p0_net_linkCount, .int t1.2.2.1, .int c_p0_net_time, .int c_p0_net_life, .int c_p0_net_tries, .int c_p0_net_x])), (a_p0_net_messages, .inr (4, [.int (24 : Int32), .int (12 : Int32), .ref a_p0_net_messages_cells])), (a_p0_net_messages_cells, .inl (k 0, 288, .inl t1.2.2.2.1)), (a_p0_net_copies, .inr (4, [.int (192 : Int32), .int (5 : Int32), .ref a_p0_net_copies_cells])), (a_p0_net_copies_cells, .inl (k 0, 960, .inl t1.2.2.2.2.1)), (a_p0_net_log, .inr (0, [.ref a_p0_net_log_events, .int t1.2.2.2.2.2.1, .int t1.2.2.2.2.2.2.1])), (a_p0_net_log_events, .inr (4, [.int (40 : Int32), .int (5 : Int32), .ref a_p0_net_log_events_cells])), (a_p0_net_log_events_cells, .inl (k 0, 200, .inl t1.2.2.2.2.2.2.2)), (a_p4, .inl (k 1, 1, .inr (.inl c_p4)))] rfl rfl rfl rfl ⟨rfl, rfl, rn_Bw (wr := [(a_p4, .inl (k 1, 1, .inr (.inl c_p4)))]) rfl rfl, rfl, rfl⟩ (rn_rT hR rfl) (rn_cs1 hR) hl.1 rfl (Nat.le_of_ble_eq_true rfl) dL_send_7 (fun hk H locs q9 ce hW hq9 hv hcl => ?_) (fun hk hn H locs hW => ?_)
  · replace hf := rn_f hf hk
    by_cases hk0 : t1.1 = 3
    · replace hf := rn_t hf hk0
      rw [hk0] at hcl
      refine vx_catch (name := rn_ex 3) X.1.2.2.2.1 [] (⟨0, 12, 15, 28⟩ : ExceptionTableEntry) [(⟨0, 12, 19, 18⟩ : ExceptionTableEntry), (⟨0, 12, 23, 13⟩ : ExceptionTableEntry)] (htab.trans rfl) (fun z hz => nomatch hz) (by decide) (by decide) (hts _ qc_3) (va_any rfl hxc.2.1.2.2) hq9 hv hcl ?_
      refine lv_astore (lv' := [(5, .ref q9), (0, .ref a_p0), (1, .int i1), (2, .int i2), (3, .int i3), (4, .ref a_p4)]) hx hb dL_send_15 hl (Nat.le_of_ble_eq_true rfl) rfl (fun ls hl => ?_)
      refine lv_iconst (v := 1) hx hb dL_send_17 (by decide) ?_
      cases hf
      exact hE _ _ _ _ hW dL_send_18
    replace hf := rn_f hf hk0
    by_cases hk1 : t1.1 = 1
    · replace hf := rn_t hf hk1
      rw [hk1] at hcl
      refine vx_catch (name := rn_ex 1) X.1.2.2.2.1 [(⟨0, 12, 15, 28⟩ : ExceptionTableEntry)] (⟨0, 12, 19, 18⟩ : ExceptionTableEntry) [(⟨0, 12, 23, 13⟩ : ExceptionTableEntry)] (htab.trans rfl) (fun z hz => by rcases List.mem_singleton.mp hz with rfl; exact Or.inr ⟨by decide, rn_ex 3, hts _ qc_3, hxc.2.2.1.2⟩) (by decide) (by decide) (hts _ qc_1) (va_any rfl hxc.2.1.1) hq9 hv hcl ?_
      refine lv_astore (lv' := [(5, .ref q9), (0, .ref a_p0), (1, .int i1), (2, .int i2), (3, .int i3), (4, .ref a_p4)]) hx hb dL_send_19 hl (Nat.le_of_ble_eq_true rfl) rfl (fun ls hl => ?_)
      refine lv_iconst (v := 2) hx hb dL_send_21 (by decide) ?_
      cases hf
      exact hE _ _ _ _ hW dL_send_22
    replace hf := rn_f hf hk1
    by_cases hk2 : t1.1 = 2
    · replace hf := rn_t hf hk2
      rw [hk2] at hcl
      refine vx_catch (name := rn_ex 2) X.1.2.2.2.1 [(⟨0, 12, 15, 28⟩ : ExceptionTableEntry), (⟨0, 12, 19, 18⟩ : ExceptionTableEntry)] (⟨0, 12, 23, 13⟩ : ExceptionTableEntry) [] (htab.trans rfl) (fun z hz => by rcases List.mem_cons.mp hz with rfl | hz; exact Or.inr ⟨by decide, rn_ex 3, hts _ qc_3, hxc.2.2.2.1.2⟩; rcases List.mem_singleton.mp hz with rfl; exact Or.inr ⟨by decide, rn_ex 1, hts _ qc_1, hxc.2.2.2.1.1⟩) (by decide) (by decide) (hts _ qc_2) (va_any rfl hxc.2.1.2.1) hq9 hv hcl ?_
      refine lv_astore (lv' := [(5, .ref q9), (0, .ref a_p0), (1, .int i1), (2, .int i2), (3, .int i3), (4, .ref a_p4)]) hx hb dL_send_23 hl (Nat.le_of_ble_eq_true rfl) rfl (fun ls hl => ?_)
      refine lv_iconst (v := 3) hx hb dL_send_25 (by decide) ?_
      cases hf
      exact hE _ _ _ _ hW dL_send_26
    replace hf := rn_f hf hk2
    cases hf
  · replace hf := rn_t hf hk
    refine lv_i2l (v := t1.2.1.toInt64) hx hb dL_send_10 rfl ?_
    obtain ⟨w1, hw1, hf⟩ := rn_let_s hf
    refine rr_last' X hW 9 rfl rn_in01 hw1 (ws' := [(a_p0, .inr (6, [.ref a_p0_setup, .int c_p0_latestError, .int c_p0_latestErrorPosition, .ref a_p0_net, .ref a_p0_trial, .ref a_p0_saved, .ref a_p0_line])), (a_p0_net, .inr (2, [.ref a_p0_net_stations, .ref a_p0_net_links, .ref a_p0_net_messages, .ref a_p0_net_copies, .ref a_p0_net_log, .ref a_p0_net_ways, .ref a_p0_net_frames, .int c_p0_net_stationCount, .int c_p0_net_linkCount, .int t1.2.2.1, .int c_p0_net_time, .int c_p0_net_life, .int c_p0_net_tries, .int c_p0_net_x])), (a_p0_net_messages, .inr (4, [.int (24 : Int32), .int (12 : Int32), .ref a_p0_net_messages_cells])), (a_p0_net_messages_cells, .inl (k 0, 288, .inl t1.2.2.2.1)), (a_p0_net_copies, .inr (4, [.int (192 : Int32), .int (5 : Int32), .ref a_p0_net_copies_cells])), (a_p0_net_copies_cells, .inl (k 0, 960, .inl t1.2.2.2.2.1)), (a_p0_net_log, .inr (0, [.ref a_p0_net_log_events, .int t1.2.2.2.2.2.1, .int t1.2.2.2.2.2.2.1])), (a_p0_net_log_events, .inr (4, [.int (40 : Int32), .int (5 : Int32), .ref a_p0_net_log_events_cells])), (a_p0_net_log_events_cells, .inl (k 0, 200, .inl t1.2.2.2.2.2.2.2)), (a_p4, .inl (k 1, 1, .inr (.inl w1)))]) rfl dL_send_11 (fun H locs hW => ?_)
    refine lv_goto (tgt := 27) hx hb dL_send_12 (by decide) ?_
    refine lv_iconst (v := 0) hx hb dL_send_27 (by decide) ?_
    cases hf
    exact hE _ _ _ _ hW dL_send_28
def fL_setPriority (c_p0_net_messageCount : Int32) (c_p0_net_messages : Nat → Int32) (c_p3 : Nat → Int64) (i1 : Int32) (i2 : Int32) : Option (Int32 × (Nat → Int32) × (Nat → Int64)) :=
  (fX6_setPriority c_p0_net_messageCount c_p0_net_messages i1 i2).bind fun t1 =>
  if t1.1 = 0 then
    rn_let (vp_updL c_p3 (0 : Int32).toNatClampNeg t1.2.1.toInt64) fun w1 =>
    some ((0 : Int32), t1.2.2, w1)
  else
  if t1.1 = 3 then
    some ((1 : Int32), t1.2.2, c_p3)
  else
  if t1.1 = 1 then
    some ((2 : Int32), t1.2.2, c_p3)
  else
  none
set_option maxHeartbeats 4000000 in
set_option maxRecDepth 20000 in
theorem kL_setPriority (l : Launch) (D : va_G) (k : Nat → ClassId) (z : (Nat → Nat) × (Nat → Nat)) (a_p0 : Nat) (a_p3 : Nat) (a_p0_setup : Nat) (a_p0_net : Nat) (a_p0_trial : Nat) (a_p0_saved : Nat) (a_p0_line : Nat) (a_p0_net_stations : Nat) (a_p0_net_links : Nat) (a_p0_net_messages : Nat) (a_p0_net_copies : Nat) (a_p0_net_log : Nat) (a_p0_net_ways : Nat) (a_p0_net_frames : Nat) (a_p0_net_messages_cells : Nat) (c_p0_latestError : Int32) (c_p0_latestErrorPosition : Int32) (c_p0_net_stationCount : Int32) (c_p0_net_linkCount : Int32) (c_p0_net_messageCount : Int32) (c_p0_net_time : Int32) (c_p0_net_life : Int32) (c_p0_net_tries : Int32) (c_p0_net_x : Int32) (c_p0_net_messages : Nat → Int32) (c_p3 : Nat → Int64) (i1 : Int32) (i2 : Int32) {u : Int32 × (Nat → Int32) × (Nat → Int64)} (hf : fL_setPriority c_p0_net_messageCount c_p0_net_messages c_p3 i1 i2 = some u) : rn_KW l D k z yL_setPriority cL_setPriority 5 hhL_setPriority 7 104 [.ref a_p0, .int i1, .int i2, .ref a_p3] [(a_p0, .inr (6, [.ref a_p0_setup, .int c_p0_latestError, .int c_p0_latestErrorPosition, .ref a_p0_net, .ref a_p0_trial, .ref a_p0_saved, .ref a_p0_line])), (a_p0_net, .inr (2, [.ref a_p0_net_stations, .ref a_p0_net_links, .ref a_p0_net_messages, .ref a_p0_net_copies, .ref a_p0_net_log, .ref a_p0_net_ways, .ref a_p0_net_frames, .int c_p0_net_stationCount, .int c_p0_net_linkCount, .int c_p0_net_messageCount, .int c_p0_net_time, .int c_p0_net_life, .int c_p0_net_tries, .int c_p0_net_x])), (a_p0_net_messages, .inr (4, [.int (24 : Int32), .int (12 : Int32), .ref a_p0_net_messages_cells])), (a_p0_net_messages_cells, .inl (k 0, 288, .inl c_p0_net_messages)), (a_p3, .inl (k 1, 1, .inr (.inl c_p3)))] [(a_p0, .inr (6, [.ref a_p0_setup, .int c_p0_latestError, .int c_p0_latestErrorPosition, .ref a_p0_net, .ref a_p0_trial, .ref a_p0_saved, .ref a_p0_line])), (a_p0_net, .inr (2, [.ref a_p0_net_stations, .ref a_p0_net_links, .ref a_p0_net_messages, .ref a_p0_net_copies, .ref a_p0_net_log, .ref a_p0_net_ways, .ref a_p0_net_frames, .int c_p0_net_stationCount, .int c_p0_net_linkCount, .int c_p0_net_messageCount, .int c_p0_net_time, .int c_p0_net_life, .int c_p0_net_tries, .int c_p0_net_x])), (a_p0_net_messages, .inr (4, [.int (24 : Int32), .int (12 : Int32), .ref a_p0_net_messages_cells])), (a_p0_net_messages_cells, .inl (k 0, 288, .inl u.2.1)), (a_p3, .inl (k 1, 1, .inr (.inl u.2.2)))] u.1 := by
  refine rn_KW.go (LOC := [(0, .ref a_p0), (1, .int i1), (2, .int i2), (3, .ref a_p3)]) rfl (by decide) (Nat.le_of_ble_eq_true rfl) rfl ?_
  intro p e s m args below meth c A ls R Q hst hxc htab X hR hE hW hl
  have hx := X.1.1
  have hb := X.1.2.1
  have hts := X.1.2.2.2.2
  unfold fL_setPriority at hf
  obtain ⟨t1, ht1, hf⟩ := rn_bind hf
  refine lv_aload_n hx hb dL_setPriority_0 rfl (lv_at hl 3 rfl) ?_
  refine lv_iconst (v := 0) hx hb dL_setPriority_1 (by decide) ?_
  refine lv_aload_n hx hb dL_setPriority_2 rfl (lv_at hl 0 rfl) ?_
  refine lv_iload_n hx hb dL_setPriority_3 rfl (lv_at hl 1 rfl) ?_
  refine lv_iload_n hx hb dL_setPriority_4 rfl (lv_at hl 2 rfl) ?_
  refine rr_xcallI (As := [.int i1, .int i2]) (rest := [.int (0 : Int32), .ref a_p3]) X hxc hst hW (kX6_setPriority l D k z a_p0 a_p0_setup a_p0_net a_p0_trial a_p0_saved a_p0_line a_p0_net_stations a_p0_net_links a_p0_net_messages a_p0_net_copies a_p0_net_log a_p0_net_ways a_p0_net_frames a_p0_net_messages_cells c_p0_latestError c_p0_latestErrorPosition c_p0_net_stationCount c_p0_net_linkCount c_p0_net_messageCount c_p0_net_time c_p0_net_life c_p0_net_tries c_p0_net_x c_p0_net_messages i1 i2 ht1) gm_X6_setPriority gl_L_57 [0, 1, 2, 3] [4] [(a_p0, .inr (6, [.ref a_p0_setup, .int c_p0_latestError, .int c_p0_latestErrorPosition, .ref a_p0_net, .ref a_p0_trial, .ref a_p0_saved, .ref a_p0_line])), (a_p0_net, .inr (2, [.ref a_p0_net_stations, .ref a_p0_net_links, .ref a_p0_net_messages, .ref a_p0_net_copies, .ref a_p0_net_log, .ref a_p0_net_ways, .ref a_p0_net_frames, .int c_p0_net_stationCount, .int c_p0_net_linkCount, .int c_p0_net_messageCount, .int c_p0_net_time, .int c_p0_net_life, .int c_p0_net_tries, .int c_p0_net_x])), (a_p0_net_messages, .inr (4, [.int (24 : Int32), .int (12 : Int32), .ref a_p0_net_messages_cells])), (a_p0_net_messages_cells, .inl (k 0, 288, .inl t1.2.2)), (a_p3, .inl (k 1, 1, .inr (.inl c_p3)))] rfl rfl rfl rfl ⟨rfl, rfl, rn_Bw (wr := [(a_p3, .inl (k 1, 1, .inr (.inl c_p3)))]) rfl rfl, rfl, rfl⟩ (rn_rT hR rfl) (rn_cs1 hR) hl.1 rfl (Nat.le_of_ble_eq_true rfl) dL_setPriority_5 (fun hk H locs q9 ce hW hq9 hv hcl => ?_) (fun hk hn H locs hW => ?_)
  · replace hf := rn_f hf hk
    by_cases hk0 : t1.1 = 3
    · replace hf := rn_t hf hk0
      rw [hk0] at hcl
      refine vx_catch (name := rn_ex 3) X.1.2.2.2.1 [] (⟨0, 10, 13, 28⟩ : ExceptionTableEntry) [(⟨0, 10, 17, 18⟩ : ExceptionTableEntry)] (htab.trans rfl) (fun z hz => nomatch hz) (by decide) (by decide) (hts _ qc_3) (va_any rfl hxc.2.1.2.2) hq9 hv hcl ?_
      refine lv_astore (lv' := [(4, .ref q9), (0, .ref a_p0), (1, .int i1), (2, .int i2), (3, .ref a_p3)]) hx hb dL_setPriority_13 hl (Nat.le_of_ble_eq_true rfl) rfl (fun ls hl => ?_)
      refine lv_iconst (v := 1) hx hb dL_setPriority_15 (by decide) ?_
      cases hf
      exact hE _ _ _ _ hW dL_setPriority_16
    replace hf := rn_f hf hk0
    by_cases hk1 : t1.1 = 1
    · replace hf := rn_t hf hk1
      rw [hk1] at hcl
      refine vx_catch (name := rn_ex 1) X.1.2.2.2.1 [(⟨0, 10, 13, 28⟩ : ExceptionTableEntry)] (⟨0, 10, 17, 18⟩ : ExceptionTableEntry) [] (htab.trans rfl) (fun z hz => by rcases List.mem_singleton.mp hz with rfl; exact Or.inr ⟨by decide, rn_ex 3, hts _ qc_3, hxc.2.2.1.2⟩) (by decide) (by decide) (hts _ qc_1) (va_any rfl hxc.2.1.1) hq9 hv hcl ?_
      refine lv_astore (lv' := [(4, .ref q9), (0, .ref a_p0), (1, .int i1), (2, .int i2), (3, .ref a_p3)]) hx hb dL_setPriority_17 hl (Nat.le_of_ble_eq_true rfl) rfl (fun ls hl => ?_)
      refine lv_iconst (v := 2) hx hb dL_setPriority_19 (by decide) ?_
      cases hf
      exact hE _ _ _ _ hW dL_setPriority_20
    replace hf := rn_f hf hk1
    cases hf
  · replace hf := rn_t hf hk
    refine lv_i2l (v := t1.2.1.toInt64) hx hb dL_setPriority_8 rfl ?_
    obtain ⟨w1, hw1, hf⟩ := rn_let_s hf
    refine rr_last' X hW 4 rfl rn_in01 hw1 (ws' := [(a_p0, .inr (6, [.ref a_p0_setup, .int c_p0_latestError, .int c_p0_latestErrorPosition, .ref a_p0_net, .ref a_p0_trial, .ref a_p0_saved, .ref a_p0_line])), (a_p0_net, .inr (2, [.ref a_p0_net_stations, .ref a_p0_net_links, .ref a_p0_net_messages, .ref a_p0_net_copies, .ref a_p0_net_log, .ref a_p0_net_ways, .ref a_p0_net_frames, .int c_p0_net_stationCount, .int c_p0_net_linkCount, .int c_p0_net_messageCount, .int c_p0_net_time, .int c_p0_net_life, .int c_p0_net_tries, .int c_p0_net_x])), (a_p0_net_messages, .inr (4, [.int (24 : Int32), .int (12 : Int32), .ref a_p0_net_messages_cells])), (a_p0_net_messages_cells, .inl (k 0, 288, .inl t1.2.2)), (a_p3, .inl (k 1, 1, .inr (.inl w1)))]) rfl dL_setPriority_9 (fun H locs hW => ?_)
    refine lv_goto (tgt := 21) hx hb dL_setPriority_10 (by decide) ?_
    refine lv_iconst (v := 0) hx hb dL_setPriority_21 (by decide) ?_
    cases hf
    exact hE _ _ _ _ hW dL_setPriority_22
def fL_takeBack (N : Nat) (c_p0_net_stationCount : Int32) (c_p0_net_messageCount : Int32) (c_p0_net_time : Int32) (c_p0_net_messages : Nat → Int32) (c_p0_net_copies : Nat → Int32) (c_p0_net_log_first : Int32) (c_p0_net_log_size : Int32) (c_p0_net_log_events : Nat → Int32) (c_p2 : Nat → Int64) (i1 : Int32) : Option (Int32 × (Nat → Int32) × (Nat → Int32) × Int32 × Int32 × (Nat → Int32) × (Nat → Int64)) :=
  (fX6_takeBack N c_p0_net_stationCount c_p0_net_messageCount c_p0_net_time c_p0_net_messages c_p0_net_copies c_p0_net_log_first c_p0_net_log_size c_p0_net_log_events i1).bind fun t1 =>
  if t1.1 = 0 then
    rn_let (vp_updL c_p2 (0 : Int32).toNatClampNeg t1.2.1.toInt64) fun w1 =>
    some ((0 : Int32), t1.2.2.1, t1.2.2.2.1, t1.2.2.2.2.1, t1.2.2.2.2.2.1, t1.2.2.2.2.2.2, w1)
  else
  if t1.1 = 3 then
    some ((1 : Int32), t1.2.2.1, t1.2.2.2.1, t1.2.2.2.2.1, t1.2.2.2.2.2.1, t1.2.2.2.2.2.2, c_p2)
  else
  none
set_option maxHeartbeats 4000000 in
set_option maxRecDepth 20000 in
theorem kL_takeBack (l : Launch) (D : va_G) (k : Nat → ClassId) (z : (Nat → Nat) × (Nat → Nat)) (N : Nat) (a_p0 : Nat) (a_p2 : Nat) (a_p0_setup : Nat) (a_p0_net : Nat) (a_p0_trial : Nat) (a_p0_saved : Nat) (a_p0_line : Nat) (a_p0_net_stations : Nat) (a_p0_net_links : Nat) (a_p0_net_messages : Nat) (a_p0_net_copies : Nat) (a_p0_net_log : Nat) (a_p0_net_ways : Nat) (a_p0_net_frames : Nat) (a_p0_net_messages_cells : Nat) (a_p0_net_copies_cells : Nat) (a_p0_net_log_events : Nat) (a_p0_net_log_events_cells : Nat) (c_p0_latestError : Int32) (c_p0_latestErrorPosition : Int32) (c_p0_net_stationCount : Int32) (c_p0_net_linkCount : Int32) (c_p0_net_messageCount : Int32) (c_p0_net_time : Int32) (c_p0_net_life : Int32) (c_p0_net_tries : Int32) (c_p0_net_x : Int32) (c_p0_net_messages : Nat → Int32) (c_p0_net_copies : Nat → Int32) (c_p0_net_log_first : Int32) (c_p0_net_log_size : Int32) (c_p0_net_log_events : Nat → Int32) (c_p2 : Nat → Int64) (i1 : Int32) {u : Int32 × (Nat → Int32) × (Nat → Int32) × Int32 × Int32 × (Nat → Int32) × (Nat → Int64)} (hf : fL_takeBack N c_p0_net_stationCount c_p0_net_messageCount c_p0_net_time c_p0_net_messages c_p0_net_copies c_p0_net_log_first c_p0_net_log_size c_p0_net_log_events c_p2 i1 = some u) : rn_KW l D k z yL_takeBack cL_takeBack 4 hhL_takeBack 7 119 [.ref a_p0, .int i1, .ref a_p2] [(a_p0, .inr (6, [.ref a_p0_setup, .int c_p0_latestError, .int c_p0_latestErrorPosition, .ref a_p0_net, .ref a_p0_trial, .ref a_p0_saved, .ref a_p0_line])), (a_p0_net, .inr (2, [.ref a_p0_net_stations, .ref a_p0_net_links, .ref a_p0_net_messages, .ref a_p0_net_copies, .ref a_p0_net_log, .ref a_p0_net_ways, .ref a_p0_net_frames, .int c_p0_net_stationCount, .int c_p0_net_linkCount, .int c_p0_net_messageCount, .int c_p0_net_time, .int c_p0_net_life, .int c_p0_net_tries, .int c_p0_net_x])), (a_p0_net_messages, .inr (4, [.int (24 : Int32), .int (12 : Int32), .ref a_p0_net_messages_cells])), (a_p0_net_messages_cells, .inl (k 0, 288, .inl c_p0_net_messages)), (a_p0_net_copies, .inr (4, [.int (192 : Int32), .int (5 : Int32), .ref a_p0_net_copies_cells])), (a_p0_net_copies_cells, .inl (k 0, 960, .inl c_p0_net_copies)), (a_p0_net_log, .inr (0, [.ref a_p0_net_log_events, .int c_p0_net_log_first, .int c_p0_net_log_size])), (a_p0_net_log_events, .inr (4, [.int (40 : Int32), .int (5 : Int32), .ref a_p0_net_log_events_cells])), (a_p0_net_log_events_cells, .inl (k 0, 200, .inl c_p0_net_log_events)), (a_p2, .inl (k 1, 1, .inr (.inl c_p2)))] [(a_p0, .inr (6, [.ref a_p0_setup, .int c_p0_latestError, .int c_p0_latestErrorPosition, .ref a_p0_net, .ref a_p0_trial, .ref a_p0_saved, .ref a_p0_line])), (a_p0_net, .inr (2, [.ref a_p0_net_stations, .ref a_p0_net_links, .ref a_p0_net_messages, .ref a_p0_net_copies, .ref a_p0_net_log, .ref a_p0_net_ways, .ref a_p0_net_frames, .int c_p0_net_stationCount, .int c_p0_net_linkCount, .int c_p0_net_messageCount, .int c_p0_net_time, .int c_p0_net_life, .int c_p0_net_tries, .int c_p0_net_x])), (a_p0_net_messages, .inr (4, [.int (24 : Int32), .int (12 : Int32), .ref a_p0_net_messages_cells])), (a_p0_net_messages_cells, .inl (k 0, 288, .inl u.2.1)), (a_p0_net_copies, .inr (4, [.int (192 : Int32), .int (5 : Int32), .ref a_p0_net_copies_cells])), (a_p0_net_copies_cells, .inl (k 0, 960, .inl u.2.2.1)), (a_p0_net_log, .inr (0, [.ref a_p0_net_log_events, .int u.2.2.2.1, .int u.2.2.2.2.1])), (a_p0_net_log_events, .inr (4, [.int (40 : Int32), .int (5 : Int32), .ref a_p0_net_log_events_cells])), (a_p0_net_log_events_cells, .inl (k 0, 200, .inl u.2.2.2.2.2.1)), (a_p2, .inl (k 1, 1, .inr (.inl u.2.2.2.2.2.2)))] u.1 := by
  refine rn_KW.go (LOC := [(0, .ref a_p0), (1, .int i1), (2, .ref a_p2)]) rfl (by decide) (Nat.le_of_ble_eq_true rfl) rfl ?_
  intro p e s m args below meth c A ls R Q hst hxc htab X hR hE hW hl
  have hx := X.1.1
  have hb := X.1.2.1
  have hts := X.1.2.2.2.2
  unfold fL_takeBack at hf
  obtain ⟨t1, ht1, hf⟩ := rn_bind hf
  obtain ⟨u0, u1, u2, u3, u4, u5, u6⟩ := u
  dsimp only at hE
  refine lv_aload_n hx hb dL_takeBack_0 rfl (lv_at hl 2 rfl) ?_
  refine lv_iconst (v := 0) hx hb dL_takeBack_1 (by decide) ?_
  refine lv_aload_n hx hb dL_takeBack_2 rfl (lv_at hl 0 rfl) ?_
  refine lv_iload_n hx hb dL_takeBack_3 rfl (lv_at hl 1 rfl) ?_
  refine rr_xcallI (As := [.int i1]) (rest := [.int (0 : Int32), .ref a_p2]) X hxc hst hW (kX6_takeBack l D k z N a_p0 a_p0_setup a_p0_net a_p0_trial a_p0_saved a_p0_line a_p0_net_stations a_p0_net_links a_p0_net_messages a_p0_net_copies a_p0_net_log a_p0_net_ways a_p0_net_frames a_p0_net_messages_cells a_p0_net_copies_cells a_p0_net_log_events a_p0_net_log_events_cells c_p0_latestError c_p0_latestErrorPosition c_p0_net_stationCount c_p0_net_linkCount c_p0_net_messageCount c_p0_net_time c_p0_net_life c_p0_net_tries c_p0_net_x c_p0_net_messages c_p0_net_copies c_p0_net_log_first c_p0_net_log_size c_p0_net_log_events i1 ht1) gm_X6_takeBack gl_L_60 [0, 1, 2, 3, 4, 5, 6, 7, 8] [9] [(a_p0, .inr (6, [.ref a_p0_setup, .int c_p0_latestError, .int c_p0_latestErrorPosition, .ref a_p0_net, .ref a_p0_trial, .ref a_p0_saved, .ref a_p0_line])), (a_p0_net, .inr (2, [.ref a_p0_net_stations, .ref a_p0_net_links, .ref a_p0_net_messages, .ref a_p0_net_copies, .ref a_p0_net_log, .ref a_p0_net_ways, .ref a_p0_net_frames, .int c_p0_net_stationCount, .int c_p0_net_linkCount, .int c_p0_net_messageCount, .int c_p0_net_time, .int c_p0_net_life, .int c_p0_net_tries, .int c_p0_net_x])), (a_p0_net_messages, .inr (4, [.int (24 : Int32), .int (12 : Int32), .ref a_p0_net_messages_cells])), (a_p0_net_messages_cells, .inl (k 0, 288, .inl t1.2.2.1)), (a_p0_net_copies, .inr (4, [.int (192 : Int32), .int (5 : Int32), .ref a_p0_net_copies_cells])), (a_p0_net_copies_cells, .inl (k 0, 960, .inl t1.2.2.2.1)), (a_p0_net_log, .inr (0, [.ref a_p0_net_log_events, .int t1.2.2.2.2.1, .int t1.2.2.2.2.2.1])), (a_p0_net_log_events, .inr (4, [.int (40 : Int32), .int (5 : Int32), .ref a_p0_net_log_events_cells])), (a_p0_net_log_events_cells, .inl (k 0, 200, .inl t1.2.2.2.2.2.2)), (a_p2, .inl (k 1, 1, .inr (.inl c_p2)))] rfl rfl rfl rfl ⟨rfl, rfl, rn_Bw (wr := [(a_p2, .inl (k 1, 1, .inr (.inl c_p2)))]) rfl rfl, rfl, rfl⟩ (rn_rT hR rfl) (rn_cs1 hR) hl.1 rfl (Nat.le_of_ble_eq_true rfl) dL_takeBack_4 (fun hk H locs q9 ce hW hq9 hv hcl => ?_) (fun hk hn H locs hW => ?_)
  · replace hf := rn_f hf hk
    by_cases hk0 : t1.1 = 3
    · replace hf := rn_t hf hk0
      rw [hk0] at hcl
      refine vx_catch (name := rn_ex 3) X.1.2.2.2.1 [] (⟨0, 9, 12, 28⟩ : ExceptionTableEntry) [] (htab.trans rfl) (fun z hz => nomatch hz) (by decide) (by decide) (hts _ qc_3) (va_any rfl hxc.2.1.2.2) hq9 hv hcl ?_
      refine lv_astore_n (lv' := [(3, .ref q9), (0, .ref a_p0), (1, .int i1), (2, .ref a_p2)]) hx hb dL_takeBack_12 rfl hl (Nat.le_of_ble_eq_true rfl) rfl (fun ls hl => ?_)
      refine lv_iconst (v := 1) hx hb dL_takeBack_13 (by decide) ?_
      cases hf
      exact hE _ _ _ _ hW dL_takeBack_14
    replace hf := rn_f hf hk0
    cases hf
  · replace hf := rn_t hf hk
    refine lv_i2l (v := t1.2.1.toInt64) hx hb dL_takeBack_7 rfl ?_
    obtain ⟨w1, hw1, hf⟩ := rn_let_s hf
    refine rr_last' X hW 9 rfl rn_in01 hw1 (ws' := [(a_p0, .inr (6, [.ref a_p0_setup, .int c_p0_latestError, .int c_p0_latestErrorPosition, .ref a_p0_net, .ref a_p0_trial, .ref a_p0_saved, .ref a_p0_line])), (a_p0_net, .inr (2, [.ref a_p0_net_stations, .ref a_p0_net_links, .ref a_p0_net_messages, .ref a_p0_net_copies, .ref a_p0_net_log, .ref a_p0_net_ways, .ref a_p0_net_frames, .int c_p0_net_stationCount, .int c_p0_net_linkCount, .int c_p0_net_messageCount, .int c_p0_net_time, .int c_p0_net_life, .int c_p0_net_tries, .int c_p0_net_x])), (a_p0_net_messages, .inr (4, [.int (24 : Int32), .int (12 : Int32), .ref a_p0_net_messages_cells])), (a_p0_net_messages_cells, .inl (k 0, 288, .inl t1.2.2.1)), (a_p0_net_copies, .inr (4, [.int (192 : Int32), .int (5 : Int32), .ref a_p0_net_copies_cells])), (a_p0_net_copies_cells, .inl (k 0, 960, .inl t1.2.2.2.1)), (a_p0_net_log, .inr (0, [.ref a_p0_net_log_events, .int t1.2.2.2.2.1, .int t1.2.2.2.2.2.1])), (a_p0_net_log_events, .inr (4, [.int (40 : Int32), .int (5 : Int32), .ref a_p0_net_log_events_cells])), (a_p0_net_log_events_cells, .inl (k 0, 200, .inl t1.2.2.2.2.2.2)), (a_p2, .inl (k 1, 1, .inr (.inl w1)))]) rfl dL_takeBack_8 (fun H locs hW => ?_)
    refine lv_goto (tgt := 15) hx hb dL_takeBack_9 (by decide) ?_
    refine lv_iconst (v := 0) hx hb dL_takeBack_15 (by decide) ?_
    cases hf
    exact hE _ _ _ _ hW dL_takeBack_16
def fL_message (N : Nat) (c_p0_net_stationCount : Int32) (c_p0_net_messageCount : Int32) (c_p0_net_messages : Nat → Int32) (c_p0_net_copies : Nat → Int32) (c_p3 : Nat → Int64) (i1 : Int32) (i2 : Int32) : Option (Int32 × (Nat → Int64)) :=
  (fX6_message N c_p0_net_stationCount c_p0_net_messageCount c_p0_net_messages c_p0_net_copies i1 i2).bind fun t1 =>
  if t1.1 = 0 then
    rn_let (vp_updL c_p3 (0 : Int32).toNatClampNeg t1.2.toInt64) fun w1 =>
    some ((0 : Int32), w1)
  else
  if t1.1 = 3 then
    some ((1 : Int32), c_p3)
  else
  if t1.1 = 1 then
    some ((2 : Int32), c_p3)
  else
  none
set_option maxHeartbeats 4000000 in
set_option maxRecDepth 20000 in
theorem kL_message (l : Launch) (D : va_G) (k : Nat → ClassId) (z : (Nat → Nat) × (Nat → Nat)) (N : Nat) (a_p0 : Nat) (a_p3 : Nat) (a_p0_setup : Nat) (a_p0_net : Nat) (a_p0_trial : Nat) (a_p0_saved : Nat) (a_p0_line : Nat) (a_p0_net_stations : Nat) (a_p0_net_links : Nat) (a_p0_net_messages : Nat) (a_p0_net_copies : Nat) (a_p0_net_log : Nat) (a_p0_net_ways : Nat) (a_p0_net_frames : Nat) (a_p0_net_messages_cells : Nat) (a_p0_net_copies_cells : Nat) (c_p0_latestError : Int32) (c_p0_latestErrorPosition : Int32) (c_p0_net_stationCount : Int32) (c_p0_net_linkCount : Int32) (c_p0_net_messageCount : Int32) (c_p0_net_time : Int32) (c_p0_net_life : Int32) (c_p0_net_tries : Int32) (c_p0_net_x : Int32) (c_p0_net_messages : Nat → Int32) (c_p0_net_copies : Nat → Int32) (c_p3 : Nat → Int64) (i1 : Int32) (i2 : Int32) {u : Int32 × (Nat → Int64)} (hf : fL_message N c_p0_net_stationCount c_p0_net_messageCount c_p0_net_messages c_p0_net_copies c_p3 i1 i2 = some u) : rn_KW l D k z yL_message cL_message 5 hhL_message 7 137 [.ref a_p0, .int i1, .int i2, .ref a_p3] [(a_p0, .inr (6, [.ref a_p0_setup, .int c_p0_latestError, .int c_p0_latestErrorPosition, .ref a_p0_net, .ref a_p0_trial, .ref a_p0_saved, .ref a_p0_line])), (a_p0_net, .inr (2, [.ref a_p0_net_stations, .ref a_p0_net_links, .ref a_p0_net_messages, .ref a_p0_net_copies, .ref a_p0_net_log, .ref a_p0_net_ways, .ref a_p0_net_frames, .int c_p0_net_stationCount, .int c_p0_net_linkCount, .int c_p0_net_messageCount, .int c_p0_net_time, .int c_p0_net_life, .int c_p0_net_tries, .int c_p0_net_x])), (a_p0_net_messages, .inr (4, [.int (24 : Int32), .int (12 : Int32), .ref a_p0_net_messages_cells])), (a_p0_net_messages_cells, .inl (k 0, 288, .inl c_p0_net_messages)), (a_p0_net_copies, .inr (4, [.int (192 : Int32), .int (5 : Int32), .ref a_p0_net_copies_cells])), (a_p0_net_copies_cells, .inl (k 0, 960, .inl c_p0_net_copies)), (a_p3, .inl (k 1, 1, .inr (.inl c_p3)))] [(a_p0, .inr (6, [.ref a_p0_setup, .int c_p0_latestError, .int c_p0_latestErrorPosition, .ref a_p0_net, .ref a_p0_trial, .ref a_p0_saved, .ref a_p0_line])), (a_p0_net, .inr (2, [.ref a_p0_net_stations, .ref a_p0_net_links, .ref a_p0_net_messages, .ref a_p0_net_copies, .ref a_p0_net_log, .ref a_p0_net_ways, .ref a_p0_net_frames, .int c_p0_net_stationCount, .int c_p0_net_linkCount, .int c_p0_net_messageCount, .int c_p0_net_time, .int c_p0_net_life, .int c_p0_net_tries, .int c_p0_net_x])), (a_p0_net_messages, .inr (4, [.int (24 : Int32), .int (12 : Int32), .ref a_p0_net_messages_cells])), (a_p0_net_messages_cells, .inl (k 0, 288, .inl c_p0_net_messages)), (a_p0_net_copies, .inr (4, [.int (192 : Int32), .int (5 : Int32), .ref a_p0_net_copies_cells])), (a_p0_net_copies_cells, .inl (k 0, 960, .inl c_p0_net_copies)), (a_p3, .inl (k 1, 1, .inr (.inl u.2)))] u.1 := by
  refine rn_KW.go (LOC := [(0, .ref a_p0), (1, .int i1), (2, .int i2), (3, .ref a_p3)]) rfl (by decide) (Nat.le_of_ble_eq_true rfl) rfl ?_
  intro p e s m args below meth c A ls R Q hst hxc htab X hR hE hW hl
  have hx := X.1.1
  have hb := X.1.2.1
  have hts := X.1.2.2.2.2
  unfold fL_message at hf
  obtain ⟨t1, ht1, hf⟩ := rn_bind hf
  refine lv_aload_n hx hb dL_message_0 rfl (lv_at hl 3 rfl) ?_
  refine lv_iconst (v := 0) hx hb dL_message_1 (by decide) ?_
  refine lv_aload_n hx hb dL_message_2 rfl (lv_at hl 0 rfl) ?_
  refine lv_iload_n hx hb dL_message_3 rfl (lv_at hl 1 rfl) ?_
  refine lv_iload_n hx hb dL_message_4 rfl (lv_at hl 2 rfl) ?_
  refine rr_xcallI (As := [.int i1, .int i2]) (rest := [.int (0 : Int32), .ref a_p3]) X hxc hst hW (kX6_message l D k z N a_p0 a_p0_setup a_p0_net a_p0_trial a_p0_saved a_p0_line a_p0_net_stations a_p0_net_links a_p0_net_messages a_p0_net_copies a_p0_net_log a_p0_net_ways a_p0_net_frames a_p0_net_messages_cells a_p0_net_copies_cells c_p0_latestError c_p0_latestErrorPosition c_p0_net_stationCount c_p0_net_linkCount c_p0_net_messageCount c_p0_net_time c_p0_net_life c_p0_net_tries c_p0_net_x c_p0_net_messages c_p0_net_copies i1 i2 ht1) gm_X6_message gl_L_63 [0, 1, 2, 3, 4, 5] [6] [(a_p0, .inr (6, [.ref a_p0_setup, .int c_p0_latestError, .int c_p0_latestErrorPosition, .ref a_p0_net, .ref a_p0_trial, .ref a_p0_saved, .ref a_p0_line])), (a_p0_net, .inr (2, [.ref a_p0_net_stations, .ref a_p0_net_links, .ref a_p0_net_messages, .ref a_p0_net_copies, .ref a_p0_net_log, .ref a_p0_net_ways, .ref a_p0_net_frames, .int c_p0_net_stationCount, .int c_p0_net_linkCount, .int c_p0_net_messageCount, .int c_p0_net_time, .int c_p0_net_life, .int c_p0_net_tries, .int c_p0_net_x])), (a_p0_net_messages, .inr (4, [.int (24 : Int32), .int (12 : Int32), .ref a_p0_net_messages_cells])), (a_p0_net_messages_cells, .inl (k 0, 288, .inl c_p0_net_messages)), (a_p0_net_copies, .inr (4, [.int (192 : Int32), .int (5 : Int32), .ref a_p0_net_copies_cells])), (a_p0_net_copies_cells, .inl (k 0, 960, .inl c_p0_net_copies)), (a_p3, .inl (k 1, 1, .inr (.inl c_p3)))] rfl rfl rfl rfl ⟨rfl, rfl, rn_Bw (wr := [(a_p3, .inl (k 1, 1, .inr (.inl c_p3)))]) rfl rfl, rfl, rfl⟩ (rn_rT hR rfl) (rn_cs1 hR) hl.1 rfl (Nat.le_of_ble_eq_true rfl) dL_message_5 (fun hk H locs q9 ce hW hq9 hv hcl => ?_) (fun hk hn H locs hW => ?_)
  · replace hf := rn_f hf hk
    by_cases hk0 : t1.1 = 3
    · replace hf := rn_t hf hk0
      rw [hk0] at hcl
      refine vx_catch (name := rn_ex 3) X.1.2.2.2.1 [] (⟨0, 10, 13, 28⟩ : ExceptionTableEntry) [(⟨0, 10, 17, 18⟩ : ExceptionTableEntry)] (htab.trans rfl) (fun z hz => nomatch hz) (by decide) (by decide) (hts _ qc_3) (va_any rfl hxc.2.1.2.2) hq9 hv hcl ?_
      refine lv_astore (lv' := [(4, .ref q9), (0, .ref a_p0), (1, .int i1), (2, .int i2), (3, .ref a_p3)]) hx hb dL_message_13 hl (Nat.le_of_ble_eq_true rfl) rfl (fun ls hl => ?_)
      refine lv_iconst (v := 1) hx hb dL_message_15 (by decide) ?_
      cases hf
      exact hE _ _ _ _ hW dL_message_16
    replace hf := rn_f hf hk0
    by_cases hk1 : t1.1 = 1
    · replace hf := rn_t hf hk1
      rw [hk1] at hcl
      refine vx_catch (name := rn_ex 1) X.1.2.2.2.1 [(⟨0, 10, 13, 28⟩ : ExceptionTableEntry)] (⟨0, 10, 17, 18⟩ : ExceptionTableEntry) [] (htab.trans rfl) (fun z hz => by rcases List.mem_singleton.mp hz with rfl; exact Or.inr ⟨by decide, rn_ex 3, hts _ qc_3, hxc.2.2.1.2⟩) (by decide) (by decide) (hts _ qc_1) (va_any rfl hxc.2.1.1) hq9 hv hcl ?_
      refine lv_astore (lv' := [(4, .ref q9), (0, .ref a_p0), (1, .int i1), (2, .int i2), (3, .ref a_p3)]) hx hb dL_message_17 hl (Nat.le_of_ble_eq_true rfl) rfl (fun ls hl => ?_)
      refine lv_iconst (v := 2) hx hb dL_message_19 (by decide) ?_
      cases hf
      exact hE _ _ _ _ hW dL_message_20
    replace hf := rn_f hf hk1
    cases hf
  · replace hf := rn_t hf hk
    refine lv_i2l (v := t1.2.toInt64) hx hb dL_message_8 rfl ?_
    obtain ⟨w1, hw1, hf⟩ := rn_let_s hf
    refine rr_last' X hW 6 rfl rn_in01 hw1 (ws' := [(a_p0, .inr (6, [.ref a_p0_setup, .int c_p0_latestError, .int c_p0_latestErrorPosition, .ref a_p0_net, .ref a_p0_trial, .ref a_p0_saved, .ref a_p0_line])), (a_p0_net, .inr (2, [.ref a_p0_net_stations, .ref a_p0_net_links, .ref a_p0_net_messages, .ref a_p0_net_copies, .ref a_p0_net_log, .ref a_p0_net_ways, .ref a_p0_net_frames, .int c_p0_net_stationCount, .int c_p0_net_linkCount, .int c_p0_net_messageCount, .int c_p0_net_time, .int c_p0_net_life, .int c_p0_net_tries, .int c_p0_net_x])), (a_p0_net_messages, .inr (4, [.int (24 : Int32), .int (12 : Int32), .ref a_p0_net_messages_cells])), (a_p0_net_messages_cells, .inl (k 0, 288, .inl c_p0_net_messages)), (a_p0_net_copies, .inr (4, [.int (192 : Int32), .int (5 : Int32), .ref a_p0_net_copies_cells])), (a_p0_net_copies_cells, .inl (k 0, 960, .inl c_p0_net_copies)), (a_p3, .inl (k 1, 1, .inr (.inl w1)))]) rfl dL_message_9 (fun H locs hW => ?_)
    refine lv_goto (tgt := 21) hx hb dL_message_10 (by decide) ?_
    refine lv_iconst (v := 0) hx hb dL_message_21 (by decide) ?_
    cases hf
    exact hE _ _ _ _ hW dL_message_22
def fL_copy (N : Nat) (c_p0_net_stationCount : Int32) (c_p0_net_messageCount : Int32) (c_p0_net_time : Int32) (c_p0_net_messages : Nat → Int32) (c_p0_net_copies : Nat → Int32) (c_p0_net_ways_arrival : Int32) (c_p0_net_ways_fewest : Int32) (c_p0_net_ways_next : Int32) (c_p0_net_ways_heard : Nat → Int64) (c_p4 : Nat → Int64) (i1 : Int32) (i2 : Int32) (i3 : Int32) : Option (Int32 × Int32 × Int32 × Int32 × (Nat → Int64)) :=
  (fX6_copy N c_p0_net_stationCount c_p0_net_messageCount c_p0_net_time c_p0_net_messages c_p0_net_copies c_p0_net_ways_arrival c_p0_net_ways_fewest c_p0_net_ways_next c_p0_net_ways_heard i1 i2 i3).bind fun t1 =>
  if t1.1 = 0 then
    rn_let (vp_updL c_p4 (0 : Int32).toNatClampNeg t1.2.1.toInt64) fun w1 =>
    some ((0 : Int32), t1.2.2.1, t1.2.2.2.1, t1.2.2.2.2, w1)
  else
  if t1.1 = 3 then
    some ((1 : Int32), t1.2.2.1, t1.2.2.2.1, t1.2.2.2.2, c_p4)
  else
  if t1.1 = 1 then
    some ((2 : Int32), t1.2.2.1, t1.2.2.2.1, t1.2.2.2.2, c_p4)
  else
  none
set_option maxHeartbeats 4000000 in
set_option maxRecDepth 20000 in
theorem kL_copy (l : Launch) (D : va_G) (k : Nat → ClassId) (z : (Nat → Nat) × (Nat → Nat)) (N : Nat) (a_p0 : Nat) (a_p4 : Nat) (a_p0_setup : Nat) (a_p0_net : Nat) (a_p0_trial : Nat) (a_p0_saved : Nat) (a_p0_line : Nat) (a_p0_net_stations : Nat) (a_p0_net_links : Nat) (a_p0_net_messages : Nat) (a_p0_net_copies : Nat) (a_p0_net_log : Nat) (a_p0_net_ways : Nat) (a_p0_net_frames : Nat) (a_p0_net_messages_cells : Nat) (a_p0_net_copies_cells : Nat) (a_p0_net_ways_heard : Nat) (c_p0_latestError : Int32) (c_p0_latestErrorPosition : Int32) (c_p0_net_stationCount : Int32) (c_p0_net_linkCount : Int32) (c_p0_net_messageCount : Int32) (c_p0_net_time : Int32) (c_p0_net_life : Int32) (c_p0_net_tries : Int32) (c_p0_net_x : Int32) (c_p0_net_messages : Nat → Int32) (c_p0_net_copies : Nat → Int32) (c_p0_net_ways_arrival : Int32) (c_p0_net_ways_fewest : Int32) (c_p0_net_ways_next : Int32) (c_p0_net_ways_heard : Nat → Int64) (c_p4 : Nat → Int64) (i1 : Int32) (i2 : Int32) (i3 : Int32) {u : Int32 × Int32 × Int32 × Int32 × (Nat → Int64)} (hf : fL_copy N c_p0_net_stationCount c_p0_net_messageCount c_p0_net_time c_p0_net_messages c_p0_net_copies c_p0_net_ways_arrival c_p0_net_ways_fewest c_p0_net_ways_next c_p0_net_ways_heard c_p4 i1 i2 i3 = some u) : rn_KW l D k z yL_copy cL_copy 6 hhL_copy 7 157 [.ref a_p0, .int i1, .int i2, .int i3, .ref a_p4] [(a_p0, .inr (6, [.ref a_p0_setup, .int c_p0_latestError, .int c_p0_latestErrorPosition, .ref a_p0_net, .ref a_p0_trial, .ref a_p0_saved, .ref a_p0_line])), (a_p0_net, .inr (2, [.ref a_p0_net_stations, .ref a_p0_net_links, .ref a_p0_net_messages, .ref a_p0_net_copies, .ref a_p0_net_log, .ref a_p0_net_ways, .ref a_p0_net_frames, .int c_p0_net_stationCount, .int c_p0_net_linkCount, .int c_p0_net_messageCount, .int c_p0_net_time, .int c_p0_net_life, .int c_p0_net_tries, .int c_p0_net_x])), (a_p0_net_messages, .inr (4, [.int (24 : Int32), .int (12 : Int32), .ref a_p0_net_messages_cells])), (a_p0_net_messages_cells, .inl (k 0, 288, .inl c_p0_net_messages)), (a_p0_net_copies, .inr (4, [.int (192 : Int32), .int (5 : Int32), .ref a_p0_net_copies_cells])), (a_p0_net_copies_cells, .inl (k 0, 960, .inl c_p0_net_copies)), (a_p0_net_ways, .inr (5, [.ref a_p0_net_ways_heard, .int c_p0_net_ways_arrival, .int c_p0_net_ways_fewest, .int c_p0_net_ways_next])), (a_p0_net_ways_heard, .inl (k 1, 24, .inr (.inl c_p0_net_ways_heard))), (a_p4, .inl (k 1, 1, .inr (.inl c_p4)))] [(a_p0, .inr (6, [.ref a_p0_setup, .int c_p0_latestError, .int c_p0_latestErrorPosition, .ref a_p0_net, .ref a_p0_trial, .ref a_p0_saved, .ref a_p0_line])), (a_p0_net, .inr (2, [.ref a_p0_net_stations, .ref a_p0_net_links, .ref a_p0_net_messages, .ref a_p0_net_copies, .ref a_p0_net_log, .ref a_p0_net_ways, .ref a_p0_net_frames, .int c_p0_net_stationCount, .int c_p0_net_linkCount, .int c_p0_net_messageCount, .int c_p0_net_time, .int c_p0_net_life, .int c_p0_net_tries, .int c_p0_net_x])), (a_p0_net_messages, .inr (4, [.int (24 : Int32), .int (12 : Int32), .ref a_p0_net_messages_cells])), (a_p0_net_messages_cells, .inl (k 0, 288, .inl c_p0_net_messages)), (a_p0_net_copies, .inr (4, [.int (192 : Int32), .int (5 : Int32), .ref a_p0_net_copies_cells])), (a_p0_net_copies_cells, .inl (k 0, 960, .inl c_p0_net_copies)), (a_p0_net_ways, .inr (5, [.ref a_p0_net_ways_heard, .int u.2.1, .int u.2.2.1, .int u.2.2.2.1])), (a_p0_net_ways_heard, .inl (k 1, 24, .inr (.inl c_p0_net_ways_heard))), (a_p4, .inl (k 1, 1, .inr (.inl u.2.2.2.2)))] u.1 := by
  refine rn_KW.go (LOC := [(0, .ref a_p0), (1, .int i1), (2, .int i2), (3, .int i3), (4, .ref a_p4)]) rfl (by decide) (Nat.le_of_ble_eq_true rfl) rfl ?_
  intro p e s m args below meth c A ls R Q hst hxc htab X hR hE hW hl
  have hx := X.1.1
  have hb := X.1.2.1
  have hts := X.1.2.2.2.2
  unfold fL_copy at hf
  obtain ⟨t1, ht1, hf⟩ := rn_bind hf
  refine lv_aload hx hb dL_copy_0 (lv_at hl 4 rfl) ?_
  refine lv_iconst (v := 0) hx hb dL_copy_2 (by decide) ?_
  refine lv_aload_n hx hb dL_copy_3 rfl (lv_at hl 0 rfl) ?_
  refine lv_iload_n hx hb dL_copy_4 rfl (lv_at hl 1 rfl) ?_
  refine lv_iload_n hx hb dL_copy_5 rfl (lv_at hl 2 rfl) ?_
  refine lv_iload_n hx hb dL_copy_6 rfl (lv_at hl 3 rfl) ?_
  refine rr_xcallI (As := [.int i1, .int i2, .int i3]) (rest := [.int (0 : Int32), .ref a_p4]) X hxc hst hW (kX6_copy l D k z N a_p0 a_p0_setup a_p0_net a_p0_trial a_p0_saved a_p0_line a_p0_net_stations a_p0_net_links a_p0_net_messages a_p0_net_copies a_p0_net_log a_p0_net_ways a_p0_net_frames a_p0_net_messages_cells a_p0_net_copies_cells a_p0_net_ways_heard c_p0_latestError c_p0_latestErrorPosition c_p0_net_stationCount c_p0_net_linkCount c_p0_net_messageCount c_p0_net_time c_p0_net_life c_p0_net_tries c_p0_net_x c_p0_net_messages c_p0_net_copies c_p0_net_ways_arrival c_p0_net_ways_fewest c_p0_net_ways_next c_p0_net_ways_heard i1 i2 i3 ht1) gm_X6_copy gl_L_66 [0, 1, 2, 3, 4, 5, 6, 7] [8] [(a_p0, .inr (6, [.ref a_p0_setup, .int c_p0_latestError, .int c_p0_latestErrorPosition, .ref a_p0_net, .ref a_p0_trial, .ref a_p0_saved, .ref a_p0_line])), (a_p0_net, .inr (2, [.ref a_p0_net_stations, .ref a_p0_net_links, .ref a_p0_net_messages, .ref a_p0_net_copies, .ref a_p0_net_log, .ref a_p0_net_ways, .ref a_p0_net_frames, .int c_p0_net_stationCount, .int c_p0_net_linkCount, .int c_p0_net_messageCount, .int c_p0_net_time, .int c_p0_net_life, .int c_p0_net_tries, .int c_p0_net_x])), (a_p0_net_messages, .inr (4, [.int (24 : Int32), .int (12 : Int32), .ref a_p0_net_messages_cells])), (a_p0_net_messages_cells, .inl (k 0, 288, .inl c_p0_net_messages)), (a_p0_net_copies, .inr (4, [.int (192 : Int32), .int (5 : Int32), .ref a_p0_net_copies_cells])), (a_p0_net_copies_cells, .inl (k 0, 960, .inl c_p0_net_copies)), (a_p0_net_ways, .inr (5, [.ref a_p0_net_ways_heard, .int t1.2.2.1, .int t1.2.2.2.1, .int t1.2.2.2.2])), (a_p0_net_ways_heard, .inl (k 1, 24, .inr (.inl c_p0_net_ways_heard))), (a_p4, .inl (k 1, 1, .inr (.inl c_p4)))] rfl rfl rfl rfl ⟨rfl, rfl, rn_Bw (wr := [(a_p4, .inl (k 1, 1, .inr (.inl c_p4)))]) rfl rfl, rfl, rfl⟩ (rn_rT hR rfl) (rn_cs1 hR) hl.1 rfl (Nat.le_of_ble_eq_true rfl) dL_copy_7 (fun hk H locs q9 ce hW hq9 hv hcl => ?_) (fun hk hn H locs hW => ?_)
  · replace hf := rn_f hf hk
    by_cases hk0 : t1.1 = 3
    · replace hf := rn_t hf hk0
      rw [hk0] at hcl
      refine vx_catch (name := rn_ex 3) X.1.2.2.2.1 [] (⟨0, 12, 15, 28⟩ : ExceptionTableEntry) [(⟨0, 12, 19, 18⟩ : ExceptionTableEntry)] (htab.trans rfl) (fun z hz => nomatch hz) (by decide) (by decide) (hts _ qc_3) (va_any rfl hxc.2.1.2.2) hq9 hv hcl ?_
      refine lv_astore (lv' := [(5, .ref q9), (0, .ref a_p0), (1, .int i1), (2, .int i2), (3, .int i3), (4, .ref a_p4)]) hx hb dL_copy_15 hl (Nat.le_of_ble_eq_true rfl) rfl (fun ls hl => ?_)
      refine lv_iconst (v := 1) hx hb dL_copy_17 (by decide) ?_
      cases hf
      exact hE _ _ _ _ hW dL_copy_18
    replace hf := rn_f hf hk0
    by_cases hk1 : t1.1 = 1
    · replace hf := rn_t hf hk1
      rw [hk1] at hcl
      refine vx_catch (name := rn_ex 1) X.1.2.2.2.1 [(⟨0, 12, 15, 28⟩ : ExceptionTableEntry)] (⟨0, 12, 19, 18⟩ : ExceptionTableEntry) [] (htab.trans rfl) (fun z hz => by rcases List.mem_singleton.mp hz with rfl; exact Or.inr ⟨by decide, rn_ex 3, hts _ qc_3, hxc.2.2.1.2⟩) (by decide) (by decide) (hts _ qc_1) (va_any rfl hxc.2.1.1) hq9 hv hcl ?_
      refine lv_astore (lv' := [(5, .ref q9), (0, .ref a_p0), (1, .int i1), (2, .int i2), (3, .int i3), (4, .ref a_p4)]) hx hb dL_copy_19 hl (Nat.le_of_ble_eq_true rfl) rfl (fun ls hl => ?_)
      refine lv_iconst (v := 2) hx hb dL_copy_21 (by decide) ?_
      cases hf
      exact hE _ _ _ _ hW dL_copy_22
    replace hf := rn_f hf hk1
    cases hf
  · replace hf := rn_t hf hk
    refine lv_i2l (v := t1.2.1.toInt64) hx hb dL_copy_10 rfl ?_
    obtain ⟨w1, hw1, hf⟩ := rn_let_s hf
    refine rr_last' X hW 8 rfl rn_in01 hw1 (ws' := [(a_p0, .inr (6, [.ref a_p0_setup, .int c_p0_latestError, .int c_p0_latestErrorPosition, .ref a_p0_net, .ref a_p0_trial, .ref a_p0_saved, .ref a_p0_line])), (a_p0_net, .inr (2, [.ref a_p0_net_stations, .ref a_p0_net_links, .ref a_p0_net_messages, .ref a_p0_net_copies, .ref a_p0_net_log, .ref a_p0_net_ways, .ref a_p0_net_frames, .int c_p0_net_stationCount, .int c_p0_net_linkCount, .int c_p0_net_messageCount, .int c_p0_net_time, .int c_p0_net_life, .int c_p0_net_tries, .int c_p0_net_x])), (a_p0_net_messages, .inr (4, [.int (24 : Int32), .int (12 : Int32), .ref a_p0_net_messages_cells])), (a_p0_net_messages_cells, .inl (k 0, 288, .inl c_p0_net_messages)), (a_p0_net_copies, .inr (4, [.int (192 : Int32), .int (5 : Int32), .ref a_p0_net_copies_cells])), (a_p0_net_copies_cells, .inl (k 0, 960, .inl c_p0_net_copies)), (a_p0_net_ways, .inr (5, [.ref a_p0_net_ways_heard, .int t1.2.2.1, .int t1.2.2.2.1, .int t1.2.2.2.2])), (a_p0_net_ways_heard, .inl (k 1, 24, .inr (.inl c_p0_net_ways_heard))), (a_p4, .inl (k 1, 1, .inr (.inl w1)))]) rfl dL_copy_11 (fun H locs hW => ?_)
    refine lv_goto (tgt := 23) hx hb dL_copy_12 (by decide) ?_
    refine lv_iconst (v := 0) hx hb dL_copy_23 (by decide) ?_
    cases hf
    exact hE _ _ _ _ hW dL_copy_24
def fL_path (c_p0_net_stationCount : Int32) (c_p0_net_messageCount : Int32) (c_p0_net_copies : Nat → Int32) (c_p4 : Nat → Int64) (i1 : Int32) (i2 : Int32) (i3 : Int32) : Option (Int32 × (Nat → Int64)) :=
  (fX6_path c_p0_net_stationCount c_p0_net_messageCount c_p0_net_copies i1 i2 i3).bind fun t1 =>
  if t1.1 = 0 then
    rn_let (vp_updL c_p4 (0 : Int32).toNatClampNeg t1.2.toInt64) fun w1 =>
    some ((0 : Int32), w1)
  else
  if t1.1 = 3 then
    some ((1 : Int32), c_p4)
  else
  none
set_option maxHeartbeats 4000000 in
set_option maxRecDepth 20000 in
theorem kL_path (l : Launch) (D : va_G) (k : Nat → ClassId) (z : (Nat → Nat) × (Nat → Nat)) (a_p0 : Nat) (a_p4 : Nat) (a_p0_setup : Nat) (a_p0_net : Nat) (a_p0_trial : Nat) (a_p0_saved : Nat) (a_p0_line : Nat) (a_p0_net_stations : Nat) (a_p0_net_links : Nat) (a_p0_net_messages : Nat) (a_p0_net_copies : Nat) (a_p0_net_log : Nat) (a_p0_net_ways : Nat) (a_p0_net_frames : Nat) (a_p0_net_copies_cells : Nat) (c_p0_latestError : Int32) (c_p0_latestErrorPosition : Int32) (c_p0_net_stationCount : Int32) (c_p0_net_linkCount : Int32) (c_p0_net_messageCount : Int32) (c_p0_net_time : Int32) (c_p0_net_life : Int32) (c_p0_net_tries : Int32) (c_p0_net_x : Int32) (c_p0_net_copies : Nat → Int32) (c_p4 : Nat → Int64) (i1 : Int32) (i2 : Int32) (i3 : Int32) {u : Int32 × (Nat → Int64)} (hf : fL_path c_p0_net_stationCount c_p0_net_messageCount c_p0_net_copies c_p4 i1 i2 i3 = some u) : rn_KW l D k z yL_path cL_path 6 hhL_path 7 106 [.ref a_p0, .int i1, .int i2, .int i3, .ref a_p4] [(a_p0, .inr (6, [.ref a_p0_setup, .int c_p0_latestError, .int c_p0_latestErrorPosition, .ref a_p0_net, .ref a_p0_trial, .ref a_p0_saved, .ref a_p0_line])), (a_p0_net, .inr (2, [.ref a_p0_net_stations, .ref a_p0_net_links, .ref a_p0_net_messages, .ref a_p0_net_copies, .ref a_p0_net_log, .ref a_p0_net_ways, .ref a_p0_net_frames, .int c_p0_net_stationCount, .int c_p0_net_linkCount, .int c_p0_net_messageCount, .int c_p0_net_time, .int c_p0_net_life, .int c_p0_net_tries, .int c_p0_net_x])), (a_p0_net_copies, .inr (4, [.int (192 : Int32), .int (5 : Int32), .ref a_p0_net_copies_cells])), (a_p0_net_copies_cells, .inl (k 0, 960, .inl c_p0_net_copies)), (a_p4, .inl (k 1, 1, .inr (.inl c_p4)))] [(a_p0, .inr (6, [.ref a_p0_setup, .int c_p0_latestError, .int c_p0_latestErrorPosition, .ref a_p0_net, .ref a_p0_trial, .ref a_p0_saved, .ref a_p0_line])), (a_p0_net, .inr (2, [.ref a_p0_net_stations, .ref a_p0_net_links, .ref a_p0_net_messages, .ref a_p0_net_copies, .ref a_p0_net_log, .ref a_p0_net_ways, .ref a_p0_net_frames, .int c_p0_net_stationCount, .int c_p0_net_linkCount, .int c_p0_net_messageCount, .int c_p0_net_time, .int c_p0_net_life, .int c_p0_net_tries, .int c_p0_net_x])), (a_p0_net_copies, .inr (4, [.int (192 : Int32), .int (5 : Int32), .ref a_p0_net_copies_cells])), (a_p0_net_copies_cells, .inl (k 0, 960, .inl c_p0_net_copies)), (a_p4, .inl (k 1, 1, .inr (.inl u.2)))] u.1 := by
  refine rn_KW.go (LOC := [(0, .ref a_p0), (1, .int i1), (2, .int i2), (3, .int i3), (4, .ref a_p4)]) rfl (by decide) (Nat.le_of_ble_eq_true rfl) rfl ?_
  intro p e s m args below meth c A ls R Q hst hxc htab X hR hE hW hl
  have hx := X.1.1
  have hb := X.1.2.1
  have hts := X.1.2.2.2.2
  unfold fL_path at hf
  obtain ⟨t1, ht1, hf⟩ := rn_bind hf
  refine lv_aload hx hb dL_path_0 (lv_at hl 4 rfl) ?_
  refine lv_iconst (v := 0) hx hb dL_path_2 (by decide) ?_
  refine lv_aload_n hx hb dL_path_3 rfl (lv_at hl 0 rfl) ?_
  refine lv_iload_n hx hb dL_path_4 rfl (lv_at hl 1 rfl) ?_
  refine lv_iload_n hx hb dL_path_5 rfl (lv_at hl 2 rfl) ?_
  refine lv_iload_n hx hb dL_path_6 rfl (lv_at hl 3 rfl) ?_
  refine rr_xcallI (As := [.int i1, .int i2, .int i3]) (rest := [.int (0 : Int32), .ref a_p4]) X hxc hst hW (kX6_path l D k z a_p0 a_p0_setup a_p0_net a_p0_trial a_p0_saved a_p0_line a_p0_net_stations a_p0_net_links a_p0_net_messages a_p0_net_copies a_p0_net_log a_p0_net_ways a_p0_net_frames a_p0_net_copies_cells c_p0_latestError c_p0_latestErrorPosition c_p0_net_stationCount c_p0_net_linkCount c_p0_net_messageCount c_p0_net_time c_p0_net_life c_p0_net_tries c_p0_net_x c_p0_net_copies i1 i2 i3 ht1) gm_X6_path gl_L_69 [0, 1, 2, 3] [4] [(a_p0, .inr (6, [.ref a_p0_setup, .int c_p0_latestError, .int c_p0_latestErrorPosition, .ref a_p0_net, .ref a_p0_trial, .ref a_p0_saved, .ref a_p0_line])), (a_p0_net, .inr (2, [.ref a_p0_net_stations, .ref a_p0_net_links, .ref a_p0_net_messages, .ref a_p0_net_copies, .ref a_p0_net_log, .ref a_p0_net_ways, .ref a_p0_net_frames, .int c_p0_net_stationCount, .int c_p0_net_linkCount, .int c_p0_net_messageCount, .int c_p0_net_time, .int c_p0_net_life, .int c_p0_net_tries, .int c_p0_net_x])), (a_p0_net_copies, .inr (4, [.int (192 : Int32), .int (5 : Int32), .ref a_p0_net_copies_cells])), (a_p0_net_copies_cells, .inl (k 0, 960, .inl c_p0_net_copies)), (a_p4, .inl (k 1, 1, .inr (.inl c_p4)))] rfl rfl rfl rfl ⟨rfl, rfl, rn_Bw (wr := [(a_p4, .inl (k 1, 1, .inr (.inl c_p4)))]) rfl rfl, rfl, rfl⟩ (rn_rT hR rfl) (rn_cs1 hR) hl.1 rfl (Nat.le_of_ble_eq_true rfl) dL_path_7 (fun hk H locs q9 ce hW hq9 hv hcl => ?_) (fun hk hn H locs hW => ?_)
  · replace hf := rn_f hf hk
    by_cases hk0 : t1.1 = 3
    · replace hf := rn_t hf hk0
      rw [hk0] at hcl
      refine vx_catch (name := rn_ex 3) X.1.2.2.2.1 [] (⟨0, 12, 15, 28⟩ : ExceptionTableEntry) [] (htab.trans rfl) (fun z hz => nomatch hz) (by decide) (by decide) (hts _ qc_3) (va_any rfl hxc.2.1.2.2) hq9 hv hcl ?_
      refine lv_astore (lv' := [(5, .ref q9), (0, .ref a_p0), (1, .int i1), (2, .int i2), (3, .int i3), (4, .ref a_p4)]) hx hb dL_path_15 hl (Nat.le_of_ble_eq_true rfl) rfl (fun ls hl => ?_)
      refine lv_iconst (v := 1) hx hb dL_path_17 (by decide) ?_
      cases hf
      exact hE _ _ _ _ hW dL_path_18
    replace hf := rn_f hf hk0
    cases hf
  · replace hf := rn_t hf hk
    refine lv_i2l (v := t1.2.toInt64) hx hb dL_path_10 rfl ?_
    obtain ⟨w1, hw1, hf⟩ := rn_let_s hf
    refine rr_last' X hW 4 rfl rn_in01 hw1 (ws' := [(a_p0, .inr (6, [.ref a_p0_setup, .int c_p0_latestError, .int c_p0_latestErrorPosition, .ref a_p0_net, .ref a_p0_trial, .ref a_p0_saved, .ref a_p0_line])), (a_p0_net, .inr (2, [.ref a_p0_net_stations, .ref a_p0_net_links, .ref a_p0_net_messages, .ref a_p0_net_copies, .ref a_p0_net_log, .ref a_p0_net_ways, .ref a_p0_net_frames, .int c_p0_net_stationCount, .int c_p0_net_linkCount, .int c_p0_net_messageCount, .int c_p0_net_time, .int c_p0_net_life, .int c_p0_net_tries, .int c_p0_net_x])), (a_p0_net_copies, .inr (4, [.int (192 : Int32), .int (5 : Int32), .ref a_p0_net_copies_cells])), (a_p0_net_copies_cells, .inl (k 0, 960, .inl c_p0_net_copies)), (a_p4, .inl (k 1, 1, .inr (.inl w1)))]) rfl dL_path_11 (fun H locs hW => ?_)
    refine lv_goto (tgt := 19) hx hb dL_path_12 (by decide) ?_
    refine lv_iconst (v := 0) hx hb dL_path_19 (by decide) ?_
    cases hf
    exact hE _ _ _ _ hW dL_path_20
def fL_sends (N : Nat) (c_p0_net_stationCount : Int32) (c_p0_net_messageCount : Int32) (c_p0_net_time : Int32) (c_p0_net_stations : Nat → Int32) (c_p0_net_messages : Nat → Int32) (c_p0_net_copies : Nat → Int32) (c_p0_net_ways_arrival : Int32) (c_p0_net_ways_fewest : Int32) (c_p0_net_ways_next : Int32) (c_p0_net_ways_heard : Nat → Int64) (c_p0_net_frames : Nat → Int32) (c_p3 : Nat → Int64) (i1 : Int32) (i2 : Int32) : Option (Int32 × Int32 × Int32 × Int32 × (Nat → Int32) × (Nat → Int64)) :=
  (fX6_sends N c_p0_net_stationCount c_p0_net_messageCount c_p0_net_time c_p0_net_stations c_p0_net_messages c_p0_net_copies c_p0_net_ways_arrival c_p0_net_ways_fewest c_p0_net_ways_next c_p0_net_ways_heard c_p0_net_frames i1 i2).bind fun t1 =>
  if t1.1 = 0 then
    rn_let (vp_updL c_p3 (0 : Int32).toNatClampNeg t1.2.1.toInt64) fun w1 =>
    some ((0 : Int32), t1.2.2.1, t1.2.2.2.1, t1.2.2.2.2.1, t1.2.2.2.2.2, w1)
  else
  if t1.1 = 3 then
    some ((1 : Int32), t1.2.2.1, t1.2.2.2.1, t1.2.2.2.2.1, t1.2.2.2.2.2, c_p3)
  else
  none
set_option maxHeartbeats 4000000 in
set_option maxRecDepth 20000 in
theorem kL_sends (l : Launch) (D : va_G) (k : Nat → ClassId) (z : (Nat → Nat) × (Nat → Nat)) (N : Nat) (a_p0 : Nat) (a_p3 : Nat) (a_p0_setup : Nat) (a_p0_net : Nat) (a_p0_trial : Nat) (a_p0_saved : Nat) (a_p0_line : Nat) (a_p0_net_stations : Nat) (a_p0_net_links : Nat) (a_p0_net_messages : Nat) (a_p0_net_copies : Nat) (a_p0_net_log : Nat) (a_p0_net_ways : Nat) (a_p0_net_frames : Nat) (a_p0_net_stations_cells : Nat) (a_p0_net_messages_cells : Nat) (a_p0_net_copies_cells : Nat) (a_p0_net_ways_heard : Nat) (a_p0_net_frames_cells : Nat) (c_p0_latestError : Int32) (c_p0_latestErrorPosition : Int32) (c_p0_net_stationCount : Int32) (c_p0_net_linkCount : Int32) (c_p0_net_messageCount : Int32) (c_p0_net_time : Int32) (c_p0_net_life : Int32) (c_p0_net_tries : Int32) (c_p0_net_x : Int32) (c_p0_net_stations : Nat → Int32) (c_p0_net_messages : Nat → Int32) (c_p0_net_copies : Nat → Int32) (c_p0_net_ways_arrival : Int32) (c_p0_net_ways_fewest : Int32) (c_p0_net_ways_next : Int32) (c_p0_net_ways_heard : Nat → Int64) (c_p0_net_frames : Nat → Int32) (c_p3 : Nat → Int64) (i1 : Int32) (i2 : Int32) {u : Int32 × Int32 × Int32 × Int32 × (Nat → Int32) × (Nat → Int64)} (hf : fL_sends N c_p0_net_stationCount c_p0_net_messageCount c_p0_net_time c_p0_net_stations c_p0_net_messages c_p0_net_copies c_p0_net_ways_arrival c_p0_net_ways_fewest c_p0_net_ways_next c_p0_net_ways_heard c_p0_net_frames c_p3 i1 i2 = some u) : rn_KW l D k z yL_sends cL_sends 5 hhL_sends 7 180 [.ref a_p0, .int i1, .int i2, .ref a_p3] [(a_p0, .inr (6, [.ref a_p0_setup, .int c_p0_latestError, .int c_p0_latestErrorPosition, .ref a_p0_net, .ref a_p0_trial, .ref a_p0_saved, .ref a_p0_line])), (a_p0_net, .inr (2, [.ref a_p0_net_stations, .ref a_p0_net_links, .ref a_p0_net_messages, .ref a_p0_net_copies, .ref a_p0_net_log, .ref a_p0_net_ways, .ref a_p0_net_frames, .int c_p0_net_stationCount, .int c_p0_net_linkCount, .int c_p0_net_messageCount, .int c_p0_net_time, .int c_p0_net_life, .int c_p0_net_tries, .int c_p0_net_x])), (a_p0_net_stations, .inr (4, [.int (8 : Int32), .int (10 : Int32), .ref a_p0_net_stations_cells])), (a_p0_net_stations_cells, .inl (k 0, 80, .inl c_p0_net_stations)), (a_p0_net_messages, .inr (4, [.int (24 : Int32), .int (12 : Int32), .ref a_p0_net_messages_cells])), (a_p0_net_messages_cells, .inl (k 0, 288, .inl c_p0_net_messages)), (a_p0_net_copies, .inr (4, [.int (192 : Int32), .int (5 : Int32), .ref a_p0_net_copies_cells])), (a_p0_net_copies_cells, .inl (k 0, 960, .inl c_p0_net_copies)), (a_p0_net_ways, .inr (5, [.ref a_p0_net_ways_heard, .int c_p0_net_ways_arrival, .int c_p0_net_ways_fewest, .int c_p0_net_ways_next])), (a_p0_net_ways_heard, .inl (k 1, 24, .inr (.inl c_p0_net_ways_heard))), (a_p0_net_frames, .inr (4, [.int (9 : Int32), .int (2 : Int32), .ref a_p0_net_frames_cells])), (a_p0_net_frames_cells, .inl (k 0, 18, .inl c_p0_net_frames)), (a_p3, .inl (k 1, 1, .inr (.inl c_p3)))] [(a_p0, .inr (6, [.ref a_p0_setup, .int c_p0_latestError, .int c_p0_latestErrorPosition, .ref a_p0_net, .ref a_p0_trial, .ref a_p0_saved, .ref a_p0_line])), (a_p0_net, .inr (2, [.ref a_p0_net_stations, .ref a_p0_net_links, .ref a_p0_net_messages, .ref a_p0_net_copies, .ref a_p0_net_log, .ref a_p0_net_ways, .ref a_p0_net_frames, .int c_p0_net_stationCount, .int c_p0_net_linkCount, .int c_p0_net_messageCount, .int c_p0_net_time, .int c_p0_net_life, .int c_p0_net_tries, .int c_p0_net_x])), (a_p0_net_stations, .inr (4, [.int (8 : Int32), .int (10 : Int32), .ref a_p0_net_stations_cells])), (a_p0_net_stations_cells, .inl (k 0, 80, .inl c_p0_net_stations)), (a_p0_net_messages, .inr (4, [.int (24 : Int32), .int (12 : Int32), .ref a_p0_net_messages_cells])), (a_p0_net_messages_cells, .inl (k 0, 288, .inl c_p0_net_messages)), (a_p0_net_copies, .inr (4, [.int (192 : Int32), .int (5 : Int32), .ref a_p0_net_copies_cells])), (a_p0_net_copies_cells, .inl (k 0, 960, .inl c_p0_net_copies)), (a_p0_net_ways, .inr (5, [.ref a_p0_net_ways_heard, .int u.2.1, .int u.2.2.1, .int u.2.2.2.1])), (a_p0_net_ways_heard, .inl (k 1, 24, .inr (.inl c_p0_net_ways_heard))), (a_p0_net_frames, .inr (4, [.int (9 : Int32), .int (2 : Int32), .ref a_p0_net_frames_cells])), (a_p0_net_frames_cells, .inl (k 0, 18, .inl u.2.2.2.2.1)), (a_p3, .inl (k 1, 1, .inr (.inl u.2.2.2.2.2)))] u.1 := by
  refine rn_KW.go (LOC := [(0, .ref a_p0), (1, .int i1), (2, .int i2), (3, .ref a_p3)]) rfl (by decide) (Nat.le_of_ble_eq_true rfl) rfl ?_
  intro p e s m args below meth c A ls R Q hst hxc htab X hR hE hW hl
  have hx := X.1.1
  have hb := X.1.2.1
  have hts := X.1.2.2.2.2
  unfold fL_sends at hf
  obtain ⟨t1, ht1, hf⟩ := rn_bind hf
  obtain ⟨u0, u1, u2, u3, u4, u5⟩ := u
  dsimp only at hE
  refine lv_aload_n hx hb dL_sends_0 rfl (lv_at hl 3 rfl) ?_
  refine lv_iconst (v := 0) hx hb dL_sends_1 (by decide) ?_
  refine lv_aload_n hx hb dL_sends_2 rfl (lv_at hl 0 rfl) ?_
  refine lv_iload_n hx hb dL_sends_3 rfl (lv_at hl 1 rfl) ?_
  refine lv_iload_n hx hb dL_sends_4 rfl (lv_at hl 2 rfl) ?_
  refine rr_xcallI (As := [.int i1, .int i2]) (rest := [.int (0 : Int32), .ref a_p3]) X hxc hst hW (kX6_sends l D k z N a_p0 a_p0_setup a_p0_net a_p0_trial a_p0_saved a_p0_line a_p0_net_stations a_p0_net_links a_p0_net_messages a_p0_net_copies a_p0_net_log a_p0_net_ways a_p0_net_frames a_p0_net_stations_cells a_p0_net_messages_cells a_p0_net_copies_cells a_p0_net_ways_heard a_p0_net_frames_cells c_p0_latestError c_p0_latestErrorPosition c_p0_net_stationCount c_p0_net_linkCount c_p0_net_messageCount c_p0_net_time c_p0_net_life c_p0_net_tries c_p0_net_x c_p0_net_stations c_p0_net_messages c_p0_net_copies c_p0_net_ways_arrival c_p0_net_ways_fewest c_p0_net_ways_next c_p0_net_ways_heard c_p0_net_frames i1 i2 ht1) gm_X6_sends gl_L_72 [0, 1, 2, 3, 4, 5, 6, 7, 8, 9, 10, 11] [12] [(a_p0, .inr (6, [.ref a_p0_setup, .int c_p0_latestError, .int c_p0_latestErrorPosition, .ref a_p0_net, .ref a_p0_trial, .ref a_p0_saved, .ref a_p0_line])), (a_p0_net, .inr (2, [.ref a_p0_net_stations, .ref a_p0_net_links, .ref a_p0_net_messages, .ref a_p0_net_copies, .ref a_p0_net_log, .ref a_p0_net_ways, .ref a_p0_net_frames, .int c_p0_net_stationCount, .int c_p0_net_linkCount, .int c_p0_net_messageCount, .int c_p0_net_time, .int c_p0_net_life, .int c_p0_net_tries, .int c_p0_net_x])), (a_p0_net_stations, .inr (4, [.int (8 : Int32), .int (10 : Int32), .ref a_p0_net_stations_cells])), (a_p0_net_stations_cells, .inl (k 0, 80, .inl c_p0_net_stations)), (a_p0_net_messages, .inr (4, [.int (24 : Int32), .int (12 : Int32), .ref a_p0_net_messages_cells])), (a_p0_net_messages_cells, .inl (k 0, 288, .inl c_p0_net_messages)), (a_p0_net_copies, .inr (4, [.int (192 : Int32), .int (5 : Int32), .ref a_p0_net_copies_cells])), (a_p0_net_copies_cells, .inl (k 0, 960, .inl c_p0_net_copies)), (a_p0_net_ways, .inr (5, [.ref a_p0_net_ways_heard, .int t1.2.2.1, .int t1.2.2.2.1, .int t1.2.2.2.2.1])), (a_p0_net_ways_heard, .inl (k 1, 24, .inr (.inl c_p0_net_ways_heard))), (a_p0_net_frames, .inr (4, [.int (9 : Int32), .int (2 : Int32), .ref a_p0_net_frames_cells])), (a_p0_net_frames_cells, .inl (k 0, 18, .inl t1.2.2.2.2.2)), (a_p3, .inl (k 1, 1, .inr (.inl c_p3)))] rfl rfl rfl rfl ⟨rfl, rfl, rn_Bw (wr := [(a_p3, .inl (k 1, 1, .inr (.inl c_p3)))]) rfl rfl, rfl, rfl⟩ (rn_rT hR rfl) (rn_cs1 hR) hl.1 rfl (Nat.le_of_ble_eq_true rfl) dL_sends_5 (fun hk H locs q9 ce hW hq9 hv hcl => ?_) (fun hk hn H locs hW => ?_)
  · replace hf := rn_f hf hk
    by_cases hk0 : t1.1 = 3
    · replace hf := rn_t hf hk0
      rw [hk0] at hcl
      refine vx_catch (name := rn_ex 3) X.1.2.2.2.1 [] (⟨0, 10, 13, 28⟩ : ExceptionTableEntry) [] (htab.trans rfl) (fun z hz => nomatch hz) (by decide) (by decide) (hts _ qc_3) (va_any rfl hxc.2.1.2.2) hq9 hv hcl ?_
      refine lv_astore (lv' := [(4, .ref q9), (0, .ref a_p0), (1, .int i1), (2, .int i2), (3, .ref a_p3)]) hx hb dL_sends_13 hl (Nat.le_of_ble_eq_true rfl) rfl (fun ls hl => ?_)
      refine lv_iconst (v := 1) hx hb dL_sends_15 (by decide) ?_
      cases hf
      exact hE _ _ _ _ hW dL_sends_16
    replace hf := rn_f hf hk0
    cases hf
  · replace hf := rn_t hf hk
    refine lv_i2l (v := t1.2.1.toInt64) hx hb dL_sends_8 rfl ?_
    obtain ⟨w1, hw1, hf⟩ := rn_let_s hf
    refine rr_last' X hW 12 rfl rn_in01 hw1 (ws' := [(a_p0, .inr (6, [.ref a_p0_setup, .int c_p0_latestError, .int c_p0_latestErrorPosition, .ref a_p0_net, .ref a_p0_trial, .ref a_p0_saved, .ref a_p0_line])), (a_p0_net, .inr (2, [.ref a_p0_net_stations, .ref a_p0_net_links, .ref a_p0_net_messages, .ref a_p0_net_copies, .ref a_p0_net_log, .ref a_p0_net_ways, .ref a_p0_net_frames, .int c_p0_net_stationCount, .int c_p0_net_linkCount, .int c_p0_net_messageCount, .int c_p0_net_time, .int c_p0_net_life, .int c_p0_net_tries, .int c_p0_net_x])), (a_p0_net_stations, .inr (4, [.int (8 : Int32), .int (10 : Int32), .ref a_p0_net_stations_cells])), (a_p0_net_stations_cells, .inl (k 0, 80, .inl c_p0_net_stations)), (a_p0_net_messages, .inr (4, [.int (24 : Int32), .int (12 : Int32), .ref a_p0_net_messages_cells])), (a_p0_net_messages_cells, .inl (k 0, 288, .inl c_p0_net_messages)), (a_p0_net_copies, .inr (4, [.int (192 : Int32), .int (5 : Int32), .ref a_p0_net_copies_cells])), (a_p0_net_copies_cells, .inl (k 0, 960, .inl c_p0_net_copies)), (a_p0_net_ways, .inr (5, [.ref a_p0_net_ways_heard, .int t1.2.2.1, .int t1.2.2.2.1, .int t1.2.2.2.2.1])), (a_p0_net_ways_heard, .inl (k 1, 24, .inr (.inl c_p0_net_ways_heard))), (a_p0_net_frames, .inr (4, [.int (9 : Int32), .int (2 : Int32), .ref a_p0_net_frames_cells])), (a_p0_net_frames_cells, .inl (k 0, 18, .inl t1.2.2.2.2.2)), (a_p3, .inl (k 1, 1, .inr (.inl w1)))]) rfl dL_sends_9 (fun H locs hW => ?_)
    refine lv_goto (tgt := 17) hx hb dL_sends_10 (by decide) ?_
    refine lv_iconst (v := 0) hx hb dL_sends_17 (by decide) ?_
    cases hf
    exact hE _ _ _ _ hW dL_sends_18
def fL_run (N : Nat) (c_p0_net_stationCount : Int32) (c_p0_net_linkCount : Int32) (c_p0_net_messageCount : Int32) (c_p0_net_time : Int32) (c_p0_net_life : Int32) (c_p0_net_tries : Int32) (c_p0_net_x : Int32) (c_p0_net_stations : Nat → Int32) (c_p0_net_links : Nat → Int32) (c_p0_net_messages : Nat → Int32) (c_p0_net_copies : Nat → Int32) (c_p0_net_log_first : Int32) (c_p0_net_log_size : Int32) (c_p0_net_log_events : Nat → Int32) (c_p0_net_ways_arrival : Int32) (c_p0_net_ways_fewest : Int32) (c_p0_net_ways_next : Int32) (c_p0_net_ways_heard : Nat → Int64) (c_p0_net_frames : Nat → Int32) (c_p2 : Nat → Int64) (i1 : Int32) : Option (Int32 × Int32 × Int32 × (Nat → Int32) × (Nat → Int32) × (Nat → Int32) × (Nat → Int32) × Int32 × Int32 × (Nat → Int32) × Int32 × Int32 × Int32 × (Nat → Int32) × (Nat → Int64)) :=
  (fX6_run N c_p0_net_stationCount c_p0_net_linkCount c_p0_net_messageCount c_p0_net_time c_p0_net_life c_p0_net_tries c_p0_net_x c_p0_net_stations c_p0_net_links c_p0_net_messages c_p0_net_copies c_p0_net_log_first c_p0_net_log_size c_p0_net_log_events c_p0_net_ways_arrival c_p0_net_ways_fewest c_p0_net_ways_next c_p0_net_ways_heard c_p0_net_frames i1).bind fun t1 =>
  if t1.1 = 0 then
    rn_let (vp_updL c_p2 (0 : Int32).toNatClampNeg t1.2.1.toInt64) fun w1 =>
    some ((0 : Int32), t1.2.2.1, t1.2.2.2.1, t1.2.2.2.2.1, t1.2.2.2.2.2.1, t1.2.2.2.2.2.2.1, t1.2.2.2.2.2.2.2.1, t1.2.2.2.2.2.2.2.2.1, t1.2.2.2.2.2.2.2.2.2.1, t1.2.2.2.2.2.2.2.2.2.2.1, t1.2.2.2.2.2.2.2.2.2.2.2.1, t1.2.2.2.2.2.2.2.2.2.2.2.2.1, t1.2.2.2.2.2.2.2.2.2.2.2.2.2.1, t1.2.2.2.2.2.2.2.2.2.2.2.2.2.2, w1)
  else
  if t1.1 = 1 then
    some ((1 : Int32), t1.2.2.1, t1.2.2.2.1, t1.2.2.2.2.1, t1.2.2.2.2.2.1, t1.2.2.2.2.2.2.1, t1.2.2.2.2.2.2.2.1, t1.2.2.2.2.2.2.2.2.1, t1.2.2.2.2.2.2.2.2.2.1, t1.2.2.2.2.2.2.2.2.2.2.1, t1.2.2.2.2.2.2.2.2.2.2.2.1, t1.2.2.2.2.2.2.2.2.2.2.2.2.1, t1.2.2.2.2.2.2.2.2.2.2.2.2.2.1, t1.2.2.2.2.2.2.2.2.2.2.2.2.2.2, c_p2)
  else
  none
set_option maxHeartbeats 4000000 in
set_option maxRecDepth 20000 in
theorem kL_run (l : Launch) (D : va_G) (k : Nat → ClassId) (z : (Nat → Nat) × (Nat → Nat)) (N : Nat) (a_p0 : Nat) (a_p2 : Nat) (a_p0_setup : Nat) (a_p0_net : Nat) (a_p0_trial : Nat) (a_p0_saved : Nat) (a_p0_line : Nat) (a_p0_net_stations : Nat) (a_p0_net_links : Nat) (a_p0_net_messages : Nat) (a_p0_net_copies : Nat) (a_p0_net_log : Nat) (a_p0_net_ways : Nat) (a_p0_net_frames : Nat) (a_p0_net_stations_cells : Nat) (a_p0_net_links_cells : Nat) (a_p0_net_messages_cells : Nat) (a_p0_net_copies_cells : Nat) (a_p0_net_log_events : Nat) (a_p0_net_log_events_cells : Nat) (a_p0_net_ways_heard : Nat) (a_p0_net_frames_cells : Nat) (c_p0_latestError : Int32) (c_p0_latestErrorPosition : Int32) (c_p0_net_stationCount : Int32) (c_p0_net_linkCount : Int32) (c_p0_net_messageCount : Int32) (c_p0_net_time : Int32) (c_p0_net_life : Int32) (c_p0_net_tries : Int32) (c_p0_net_x : Int32) (c_p0_net_stations : Nat → Int32) (c_p0_net_links : Nat → Int32) (c_p0_net_messages : Nat → Int32) (c_p0_net_copies : Nat → Int32) (c_p0_net_log_first : Int32) (c_p0_net_log_size : Int32) (c_p0_net_log_events : Nat → Int32) (c_p0_net_ways_arrival : Int32) (c_p0_net_ways_fewest : Int32) (c_p0_net_ways_next : Int32) (c_p0_net_ways_heard : Nat → Int64) (c_p0_net_frames : Nat → Int32) (c_p2 : Nat → Int64) (i1 : Int32) {u : Int32 × Int32 × Int32 × (Nat → Int32) × (Nat → Int32) × (Nat → Int32) × (Nat → Int32) × Int32 × Int32 × (Nat → Int32) × Int32 × Int32 × Int32 × (Nat → Int32) × (Nat → Int64)} (hf : fL_run N c_p0_net_stationCount c_p0_net_linkCount c_p0_net_messageCount c_p0_net_time c_p0_net_life c_p0_net_tries c_p0_net_x c_p0_net_stations c_p0_net_links c_p0_net_messages c_p0_net_copies c_p0_net_log_first c_p0_net_log_size c_p0_net_log_events c_p0_net_ways_arrival c_p0_net_ways_fewest c_p0_net_ways_next c_p0_net_ways_heard c_p0_net_frames c_p2 i1 = some u) : rn_KW l D k z yL_run cL_run 4 hhL_run 7 182 [.ref a_p0, .int i1, .ref a_p2] [(a_p0, .inr (6, [.ref a_p0_setup, .int c_p0_latestError, .int c_p0_latestErrorPosition, .ref a_p0_net, .ref a_p0_trial, .ref a_p0_saved, .ref a_p0_line])), (a_p0_net, .inr (2, [.ref a_p0_net_stations, .ref a_p0_net_links, .ref a_p0_net_messages, .ref a_p0_net_copies, .ref a_p0_net_log, .ref a_p0_net_ways, .ref a_p0_net_frames, .int c_p0_net_stationCount, .int c_p0_net_linkCount, .int c_p0_net_messageCount, .int c_p0_net_time, .int c_p0_net_life, .int c_p0_net_tries, .int c_p0_net_x])), (a_p0_net_stations, .inr (4, [.int (8 : Int32), .int (10 : Int32), .ref a_p0_net_stations_cells])), (a_p0_net_stations_cells, .inl (k 0, 80, .inl c_p0_net_stations)), (a_p0_net_links, .inr (4, [.int (16 : Int32), .int (9 : Int32), .ref a_p0_net_links_cells])), (a_p0_net_links_cells, .inl (k 0, 144, .inl c_p0_net_links)), (a_p0_net_messages, .inr (4, [.int (24 : Int32), .int (12 : Int32), .ref a_p0_net_messages_cells])), (a_p0_net_messages_cells, .inl (k 0, 288, .inl c_p0_net_messages)), (a_p0_net_copies, .inr (4, [.int (192 : Int32), .int (5 : Int32), .ref a_p0_net_copies_cells])), (a_p0_net_copies_cells, .inl (k 0, 960, .inl c_p0_net_copies)), (a_p0_net_log, .inr (0, [.ref a_p0_net_log_events, .int c_p0_net_log_first, .int c_p0_net_log_size])), (a_p0_net_log_events, .inr (4, [.int (40 : Int32), .int (5 : Int32), .ref a_p0_net_log_events_cells])), (a_p0_net_log_events_cells, .inl (k 0, 200, .inl c_p0_net_log_events)), (a_p0_net_ways, .inr (5, [.ref a_p0_net_ways_heard, .int c_p0_net_ways_arrival, .int c_p0_net_ways_fewest, .int c_p0_net_ways_next])), (a_p0_net_ways_heard, .inl (k 1, 24, .inr (.inl c_p0_net_ways_heard))), (a_p0_net_frames, .inr (4, [.int (9 : Int32), .int (2 : Int32), .ref a_p0_net_frames_cells])), (a_p0_net_frames_cells, .inl (k 0, 18, .inl c_p0_net_frames)), (a_p2, .inl (k 1, 1, .inr (.inl c_p2)))] [(a_p0, .inr (6, [.ref a_p0_setup, .int c_p0_latestError, .int c_p0_latestErrorPosition, .ref a_p0_net, .ref a_p0_trial, .ref a_p0_saved, .ref a_p0_line])), (a_p0_net, .inr (2, [.ref a_p0_net_stations, .ref a_p0_net_links, .ref a_p0_net_messages, .ref a_p0_net_copies, .ref a_p0_net_log, .ref a_p0_net_ways, .ref a_p0_net_frames, .int c_p0_net_stationCount, .int c_p0_net_linkCount, .int c_p0_net_messageCount, .int u.2.1, .int c_p0_net_life, .int c_p0_net_tries, .int u.2.2.1])), (a_p0_net_stations, .inr (4, [.int (8 : Int32), .int (10 : Int32), .ref a_p0_net_stations_cells])), (a_p0_net_stations_cells, .inl (k 0, 80, .inl u.2.2.2.1)), (a_p0_net_links, .inr (4, [.int (16 : Int32), .int (9 : Int32), .ref a_p0_net_links_cells])), (a_p0_net_links_cells, .inl (k 0, 144, .inl u.2.2.2.2.1)), (a_p0_net_messages, .inr (4, [.int (24 : Int32), .int (12 : Int32), .ref a_p0_net_messages_cells])), (a_p0_net_messages_cells, .inl (k 0, 288, .inl u.2.2.2.2.2.1)), (a_p0_net_copies, .inr (4, [.int (192 : Int32), .int (5 : Int32), .ref a_p0_net_copies_cells])), (a_p0_net_copies_cells, .inl (k 0, 960, .inl u.2.2.2.2.2.2.1)), (a_p0_net_log, .inr (0, [.ref a_p0_net_log_events, .int u.2.2.2.2.2.2.2.1, .int u.2.2.2.2.2.2.2.2.1])), (a_p0_net_log_events, .inr (4, [.int (40 : Int32), .int (5 : Int32), .ref a_p0_net_log_events_cells])), (a_p0_net_log_events_cells, .inl (k 0, 200, .inl u.2.2.2.2.2.2.2.2.2.1)), (a_p0_net_ways, .inr (5, [.ref a_p0_net_ways_heard, .int u.2.2.2.2.2.2.2.2.2.2.1, .int u.2.2.2.2.2.2.2.2.2.2.2.1, .int u.2.2.2.2.2.2.2.2.2.2.2.2.1])), (a_p0_net_ways_heard, .inl (k 1, 24, .inr (.inl c_p0_net_ways_heard))), (a_p0_net_frames, .inr (4, [.int (9 : Int32), .int (2 : Int32), .ref a_p0_net_frames_cells])), (a_p0_net_frames_cells, .inl (k 0, 18, .inl u.2.2.2.2.2.2.2.2.2.2.2.2.2.1)), (a_p2, .inl (k 1, 1, .inr (.inl u.2.2.2.2.2.2.2.2.2.2.2.2.2.2)))] u.1 := by
  refine rn_KW.go (LOC := [(0, .ref a_p0), (1, .int i1), (2, .ref a_p2)]) rfl (by decide) (Nat.le_of_ble_eq_true rfl) rfl ?_
  intro p e s m args below meth c A ls R Q hst hxc htab X hR hE hW hl
  have hx := X.1.1
  have hb := X.1.2.1
  have hts := X.1.2.2.2.2
  unfold fL_run at hf
  obtain ⟨t1, ht1, hf⟩ := rn_bind hf
  obtain ⟨u0, u1, u2, u3, u4, u5, u6, u7, u8, u9, u10, u11, u12, u13, u14⟩ := u
  dsimp only at hE
  refine lv_aload_n hx hb dL_run_0 rfl (lv_at hl 2 rfl) ?_
  refine lv_iconst (v := 0) hx hb dL_run_1 (by decide) ?_
  refine lv_aload_n hx hb dL_run_2 rfl (lv_at hl 0 rfl) ?_
  refine lv_iload_n hx hb dL_run_3 rfl (lv_at hl 1 rfl) ?_
  refine rr_xcallI (As := [.int i1]) (rest := [.int (0 : Int32), .ref a_p2]) X hxc hst hW (kX6_run l D k z N a_p0 a_p0_setup a_p0_net a_p0_trial a_p0_saved a_p0_line a_p0_net_stations a_p0_net_links a_p0_net_messages a_p0_net_copies a_p0_net_log a_p0_net_ways a_p0_net_frames a_p0_net_stations_cells a_p0_net_links_cells a_p0_net_messages_cells a_p0_net_copies_cells a_p0_net_log_events a_p0_net_log_events_cells a_p0_net_ways_heard a_p0_net_frames_cells c_p0_latestError c_p0_latestErrorPosition c_p0_net_stationCount c_p0_net_linkCount c_p0_net_messageCount c_p0_net_time c_p0_net_life c_p0_net_tries c_p0_net_x c_p0_net_stations c_p0_net_links c_p0_net_messages c_p0_net_copies c_p0_net_log_first c_p0_net_log_size c_p0_net_log_events c_p0_net_ways_arrival c_p0_net_ways_fewest c_p0_net_ways_next c_p0_net_ways_heard c_p0_net_frames i1 ht1) gm_X6_run gl_L_75 [0, 1, 2, 3, 4, 5, 6, 7, 8, 9, 10, 11, 12, 13, 14, 15, 16] [17] [(a_p0, .inr (6, [.ref a_p0_setup, .int c_p0_latestError, .int c_p0_latestErrorPosition, .ref a_p0_net, .ref a_p0_trial, .ref a_p0_saved, .ref a_p0_line])), (a_p0_net, .inr (2, [.ref a_p0_net_stations, .ref a_p0_net_links, .ref a_p0_net_messages, .ref a_p0_net_copies, .ref a_p0_net_log, .ref a_p0_net_ways, .ref a_p0_net_frames, .int c_p0_net_stationCount, .int c_p0_net_linkCount, .int c_p0_net_messageCount, .int t1.2.2.1, .int c_p0_net_life, .int c_p0_net_tries, .int t1.2.2.2.1])), (a_p0_net_stations, .inr (4, [.int (8 : Int32), .int (10 : Int32), .ref a_p0_net_stations_cells])), (a_p0_net_stations_cells, .inl (k 0, 80, .inl t1.2.2.2.2.1)), (a_p0_net_links, .inr (4, [.int (16 : Int32), .int (9 : Int32), .ref a_p0_net_links_cells])), (a_p0_net_links_cells, .inl (k 0, 144, .inl t1.2.2.2.2.2.1)), (a_p0_net_messages, .inr (4, [.int (24 : Int32), .int (12 : Int32), .ref a_p0_net_messages_cells])), (a_p0_net_messages_cells, .inl (k 0, 288, .inl t1.2.2.2.2.2.2.1)), (a_p0_net_copies, .inr (4, [.int (192 : Int32), .int (5 : Int32), .ref a_p0_net_copies_cells])), (a_p0_net_copies_cells, .inl (k 0, 960, .inl t1.2.2.2.2.2.2.2.1)), (a_p0_net_log, .inr (0, [.ref a_p0_net_log_events, .int t1.2.2.2.2.2.2.2.2.1, .int t1.2.2.2.2.2.2.2.2.2.1])), (a_p0_net_log_events, .inr (4, [.int (40 : Int32), .int (5 : Int32), .ref a_p0_net_log_events_cells])), (a_p0_net_log_events_cells, .inl (k 0, 200, .inl t1.2.2.2.2.2.2.2.2.2.2.1)), (a_p0_net_ways, .inr (5, [.ref a_p0_net_ways_heard, .int t1.2.2.2.2.2.2.2.2.2.2.2.1, .int t1.2.2.2.2.2.2.2.2.2.2.2.2.1, .int t1.2.2.2.2.2.2.2.2.2.2.2.2.2.1])), (a_p0_net_ways_heard, .inl (k 1, 24, .inr (.inl c_p0_net_ways_heard))), (a_p0_net_frames, .inr (4, [.int (9 : Int32), .int (2 : Int32), .ref a_p0_net_frames_cells])), (a_p0_net_frames_cells, .inl (k 0, 18, .inl t1.2.2.2.2.2.2.2.2.2.2.2.2.2.2)), (a_p2, .inl (k 1, 1, .inr (.inl c_p2)))] rfl rfl rfl rfl ⟨rfl, rfl, rn_Bw (wr := [(a_p2, .inl (k 1, 1, .inr (.inl c_p2)))]) rfl rfl, rfl, rfl⟩ (rn_rT hR rfl) (rn_cs1 hR) hl.1 rfl (Nat.le_of_ble_eq_true rfl) dL_run_4 (fun hk H locs q9 ce hW hq9 hv hcl => ?_) (fun hk hn H locs hW => ?_)
  · replace hf := rn_f hf hk
    by_cases hk0 : t1.1 = 1
    · replace hf := rn_t hf hk0
      rw [hk0] at hcl
      refine vx_catch (name := rn_ex 1) X.1.2.2.2.1 [] (⟨0, 9, 12, 18⟩ : ExceptionTableEntry) [] (htab.trans rfl) (fun z hz => nomatch hz) (by decide) (by decide) (hts _ qc_1) (va_any rfl hxc.2.1.1) hq9 hv hcl ?_
      refine lv_astore_n (lv' := [(3, .ref q9), (0, .ref a_p0), (1, .int i1), (2, .ref a_p2)]) hx hb dL_run_12 rfl hl (Nat.le_of_ble_eq_true rfl) rfl (fun ls hl => ?_)
      refine lv_iconst (v := 1) hx hb dL_run_13 (by decide) ?_
      cases hf
      exact hE _ _ _ _ hW dL_run_14
    replace hf := rn_f hf hk0
    cases hf
  · replace hf := rn_t hf hk
    refine lv_i2l (v := t1.2.1.toInt64) hx hb dL_run_7 rfl ?_
    obtain ⟨w1, hw1, hf⟩ := rn_let_s hf
    refine rr_last' X hW 17 rfl rn_in01 hw1 (ws' := [(a_p0, .inr (6, [.ref a_p0_setup, .int c_p0_latestError, .int c_p0_latestErrorPosition, .ref a_p0_net, .ref a_p0_trial, .ref a_p0_saved, .ref a_p0_line])), (a_p0_net, .inr (2, [.ref a_p0_net_stations, .ref a_p0_net_links, .ref a_p0_net_messages, .ref a_p0_net_copies, .ref a_p0_net_log, .ref a_p0_net_ways, .ref a_p0_net_frames, .int c_p0_net_stationCount, .int c_p0_net_linkCount, .int c_p0_net_messageCount, .int t1.2.2.1, .int c_p0_net_life, .int c_p0_net_tries, .int t1.2.2.2.1])), (a_p0_net_stations, .inr (4, [.int (8 : Int32), .int (10 : Int32), .ref a_p0_net_stations_cells])), (a_p0_net_stations_cells, .inl (k 0, 80, .inl t1.2.2.2.2.1)), (a_p0_net_links, .inr (4, [.int (16 : Int32), .int (9 : Int32), .ref a_p0_net_links_cells])), (a_p0_net_links_cells, .inl (k 0, 144, .inl t1.2.2.2.2.2.1)), (a_p0_net_messages, .inr (4, [.int (24 : Int32), .int (12 : Int32), .ref a_p0_net_messages_cells])), (a_p0_net_messages_cells, .inl (k 0, 288, .inl t1.2.2.2.2.2.2.1)), (a_p0_net_copies, .inr (4, [.int (192 : Int32), .int (5 : Int32), .ref a_p0_net_copies_cells])), (a_p0_net_copies_cells, .inl (k 0, 960, .inl t1.2.2.2.2.2.2.2.1)), (a_p0_net_log, .inr (0, [.ref a_p0_net_log_events, .int t1.2.2.2.2.2.2.2.2.1, .int t1.2.2.2.2.2.2.2.2.2.1])), (a_p0_net_log_events, .inr (4, [.int (40 : Int32), .int (5 : Int32), .ref a_p0_net_log_events_cells])), (a_p0_net_log_events_cells, .inl (k 0, 200, .inl t1.2.2.2.2.2.2.2.2.2.2.1)), (a_p0_net_ways, .inr (5, [.ref a_p0_net_ways_heard, .int t1.2.2.2.2.2.2.2.2.2.2.2.1, .int t1.2.2.2.2.2.2.2.2.2.2.2.2.1, .int t1.2.2.2.2.2.2.2.2.2.2.2.2.2.1])), (a_p0_net_ways_heard, .inl (k 1, 24, .inr (.inl c_p0_net_ways_heard))), (a_p0_net_frames, .inr (4, [.int (9 : Int32), .int (2 : Int32), .ref a_p0_net_frames_cells])), (a_p0_net_frames_cells, .inl (k 0, 18, .inl t1.2.2.2.2.2.2.2.2.2.2.2.2.2.2)), (a_p2, .inl (k 1, 1, .inr (.inl w1)))]) rfl dL_run_8 (fun H locs hW => ?_)
    refine lv_goto (tgt := 15) hx hb dL_run_9 (by decide) ?_
    refine lv_iconst (v := 0) hx hb dL_run_15 (by decide) ?_
    cases hf
    exact hE _ _ _ _ hW dL_run_16
def fL_stateAfter (N : Nat) (c_p0_net_stationCount : Int32) (c_p0_net_linkCount : Int32) (c_p0_net_messageCount : Int32) (c_p0_net_time : Int32) (c_p0_net_life : Int32) (c_p0_net_tries : Int32) (c_p0_net_x : Int32) (c_p0_net_stations : Nat → Int32) (c_p0_net_links : Nat → Int32) (c_p0_net_messages : Nat → Int32) (c_p0_net_copies : Nat → Int32) (c_p0_net_log_first : Int32) (c_p0_net_log_size : Int32) (c_p0_net_log_events : Nat → Int32) (c_p0_net_ways_heard : Nat → Int64) (c_p0_trial_stationCount : Int32) (c_p0_trial_linkCount : Int32) (c_p0_trial_messageCount : Int32) (c_p0_trial_time : Int32) (c_p0_trial_life : Int32) (c_p0_trial_tries : Int32) (c_p0_trial_x : Int32) (c_p0_trial_stations : Nat → Int32) (c_p0_trial_links : Nat → Int32) (c_p0_trial_messages : Nat → Int32) (c_p0_trial_copies : Nat → Int32) (c_p0_trial_log_first : Int32) (c_p0_trial_log_size : Int32) (c_p0_trial_log_events : Nat → Int32) (c_p0_trial_ways_arrival : Int32) (c_p0_trial_ways_fewest : Int32) (c_p0_trial_ways_next : Int32) (c_p0_trial_ways_heard : Nat → Int64) (c_p0_trial_frames : Nat → Int32) (c_p3 : Nat → Int64) (i1 : Int32) (i2 : Int32) : Option (Int32 × Int32 × Int32 × Int32 × Int32 × Int32 × Int32 × Int32 × (Nat → Int32) × (Nat → Int32) × (Nat → Int32) × (Nat → Int32) × Int32 × Int32 × (Nat → Int32) × Int32 × Int32 × Int32 × (Nat → Int64) × (Nat → Int32) × (Nat → Int64)) :=
  (fX6_stateAfter N c_p0_net_stationCount c_p0_net_linkCount c_p0_net_messageCount c_p0_net_time c_p0_net_life c_p0_net_tries c_p0_net_x c_p0_net_stations c_p0_net_links c_p0_net_messages c_p0_net_copies c_p0_net_log_first c_p0_net_log_size c_p0_net_log_events c_p0_net_ways_heard c_p0_trial_stationCount c_p0_trial_linkCount c_p0_trial_messageCount c_p0_trial_time c_p0_trial_life c_p0_trial_tries c_p0_trial_x c_p0_trial_stations c_p0_trial_links c_p0_trial_messages c_p0_trial_copies c_p0_trial_log_first c_p0_trial_log_size c_p0_trial_log_events c_p0_trial_ways_arrival c_p0_trial_ways_fewest c_p0_trial_ways_next c_p0_trial_ways_heard c_p0_trial_frames i1 i2).bind fun t1 =>
  if t1.1 = 0 then
    rn_let (vp_updL c_p3 (0 : Int32).toNatClampNeg t1.2.1.toInt64) fun w1 =>
    some ((0 : Int32), t1.2.2.1, t1.2.2.2.1, t1.2.2.2.2.1, t1.2.2.2.2.2.1, t1.2.2.2.2.2.2.1, t1.2.2.2.2.2.2.2.1, t1.2.2.2.2.2.2.2.2.1, t1.2.2.2.2.2.2.2.2.2.1, t1.2.2.2.2.2.2.2.2.2.2.1, t1.2.2.2.2.2.2.2.2.2.2.2.1, t1.2.2.2.2.2.2.2.2.2.2.2.2.1, t1.2.2.2.2.2.2.2.2.2.2.2.2.2.1, t1.2.2.2.2.2.2.2.2.2.2.2.2.2.2.1, t1.2.2.2.2.2.2.2.2.2.2.2.2.2.2.2.1, t1.2.2.2.2.2.2.2.2.2.2.2.2.2.2.2.2.1, t1.2.2.2.2.2.2.2.2.2.2.2.2.2.2.2.2.2.1, t1.2.2.2.2.2.2.2.2.2.2.2.2.2.2.2.2.2.2.1, t1.2.2.2.2.2.2.2.2.2.2.2.2.2.2.2.2.2.2.2.1, t1.2.2.2.2.2.2.2.2.2.2.2.2.2.2.2.2.2.2.2.2, w1)
  else
  if t1.1 = 3 then
    some ((1 : Int32), t1.2.2.1, t1.2.2.2.1, t1.2.2.2.2.1, t1.2.2.2.2.2.1, t1.2.2.2.2.2.2.1, t1.2.2.2.2.2.2.2.1, t1.2.2.2.2.2.2.2.2.1, t1.2.2.2.2.2.2.2.2.2.1, t1.2.2.2.2.2.2.2.2.2.2.1, t1.2.2.2.2.2.2.2.2.2.2.2.1, t1.2.2.2.2.2.2.2.2.2.2.2.2.1, t1.2.2.2.2.2.2.2.2.2.2.2.2.2.1, t1.2.2.2.2.2.2.2.2.2.2.2.2.2.2.1, t1.2.2.2.2.2.2.2.2.2.2.2.2.2.2.2.1, t1.2.2.2.2.2.2.2.2.2.2.2.2.2.2.2.2.1, t1.2.2.2.2.2.2.2.2.2.2.2.2.2.2.2.2.2.1, t1.2.2.2.2.2.2.2.2.2.2.2.2.2.2.2.2.2.2.1, t1.2.2.2.2.2.2.2.2.2.2.2.2.2.2.2.2.2.2.2.1, t1.2.2.2.2.2.2.2.2.2.2.2.2.2.2.2.2.2.2.2.2, c_p3)
  else
  if t1.1 = 1 then
    some ((2 : Int32), t1.2.2.1, t1.2.2.2.1, t1.2.2.2.2.1, t1.2.2.2.2.2.1, t1.2.2.2.2.2.2.1, t1.2.2.2.2.2.2.2.1, t1.2.2.2.2.2.2.2.2.1, t1.2.2.2.2.2.2.2.2.2.1, t1.2.2.2.2.2.2.2.2.2.2.1, t1.2.2.2.2.2.2.2.2.2.2.2.1, t1.2.2.2.2.2.2.2.2.2.2.2.2.1, t1.2.2.2.2.2.2.2.2.2.2.2.2.2.1, t1.2.2.2.2.2.2.2.2.2.2.2.2.2.2.1, t1.2.2.2.2.2.2.2.2.2.2.2.2.2.2.2.1, t1.2.2.2.2.2.2.2.2.2.2.2.2.2.2.2.2.1, t1.2.2.2.2.2.2.2.2.2.2.2.2.2.2.2.2.2.1, t1.2.2.2.2.2.2.2.2.2.2.2.2.2.2.2.2.2.2.1, t1.2.2.2.2.2.2.2.2.2.2.2.2.2.2.2.2.2.2.2.1, t1.2.2.2.2.2.2.2.2.2.2.2.2.2.2.2.2.2.2.2.2, c_p3)
  else
  none
set_option maxHeartbeats 4000000 in
set_option maxRecDepth 20000 in
theorem kL_stateAfter (l : Launch) (D : va_G) (k : Nat → ClassId) (z : (Nat → Nat) × (Nat → Nat)) (N : Nat) (a_p0 : Nat) (a_p3 : Nat) (a_p0_setup : Nat) (a_p0_net : Nat) (a_p0_trial : Nat) (a_p0_saved : Nat) (a_p0_line : Nat) (a_p0_net_stations : Nat) (a_p0_net_links : Nat) (a_p0_net_messages : Nat) (a_p0_net_copies : Nat) (a_p0_net_log : Nat) (a_p0_net_ways : Nat) (a_p0_net_frames : Nat) (a_p0_net_stations_cells : Nat) (a_p0_net_links_cells : Nat) (a_p0_net_messages_cells : Nat) (a_p0_net_copies_cells : Nat) (a_p0_net_log_events : Nat) (a_p0_net_log_events_cells : Nat) (a_p0_net_ways_heard : Nat) (a_p0_trial_stations : Nat) (a_p0_trial_links : Nat) (a_p0_trial_messages : Nat) (a_p0_trial_copies : Nat) (a_p0_trial_log : Nat) (a_p0_trial_ways : Nat) (a_p0_trial_frames : Nat) (a_p0_trial_stations_cells : Nat) (a_p0_trial_links_cells : Nat) (a_p0_trial_messages_cells : Nat) (a_p0_trial_copies_cells : Nat) (a_p0_trial_log_events : Nat) (a_p0_trial_log_events_cells : Nat) (a_p0_trial_ways_heard : Nat) (a_p0_trial_frames_cells : Nat) (c_p0_latestError : Int32) (c_p0_latestErrorPosition : Int32) (c_p0_net_stationCount : Int32) (c_p0_net_linkCount : Int32) (c_p0_net_messageCount : Int32) (c_p0_net_time : Int32) (c_p0_net_life : Int32) (c_p0_net_tries : Int32) (c_p0_net_x : Int32) (c_p0_net_stations : Nat → Int32) (c_p0_net_links : Nat → Int32) (c_p0_net_messages : Nat → Int32) (c_p0_net_copies : Nat → Int32) (c_p0_net_log_first : Int32) (c_p0_net_log_size : Int32) (c_p0_net_log_events : Nat → Int32) (c_p0_net_ways_arrival : Int32) (c_p0_net_ways_fewest : Int32) (c_p0_net_ways_next : Int32) (c_p0_net_ways_heard : Nat → Int64) (c_p0_trial_stationCount : Int32) (c_p0_trial_linkCount : Int32) (c_p0_trial_messageCount : Int32) (c_p0_trial_time : Int32) (c_p0_trial_life : Int32) (c_p0_trial_tries : Int32) (c_p0_trial_x : Int32) (c_p0_trial_stations : Nat → Int32) (c_p0_trial_links : Nat → Int32) (c_p0_trial_messages : Nat → Int32) (c_p0_trial_copies : Nat → Int32) (c_p0_trial_log_first : Int32) (c_p0_trial_log_size : Int32) (c_p0_trial_log_events : Nat → Int32) (c_p0_trial_ways_arrival : Int32) (c_p0_trial_ways_fewest : Int32) (c_p0_trial_ways_next : Int32) (c_p0_trial_ways_heard : Nat → Int64) (c_p0_trial_frames : Nat → Int32) (c_p3 : Nat → Int64) (i1 : Int32) (i2 : Int32) {u : Int32 × Int32 × Int32 × Int32 × Int32 × Int32 × Int32 × Int32 × (Nat → Int32) × (Nat → Int32) × (Nat → Int32) × (Nat → Int32) × Int32 × Int32 × (Nat → Int32) × Int32 × Int32 × Int32 × (Nat → Int64) × (Nat → Int32) × (Nat → Int64)} (hf : fL_stateAfter N c_p0_net_stationCount c_p0_net_linkCount c_p0_net_messageCount c_p0_net_time c_p0_net_life c_p0_net_tries c_p0_net_x c_p0_net_stations c_p0_net_links c_p0_net_messages c_p0_net_copies c_p0_net_log_first c_p0_net_log_size c_p0_net_log_events c_p0_net_ways_heard c_p0_trial_stationCount c_p0_trial_linkCount c_p0_trial_messageCount c_p0_trial_time c_p0_trial_life c_p0_trial_tries c_p0_trial_x c_p0_trial_stations c_p0_trial_links c_p0_trial_messages c_p0_trial_copies c_p0_trial_log_first c_p0_trial_log_size c_p0_trial_log_events c_p0_trial_ways_arrival c_p0_trial_ways_fewest c_p0_trial_ways_next c_p0_trial_ways_heard c_p0_trial_frames c_p3 i1 i2 = some u) : rn_KW l D k z yL_stateAfter cL_stateAfter 5 hhL_stateAfter 7 182 [.ref a_p0, .int i1, .int i2, .ref a_p3] [(a_p0, .inr (6, [.ref a_p0_setup, .int c_p0_latestError, .int c_p0_latestErrorPosition, .ref a_p0_net, .ref a_p0_trial, .ref a_p0_saved, .ref a_p0_line])), (a_p0_net, .inr (2, [.ref a_p0_net_stations, .ref a_p0_net_links, .ref a_p0_net_messages, .ref a_p0_net_copies, .ref a_p0_net_log, .ref a_p0_net_ways, .ref a_p0_net_frames, .int c_p0_net_stationCount, .int c_p0_net_linkCount, .int c_p0_net_messageCount, .int c_p0_net_time, .int c_p0_net_life, .int c_p0_net_tries, .int c_p0_net_x])), (a_p0_net_stations, .inr (4, [.int (8 : Int32), .int (10 : Int32), .ref a_p0_net_stations_cells])), (a_p0_net_stations_cells, .inl (k 0, 80, .inl c_p0_net_stations)), (a_p0_net_links, .inr (4, [.int (16 : Int32), .int (9 : Int32), .ref a_p0_net_links_cells])), (a_p0_net_links_cells, .inl (k 0, 144, .inl c_p0_net_links)), (a_p0_net_messages, .inr (4, [.int (24 : Int32), .int (12 : Int32), .ref a_p0_net_messages_cells])), (a_p0_net_messages_cells, .inl (k 0, 288, .inl c_p0_net_messages)), (a_p0_net_copies, .inr (4, [.int (192 : Int32), .int (5 : Int32), .ref a_p0_net_copies_cells])), (a_p0_net_copies_cells, .inl (k 0, 960, .inl c_p0_net_copies)), (a_p0_net_log, .inr (0, [.ref a_p0_net_log_events, .int c_p0_net_log_first, .int c_p0_net_log_size])), (a_p0_net_log_events, .inr (4, [.int (40 : Int32), .int (5 : Int32), .ref a_p0_net_log_events_cells])), (a_p0_net_log_events_cells, .inl (k 0, 200, .inl c_p0_net_log_events)), (a_p0_net_ways, .inr (5, [.ref a_p0_net_ways_heard, .int c_p0_net_ways_arrival, .int c_p0_net_ways_fewest, .int c_p0_net_ways_next])), (a_p0_net_ways_heard, .inl (k 1, 24, .inr (.inl c_p0_net_ways_heard))), (a_p0_trial, .inr (2, [.ref a_p0_trial_stations, .ref a_p0_trial_links, .ref a_p0_trial_messages, .ref a_p0_trial_copies, .ref a_p0_trial_log, .ref a_p0_trial_ways, .ref a_p0_trial_frames, .int c_p0_trial_stationCount, .int c_p0_trial_linkCount, .int c_p0_trial_messageCount, .int c_p0_trial_time, .int c_p0_trial_life, .int c_p0_trial_tries, .int c_p0_trial_x])), (a_p0_trial_stations, .inr (4, [.int (8 : Int32), .int (10 : Int32), .ref a_p0_trial_stations_cells])), (a_p0_trial_stations_cells, .inl (k 0, 80, .inl c_p0_trial_stations)), (a_p0_trial_links, .inr (4, [.int (16 : Int32), .int (9 : Int32), .ref a_p0_trial_links_cells])), (a_p0_trial_links_cells, .inl (k 0, 144, .inl c_p0_trial_links)), (a_p0_trial_messages, .inr (4, [.int (24 : Int32), .int (12 : Int32), .ref a_p0_trial_messages_cells])), (a_p0_trial_messages_cells, .inl (k 0, 288, .inl c_p0_trial_messages)), (a_p0_trial_copies, .inr (4, [.int (192 : Int32), .int (5 : Int32), .ref a_p0_trial_copies_cells])), (a_p0_trial_copies_cells, .inl (k 0, 960, .inl c_p0_trial_copies)), (a_p0_trial_log, .inr (0, [.ref a_p0_trial_log_events, .int c_p0_trial_log_first, .int c_p0_trial_log_size])), (a_p0_trial_log_events, .inr (4, [.int (40 : Int32), .int (5 : Int32), .ref a_p0_trial_log_events_cells])), (a_p0_trial_log_events_cells, .inl (k 0, 200, .inl c_p0_trial_log_events)), (a_p0_trial_ways, .inr (5, [.ref a_p0_trial_ways_heard, .int c_p0_trial_ways_arrival, .int c_p0_trial_ways_fewest, .int c_p0_trial_ways_next])), (a_p0_trial_ways_heard, .inl (k 1, 24, .inr (.inl c_p0_trial_ways_heard))), (a_p0_trial_frames, .inr (4, [.int (9 : Int32), .int (2 : Int32), .ref a_p0_trial_frames_cells])), (a_p0_trial_frames_cells, .inl (k 0, 18, .inl c_p0_trial_frames)), (a_p3, .inl (k 1, 1, .inr (.inl c_p3)))] [(a_p0, .inr (6, [.ref a_p0_setup, .int c_p0_latestError, .int c_p0_latestErrorPosition, .ref a_p0_net, .ref a_p0_trial, .ref a_p0_saved, .ref a_p0_line])), (a_p0_net, .inr (2, [.ref a_p0_net_stations, .ref a_p0_net_links, .ref a_p0_net_messages, .ref a_p0_net_copies, .ref a_p0_net_log, .ref a_p0_net_ways, .ref a_p0_net_frames, .int c_p0_net_stationCount, .int c_p0_net_linkCount, .int c_p0_net_messageCount, .int c_p0_net_time, .int c_p0_net_life, .int c_p0_net_tries, .int c_p0_net_x])), (a_p0_net_stations, .inr (4, [.int (8 : Int32), .int (10 : Int32), .ref a_p0_net_stations_cells])), (a_p0_net_stations_cells, .inl (k 0, 80, .inl c_p0_net_stations)), (a_p0_net_links, .inr (4, [.int (16 : Int32), .int (9 : Int32), .ref a_p0_net_links_cells])), (a_p0_net_links_cells, .inl (k 0, 144, .inl c_p0_net_links)), (a_p0_net_messages, .inr (4, [.int (24 : Int32), .int (12 : Int32), .ref a_p0_net_messages_cells])), (a_p0_net_messages_cells, .inl (k 0, 288, .inl c_p0_net_messages)), (a_p0_net_copies, .inr (4, [.int (192 : Int32), .int (5 : Int32), .ref a_p0_net_copies_cells])), (a_p0_net_copies_cells, .inl (k 0, 960, .inl c_p0_net_copies)), (a_p0_net_log, .inr (0, [.ref a_p0_net_log_events, .int c_p0_net_log_first, .int c_p0_net_log_size])), (a_p0_net_log_events, .inr (4, [.int (40 : Int32), .int (5 : Int32), .ref a_p0_net_log_events_cells])), (a_p0_net_log_events_cells, .inl (k 0, 200, .inl c_p0_net_log_events)), (a_p0_net_ways, .inr (5, [.ref a_p0_net_ways_heard, .int c_p0_net_ways_arrival, .int c_p0_net_ways_fewest, .int c_p0_net_ways_next])), (a_p0_net_ways_heard, .inl (k 1, 24, .inr (.inl c_p0_net_ways_heard))), (a_p0_trial, .inr (2, [.ref a_p0_trial_stations, .ref a_p0_trial_links, .ref a_p0_trial_messages, .ref a_p0_trial_copies, .ref a_p0_trial_log, .ref a_p0_trial_ways, .ref a_p0_trial_frames, .int u.2.1, .int u.2.2.1, .int u.2.2.2.1, .int u.2.2.2.2.1, .int u.2.2.2.2.2.1, .int u.2.2.2.2.2.2.1, .int u.2.2.2.2.2.2.2.1])), (a_p0_trial_stations, .inr (4, [.int (8 : Int32), .int (10 : Int32), .ref a_p0_trial_stations_cells])), (a_p0_trial_stations_cells, .inl (k 0, 80, .inl u.2.2.2.2.2.2.2.2.1)), (a_p0_trial_links, .inr (4, [.int (16 : Int32), .int (9 : Int32), .ref a_p0_trial_links_cells])), (a_p0_trial_links_cells, .inl (k 0, 144, .inl u.2.2.2.2.2.2.2.2.2.1)), (a_p0_trial_messages, .inr (4, [.int (24 : Int32), .int (12 : Int32), .ref a_p0_trial_messages_cells])), (a_p0_trial_messages_cells, .inl (k 0, 288, .inl u.2.2.2.2.2.2.2.2.2.2.1)), (a_p0_trial_copies, .inr (4, [.int (192 : Int32), .int (5 : Int32), .ref a_p0_trial_copies_cells])), (a_p0_trial_copies_cells, .inl (k 0, 960, .inl u.2.2.2.2.2.2.2.2.2.2.2.1)), (a_p0_trial_log, .inr (0, [.ref a_p0_trial_log_events, .int u.2.2.2.2.2.2.2.2.2.2.2.2.1, .int u.2.2.2.2.2.2.2.2.2.2.2.2.2.1])), (a_p0_trial_log_events, .inr (4, [.int (40 : Int32), .int (5 : Int32), .ref a_p0_trial_log_events_cells])), (a_p0_trial_log_events_cells, .inl (k 0, 200, .inl u.2.2.2.2.2.2.2.2.2.2.2.2.2.2.1)), (a_p0_trial_ways, .inr (5, [.ref a_p0_trial_ways_heard, .int u.2.2.2.2.2.2.2.2.2.2.2.2.2.2.2.1, .int u.2.2.2.2.2.2.2.2.2.2.2.2.2.2.2.2.1, .int u.2.2.2.2.2.2.2.2.2.2.2.2.2.2.2.2.2.1])), (a_p0_trial_ways_heard, .inl (k 1, 24, .inr (.inl u.2.2.2.2.2.2.2.2.2.2.2.2.2.2.2.2.2.2.1))), (a_p0_trial_frames, .inr (4, [.int (9 : Int32), .int (2 : Int32), .ref a_p0_trial_frames_cells])), (a_p0_trial_frames_cells, .inl (k 0, 18, .inl u.2.2.2.2.2.2.2.2.2.2.2.2.2.2.2.2.2.2.2.1)), (a_p3, .inl (k 1, 1, .inr (.inl u.2.2.2.2.2.2.2.2.2.2.2.2.2.2.2.2.2.2.2.2)))] u.1 := by
  refine rn_KW.go (LOC := [(0, .ref a_p0), (1, .int i1), (2, .int i2), (3, .ref a_p3)]) rfl (by decide) (Nat.le_of_ble_eq_true rfl) rfl ?_
  intro p e s m args below meth c A ls R Q hst hxc htab X hR hE hW hl
  have hx := X.1.1
  have hb := X.1.2.1
  have hts := X.1.2.2.2.2
  unfold fL_stateAfter at hf
  obtain ⟨t1, ht1, hf⟩ := rn_bind hf
  obtain ⟨u0, u1, u2, u3, u4, u5, u6, u7, u8, u9, u10, u11, u12, u13, u14, u15, u16, u17, u18, u19, u20⟩ := u
  dsimp only at hE
  refine lv_aload_n hx hb dL_stateAfter_0 rfl (lv_at hl 3 rfl) ?_
  refine lv_iconst (v := 0) hx hb dL_stateAfter_1 (by decide) ?_
  refine lv_aload_n hx hb dL_stateAfter_2 rfl (lv_at hl 0 rfl) ?_
  refine lv_iload_n hx hb dL_stateAfter_3 rfl (lv_at hl 1 rfl) ?_
  refine lv_iload_n hx hb dL_stateAfter_4 rfl (lv_at hl 2 rfl) ?_
  refine rr_xcallI (As := [.int i1, .int i2]) (rest := [.int (0 : Int32), .ref a_p3]) X hxc hst hW (kX6_stateAfter l D k z N a_p0 a_p0_setup a_p0_net a_p0_trial a_p0_saved a_p0_line a_p0_net_stations a_p0_net_links a_p0_net_messages a_p0_net_copies a_p0_net_log a_p0_net_ways a_p0_net_frames a_p0_net_stations_cells a_p0_net_links_cells a_p0_net_messages_cells a_p0_net_copies_cells a_p0_net_log_events a_p0_net_log_events_cells a_p0_net_ways_heard a_p0_trial_stations a_p0_trial_links a_p0_trial_messages a_p0_trial_copies a_p0_trial_log a_p0_trial_ways a_p0_trial_frames a_p0_trial_stations_cells a_p0_trial_links_cells a_p0_trial_messages_cells a_p0_trial_copies_cells a_p0_trial_log_events a_p0_trial_log_events_cells a_p0_trial_ways_heard a_p0_trial_frames_cells c_p0_latestError c_p0_latestErrorPosition c_p0_net_stationCount c_p0_net_linkCount c_p0_net_messageCount c_p0_net_time c_p0_net_life c_p0_net_tries c_p0_net_x c_p0_net_stations c_p0_net_links c_p0_net_messages c_p0_net_copies c_p0_net_log_first c_p0_net_log_size c_p0_net_log_events c_p0_net_ways_arrival c_p0_net_ways_fewest c_p0_net_ways_next c_p0_net_ways_heard c_p0_trial_stationCount c_p0_trial_linkCount c_p0_trial_messageCount c_p0_trial_time c_p0_trial_life c_p0_trial_tries c_p0_trial_x c_p0_trial_stations c_p0_trial_links c_p0_trial_messages c_p0_trial_copies c_p0_trial_log_first c_p0_trial_log_size c_p0_trial_log_events c_p0_trial_ways_arrival c_p0_trial_ways_fewest c_p0_trial_ways_next c_p0_trial_ways_heard c_p0_trial_frames i1 i2 ht1) gm_X6_stateAfter gl_L_78 [0, 1, 2, 3, 4, 5, 6, 7, 8, 9, 10, 11, 12, 13, 14, 15, 16, 17, 18, 19, 20, 21, 22, 23, 24, 25, 26, 27, 28, 29, 30] [31] [(a_p0, .inr (6, [.ref a_p0_setup, .int c_p0_latestError, .int c_p0_latestErrorPosition, .ref a_p0_net, .ref a_p0_trial, .ref a_p0_saved, .ref a_p0_line])), (a_p0_net, .inr (2, [.ref a_p0_net_stations, .ref a_p0_net_links, .ref a_p0_net_messages, .ref a_p0_net_copies, .ref a_p0_net_log, .ref a_p0_net_ways, .ref a_p0_net_frames, .int c_p0_net_stationCount, .int c_p0_net_linkCount, .int c_p0_net_messageCount, .int c_p0_net_time, .int c_p0_net_life, .int c_p0_net_tries, .int c_p0_net_x])), (a_p0_net_stations, .inr (4, [.int (8 : Int32), .int (10 : Int32), .ref a_p0_net_stations_cells])), (a_p0_net_stations_cells, .inl (k 0, 80, .inl c_p0_net_stations)), (a_p0_net_links, .inr (4, [.int (16 : Int32), .int (9 : Int32), .ref a_p0_net_links_cells])), (a_p0_net_links_cells, .inl (k 0, 144, .inl c_p0_net_links)), (a_p0_net_messages, .inr (4, [.int (24 : Int32), .int (12 : Int32), .ref a_p0_net_messages_cells])), (a_p0_net_messages_cells, .inl (k 0, 288, .inl c_p0_net_messages)), (a_p0_net_copies, .inr (4, [.int (192 : Int32), .int (5 : Int32), .ref a_p0_net_copies_cells])), (a_p0_net_copies_cells, .inl (k 0, 960, .inl c_p0_net_copies)), (a_p0_net_log, .inr (0, [.ref a_p0_net_log_events, .int c_p0_net_log_first, .int c_p0_net_log_size])), (a_p0_net_log_events, .inr (4, [.int (40 : Int32), .int (5 : Int32), .ref a_p0_net_log_events_cells])), (a_p0_net_log_events_cells, .inl (k 0, 200, .inl c_p0_net_log_events)), (a_p0_net_ways, .inr (5, [.ref a_p0_net_ways_heard, .int c_p0_net_ways_arrival, .int c_p0_net_ways_fewest, .int c_p0_net_ways_next])), (a_p0_net_ways_heard, .inl (k 1, 24, .inr (.inl c_p0_net_ways_heard))), (a_p0_trial, .inr (2, [.ref a_p0_trial_stations, .ref a_p0_trial_links, .ref a_p0_trial_messages, .ref a_p0_trial_copies, .ref a_p0_trial_log, .ref a_p0_trial_ways, .ref a_p0_trial_frames, .int t1.2.2.1, .int t1.2.2.2.1, .int t1.2.2.2.2.1, .int t1.2.2.2.2.2.1, .int t1.2.2.2.2.2.2.1, .int t1.2.2.2.2.2.2.2.1, .int t1.2.2.2.2.2.2.2.2.1])), (a_p0_trial_stations, .inr (4, [.int (8 : Int32), .int (10 : Int32), .ref a_p0_trial_stations_cells])), (a_p0_trial_stations_cells, .inl (k 0, 80, .inl t1.2.2.2.2.2.2.2.2.2.1)), (a_p0_trial_links, .inr (4, [.int (16 : Int32), .int (9 : Int32), .ref a_p0_trial_links_cells])), (a_p0_trial_links_cells, .inl (k 0, 144, .inl t1.2.2.2.2.2.2.2.2.2.2.1)), (a_p0_trial_messages, .inr (4, [.int (24 : Int32), .int (12 : Int32), .ref a_p0_trial_messages_cells])), (a_p0_trial_messages_cells, .inl (k 0, 288, .inl t1.2.2.2.2.2.2.2.2.2.2.2.1)), (a_p0_trial_copies, .inr (4, [.int (192 : Int32), .int (5 : Int32), .ref a_p0_trial_copies_cells])), (a_p0_trial_copies_cells, .inl (k 0, 960, .inl t1.2.2.2.2.2.2.2.2.2.2.2.2.1)), (a_p0_trial_log, .inr (0, [.ref a_p0_trial_log_events, .int t1.2.2.2.2.2.2.2.2.2.2.2.2.2.1, .int t1.2.2.2.2.2.2.2.2.2.2.2.2.2.2.1])), (a_p0_trial_log_events, .inr (4, [.int (40 : Int32), .int (5 : Int32), .ref a_p0_trial_log_events_cells])), (a_p0_trial_log_events_cells, .inl (k 0, 200, .inl t1.2.2.2.2.2.2.2.2.2.2.2.2.2.2.2.1)), (a_p0_trial_ways, .inr (5, [.ref a_p0_trial_ways_heard, .int t1.2.2.2.2.2.2.2.2.2.2.2.2.2.2.2.2.1, .int t1.2.2.2.2.2.2.2.2.2.2.2.2.2.2.2.2.2.1, .int t1.2.2.2.2.2.2.2.2.2.2.2.2.2.2.2.2.2.2.1])), (a_p0_trial_ways_heard, .inl (k 1, 24, .inr (.inl t1.2.2.2.2.2.2.2.2.2.2.2.2.2.2.2.2.2.2.2.1))), (a_p0_trial_frames, .inr (4, [.int (9 : Int32), .int (2 : Int32), .ref a_p0_trial_frames_cells])), (a_p0_trial_frames_cells, .inl (k 0, 18, .inl t1.2.2.2.2.2.2.2.2.2.2.2.2.2.2.2.2.2.2.2.2)), (a_p3, .inl (k 1, 1, .inr (.inl c_p3)))] rfl rfl rfl rfl ⟨rfl, rfl, rn_Bw (wr := [(a_p3, .inl (k 1, 1, .inr (.inl c_p3)))]) rfl rfl, rfl, rfl⟩ (rn_rT hR rfl) (rn_cs1 hR) hl.1 rfl (Nat.le_of_ble_eq_true rfl) dL_stateAfter_5 (fun hk H locs q9 ce hW hq9 hv hcl => ?_) (fun hk hn H locs hW => ?_)
  · replace hf := rn_f hf hk
    by_cases hk0 : t1.1 = 3
    · replace hf := rn_t hf hk0
      rw [hk0] at hcl
      refine vx_catch (name := rn_ex 3) X.1.2.2.2.1 [] (⟨0, 10, 13, 28⟩ : ExceptionTableEntry) [(⟨0, 10, 17, 18⟩ : ExceptionTableEntry)] (htab.trans rfl) (fun z hz => nomatch hz) (by decide) (by decide) (hts _ qc_3) (va_any rfl hxc.2.1.2.2) hq9 hv hcl ?_
      refine lv_astore (lv' := [(4, .ref q9), (0, .ref a_p0), (1, .int i1), (2, .int i2), (3, .ref a_p3)]) hx hb dL_stateAfter_13 hl (Nat.le_of_ble_eq_true rfl) rfl (fun ls hl => ?_)
      refine lv_iconst (v := 1) hx hb dL_stateAfter_15 (by decide) ?_
      cases hf
      exact hE _ _ _ _ hW dL_stateAfter_16
    replace hf := rn_f hf hk0
    by_cases hk1 : t1.1 = 1
    · replace hf := rn_t hf hk1
      rw [hk1] at hcl
      refine vx_catch (name := rn_ex 1) X.1.2.2.2.1 [(⟨0, 10, 13, 28⟩ : ExceptionTableEntry)] (⟨0, 10, 17, 18⟩ : ExceptionTableEntry) [] (htab.trans rfl) (fun z hz => by rcases List.mem_singleton.mp hz with rfl; exact Or.inr ⟨by decide, rn_ex 3, hts _ qc_3, hxc.2.2.1.2⟩) (by decide) (by decide) (hts _ qc_1) (va_any rfl hxc.2.1.1) hq9 hv hcl ?_
      refine lv_astore (lv' := [(4, .ref q9), (0, .ref a_p0), (1, .int i1), (2, .int i2), (3, .ref a_p3)]) hx hb dL_stateAfter_17 hl (Nat.le_of_ble_eq_true rfl) rfl (fun ls hl => ?_)
      refine lv_iconst (v := 2) hx hb dL_stateAfter_19 (by decide) ?_
      cases hf
      exact hE _ _ _ _ hW dL_stateAfter_20
    replace hf := rn_f hf hk1
    cases hf
  · replace hf := rn_t hf hk
    refine lv_i2l (v := t1.2.1.toInt64) hx hb dL_stateAfter_8 rfl ?_
    obtain ⟨w1, hw1, hf⟩ := rn_let_s hf
    refine rr_last' X hW 31 rfl rn_in01 hw1 (ws' := [(a_p0, .inr (6, [.ref a_p0_setup, .int c_p0_latestError, .int c_p0_latestErrorPosition, .ref a_p0_net, .ref a_p0_trial, .ref a_p0_saved, .ref a_p0_line])), (a_p0_net, .inr (2, [.ref a_p0_net_stations, .ref a_p0_net_links, .ref a_p0_net_messages, .ref a_p0_net_copies, .ref a_p0_net_log, .ref a_p0_net_ways, .ref a_p0_net_frames, .int c_p0_net_stationCount, .int c_p0_net_linkCount, .int c_p0_net_messageCount, .int c_p0_net_time, .int c_p0_net_life, .int c_p0_net_tries, .int c_p0_net_x])), (a_p0_net_stations, .inr (4, [.int (8 : Int32), .int (10 : Int32), .ref a_p0_net_stations_cells])), (a_p0_net_stations_cells, .inl (k 0, 80, .inl c_p0_net_stations)), (a_p0_net_links, .inr (4, [.int (16 : Int32), .int (9 : Int32), .ref a_p0_net_links_cells])), (a_p0_net_links_cells, .inl (k 0, 144, .inl c_p0_net_links)), (a_p0_net_messages, .inr (4, [.int (24 : Int32), .int (12 : Int32), .ref a_p0_net_messages_cells])), (a_p0_net_messages_cells, .inl (k 0, 288, .inl c_p0_net_messages)), (a_p0_net_copies, .inr (4, [.int (192 : Int32), .int (5 : Int32), .ref a_p0_net_copies_cells])), (a_p0_net_copies_cells, .inl (k 0, 960, .inl c_p0_net_copies)), (a_p0_net_log, .inr (0, [.ref a_p0_net_log_events, .int c_p0_net_log_first, .int c_p0_net_log_size])), (a_p0_net_log_events, .inr (4, [.int (40 : Int32), .int (5 : Int32), .ref a_p0_net_log_events_cells])), (a_p0_net_log_events_cells, .inl (k 0, 200, .inl c_p0_net_log_events)), (a_p0_net_ways, .inr (5, [.ref a_p0_net_ways_heard, .int c_p0_net_ways_arrival, .int c_p0_net_ways_fewest, .int c_p0_net_ways_next])), (a_p0_net_ways_heard, .inl (k 1, 24, .inr (.inl c_p0_net_ways_heard))), (a_p0_trial, .inr (2, [.ref a_p0_trial_stations, .ref a_p0_trial_links, .ref a_p0_trial_messages, .ref a_p0_trial_copies, .ref a_p0_trial_log, .ref a_p0_trial_ways, .ref a_p0_trial_frames, .int t1.2.2.1, .int t1.2.2.2.1, .int t1.2.2.2.2.1, .int t1.2.2.2.2.2.1, .int t1.2.2.2.2.2.2.1, .int t1.2.2.2.2.2.2.2.1, .int t1.2.2.2.2.2.2.2.2.1])), (a_p0_trial_stations, .inr (4, [.int (8 : Int32), .int (10 : Int32), .ref a_p0_trial_stations_cells])), (a_p0_trial_stations_cells, .inl (k 0, 80, .inl t1.2.2.2.2.2.2.2.2.2.1)), (a_p0_trial_links, .inr (4, [.int (16 : Int32), .int (9 : Int32), .ref a_p0_trial_links_cells])), (a_p0_trial_links_cells, .inl (k 0, 144, .inl t1.2.2.2.2.2.2.2.2.2.2.1)), (a_p0_trial_messages, .inr (4, [.int (24 : Int32), .int (12 : Int32), .ref a_p0_trial_messages_cells])), (a_p0_trial_messages_cells, .inl (k 0, 288, .inl t1.2.2.2.2.2.2.2.2.2.2.2.1)), (a_p0_trial_copies, .inr (4, [.int (192 : Int32), .int (5 : Int32), .ref a_p0_trial_copies_cells])), (a_p0_trial_copies_cells, .inl (k 0, 960, .inl t1.2.2.2.2.2.2.2.2.2.2.2.2.1)), (a_p0_trial_log, .inr (0, [.ref a_p0_trial_log_events, .int t1.2.2.2.2.2.2.2.2.2.2.2.2.2.1, .int t1.2.2.2.2.2.2.2.2.2.2.2.2.2.2.1])), (a_p0_trial_log_events, .inr (4, [.int (40 : Int32), .int (5 : Int32), .ref a_p0_trial_log_events_cells])), (a_p0_trial_log_events_cells, .inl (k 0, 200, .inl t1.2.2.2.2.2.2.2.2.2.2.2.2.2.2.2.1)), (a_p0_trial_ways, .inr (5, [.ref a_p0_trial_ways_heard, .int t1.2.2.2.2.2.2.2.2.2.2.2.2.2.2.2.2.1, .int t1.2.2.2.2.2.2.2.2.2.2.2.2.2.2.2.2.2.1, .int t1.2.2.2.2.2.2.2.2.2.2.2.2.2.2.2.2.2.2.1])), (a_p0_trial_ways_heard, .inl (k 1, 24, .inr (.inl t1.2.2.2.2.2.2.2.2.2.2.2.2.2.2.2.2.2.2.2.1))), (a_p0_trial_frames, .inr (4, [.int (9 : Int32), .int (2 : Int32), .ref a_p0_trial_frames_cells])), (a_p0_trial_frames_cells, .inl (k 0, 18, .inl t1.2.2.2.2.2.2.2.2.2.2.2.2.2.2.2.2.2.2.2.2)), (a_p3, .inl (k 1, 1, .inr (.inl w1)))]) rfl dL_stateAfter_9 (fun H locs hW => ?_)
    refine lv_goto (tgt := 21) hx hb dL_stateAfter_10 (by decide) ?_
    refine lv_iconst (v := 0) hx hb dL_stateAfter_21 (by decide) ?_
    cases hf
    exact hE _ _ _ _ hW dL_stateAfter_22
def fL_hoursTo (N : Nat) (c_p0_net_stationCount : Int32) (c_p0_net_linkCount : Int32) (c_p0_net_messageCount : Int32) (c_p0_net_time : Int32) (c_p0_net_life : Int32) (c_p0_net_tries : Int32) (c_p0_net_x : Int32) (c_p0_net_stations : Nat → Int32) (c_p0_net_links : Nat → Int32) (c_p0_net_messages : Nat → Int32) (c_p0_net_copies : Nat → Int32) (c_p0_net_log_first : Int32) (c_p0_net_log_size : Int32) (c_p0_net_log_events : Nat → Int32) (c_p0_net_ways_heard : Nat → Int64) (c_p0_trial_stationCount : Int32) (c_p0_trial_linkCount : Int32) (c_p0_trial_messageCount : Int32) (c_p0_trial_time : Int32) (c_p0_trial_life : Int32) (c_p0_trial_tries : Int32) (c_p0_trial_x : Int32) (c_p0_trial_stations : Nat → Int32) (c_p0_trial_links : Nat → Int32) (c_p0_trial_messages : Nat → Int32) (c_p0_trial_copies : Nat → Int32) (c_p0_trial_log_first : Int32) (c_p0_trial_log_size : Int32) (c_p0_trial_log_events : Nat → Int32) (c_p0_trial_ways_arrival : Int32) (c_p0_trial_ways_fewest : Int32) (c_p0_trial_ways_next : Int32) (c_p0_trial_ways_heard : Nat → Int64) (c_p0_trial_frames : Nat → Int32) (c_p2 : Nat → Int64) (i1 : Int32) : Option (Int32 × Int32 × Int32 × Int32 × Int32 × Int32 × Int32 × Int32 × (Nat → Int32) × (Nat → Int32) × (Nat → Int32) × (Nat → Int32) × Int32 × Int32 × (Nat → Int32) × Int32 × Int32 × Int32 × (Nat → Int64) × (Nat → Int32) × (Nat → Int64)) :=
  (fX6_hoursTo N c_p0_net_stationCount c_p0_net_linkCount c_p0_net_messageCount c_p0_net_time c_p0_net_life c_p0_net_tries c_p0_net_x c_p0_net_stations c_p0_net_links c_p0_net_messages c_p0_net_copies c_p0_net_log_first c_p0_net_log_size c_p0_net_log_events c_p0_net_ways_heard c_p0_trial_stationCount c_p0_trial_linkCount c_p0_trial_messageCount c_p0_trial_time c_p0_trial_life c_p0_trial_tries c_p0_trial_x c_p0_trial_stations c_p0_trial_links c_p0_trial_messages c_p0_trial_copies c_p0_trial_log_first c_p0_trial_log_size c_p0_trial_log_events c_p0_trial_ways_arrival c_p0_trial_ways_fewest c_p0_trial_ways_next c_p0_trial_ways_heard c_p0_trial_frames i1).bind fun t1 =>
  if t1.1 = 0 then
    rn_let (vp_updL c_p2 (0 : Int32).toNatClampNeg t1.2.1.toInt64) fun w1 =>
    some ((0 : Int32), t1.2.2.1, t1.2.2.2.1, t1.2.2.2.2.1, t1.2.2.2.2.2.1, t1.2.2.2.2.2.2.1, t1.2.2.2.2.2.2.2.1, t1.2.2.2.2.2.2.2.2.1, t1.2.2.2.2.2.2.2.2.2.1, t1.2.2.2.2.2.2.2.2.2.2.1, t1.2.2.2.2.2.2.2.2.2.2.2.1, t1.2.2.2.2.2.2.2.2.2.2.2.2.1, t1.2.2.2.2.2.2.2.2.2.2.2.2.2.1, t1.2.2.2.2.2.2.2.2.2.2.2.2.2.2.1, t1.2.2.2.2.2.2.2.2.2.2.2.2.2.2.2.1, t1.2.2.2.2.2.2.2.2.2.2.2.2.2.2.2.2.1, t1.2.2.2.2.2.2.2.2.2.2.2.2.2.2.2.2.2.1, t1.2.2.2.2.2.2.2.2.2.2.2.2.2.2.2.2.2.2.1, t1.2.2.2.2.2.2.2.2.2.2.2.2.2.2.2.2.2.2.2.1, t1.2.2.2.2.2.2.2.2.2.2.2.2.2.2.2.2.2.2.2.2, w1)
  else
  if t1.1 = 1 then
    some ((1 : Int32), t1.2.2.1, t1.2.2.2.1, t1.2.2.2.2.1, t1.2.2.2.2.2.1, t1.2.2.2.2.2.2.1, t1.2.2.2.2.2.2.2.1, t1.2.2.2.2.2.2.2.2.1, t1.2.2.2.2.2.2.2.2.2.1, t1.2.2.2.2.2.2.2.2.2.2.1, t1.2.2.2.2.2.2.2.2.2.2.2.1, t1.2.2.2.2.2.2.2.2.2.2.2.2.1, t1.2.2.2.2.2.2.2.2.2.2.2.2.2.1, t1.2.2.2.2.2.2.2.2.2.2.2.2.2.2.1, t1.2.2.2.2.2.2.2.2.2.2.2.2.2.2.2.1, t1.2.2.2.2.2.2.2.2.2.2.2.2.2.2.2.2.1, t1.2.2.2.2.2.2.2.2.2.2.2.2.2.2.2.2.2.1, t1.2.2.2.2.2.2.2.2.2.2.2.2.2.2.2.2.2.2.1, t1.2.2.2.2.2.2.2.2.2.2.2.2.2.2.2.2.2.2.2.1, t1.2.2.2.2.2.2.2.2.2.2.2.2.2.2.2.2.2.2.2.2, c_p2)
  else
  none
set_option maxHeartbeats 4000000 in
set_option maxRecDepth 20000 in
theorem kL_hoursTo (l : Launch) (D : va_G) (k : Nat → ClassId) (z : (Nat → Nat) × (Nat → Nat)) (N : Nat) (a_p0 : Nat) (a_p2 : Nat) (a_p0_setup : Nat) (a_p0_net : Nat) (a_p0_trial : Nat) (a_p0_saved : Nat) (a_p0_line : Nat) (a_p0_net_stations : Nat) (a_p0_net_links : Nat) (a_p0_net_messages : Nat) (a_p0_net_copies : Nat) (a_p0_net_log : Nat) (a_p0_net_ways : Nat) (a_p0_net_frames : Nat) (a_p0_net_stations_cells : Nat) (a_p0_net_links_cells : Nat) (a_p0_net_messages_cells : Nat) (a_p0_net_copies_cells : Nat) (a_p0_net_log_events : Nat) (a_p0_net_log_events_cells : Nat) (a_p0_net_ways_heard : Nat) (a_p0_trial_stations : Nat) (a_p0_trial_links : Nat) (a_p0_trial_messages : Nat) (a_p0_trial_copies : Nat) (a_p0_trial_log : Nat) (a_p0_trial_ways : Nat) (a_p0_trial_frames : Nat) (a_p0_trial_stations_cells : Nat) (a_p0_trial_links_cells : Nat) (a_p0_trial_messages_cells : Nat) (a_p0_trial_copies_cells : Nat) (a_p0_trial_log_events : Nat) (a_p0_trial_log_events_cells : Nat) (a_p0_trial_ways_heard : Nat) (a_p0_trial_frames_cells : Nat) (c_p0_latestError : Int32) (c_p0_latestErrorPosition : Int32) (c_p0_net_stationCount : Int32) (c_p0_net_linkCount : Int32) (c_p0_net_messageCount : Int32) (c_p0_net_time : Int32) (c_p0_net_life : Int32) (c_p0_net_tries : Int32) (c_p0_net_x : Int32) (c_p0_net_stations : Nat → Int32) (c_p0_net_links : Nat → Int32) (c_p0_net_messages : Nat → Int32) (c_p0_net_copies : Nat → Int32) (c_p0_net_log_first : Int32) (c_p0_net_log_size : Int32) (c_p0_net_log_events : Nat → Int32) (c_p0_net_ways_arrival : Int32) (c_p0_net_ways_fewest : Int32) (c_p0_net_ways_next : Int32) (c_p0_net_ways_heard : Nat → Int64) (c_p0_trial_stationCount : Int32) (c_p0_trial_linkCount : Int32) (c_p0_trial_messageCount : Int32) (c_p0_trial_time : Int32) (c_p0_trial_life : Int32) (c_p0_trial_tries : Int32) (c_p0_trial_x : Int32) (c_p0_trial_stations : Nat → Int32) (c_p0_trial_links : Nat → Int32) (c_p0_trial_messages : Nat → Int32) (c_p0_trial_copies : Nat → Int32) (c_p0_trial_log_first : Int32) (c_p0_trial_log_size : Int32) (c_p0_trial_log_events : Nat → Int32) (c_p0_trial_ways_arrival : Int32) (c_p0_trial_ways_fewest : Int32) (c_p0_trial_ways_next : Int32) (c_p0_trial_ways_heard : Nat → Int64) (c_p0_trial_frames : Nat → Int32) (c_p2 : Nat → Int64) (i1 : Int32) {u : Int32 × Int32 × Int32 × Int32 × Int32 × Int32 × Int32 × Int32 × (Nat → Int32) × (Nat → Int32) × (Nat → Int32) × (Nat → Int32) × Int32 × Int32 × (Nat → Int32) × Int32 × Int32 × Int32 × (Nat → Int64) × (Nat → Int32) × (Nat → Int64)} (hf : fL_hoursTo N c_p0_net_stationCount c_p0_net_linkCount c_p0_net_messageCount c_p0_net_time c_p0_net_life c_p0_net_tries c_p0_net_x c_p0_net_stations c_p0_net_links c_p0_net_messages c_p0_net_copies c_p0_net_log_first c_p0_net_log_size c_p0_net_log_events c_p0_net_ways_heard c_p0_trial_stationCount c_p0_trial_linkCount c_p0_trial_messageCount c_p0_trial_time c_p0_trial_life c_p0_trial_tries c_p0_trial_x c_p0_trial_stations c_p0_trial_links c_p0_trial_messages c_p0_trial_copies c_p0_trial_log_first c_p0_trial_log_size c_p0_trial_log_events c_p0_trial_ways_arrival c_p0_trial_ways_fewest c_p0_trial_ways_next c_p0_trial_ways_heard c_p0_trial_frames c_p2 i1 = some u) : rn_KW l D k z yL_hoursTo cL_hoursTo 4 hhL_hoursTo 7 181 [.ref a_p0, .int i1, .ref a_p2] [(a_p0, .inr (6, [.ref a_p0_setup, .int c_p0_latestError, .int c_p0_latestErrorPosition, .ref a_p0_net, .ref a_p0_trial, .ref a_p0_saved, .ref a_p0_line])), (a_p0_net, .inr (2, [.ref a_p0_net_stations, .ref a_p0_net_links, .ref a_p0_net_messages, .ref a_p0_net_copies, .ref a_p0_net_log, .ref a_p0_net_ways, .ref a_p0_net_frames, .int c_p0_net_stationCount, .int c_p0_net_linkCount, .int c_p0_net_messageCount, .int c_p0_net_time, .int c_p0_net_life, .int c_p0_net_tries, .int c_p0_net_x])), (a_p0_net_stations, .inr (4, [.int (8 : Int32), .int (10 : Int32), .ref a_p0_net_stations_cells])), (a_p0_net_stations_cells, .inl (k 0, 80, .inl c_p0_net_stations)), (a_p0_net_links, .inr (4, [.int (16 : Int32), .int (9 : Int32), .ref a_p0_net_links_cells])), (a_p0_net_links_cells, .inl (k 0, 144, .inl c_p0_net_links)), (a_p0_net_messages, .inr (4, [.int (24 : Int32), .int (12 : Int32), .ref a_p0_net_messages_cells])), (a_p0_net_messages_cells, .inl (k 0, 288, .inl c_p0_net_messages)), (a_p0_net_copies, .inr (4, [.int (192 : Int32), .int (5 : Int32), .ref a_p0_net_copies_cells])), (a_p0_net_copies_cells, .inl (k 0, 960, .inl c_p0_net_copies)), (a_p0_net_log, .inr (0, [.ref a_p0_net_log_events, .int c_p0_net_log_first, .int c_p0_net_log_size])), (a_p0_net_log_events, .inr (4, [.int (40 : Int32), .int (5 : Int32), .ref a_p0_net_log_events_cells])), (a_p0_net_log_events_cells, .inl (k 0, 200, .inl c_p0_net_log_events)), (a_p0_net_ways, .inr (5, [.ref a_p0_net_ways_heard, .int c_p0_net_ways_arrival, .int c_p0_net_ways_fewest, .int c_p0_net_ways_next])), (a_p0_net_ways_heard, .inl (k 1, 24, .inr (.inl c_p0_net_ways_heard))), (a_p0_trial, .inr (2, [.ref a_p0_trial_stations, .ref a_p0_trial_links, .ref a_p0_trial_messages, .ref a_p0_trial_copies, .ref a_p0_trial_log, .ref a_p0_trial_ways, .ref a_p0_trial_frames, .int c_p0_trial_stationCount, .int c_p0_trial_linkCount, .int c_p0_trial_messageCount, .int c_p0_trial_time, .int c_p0_trial_life, .int c_p0_trial_tries, .int c_p0_trial_x])), (a_p0_trial_stations, .inr (4, [.int (8 : Int32), .int (10 : Int32), .ref a_p0_trial_stations_cells])), (a_p0_trial_stations_cells, .inl (k 0, 80, .inl c_p0_trial_stations)), (a_p0_trial_links, .inr (4, [.int (16 : Int32), .int (9 : Int32), .ref a_p0_trial_links_cells])), (a_p0_trial_links_cells, .inl (k 0, 144, .inl c_p0_trial_links)), (a_p0_trial_messages, .inr (4, [.int (24 : Int32), .int (12 : Int32), .ref a_p0_trial_messages_cells])), (a_p0_trial_messages_cells, .inl (k 0, 288, .inl c_p0_trial_messages)), (a_p0_trial_copies, .inr (4, [.int (192 : Int32), .int (5 : Int32), .ref a_p0_trial_copies_cells])), (a_p0_trial_copies_cells, .inl (k 0, 960, .inl c_p0_trial_copies)), (a_p0_trial_log, .inr (0, [.ref a_p0_trial_log_events, .int c_p0_trial_log_first, .int c_p0_trial_log_size])), (a_p0_trial_log_events, .inr (4, [.int (40 : Int32), .int (5 : Int32), .ref a_p0_trial_log_events_cells])), (a_p0_trial_log_events_cells, .inl (k 0, 200, .inl c_p0_trial_log_events)), (a_p0_trial_ways, .inr (5, [.ref a_p0_trial_ways_heard, .int c_p0_trial_ways_arrival, .int c_p0_trial_ways_fewest, .int c_p0_trial_ways_next])), (a_p0_trial_ways_heard, .inl (k 1, 24, .inr (.inl c_p0_trial_ways_heard))), (a_p0_trial_frames, .inr (4, [.int (9 : Int32), .int (2 : Int32), .ref a_p0_trial_frames_cells])), (a_p0_trial_frames_cells, .inl (k 0, 18, .inl c_p0_trial_frames)), (a_p2, .inl (k 1, 1, .inr (.inl c_p2)))] [(a_p0, .inr (6, [.ref a_p0_setup, .int c_p0_latestError, .int c_p0_latestErrorPosition, .ref a_p0_net, .ref a_p0_trial, .ref a_p0_saved, .ref a_p0_line])), (a_p0_net, .inr (2, [.ref a_p0_net_stations, .ref a_p0_net_links, .ref a_p0_net_messages, .ref a_p0_net_copies, .ref a_p0_net_log, .ref a_p0_net_ways, .ref a_p0_net_frames, .int c_p0_net_stationCount, .int c_p0_net_linkCount, .int c_p0_net_messageCount, .int c_p0_net_time, .int c_p0_net_life, .int c_p0_net_tries, .int c_p0_net_x])), (a_p0_net_stations, .inr (4, [.int (8 : Int32), .int (10 : Int32), .ref a_p0_net_stations_cells])), (a_p0_net_stations_cells, .inl (k 0, 80, .inl c_p0_net_stations)), (a_p0_net_links, .inr (4, [.int (16 : Int32), .int (9 : Int32), .ref a_p0_net_links_cells])), (a_p0_net_links_cells, .inl (k 0, 144, .inl c_p0_net_links)), (a_p0_net_messages, .inr (4, [.int (24 : Int32), .int (12 : Int32), .ref a_p0_net_messages_cells])), (a_p0_net_messages_cells, .inl (k 0, 288, .inl c_p0_net_messages)), (a_p0_net_copies, .inr (4, [.int (192 : Int32), .int (5 : Int32), .ref a_p0_net_copies_cells])), (a_p0_net_copies_cells, .inl (k 0, 960, .inl c_p0_net_copies)), (a_p0_net_log, .inr (0, [.ref a_p0_net_log_events, .int c_p0_net_log_first, .int c_p0_net_log_size])), (a_p0_net_log_events, .inr (4, [.int (40 : Int32), .int (5 : Int32), .ref a_p0_net_log_events_cells])), (a_p0_net_log_events_cells, .inl (k 0, 200, .inl c_p0_net_log_events)), (a_p0_net_ways, .inr (5, [.ref a_p0_net_ways_heard, .int c_p0_net_ways_arrival, .int c_p0_net_ways_fewest, .int c_p0_net_ways_next])), (a_p0_net_ways_heard, .inl (k 1, 24, .inr (.inl c_p0_net_ways_heard))), (a_p0_trial, .inr (2, [.ref a_p0_trial_stations, .ref a_p0_trial_links, .ref a_p0_trial_messages, .ref a_p0_trial_copies, .ref a_p0_trial_log, .ref a_p0_trial_ways, .ref a_p0_trial_frames, .int u.2.1, .int u.2.2.1, .int u.2.2.2.1, .int u.2.2.2.2.1, .int u.2.2.2.2.2.1, .int u.2.2.2.2.2.2.1, .int u.2.2.2.2.2.2.2.1])), (a_p0_trial_stations, .inr (4, [.int (8 : Int32), .int (10 : Int32), .ref a_p0_trial_stations_cells])), (a_p0_trial_stations_cells, .inl (k 0, 80, .inl u.2.2.2.2.2.2.2.2.1)), (a_p0_trial_links, .inr (4, [.int (16 : Int32), .int (9 : Int32), .ref a_p0_trial_links_cells])), (a_p0_trial_links_cells, .inl (k 0, 144, .inl u.2.2.2.2.2.2.2.2.2.1)), (a_p0_trial_messages, .inr (4, [.int (24 : Int32), .int (12 : Int32), .ref a_p0_trial_messages_cells])), (a_p0_trial_messages_cells, .inl (k 0, 288, .inl u.2.2.2.2.2.2.2.2.2.2.1)), (a_p0_trial_copies, .inr (4, [.int (192 : Int32), .int (5 : Int32), .ref a_p0_trial_copies_cells])), (a_p0_trial_copies_cells, .inl (k 0, 960, .inl u.2.2.2.2.2.2.2.2.2.2.2.1)), (a_p0_trial_log, .inr (0, [.ref a_p0_trial_log_events, .int u.2.2.2.2.2.2.2.2.2.2.2.2.1, .int u.2.2.2.2.2.2.2.2.2.2.2.2.2.1])), (a_p0_trial_log_events, .inr (4, [.int (40 : Int32), .int (5 : Int32), .ref a_p0_trial_log_events_cells])), (a_p0_trial_log_events_cells, .inl (k 0, 200, .inl u.2.2.2.2.2.2.2.2.2.2.2.2.2.2.1)), (a_p0_trial_ways, .inr (5, [.ref a_p0_trial_ways_heard, .int u.2.2.2.2.2.2.2.2.2.2.2.2.2.2.2.1, .int u.2.2.2.2.2.2.2.2.2.2.2.2.2.2.2.2.1, .int u.2.2.2.2.2.2.2.2.2.2.2.2.2.2.2.2.2.1])), (a_p0_trial_ways_heard, .inl (k 1, 24, .inr (.inl u.2.2.2.2.2.2.2.2.2.2.2.2.2.2.2.2.2.2.1))), (a_p0_trial_frames, .inr (4, [.int (9 : Int32), .int (2 : Int32), .ref a_p0_trial_frames_cells])), (a_p0_trial_frames_cells, .inl (k 0, 18, .inl u.2.2.2.2.2.2.2.2.2.2.2.2.2.2.2.2.2.2.2.1)), (a_p2, .inl (k 1, 1, .inr (.inl u.2.2.2.2.2.2.2.2.2.2.2.2.2.2.2.2.2.2.2.2)))] u.1 := by
  refine rn_KW.go (LOC := [(0, .ref a_p0), (1, .int i1), (2, .ref a_p2)]) rfl (by decide) (Nat.le_of_ble_eq_true rfl) rfl ?_
  intro p e s m args below meth c A ls R Q hst hxc htab X hR hE hW hl
  have hx := X.1.1
  have hb := X.1.2.1
  have hts := X.1.2.2.2.2
  unfold fL_hoursTo at hf
  obtain ⟨t1, ht1, hf⟩ := rn_bind hf
  obtain ⟨u0, u1, u2, u3, u4, u5, u6, u7, u8, u9, u10, u11, u12, u13, u14, u15, u16, u17, u18, u19, u20⟩ := u
  dsimp only at hE
  refine lv_aload_n hx hb dL_hoursTo_0 rfl (lv_at hl 2 rfl) ?_
  refine lv_iconst (v := 0) hx hb dL_hoursTo_1 (by decide) ?_
  refine lv_aload_n hx hb dL_hoursTo_2 rfl (lv_at hl 0 rfl) ?_
  refine lv_iload_n hx hb dL_hoursTo_3 rfl (lv_at hl 1 rfl) ?_
  refine rr_xcallI (As := [.int i1]) (rest := [.int (0 : Int32), .ref a_p2]) X hxc hst hW (kX6_hoursTo l D k z N a_p0 a_p0_setup a_p0_net a_p0_trial a_p0_saved a_p0_line a_p0_net_stations a_p0_net_links a_p0_net_messages a_p0_net_copies a_p0_net_log a_p0_net_ways a_p0_net_frames a_p0_net_stations_cells a_p0_net_links_cells a_p0_net_messages_cells a_p0_net_copies_cells a_p0_net_log_events a_p0_net_log_events_cells a_p0_net_ways_heard a_p0_trial_stations a_p0_trial_links a_p0_trial_messages a_p0_trial_copies a_p0_trial_log a_p0_trial_ways a_p0_trial_frames a_p0_trial_stations_cells a_p0_trial_links_cells a_p0_trial_messages_cells a_p0_trial_copies_cells a_p0_trial_log_events a_p0_trial_log_events_cells a_p0_trial_ways_heard a_p0_trial_frames_cells c_p0_latestError c_p0_latestErrorPosition c_p0_net_stationCount c_p0_net_linkCount c_p0_net_messageCount c_p0_net_time c_p0_net_life c_p0_net_tries c_p0_net_x c_p0_net_stations c_p0_net_links c_p0_net_messages c_p0_net_copies c_p0_net_log_first c_p0_net_log_size c_p0_net_log_events c_p0_net_ways_arrival c_p0_net_ways_fewest c_p0_net_ways_next c_p0_net_ways_heard c_p0_trial_stationCount c_p0_trial_linkCount c_p0_trial_messageCount c_p0_trial_time c_p0_trial_life c_p0_trial_tries c_p0_trial_x c_p0_trial_stations c_p0_trial_links c_p0_trial_messages c_p0_trial_copies c_p0_trial_log_first c_p0_trial_log_size c_p0_trial_log_events c_p0_trial_ways_arrival c_p0_trial_ways_fewest c_p0_trial_ways_next c_p0_trial_ways_heard c_p0_trial_frames i1 ht1) gm_X6_hoursTo gl_L_81 [0, 1, 2, 3, 4, 5, 6, 7, 8, 9, 10, 11, 12, 13, 14, 15, 16, 17, 18, 19, 20, 21, 22, 23, 24, 25, 26, 27, 28, 29, 30] [31] [(a_p0, .inr (6, [.ref a_p0_setup, .int c_p0_latestError, .int c_p0_latestErrorPosition, .ref a_p0_net, .ref a_p0_trial, .ref a_p0_saved, .ref a_p0_line])), (a_p0_net, .inr (2, [.ref a_p0_net_stations, .ref a_p0_net_links, .ref a_p0_net_messages, .ref a_p0_net_copies, .ref a_p0_net_log, .ref a_p0_net_ways, .ref a_p0_net_frames, .int c_p0_net_stationCount, .int c_p0_net_linkCount, .int c_p0_net_messageCount, .int c_p0_net_time, .int c_p0_net_life, .int c_p0_net_tries, .int c_p0_net_x])), (a_p0_net_stations, .inr (4, [.int (8 : Int32), .int (10 : Int32), .ref a_p0_net_stations_cells])), (a_p0_net_stations_cells, .inl (k 0, 80, .inl c_p0_net_stations)), (a_p0_net_links, .inr (4, [.int (16 : Int32), .int (9 : Int32), .ref a_p0_net_links_cells])), (a_p0_net_links_cells, .inl (k 0, 144, .inl c_p0_net_links)), (a_p0_net_messages, .inr (4, [.int (24 : Int32), .int (12 : Int32), .ref a_p0_net_messages_cells])), (a_p0_net_messages_cells, .inl (k 0, 288, .inl c_p0_net_messages)), (a_p0_net_copies, .inr (4, [.int (192 : Int32), .int (5 : Int32), .ref a_p0_net_copies_cells])), (a_p0_net_copies_cells, .inl (k 0, 960, .inl c_p0_net_copies)), (a_p0_net_log, .inr (0, [.ref a_p0_net_log_events, .int c_p0_net_log_first, .int c_p0_net_log_size])), (a_p0_net_log_events, .inr (4, [.int (40 : Int32), .int (5 : Int32), .ref a_p0_net_log_events_cells])), (a_p0_net_log_events_cells, .inl (k 0, 200, .inl c_p0_net_log_events)), (a_p0_net_ways, .inr (5, [.ref a_p0_net_ways_heard, .int c_p0_net_ways_arrival, .int c_p0_net_ways_fewest, .int c_p0_net_ways_next])), (a_p0_net_ways_heard, .inl (k 1, 24, .inr (.inl c_p0_net_ways_heard))), (a_p0_trial, .inr (2, [.ref a_p0_trial_stations, .ref a_p0_trial_links, .ref a_p0_trial_messages, .ref a_p0_trial_copies, .ref a_p0_trial_log, .ref a_p0_trial_ways, .ref a_p0_trial_frames, .int t1.2.2.1, .int t1.2.2.2.1, .int t1.2.2.2.2.1, .int t1.2.2.2.2.2.1, .int t1.2.2.2.2.2.2.1, .int t1.2.2.2.2.2.2.2.1, .int t1.2.2.2.2.2.2.2.2.1])), (a_p0_trial_stations, .inr (4, [.int (8 : Int32), .int (10 : Int32), .ref a_p0_trial_stations_cells])), (a_p0_trial_stations_cells, .inl (k 0, 80, .inl t1.2.2.2.2.2.2.2.2.2.1)), (a_p0_trial_links, .inr (4, [.int (16 : Int32), .int (9 : Int32), .ref a_p0_trial_links_cells])), (a_p0_trial_links_cells, .inl (k 0, 144, .inl t1.2.2.2.2.2.2.2.2.2.2.1)), (a_p0_trial_messages, .inr (4, [.int (24 : Int32), .int (12 : Int32), .ref a_p0_trial_messages_cells])), (a_p0_trial_messages_cells, .inl (k 0, 288, .inl t1.2.2.2.2.2.2.2.2.2.2.2.1)), (a_p0_trial_copies, .inr (4, [.int (192 : Int32), .int (5 : Int32), .ref a_p0_trial_copies_cells])), (a_p0_trial_copies_cells, .inl (k 0, 960, .inl t1.2.2.2.2.2.2.2.2.2.2.2.2.1)), (a_p0_trial_log, .inr (0, [.ref a_p0_trial_log_events, .int t1.2.2.2.2.2.2.2.2.2.2.2.2.2.1, .int t1.2.2.2.2.2.2.2.2.2.2.2.2.2.2.1])), (a_p0_trial_log_events, .inr (4, [.int (40 : Int32), .int (5 : Int32), .ref a_p0_trial_log_events_cells])), (a_p0_trial_log_events_cells, .inl (k 0, 200, .inl t1.2.2.2.2.2.2.2.2.2.2.2.2.2.2.2.1)), (a_p0_trial_ways, .inr (5, [.ref a_p0_trial_ways_heard, .int t1.2.2.2.2.2.2.2.2.2.2.2.2.2.2.2.2.1, .int t1.2.2.2.2.2.2.2.2.2.2.2.2.2.2.2.2.2.1, .int t1.2.2.2.2.2.2.2.2.2.2.2.2.2.2.2.2.2.2.1])), (a_p0_trial_ways_heard, .inl (k 1, 24, .inr (.inl t1.2.2.2.2.2.2.2.2.2.2.2.2.2.2.2.2.2.2.2.1))), (a_p0_trial_frames, .inr (4, [.int (9 : Int32), .int (2 : Int32), .ref a_p0_trial_frames_cells])), (a_p0_trial_frames_cells, .inl (k 0, 18, .inl t1.2.2.2.2.2.2.2.2.2.2.2.2.2.2.2.2.2.2.2.2)), (a_p2, .inl (k 1, 1, .inr (.inl c_p2)))] rfl rfl rfl rfl ⟨rfl, rfl, rn_Bw (wr := [(a_p2, .inl (k 1, 1, .inr (.inl c_p2)))]) rfl rfl, rfl, rfl⟩ (rn_rT hR rfl) (rn_cs1 hR) hl.1 rfl (Nat.le_of_ble_eq_true rfl) dL_hoursTo_4 (fun hk H locs q9 ce hW hq9 hv hcl => ?_) (fun hk hn H locs hW => ?_)
  · replace hf := rn_f hf hk
    by_cases hk0 : t1.1 = 1
    · replace hf := rn_t hf hk0
      rw [hk0] at hcl
      refine vx_catch (name := rn_ex 1) X.1.2.2.2.1 [] (⟨0, 9, 12, 18⟩ : ExceptionTableEntry) [] (htab.trans rfl) (fun z hz => nomatch hz) (by decide) (by decide) (hts _ qc_1) (va_any rfl hxc.2.1.1) hq9 hv hcl ?_
      refine lv_astore_n (lv' := [(3, .ref q9), (0, .ref a_p0), (1, .int i1), (2, .ref a_p2)]) hx hb dL_hoursTo_12 rfl hl (Nat.le_of_ble_eq_true rfl) rfl (fun ls hl => ?_)
      refine lv_iconst (v := 1) hx hb dL_hoursTo_13 (by decide) ?_
      cases hf
      exact hE _ _ _ _ hW dL_hoursTo_14
    replace hf := rn_f hf hk0
    cases hf
  · replace hf := rn_t hf hk
    refine lv_i2l (v := t1.2.1.toInt64) hx hb dL_hoursTo_7 rfl ?_
    obtain ⟨w1, hw1, hf⟩ := rn_let_s hf
    refine rr_last' X hW 31 rfl rn_in01 hw1 (ws' := [(a_p0, .inr (6, [.ref a_p0_setup, .int c_p0_latestError, .int c_p0_latestErrorPosition, .ref a_p0_net, .ref a_p0_trial, .ref a_p0_saved, .ref a_p0_line])), (a_p0_net, .inr (2, [.ref a_p0_net_stations, .ref a_p0_net_links, .ref a_p0_net_messages, .ref a_p0_net_copies, .ref a_p0_net_log, .ref a_p0_net_ways, .ref a_p0_net_frames, .int c_p0_net_stationCount, .int c_p0_net_linkCount, .int c_p0_net_messageCount, .int c_p0_net_time, .int c_p0_net_life, .int c_p0_net_tries, .int c_p0_net_x])), (a_p0_net_stations, .inr (4, [.int (8 : Int32), .int (10 : Int32), .ref a_p0_net_stations_cells])), (a_p0_net_stations_cells, .inl (k 0, 80, .inl c_p0_net_stations)), (a_p0_net_links, .inr (4, [.int (16 : Int32), .int (9 : Int32), .ref a_p0_net_links_cells])), (a_p0_net_links_cells, .inl (k 0, 144, .inl c_p0_net_links)), (a_p0_net_messages, .inr (4, [.int (24 : Int32), .int (12 : Int32), .ref a_p0_net_messages_cells])), (a_p0_net_messages_cells, .inl (k 0, 288, .inl c_p0_net_messages)), (a_p0_net_copies, .inr (4, [.int (192 : Int32), .int (5 : Int32), .ref a_p0_net_copies_cells])), (a_p0_net_copies_cells, .inl (k 0, 960, .inl c_p0_net_copies)), (a_p0_net_log, .inr (0, [.ref a_p0_net_log_events, .int c_p0_net_log_first, .int c_p0_net_log_size])), (a_p0_net_log_events, .inr (4, [.int (40 : Int32), .int (5 : Int32), .ref a_p0_net_log_events_cells])), (a_p0_net_log_events_cells, .inl (k 0, 200, .inl c_p0_net_log_events)), (a_p0_net_ways, .inr (5, [.ref a_p0_net_ways_heard, .int c_p0_net_ways_arrival, .int c_p0_net_ways_fewest, .int c_p0_net_ways_next])), (a_p0_net_ways_heard, .inl (k 1, 24, .inr (.inl c_p0_net_ways_heard))), (a_p0_trial, .inr (2, [.ref a_p0_trial_stations, .ref a_p0_trial_links, .ref a_p0_trial_messages, .ref a_p0_trial_copies, .ref a_p0_trial_log, .ref a_p0_trial_ways, .ref a_p0_trial_frames, .int t1.2.2.1, .int t1.2.2.2.1, .int t1.2.2.2.2.1, .int t1.2.2.2.2.2.1, .int t1.2.2.2.2.2.2.1, .int t1.2.2.2.2.2.2.2.1, .int t1.2.2.2.2.2.2.2.2.1])), (a_p0_trial_stations, .inr (4, [.int (8 : Int32), .int (10 : Int32), .ref a_p0_trial_stations_cells])), (a_p0_trial_stations_cells, .inl (k 0, 80, .inl t1.2.2.2.2.2.2.2.2.2.1)), (a_p0_trial_links, .inr (4, [.int (16 : Int32), .int (9 : Int32), .ref a_p0_trial_links_cells])), (a_p0_trial_links_cells, .inl (k 0, 144, .inl t1.2.2.2.2.2.2.2.2.2.2.1)), (a_p0_trial_messages, .inr (4, [.int (24 : Int32), .int (12 : Int32), .ref a_p0_trial_messages_cells])), (a_p0_trial_messages_cells, .inl (k 0, 288, .inl t1.2.2.2.2.2.2.2.2.2.2.2.1)), (a_p0_trial_copies, .inr (4, [.int (192 : Int32), .int (5 : Int32), .ref a_p0_trial_copies_cells])), (a_p0_trial_copies_cells, .inl (k 0, 960, .inl t1.2.2.2.2.2.2.2.2.2.2.2.2.1)), (a_p0_trial_log, .inr (0, [.ref a_p0_trial_log_events, .int t1.2.2.2.2.2.2.2.2.2.2.2.2.2.1, .int t1.2.2.2.2.2.2.2.2.2.2.2.2.2.2.1])), (a_p0_trial_log_events, .inr (4, [.int (40 : Int32), .int (5 : Int32), .ref a_p0_trial_log_events_cells])), (a_p0_trial_log_events_cells, .inl (k 0, 200, .inl t1.2.2.2.2.2.2.2.2.2.2.2.2.2.2.2.1)), (a_p0_trial_ways, .inr (5, [.ref a_p0_trial_ways_heard, .int t1.2.2.2.2.2.2.2.2.2.2.2.2.2.2.2.2.1, .int t1.2.2.2.2.2.2.2.2.2.2.2.2.2.2.2.2.2.1, .int t1.2.2.2.2.2.2.2.2.2.2.2.2.2.2.2.2.2.2.1])), (a_p0_trial_ways_heard, .inl (k 1, 24, .inr (.inl t1.2.2.2.2.2.2.2.2.2.2.2.2.2.2.2.2.2.2.2.1))), (a_p0_trial_frames, .inr (4, [.int (9 : Int32), .int (2 : Int32), .ref a_p0_trial_frames_cells])), (a_p0_trial_frames_cells, .inl (k 0, 18, .inl t1.2.2.2.2.2.2.2.2.2.2.2.2.2.2.2.2.2.2.2.2)), (a_p2, .inl (k 1, 1, .inr (.inl w1)))]) rfl dL_hoursTo_8 (fun H locs hW => ?_)
    refine lv_goto (tgt := 15) hx hb dL_hoursTo_9 (by decide) ?_
    refine lv_iconst (v := 0) hx hb dL_hoursTo_15 (by decide) ?_
    cases hf
    exact hE _ _ _ _ hW dL_hoursTo_16
def fL_event (c_p0_net_log_first : Int32) (c_p0_net_log_size : Int32) (c_p0_net_log_events : Nat → Int32) (c_p3 : Nat → Int64) (i1 : Int32) (i2 : Int32) : Option (Int32 × (Nat → Int64)) :=
  (fX6_event c_p0_net_log_first c_p0_net_log_size c_p0_net_log_events i1 i2).bind fun t1 =>
  if t1.1 = 0 then
    rn_let (vp_updL c_p3 (0 : Int32).toNatClampNeg t1.2.toInt64) fun w1 =>
    some ((0 : Int32), w1)
  else
  if t1.1 = 3 then
    some ((1 : Int32), c_p3)
  else
  if t1.1 = 1 then
    some ((2 : Int32), c_p3)
  else
  none
set_option maxHeartbeats 4000000 in
set_option maxRecDepth 20000 in
theorem kL_event (l : Launch) (D : va_G) (k : Nat → ClassId) (z : (Nat → Nat) × (Nat → Nat)) (a_p0 : Nat) (a_p3 : Nat) (a_p0_setup : Nat) (a_p0_net : Nat) (a_p0_trial : Nat) (a_p0_saved : Nat) (a_p0_line : Nat) (a_p0_net_stations : Nat) (a_p0_net_links : Nat) (a_p0_net_messages : Nat) (a_p0_net_copies : Nat) (a_p0_net_log : Nat) (a_p0_net_ways : Nat) (a_p0_net_frames : Nat) (a_p0_net_log_events : Nat) (a_p0_net_log_events_cells : Nat) (c_p0_latestError : Int32) (c_p0_latestErrorPosition : Int32) (c_p0_net_stationCount : Int32) (c_p0_net_linkCount : Int32) (c_p0_net_messageCount : Int32) (c_p0_net_time : Int32) (c_p0_net_life : Int32) (c_p0_net_tries : Int32) (c_p0_net_x : Int32) (c_p0_net_log_first : Int32) (c_p0_net_log_size : Int32) (c_p0_net_log_events : Nat → Int32) (c_p3 : Nat → Int64) (i1 : Int32) (i2 : Int32) {u : Int32 × (Nat → Int64)} (hf : fL_event c_p0_net_log_first c_p0_net_log_size c_p0_net_log_events c_p3 i1 i2 = some u) : rn_KW l D k z yL_event cL_event 5 hhL_event 7 104 [.ref a_p0, .int i1, .int i2, .ref a_p3] [(a_p0, .inr (6, [.ref a_p0_setup, .int c_p0_latestError, .int c_p0_latestErrorPosition, .ref a_p0_net, .ref a_p0_trial, .ref a_p0_saved, .ref a_p0_line])), (a_p0_net, .inr (2, [.ref a_p0_net_stations, .ref a_p0_net_links, .ref a_p0_net_messages, .ref a_p0_net_copies, .ref a_p0_net_log, .ref a_p0_net_ways, .ref a_p0_net_frames, .int c_p0_net_stationCount, .int c_p0_net_linkCount, .int c_p0_net_messageCount, .int c_p0_net_time, .int c_p0_net_life, .int c_p0_net_tries, .int c_p0_net_x])), (a_p0_net_log, .inr (0, [.ref a_p0_net_log_events, .int c_p0_net_log_first, .int c_p0_net_log_size])), (a_p0_net_log_events, .inr (4, [.int (40 : Int32), .int (5 : Int32), .ref a_p0_net_log_events_cells])), (a_p0_net_log_events_cells, .inl (k 0, 200, .inl c_p0_net_log_events)), (a_p3, .inl (k 1, 1, .inr (.inl c_p3)))] [(a_p0, .inr (6, [.ref a_p0_setup, .int c_p0_latestError, .int c_p0_latestErrorPosition, .ref a_p0_net, .ref a_p0_trial, .ref a_p0_saved, .ref a_p0_line])), (a_p0_net, .inr (2, [.ref a_p0_net_stations, .ref a_p0_net_links, .ref a_p0_net_messages, .ref a_p0_net_copies, .ref a_p0_net_log, .ref a_p0_net_ways, .ref a_p0_net_frames, .int c_p0_net_stationCount, .int c_p0_net_linkCount, .int c_p0_net_messageCount, .int c_p0_net_time, .int c_p0_net_life, .int c_p0_net_tries, .int c_p0_net_x])), (a_p0_net_log, .inr (0, [.ref a_p0_net_log_events, .int c_p0_net_log_first, .int c_p0_net_log_size])), (a_p0_net_log_events, .inr (4, [.int (40 : Int32), .int (5 : Int32), .ref a_p0_net_log_events_cells])), (a_p0_net_log_events_cells, .inl (k 0, 200, .inl c_p0_net_log_events)), (a_p3, .inl (k 1, 1, .inr (.inl u.2)))] u.1 := by
  refine rn_KW.go (LOC := [(0, .ref a_p0), (1, .int i1), (2, .int i2), (3, .ref a_p3)]) rfl (by decide) (Nat.le_of_ble_eq_true rfl) rfl ?_
  intro p e s m args below meth c A ls R Q hst hxc htab X hR hE hW hl
  have hx := X.1.1
  have hb := X.1.2.1
  have hts := X.1.2.2.2.2
  unfold fL_event at hf
  obtain ⟨t1, ht1, hf⟩ := rn_bind hf
  refine lv_aload_n hx hb dL_event_0 rfl (lv_at hl 3 rfl) ?_
  refine lv_iconst (v := 0) hx hb dL_event_1 (by decide) ?_
  refine lv_aload_n hx hb dL_event_2 rfl (lv_at hl 0 rfl) ?_
  refine lv_iload_n hx hb dL_event_3 rfl (lv_at hl 1 rfl) ?_
  refine lv_iload_n hx hb dL_event_4 rfl (lv_at hl 2 rfl) ?_
  refine rr_xcallI (As := [.int i1, .int i2]) (rest := [.int (0 : Int32), .ref a_p3]) X hxc hst hW (kX6_event l D k z a_p0 a_p0_setup a_p0_net a_p0_trial a_p0_saved a_p0_line a_p0_net_stations a_p0_net_links a_p0_net_messages a_p0_net_copies a_p0_net_log a_p0_net_ways a_p0_net_frames a_p0_net_log_events a_p0_net_log_events_cells c_p0_latestError c_p0_latestErrorPosition c_p0_net_stationCount c_p0_net_linkCount c_p0_net_messageCount c_p0_net_time c_p0_net_life c_p0_net_tries c_p0_net_x c_p0_net_log_first c_p0_net_log_size c_p0_net_log_events i1 i2 ht1) gm_X6_event gl_L_84 [0, 1, 2, 3, 4] [5] [(a_p0, .inr (6, [.ref a_p0_setup, .int c_p0_latestError, .int c_p0_latestErrorPosition, .ref a_p0_net, .ref a_p0_trial, .ref a_p0_saved, .ref a_p0_line])), (a_p0_net, .inr (2, [.ref a_p0_net_stations, .ref a_p0_net_links, .ref a_p0_net_messages, .ref a_p0_net_copies, .ref a_p0_net_log, .ref a_p0_net_ways, .ref a_p0_net_frames, .int c_p0_net_stationCount, .int c_p0_net_linkCount, .int c_p0_net_messageCount, .int c_p0_net_time, .int c_p0_net_life, .int c_p0_net_tries, .int c_p0_net_x])), (a_p0_net_log, .inr (0, [.ref a_p0_net_log_events, .int c_p0_net_log_first, .int c_p0_net_log_size])), (a_p0_net_log_events, .inr (4, [.int (40 : Int32), .int (5 : Int32), .ref a_p0_net_log_events_cells])), (a_p0_net_log_events_cells, .inl (k 0, 200, .inl c_p0_net_log_events)), (a_p3, .inl (k 1, 1, .inr (.inl c_p3)))] rfl rfl rfl rfl ⟨rfl, rfl, rn_Bw (wr := [(a_p3, .inl (k 1, 1, .inr (.inl c_p3)))]) rfl rfl, rfl, rfl⟩ (rn_rT hR rfl) (rn_cs1 hR) hl.1 rfl (Nat.le_of_ble_eq_true rfl) dL_event_5 (fun hk H locs q9 ce hW hq9 hv hcl => ?_) (fun hk hn H locs hW => ?_)
  · replace hf := rn_f hf hk
    by_cases hk0 : t1.1 = 3
    · replace hf := rn_t hf hk0
      rw [hk0] at hcl
      refine vx_catch (name := rn_ex 3) X.1.2.2.2.1 [] (⟨0, 10, 13, 28⟩ : ExceptionTableEntry) [(⟨0, 10, 17, 18⟩ : ExceptionTableEntry)] (htab.trans rfl) (fun z hz => nomatch hz) (by decide) (by decide) (hts _ qc_3) (va_any rfl hxc.2.1.2.2) hq9 hv hcl ?_
      refine lv_astore (lv' := [(4, .ref q9), (0, .ref a_p0), (1, .int i1), (2, .int i2), (3, .ref a_p3)]) hx hb dL_event_13 hl (Nat.le_of_ble_eq_true rfl) rfl (fun ls hl => ?_)
      refine lv_iconst (v := 1) hx hb dL_event_15 (by decide) ?_
      cases hf
      exact hE _ _ _ _ hW dL_event_16
    replace hf := rn_f hf hk0
    by_cases hk1 : t1.1 = 1
    · replace hf := rn_t hf hk1
      rw [hk1] at hcl
      refine vx_catch (name := rn_ex 1) X.1.2.2.2.1 [(⟨0, 10, 13, 28⟩ : ExceptionTableEntry)] (⟨0, 10, 17, 18⟩ : ExceptionTableEntry) [] (htab.trans rfl) (fun z hz => by rcases List.mem_singleton.mp hz with rfl; exact Or.inr ⟨by decide, rn_ex 3, hts _ qc_3, hxc.2.2.1.2⟩) (by decide) (by decide) (hts _ qc_1) (va_any rfl hxc.2.1.1) hq9 hv hcl ?_
      refine lv_astore (lv' := [(4, .ref q9), (0, .ref a_p0), (1, .int i1), (2, .int i2), (3, .ref a_p3)]) hx hb dL_event_17 hl (Nat.le_of_ble_eq_true rfl) rfl (fun ls hl => ?_)
      refine lv_iconst (v := 2) hx hb dL_event_19 (by decide) ?_
      cases hf
      exact hE _ _ _ _ hW dL_event_20
    replace hf := rn_f hf hk1
    cases hf
  · replace hf := rn_t hf hk
    refine lv_i2l (v := t1.2.toInt64) hx hb dL_event_8 rfl ?_
    obtain ⟨w1, hw1, hf⟩ := rn_let_s hf
    refine rr_last' X hW 5 rfl rn_in01 hw1 (ws' := [(a_p0, .inr (6, [.ref a_p0_setup, .int c_p0_latestError, .int c_p0_latestErrorPosition, .ref a_p0_net, .ref a_p0_trial, .ref a_p0_saved, .ref a_p0_line])), (a_p0_net, .inr (2, [.ref a_p0_net_stations, .ref a_p0_net_links, .ref a_p0_net_messages, .ref a_p0_net_copies, .ref a_p0_net_log, .ref a_p0_net_ways, .ref a_p0_net_frames, .int c_p0_net_stationCount, .int c_p0_net_linkCount, .int c_p0_net_messageCount, .int c_p0_net_time, .int c_p0_net_life, .int c_p0_net_tries, .int c_p0_net_x])), (a_p0_net_log, .inr (0, [.ref a_p0_net_log_events, .int c_p0_net_log_first, .int c_p0_net_log_size])), (a_p0_net_log_events, .inr (4, [.int (40 : Int32), .int (5 : Int32), .ref a_p0_net_log_events_cells])), (a_p0_net_log_events_cells, .inl (k 0, 200, .inl c_p0_net_log_events)), (a_p3, .inl (k 1, 1, .inr (.inl w1)))]) rfl dL_event_9 (fun H locs hW => ?_)
    refine lv_goto (tgt := 21) hx hb dL_event_10 (by decide) ?_
    refine lv_iconst (v := 0) hx hb dL_event_21 (by decide) ?_
    cases hf
    exact hE _ _ _ _ hW dL_event_22
def fL_write (N : Nat) (c_p0_net_log_first : Int32) (c_p0_net_log_size : Int32) (c_p0_net_log_events : Nat → Int32) (c_p0_line_length : Int32) (c_p0_line_bytes : Nat → Int32) (c_p2 : Nat → Int64) (i1 : Int32) : Option (Int32 × Int32 × (Nat → Int32) × (Nat → Int64)) :=
  (fX6_write N c_p0_net_log_first c_p0_net_log_size c_p0_net_log_events c_p0_line_length c_p0_line_bytes i1).bind fun t1 =>
  if t1.1 = 0 then
    rn_let (vp_updL c_p2 (0 : Int32).toNatClampNeg t1.2.1.toInt64) fun w1 =>
    some ((0 : Int32), t1.2.2.1, t1.2.2.2, w1)
  else
  if t1.1 = 3 then
    some ((1 : Int32), t1.2.2.1, t1.2.2.2, c_p2)
  else
  none
set_option maxHeartbeats 4000000 in
set_option maxRecDepth 20000 in
theorem kL_write (l : Launch) (D : va_G) (k : Nat → ClassId) (z : (Nat → Nat) × (Nat → Nat)) (N : Nat) (a_p0 : Nat) (a_p2 : Nat) (a_p0_setup : Nat) (a_p0_net : Nat) (a_p0_trial : Nat) (a_p0_saved : Nat) (a_p0_line : Nat) (a_p0_net_stations : Nat) (a_p0_net_links : Nat) (a_p0_net_messages : Nat) (a_p0_net_copies : Nat) (a_p0_net_log : Nat) (a_p0_net_ways : Nat) (a_p0_net_frames : Nat) (a_p0_net_log_events : Nat) (a_p0_net_log_events_cells : Nat) (a_p0_line_bytes : Nat) (c_p0_latestError : Int32) (c_p0_latestErrorPosition : Int32) (c_p0_net_stationCount : Int32) (c_p0_net_linkCount : Int32) (c_p0_net_messageCount : Int32) (c_p0_net_time : Int32) (c_p0_net_life : Int32) (c_p0_net_tries : Int32) (c_p0_net_x : Int32) (c_p0_net_log_first : Int32) (c_p0_net_log_size : Int32) (c_p0_net_log_events : Nat → Int32) (c_p0_line_length : Int32) (c_p0_line_bytes : Nat → Int32) (c_p2 : Nat → Int64) (i1 : Int32) {u : Int32 × Int32 × (Nat → Int32) × (Nat → Int64)} (hf : fL_write N c_p0_net_log_first c_p0_net_log_size c_p0_net_log_events c_p0_line_length c_p0_line_bytes c_p2 i1 = some u) : rn_KW l D k z yL_write cL_write 4 hhL_write 7 129 [.ref a_p0, .int i1, .ref a_p2] [(a_p0, .inr (6, [.ref a_p0_setup, .int c_p0_latestError, .int c_p0_latestErrorPosition, .ref a_p0_net, .ref a_p0_trial, .ref a_p0_saved, .ref a_p0_line])), (a_p0_net, .inr (2, [.ref a_p0_net_stations, .ref a_p0_net_links, .ref a_p0_net_messages, .ref a_p0_net_copies, .ref a_p0_net_log, .ref a_p0_net_ways, .ref a_p0_net_frames, .int c_p0_net_stationCount, .int c_p0_net_linkCount, .int c_p0_net_messageCount, .int c_p0_net_time, .int c_p0_net_life, .int c_p0_net_tries, .int c_p0_net_x])), (a_p0_net_log, .inr (0, [.ref a_p0_net_log_events, .int c_p0_net_log_first, .int c_p0_net_log_size])), (a_p0_net_log_events, .inr (4, [.int (40 : Int32), .int (5 : Int32), .ref a_p0_net_log_events_cells])), (a_p0_net_log_events_cells, .inl (k 0, 200, .inl c_p0_net_log_events)), (a_p0_line, .inr (1, [.ref a_p0_line_bytes, .int c_p0_line_length])), (a_p0_line_bytes, .inl (k 2, 64, .inl c_p0_line_bytes)), (a_p2, .inl (k 1, 1, .inr (.inl c_p2)))] [(a_p0, .inr (6, [.ref a_p0_setup, .int c_p0_latestError, .int c_p0_latestErrorPosition, .ref a_p0_net, .ref a_p0_trial, .ref a_p0_saved, .ref a_p0_line])), (a_p0_net, .inr (2, [.ref a_p0_net_stations, .ref a_p0_net_links, .ref a_p0_net_messages, .ref a_p0_net_copies, .ref a_p0_net_log, .ref a_p0_net_ways, .ref a_p0_net_frames, .int c_p0_net_stationCount, .int c_p0_net_linkCount, .int c_p0_net_messageCount, .int c_p0_net_time, .int c_p0_net_life, .int c_p0_net_tries, .int c_p0_net_x])), (a_p0_net_log, .inr (0, [.ref a_p0_net_log_events, .int c_p0_net_log_first, .int c_p0_net_log_size])), (a_p0_net_log_events, .inr (4, [.int (40 : Int32), .int (5 : Int32), .ref a_p0_net_log_events_cells])), (a_p0_net_log_events_cells, .inl (k 0, 200, .inl c_p0_net_log_events)), (a_p0_line, .inr (1, [.ref a_p0_line_bytes, .int u.2.1])), (a_p0_line_bytes, .inl (k 2, 64, .inl u.2.2.1)), (a_p2, .inl (k 1, 1, .inr (.inl u.2.2.2)))] u.1 := by
  refine rn_KW.go (LOC := [(0, .ref a_p0), (1, .int i1), (2, .ref a_p2)]) rfl (by decide) (Nat.le_of_ble_eq_true rfl) rfl ?_
  intro p e s m args below meth c A ls R Q hst hxc htab X hR hE hW hl
  have hx := X.1.1
  have hb := X.1.2.1
  have hts := X.1.2.2.2.2
  unfold fL_write at hf
  obtain ⟨t1, ht1, hf⟩ := rn_bind hf
  refine lv_aload_n hx hb dL_write_0 rfl (lv_at hl 2 rfl) ?_
  refine lv_iconst (v := 0) hx hb dL_write_1 (by decide) ?_
  refine lv_aload_n hx hb dL_write_2 rfl (lv_at hl 0 rfl) ?_
  refine lv_iload_n hx hb dL_write_3 rfl (lv_at hl 1 rfl) ?_
  refine rr_xcallI (As := [.int i1]) (rest := [.int (0 : Int32), .ref a_p2]) X hxc hst hW (kX6_write l D k z N a_p0 a_p0_setup a_p0_net a_p0_trial a_p0_saved a_p0_line a_p0_net_stations a_p0_net_links a_p0_net_messages a_p0_net_copies a_p0_net_log a_p0_net_ways a_p0_net_frames a_p0_net_log_events a_p0_net_log_events_cells a_p0_line_bytes c_p0_latestError c_p0_latestErrorPosition c_p0_net_stationCount c_p0_net_linkCount c_p0_net_messageCount c_p0_net_time c_p0_net_life c_p0_net_tries c_p0_net_x c_p0_net_log_first c_p0_net_log_size c_p0_net_log_events c_p0_line_length c_p0_line_bytes i1 ht1) gm_X6_write gl_L_87 [0, 1, 2, 3, 4, 5, 6] [7] [(a_p0, .inr (6, [.ref a_p0_setup, .int c_p0_latestError, .int c_p0_latestErrorPosition, .ref a_p0_net, .ref a_p0_trial, .ref a_p0_saved, .ref a_p0_line])), (a_p0_net, .inr (2, [.ref a_p0_net_stations, .ref a_p0_net_links, .ref a_p0_net_messages, .ref a_p0_net_copies, .ref a_p0_net_log, .ref a_p0_net_ways, .ref a_p0_net_frames, .int c_p0_net_stationCount, .int c_p0_net_linkCount, .int c_p0_net_messageCount, .int c_p0_net_time, .int c_p0_net_life, .int c_p0_net_tries, .int c_p0_net_x])), (a_p0_net_log, .inr (0, [.ref a_p0_net_log_events, .int c_p0_net_log_first, .int c_p0_net_log_size])), (a_p0_net_log_events, .inr (4, [.int (40 : Int32), .int (5 : Int32), .ref a_p0_net_log_events_cells])), (a_p0_net_log_events_cells, .inl (k 0, 200, .inl c_p0_net_log_events)), (a_p0_line, .inr (1, [.ref a_p0_line_bytes, .int t1.2.2.1])), (a_p0_line_bytes, .inl (k 2, 64, .inl t1.2.2.2)), (a_p2, .inl (k 1, 1, .inr (.inl c_p2)))] rfl rfl rfl rfl ⟨rfl, rfl, rn_Bw (wr := [(a_p2, .inl (k 1, 1, .inr (.inl c_p2)))]) rfl rfl, rfl, rfl⟩ (rn_rT hR rfl) (rn_cs1 hR) hl.1 rfl (Nat.le_of_ble_eq_true rfl) dL_write_4 (fun hk H locs q9 ce hW hq9 hv hcl => ?_) (fun hk hn H locs hW => ?_)
  · replace hf := rn_f hf hk
    by_cases hk0 : t1.1 = 3
    · replace hf := rn_t hf hk0
      rw [hk0] at hcl
      refine vx_catch (name := rn_ex 3) X.1.2.2.2.1 [] (⟨0, 9, 12, 28⟩ : ExceptionTableEntry) [] (htab.trans rfl) (fun z hz => nomatch hz) (by decide) (by decide) (hts _ qc_3) (va_any rfl hxc.2.1.2.2) hq9 hv hcl ?_
      refine lv_astore_n (lv' := [(3, .ref q9), (0, .ref a_p0), (1, .int i1), (2, .ref a_p2)]) hx hb dL_write_12 rfl hl (Nat.le_of_ble_eq_true rfl) rfl (fun ls hl => ?_)
      refine lv_iconst (v := 1) hx hb dL_write_13 (by decide) ?_
      cases hf
      exact hE _ _ _ _ hW dL_write_14
    replace hf := rn_f hf hk0
    cases hf
  · replace hf := rn_t hf hk
    refine lv_i2l (v := t1.2.1.toInt64) hx hb dL_write_7 rfl ?_
    obtain ⟨w1, hw1, hf⟩ := rn_let_s hf
    refine rr_last' X hW 7 rfl rn_in01 hw1 (ws' := [(a_p0, .inr (6, [.ref a_p0_setup, .int c_p0_latestError, .int c_p0_latestErrorPosition, .ref a_p0_net, .ref a_p0_trial, .ref a_p0_saved, .ref a_p0_line])), (a_p0_net, .inr (2, [.ref a_p0_net_stations, .ref a_p0_net_links, .ref a_p0_net_messages, .ref a_p0_net_copies, .ref a_p0_net_log, .ref a_p0_net_ways, .ref a_p0_net_frames, .int c_p0_net_stationCount, .int c_p0_net_linkCount, .int c_p0_net_messageCount, .int c_p0_net_time, .int c_p0_net_life, .int c_p0_net_tries, .int c_p0_net_x])), (a_p0_net_log, .inr (0, [.ref a_p0_net_log_events, .int c_p0_net_log_first, .int c_p0_net_log_size])), (a_p0_net_log_events, .inr (4, [.int (40 : Int32), .int (5 : Int32), .ref a_p0_net_log_events_cells])), (a_p0_net_log_events_cells, .inl (k 0, 200, .inl c_p0_net_log_events)), (a_p0_line, .inr (1, [.ref a_p0_line_bytes, .int t1.2.2.1])), (a_p0_line_bytes, .inl (k 2, 64, .inl t1.2.2.2)), (a_p2, .inl (k 1, 1, .inr (.inl w1)))]) rfl dL_write_8 (fun H locs hW => ?_)
    refine lv_goto (tgt := 15) hx hb dL_write_9 (by decide) ?_
    refine lv_iconst (v := 0) hx hb dL_write_15 (by decide) ?_
    cases hf
    exact hE _ _ _ _ hW dL_write_16
