/-! the law's wrappers (generated, wip/p36/gen/wrap36.py) -/
theorem rn_m0 {β : Type} {f g : Nat → β} : ([] : List Nat).map f = ([] : List Nat).map g := rfl
def fL_addStation (c_p0_net_stationCount : Int32) (c_p0_net_stations : Nat → Int32) (i1 : Int32) (i2 : Int32) (i3 : Int32) : Option (Nat × Int32 × Int32 × (Nat → Int32)) :=
  (fX6_addStation c_p0_net_stationCount c_p0_net_stations i1 i2 i3).bind fun t1 =>
  if t1.1 = 0 then
    some (t1.1, t1.2.1, t1.2.2.1, t1.2.2.2)
  else
  if t1.1 = 1 then
    some (t1.1, (-102 : Int32), t1.2.2.1, t1.2.2.2)
  else
  if t1.1 = 2 then
    some (t1.1, (-103 : Int32), t1.2.2.1, t1.2.2.2)
  else
  none
set_option maxHeartbeats 4000000 in
set_option maxRecDepth 20000 in
theorem kL_addStation (l : Launch) (D : va_G) (k : Nat → ClassId) (z : (Nat → Nat) × (Nat → Nat)) (a_p0 : Nat) (a_p0_setup : Nat) (a_p0_net : Nat) (a_p0_trial : Nat) (a_p0_saved : Nat) (a_p0_line : Nat) (a_p0_net_stations : Nat) (a_p0_net_links : Nat) (a_p0_net_messages : Nat) (a_p0_net_copies : Nat) (a_p0_net_log : Nat) (a_p0_net_ways : Nat) (a_p0_net_frames : Nat) (a_p0_net_stations_cells : Nat) (c_p0_latestError : Int32) (c_p0_latestErrorPosition : Int32) (c_p0_net_stationCount : Int32) (c_p0_net_linkCount : Int32) (c_p0_net_messageCount : Int32) (c_p0_net_time : Int32) (c_p0_net_life : Int32) (c_p0_net_tries : Int32) (c_p0_net_x : Int32) (c_p0_net_stations : Nat → Int32) (i1 : Int32) (i2 : Int32) (i3 : Int32) {u : Nat × Int32 × Int32 × (Nat → Int32)} (hf : fL_addStation c_p0_net_stationCount c_p0_net_stations i1 i2 i3 = some u) : rn_KW l D k z yL_addStation cL_addStation 5 hhL_addStation 7 105 [.ref a_p0, .int i1, .int i2, .int i3] [(a_p0, .inr (6, [.ref a_p0_setup, .int c_p0_latestError, .int c_p0_latestErrorPosition, .ref a_p0_net, .ref a_p0_trial, .ref a_p0_saved, .ref a_p0_line])), (a_p0_net, .inr (2, [.ref a_p0_net_stations, .ref a_p0_net_links, .ref a_p0_net_messages, .ref a_p0_net_copies, .ref a_p0_net_log, .ref a_p0_net_ways, .ref a_p0_net_frames, .int c_p0_net_stationCount, .int c_p0_net_linkCount, .int c_p0_net_messageCount, .int c_p0_net_time, .int c_p0_net_life, .int c_p0_net_tries, .int c_p0_net_x])), (a_p0_net_stations, .inr (4, [.int (8 : Int32), .int (10 : Int32), .ref a_p0_net_stations_cells])), (a_p0_net_stations_cells, .inl (k 0, 80, .inl c_p0_net_stations))] [(a_p0, .inr (6, [.ref a_p0_setup, .int c_p0_latestError, .int c_p0_latestErrorPosition, .ref a_p0_net, .ref a_p0_trial, .ref a_p0_saved, .ref a_p0_line])), (a_p0_net, .inr (2, [.ref a_p0_net_stations, .ref a_p0_net_links, .ref a_p0_net_messages, .ref a_p0_net_copies, .ref a_p0_net_log, .ref a_p0_net_ways, .ref a_p0_net_frames, .int u.2.2.1, .int c_p0_net_linkCount, .int c_p0_net_messageCount, .int c_p0_net_time, .int c_p0_net_life, .int c_p0_net_tries, .int c_p0_net_x])), (a_p0_net_stations, .inr (4, [.int (8 : Int32), .int (10 : Int32), .ref a_p0_net_stations_cells])), (a_p0_net_stations_cells, .inl (k 0, 80, .inl u.2.2.2))] u.1 u.2.1 := by
  refine rn_KW.go (LOC := [(0, .ref a_p0), (1, .int i1), (2, .int i2), (3, .int i3)]) rfl (by decide) (Nat.le_of_ble_eq_true rfl) rfl ?_
  intro p e s m args below meth c A ls R Q hst hxc htab X hR hE hW hl
  have hx := X.1.1
  have hb := X.1.2.1
  have hts := X.1.2.2.2.2
  unfold fL_addStation at hf
  obtain ⟨t1, ht1, hf⟩ := rn_bind hf
  have hu : t1.1 = u.1 := by
    revert hf
    repeat' split
    all_goals (intro hf; first | (cases hf; done) | (cases hf; rfl))
  rw [← hu] at hR hE
  refine lv_aload_n hx hb dL_addStation_0 rfl (lv_at hl 0 rfl) ?_
  refine lv_iload_n hx hb dL_addStation_1 rfl (lv_at hl 1 rfl) ?_
  refine lv_iload_n hx hb dL_addStation_2 rfl (lv_at hl 2 rfl) ?_
  refine lv_iload_n hx hb dL_addStation_3 rfl (lv_at hl 3 rfl) ?_
  refine rr_xcallI (As := [.int i1, .int i2, .int i3]) (rest := []) X hxc hst hW (kX6_addStation l D k z a_p0 a_p0_setup a_p0_net a_p0_trial a_p0_saved a_p0_line a_p0_net_stations a_p0_net_links a_p0_net_messages a_p0_net_copies a_p0_net_log a_p0_net_ways a_p0_net_frames a_p0_net_stations_cells c_p0_latestError c_p0_latestErrorPosition c_p0_net_stationCount c_p0_net_linkCount c_p0_net_messageCount c_p0_net_time c_p0_net_life c_p0_net_tries c_p0_net_x c_p0_net_stations i1 i2 i3 ht1) gm_X6_addStation gl_L_42 [0, 1, 2, 3] [] [(a_p0, .inr (6, [.ref a_p0_setup, .int c_p0_latestError, .int c_p0_latestErrorPosition, .ref a_p0_net, .ref a_p0_trial, .ref a_p0_saved, .ref a_p0_line])), (a_p0_net, .inr (2, [.ref a_p0_net_stations, .ref a_p0_net_links, .ref a_p0_net_messages, .ref a_p0_net_copies, .ref a_p0_net_log, .ref a_p0_net_ways, .ref a_p0_net_frames, .int t1.2.2.1, .int c_p0_net_linkCount, .int c_p0_net_messageCount, .int c_p0_net_time, .int c_p0_net_life, .int c_p0_net_tries, .int c_p0_net_x])), (a_p0_net_stations, .inr (4, [.int (8 : Int32), .int (10 : Int32), .ref a_p0_net_stations_cells])), (a_p0_net_stations_cells, .inl (k 0, 80, .inl t1.2.2.2))] rfl rfl rfl rfl ⟨rfl, rfl, rn_m0, rfl, rfl⟩ (rn_rT hR rfl) (rn_cs1 hR) hl.1 rfl (Nat.le_of_ble_eq_true rfl) dL_addStation_4 (fun hk H locs q9 ce hW hq9 hv hcl => ?_) (fun hk _ H locs hW => ?_)
  · replace hf := rn_f hf hk
    by_cases hk0 : t1.1 = 1
    · replace hf := rn_t hf hk0
      rw [hk0] at hcl
      refine vx_catch (name := rn_ex 1) X.1.2.2.2.1 [] (⟨0, 7, 8, 46⟩ : ExceptionTableEntry) [(⟨0, 7, 13, 48⟩ : ExceptionTableEntry)] (htab.trans rfl) (fun z hz => nomatch hz) (by decide) (by decide) (hts _ qc_1) (va_any rfl hxc.2.1.1) hq9 hv hcl ?_
      refine lv_astore (lv' := [(4, .ref q9), (0, .ref a_p0), (1, .int i1), (2, .int i2), (3, .int i3)]) hx hb dL_addStation_8 hl (Nat.le_of_ble_eq_true rfl) rfl (fun ls hl => ?_)
      refine lv_bipush (v := -102) hx hb dL_addStation_10 (by decide) ?_
      cases hf
      exact hE _ _ _ _ hW dL_addStation_12
    replace hf := rn_f hf hk0
    by_cases hk1 : t1.1 = 2
    · replace hf := rn_t hf hk1
      rw [hk1] at hcl
      refine vx_catch (name := rn_ex 2) X.1.2.2.2.1 [(⟨0, 7, 8, 46⟩ : ExceptionTableEntry)] (⟨0, 7, 13, 48⟩ : ExceptionTableEntry) [] (htab.trans rfl) (fun z hz => by rcases List.mem_singleton.mp hz with rfl; exact Or.inr ⟨by decide, rn_ex 1, hts _ qc_1, hxc.2.2.2.1.1⟩) (by decide) (by decide) (hts _ qc_2) (va_any rfl hxc.2.1.2.1) hq9 hv hcl ?_
      refine lv_astore (lv' := [(4, .ref q9), (0, .ref a_p0), (1, .int i1), (2, .int i2), (3, .int i3)]) hx hb dL_addStation_13 hl (Nat.le_of_ble_eq_true rfl) rfl (fun ls hl => ?_)
      refine lv_bipush (v := -103) hx hb dL_addStation_15 (by decide) ?_
      cases hf
      exact hE _ _ _ _ hW dL_addStation_17
    replace hf := rn_f hf hk1
    cases hf
  · replace hf := rn_t hf hk
    cases hf
    exact hE _ _ _ _ hW dL_addStation_7
def fL_addLink (N : Nat) (c_p0_net_stationCount : Int32) (c_p0_net_linkCount : Int32) (c_p0_net_stations : Nat → Int32) (c_p0_net_links : Nat → Int32) (c_p0_net_ways_heard : Nat → Int64) (i1 : Int32) (i2 : Int32) (i3 : Int32) (i4 : Int32) (i5 : Int32) : Option (Nat × Int32 × Int32 × (Nat → Int32) × (Nat → Int64)) :=
  (fX6_addLink N c_p0_net_stationCount c_p0_net_linkCount c_p0_net_stations c_p0_net_links c_p0_net_ways_heard i1 i2 i3 i4 i5).bind fun t1 =>
  if t1.1 = 0 then
    some (t1.1, t1.2.1, t1.2.2.1, t1.2.2.2.1, t1.2.2.2.2)
  else
  if t1.1 = 3 then
    some (t1.1, (-101 : Int32), t1.2.2.1, t1.2.2.2.1, t1.2.2.2.2)
  else
  if t1.1 = 1 then
    some (t1.1, (-102 : Int32), t1.2.2.1, t1.2.2.2.1, t1.2.2.2.2)
  else
  if t1.1 = 2 then
    some (t1.1, (-103 : Int32), t1.2.2.1, t1.2.2.2.1, t1.2.2.2.2)
  else
  none
set_option maxHeartbeats 4000000 in
set_option maxRecDepth 20000 in
theorem kL_addLink (l : Launch) (D : va_G) (k : Nat → ClassId) (z : (Nat → Nat) × (Nat → Nat)) (N : Nat) (a_p0 : Nat) (a_p0_setup : Nat) (a_p0_net : Nat) (a_p0_trial : Nat) (a_p0_saved : Nat) (a_p0_line : Nat) (a_p0_net_stations : Nat) (a_p0_net_links : Nat) (a_p0_net_messages : Nat) (a_p0_net_copies : Nat) (a_p0_net_log : Nat) (a_p0_net_ways : Nat) (a_p0_net_frames : Nat) (a_p0_net_stations_cells : Nat) (a_p0_net_links_cells : Nat) (a_p0_net_ways_heard : Nat) (c_p0_latestError : Int32) (c_p0_latestErrorPosition : Int32) (c_p0_net_stationCount : Int32) (c_p0_net_linkCount : Int32) (c_p0_net_messageCount : Int32) (c_p0_net_time : Int32) (c_p0_net_life : Int32) (c_p0_net_tries : Int32) (c_p0_net_x : Int32) (c_p0_net_stations : Nat → Int32) (c_p0_net_links : Nat → Int32) (c_p0_net_ways_arrival : Int32) (c_p0_net_ways_fewest : Int32) (c_p0_net_ways_next : Int32) (c_p0_net_ways_heard : Nat → Int64) (i1 : Int32) (i2 : Int32) (i3 : Int32) (i4 : Int32) (i5 : Int32) {u : Nat × Int32 × Int32 × (Nat → Int32) × (Nat → Int64)} (hf : fL_addLink N c_p0_net_stationCount c_p0_net_linkCount c_p0_net_stations c_p0_net_links c_p0_net_ways_heard i1 i2 i3 i4 i5 = some u) : rn_KW l D k z yL_addLink cL_addLink 7 hhL_addLink 7 115 [.ref a_p0, .int i1, .int i2, .int i3, .int i4, .int i5] [(a_p0, .inr (6, [.ref a_p0_setup, .int c_p0_latestError, .int c_p0_latestErrorPosition, .ref a_p0_net, .ref a_p0_trial, .ref a_p0_saved, .ref a_p0_line])), (a_p0_net, .inr (2, [.ref a_p0_net_stations, .ref a_p0_net_links, .ref a_p0_net_messages, .ref a_p0_net_copies, .ref a_p0_net_log, .ref a_p0_net_ways, .ref a_p0_net_frames, .int c_p0_net_stationCount, .int c_p0_net_linkCount, .int c_p0_net_messageCount, .int c_p0_net_time, .int c_p0_net_life, .int c_p0_net_tries, .int c_p0_net_x])), (a_p0_net_stations, .inr (4, [.int (8 : Int32), .int (10 : Int32), .ref a_p0_net_stations_cells])), (a_p0_net_stations_cells, .inl (k 0, 80, .inl c_p0_net_stations)), (a_p0_net_links, .inr (4, [.int (16 : Int32), .int (9 : Int32), .ref a_p0_net_links_cells])), (a_p0_net_links_cells, .inl (k 0, 144, .inl c_p0_net_links)), (a_p0_net_ways, .inr (5, [.ref a_p0_net_ways_heard, .int c_p0_net_ways_arrival, .int c_p0_net_ways_fewest, .int c_p0_net_ways_next])), (a_p0_net_ways_heard, .inl (k 1, 24, .inr (.inl c_p0_net_ways_heard)))] [(a_p0, .inr (6, [.ref a_p0_setup, .int c_p0_latestError, .int c_p0_latestErrorPosition, .ref a_p0_net, .ref a_p0_trial, .ref a_p0_saved, .ref a_p0_line])), (a_p0_net, .inr (2, [.ref a_p0_net_stations, .ref a_p0_net_links, .ref a_p0_net_messages, .ref a_p0_net_copies, .ref a_p0_net_log, .ref a_p0_net_ways, .ref a_p0_net_frames, .int c_p0_net_stationCount, .int u.2.2.1, .int c_p0_net_messageCount, .int c_p0_net_time, .int c_p0_net_life, .int c_p0_net_tries, .int c_p0_net_x])), (a_p0_net_stations, .inr (4, [.int (8 : Int32), .int (10 : Int32), .ref a_p0_net_stations_cells])), (a_p0_net_stations_cells, .inl (k 0, 80, .inl c_p0_net_stations)), (a_p0_net_links, .inr (4, [.int (16 : Int32), .int (9 : Int32), .ref a_p0_net_links_cells])), (a_p0_net_links_cells, .inl (k 0, 144, .inl u.2.2.2.1)), (a_p0_net_ways, .inr (5, [.ref a_p0_net_ways_heard, .int c_p0_net_ways_arrival, .int c_p0_net_ways_fewest, .int c_p0_net_ways_next])), (a_p0_net_ways_heard, .inl (k 1, 24, .inr (.inl u.2.2.2.2)))] u.1 u.2.1 := by
  refine rn_KW.go (LOC := [(0, .ref a_p0), (1, .int i1), (2, .int i2), (3, .int i3), (4, .int i4), (5, .int i5)]) rfl (by decide) (Nat.le_of_ble_eq_true rfl) rfl ?_
  intro p e s m args below meth c A ls R Q hst hxc htab X hR hE hW hl
  have hx := X.1.1
  have hb := X.1.2.1
  have hts := X.1.2.2.2.2
  unfold fL_addLink at hf
  obtain ⟨t1, ht1, hf⟩ := rn_bind hf
  have hu : t1.1 = u.1 := by
    revert hf
    repeat' split
    all_goals (intro hf; first | (cases hf; done) | (cases hf; rfl))
  rw [← hu] at hR hE
  refine lv_aload_n hx hb dL_addLink_0 rfl (lv_at hl 0 rfl) ?_
  refine lv_iload_n hx hb dL_addLink_1 rfl (lv_at hl 1 rfl) ?_
  refine lv_iload_n hx hb dL_addLink_2 rfl (lv_at hl 2 rfl) ?_
  refine lv_iload_n hx hb dL_addLink_3 rfl (lv_at hl 3 rfl) ?_
  refine lv_iload hx hb dL_addLink_4 (lv_at hl 4 rfl) ?_
  refine lv_iload hx hb dL_addLink_6 (lv_at hl 5 rfl) ?_
  refine rr_xcallI (As := [.int i1, .int i2, .int i3, .int i4, .int i5]) (rest := []) X hxc hst hW (kX6_addLink l D k z N a_p0 a_p0_setup a_p0_net a_p0_trial a_p0_saved a_p0_line a_p0_net_stations a_p0_net_links a_p0_net_messages a_p0_net_copies a_p0_net_log a_p0_net_ways a_p0_net_frames a_p0_net_stations_cells a_p0_net_links_cells a_p0_net_ways_heard c_p0_latestError c_p0_latestErrorPosition c_p0_net_stationCount c_p0_net_linkCount c_p0_net_messageCount c_p0_net_time c_p0_net_life c_p0_net_tries c_p0_net_x c_p0_net_stations c_p0_net_links c_p0_net_ways_arrival c_p0_net_ways_fewest c_p0_net_ways_next c_p0_net_ways_heard i1 i2 i3 i4 i5 ht1) gm_X6_addLink gl_L_50 [0, 1, 2, 3, 4, 5, 6, 7] [] [(a_p0, .inr (6, [.ref a_p0_setup, .int c_p0_latestError, .int c_p0_latestErrorPosition, .ref a_p0_net, .ref a_p0_trial, .ref a_p0_saved, .ref a_p0_line])), (a_p0_net, .inr (2, [.ref a_p0_net_stations, .ref a_p0_net_links, .ref a_p0_net_messages, .ref a_p0_net_copies, .ref a_p0_net_log, .ref a_p0_net_ways, .ref a_p0_net_frames, .int c_p0_net_stationCount, .int t1.2.2.1, .int c_p0_net_messageCount, .int c_p0_net_time, .int c_p0_net_life, .int c_p0_net_tries, .int c_p0_net_x])), (a_p0_net_stations, .inr (4, [.int (8 : Int32), .int (10 : Int32), .ref a_p0_net_stations_cells])), (a_p0_net_stations_cells, .inl (k 0, 80, .inl c_p0_net_stations)), (a_p0_net_links, .inr (4, [.int (16 : Int32), .int (9 : Int32), .ref a_p0_net_links_cells])), (a_p0_net_links_cells, .inl (k 0, 144, .inl t1.2.2.2.1)), (a_p0_net_ways, .inr (5, [.ref a_p0_net_ways_heard, .int c_p0_net_ways_arrival, .int c_p0_net_ways_fewest, .int c_p0_net_ways_next])), (a_p0_net_ways_heard, .inl (k 1, 24, .inr (.inl t1.2.2.2.2)))] rfl rfl rfl rfl ⟨rfl, rfl, rn_m0, rfl, rfl⟩ (rn_rT hR rfl) (rn_cs1 hR) hl.1 rfl (Nat.le_of_ble_eq_true rfl) dL_addLink_8 (fun hk H locs q9 ce hW hq9 hv hcl => ?_) (fun hk _ H locs hW => ?_)
  · replace hf := rn_f hf hk
    by_cases hk0 : t1.1 = 3
    · replace hf := rn_t hf hk0
      rw [hk0] at hcl
      refine vx_catch (name := rn_ex 3) X.1.2.2.2.1 [] (⟨0, 11, 12, 54⟩ : ExceptionTableEntry) [(⟨0, 11, 17, 46⟩ : ExceptionTableEntry), (⟨0, 11, 22, 48⟩ : ExceptionTableEntry)] (htab.trans rfl) (fun z hz => nomatch hz) (by decide) (by decide) (hts _ qc_3) (va_any rfl hxc.2.1.2.2) hq9 hv hcl ?_
      refine lv_astore (lv' := [(6, .ref q9), (0, .ref a_p0), (1, .int i1), (2, .int i2), (3, .int i3), (4, .int i4), (5, .int i5)]) hx hb dL_addLink_12 hl (Nat.le_of_ble_eq_true rfl) rfl (fun ls hl => ?_)
      refine lv_bipush (v := -101) hx hb dL_addLink_14 (by decide) ?_
      cases hf
      exact hE _ _ _ _ hW dL_addLink_16
    replace hf := rn_f hf hk0
    by_cases hk1 : t1.1 = 1
    · replace hf := rn_t hf hk1
      rw [hk1] at hcl
      refine vx_catch (name := rn_ex 1) X.1.2.2.2.1 [(⟨0, 11, 12, 54⟩ : ExceptionTableEntry)] (⟨0, 11, 17, 46⟩ : ExceptionTableEntry) [(⟨0, 11, 22, 48⟩ : ExceptionTableEntry)] (htab.trans rfl) (fun z hz => by rcases List.mem_singleton.mp hz with rfl; exact Or.inr ⟨by decide, rn_ex 3, hts _ qc_3, hxc.2.2.1.2⟩) (by decide) (by decide) (hts _ qc_1) (va_any rfl hxc.2.1.1) hq9 hv hcl ?_
      refine lv_astore (lv' := [(6, .ref q9), (0, .ref a_p0), (1, .int i1), (2, .int i2), (3, .int i3), (4, .int i4), (5, .int i5)]) hx hb dL_addLink_17 hl (Nat.le_of_ble_eq_true rfl) rfl (fun ls hl => ?_)
      refine lv_bipush (v := -102) hx hb dL_addLink_19 (by decide) ?_
      cases hf
      exact hE _ _ _ _ hW dL_addLink_21
    replace hf := rn_f hf hk1
    by_cases hk2 : t1.1 = 2
    · replace hf := rn_t hf hk2
      rw [hk2] at hcl
      refine vx_catch (name := rn_ex 2) X.1.2.2.2.1 [(⟨0, 11, 12, 54⟩ : ExceptionTableEntry), (⟨0, 11, 17, 46⟩ : ExceptionTableEntry)] (⟨0, 11, 22, 48⟩ : ExceptionTableEntry) [] (htab.trans rfl) (fun z hz => by rcases List.mem_cons.mp hz with rfl | hz; exact Or.inr ⟨by decide, rn_ex 3, hts _ qc_3, hxc.2.2.2.1.2⟩; rcases List.mem_singleton.mp hz with rfl; exact Or.inr ⟨by decide, rn_ex 1, hts _ qc_1, hxc.2.2.2.1.1⟩) (by decide) (by decide) (hts _ qc_2) (va_any rfl hxc.2.1.2.1) hq9 hv hcl ?_
      refine lv_astore (lv' := [(6, .ref q9), (0, .ref a_p0), (1, .int i1), (2, .int i2), (3, .int i3), (4, .int i4), (5, .int i5)]) hx hb dL_addLink_22 hl (Nat.le_of_ble_eq_true rfl) rfl (fun ls hl => ?_)
      refine lv_bipush (v := -103) hx hb dL_addLink_24 (by decide) ?_
      cases hf
      exact hE _ _ _ _ hW dL_addLink_26
    replace hf := rn_f hf hk2
    cases hf
  · replace hf := rn_t hf hk
    cases hf
    exact hE _ _ _ _ hW dL_addLink_11
def fL_setRules (c_p0_net_life : Int32) (c_p0_net_tries : Int32) (c_p0_net_x : Int32) (i1 : Int32) (i2 : Int32) (i3 : Int32) : Option (Nat × Int32 × Int32 × Int32 × Int32) :=
  (fX6_setRules c_p0_net_life c_p0_net_tries c_p0_net_x i1 i2 i3).bind fun t1 =>
  if t1.1 = 0 then
    some (t1.1, (0 : Int32), t1.2.1, t1.2.2.1, t1.2.2.2)
  else
  if t1.1 = 1 then
    some (t1.1, (-102 : Int32), t1.2.1, t1.2.2.1, t1.2.2.2)
  else
  none
set_option maxHeartbeats 4000000 in
set_option maxRecDepth 20000 in
theorem kL_setRules (l : Launch) (D : va_G) (k : Nat → ClassId) (z : (Nat → Nat) × (Nat → Nat)) (a_p0 : Nat) (a_p0_setup : Nat) (a_p0_net : Nat) (a_p0_trial : Nat) (a_p0_saved : Nat) (a_p0_line : Nat) (a_p0_net_stations : Nat) (a_p0_net_links : Nat) (a_p0_net_messages : Nat) (a_p0_net_copies : Nat) (a_p0_net_log : Nat) (a_p0_net_ways : Nat) (a_p0_net_frames : Nat) (c_p0_latestError : Int32) (c_p0_latestErrorPosition : Int32) (c_p0_net_stationCount : Int32) (c_p0_net_linkCount : Int32) (c_p0_net_messageCount : Int32) (c_p0_net_time : Int32) (c_p0_net_life : Int32) (c_p0_net_tries : Int32) (c_p0_net_x : Int32) (i1 : Int32) (i2 : Int32) (i3 : Int32) {u : Nat × Int32 × Int32 × Int32 × Int32} (hf : fL_setRules c_p0_net_life c_p0_net_tries c_p0_net_x i1 i2 i3 = some u) : rn_KW l D k z yL_setRules cL_setRules 5 hhL_setRules 7 105 [.ref a_p0, .int i1, .int i2, .int i3] [(a_p0, .inr (6, [.ref a_p0_setup, .int c_p0_latestError, .int c_p0_latestErrorPosition, .ref a_p0_net, .ref a_p0_trial, .ref a_p0_saved, .ref a_p0_line])), (a_p0_net, .inr (2, [.ref a_p0_net_stations, .ref a_p0_net_links, .ref a_p0_net_messages, .ref a_p0_net_copies, .ref a_p0_net_log, .ref a_p0_net_ways, .ref a_p0_net_frames, .int c_p0_net_stationCount, .int c_p0_net_linkCount, .int c_p0_net_messageCount, .int c_p0_net_time, .int c_p0_net_life, .int c_p0_net_tries, .int c_p0_net_x]))] [(a_p0, .inr (6, [.ref a_p0_setup, .int c_p0_latestError, .int c_p0_latestErrorPosition, .ref a_p0_net, .ref a_p0_trial, .ref a_p0_saved, .ref a_p0_line])), (a_p0_net, .inr (2, [.ref a_p0_net_stations, .ref a_p0_net_links, .ref a_p0_net_messages, .ref a_p0_net_copies, .ref a_p0_net_log, .ref a_p0_net_ways, .ref a_p0_net_frames, .int c_p0_net_stationCount, .int c_p0_net_linkCount, .int c_p0_net_messageCount, .int c_p0_net_time, .int u.2.2.1, .int u.2.2.2.1, .int u.2.2.2.2]))] u.1 u.2.1 := by
  refine rn_KW.go (LOC := [(0, .ref a_p0), (1, .int i1), (2, .int i2), (3, .int i3)]) rfl (by decide) (Nat.le_of_ble_eq_true rfl) rfl ?_
  intro p e s m args below meth c A ls R Q hst hxc htab X hR hE hW hl
  have hx := X.1.1
  have hb := X.1.2.1
  have hts := X.1.2.2.2.2
  unfold fL_setRules at hf
  obtain ⟨t1, ht1, hf⟩ := rn_bind hf
  have hu : t1.1 = u.1 := by
    revert hf
    repeat' split
    all_goals (intro hf; first | (cases hf; done) | (cases hf; rfl))
  rw [← hu] at hR hE
  refine lv_aload_n hx hb dL_setRules_0 rfl (lv_at hl 0 rfl) ?_
  refine lv_iload_n hx hb dL_setRules_1 rfl (lv_at hl 1 rfl) ?_
  refine lv_iload_n hx hb dL_setRules_2 rfl (lv_at hl 2 rfl) ?_
  refine lv_iload_n hx hb dL_setRules_3 rfl (lv_at hl 3 rfl) ?_
  refine rr_xcallV (As := [.int i1, .int i2, .int i3]) (rest := []) X hxc hst hW (kX6_setRules l D k z a_p0 a_p0_setup a_p0_net a_p0_trial a_p0_saved a_p0_line a_p0_net_stations a_p0_net_links a_p0_net_messages a_p0_net_copies a_p0_net_log a_p0_net_ways a_p0_net_frames c_p0_latestError c_p0_latestErrorPosition c_p0_net_stationCount c_p0_net_linkCount c_p0_net_messageCount c_p0_net_time c_p0_net_life c_p0_net_tries c_p0_net_x i1 i2 i3 ht1) gm_X6_setRules gl_L_62 [0, 1] [] [(a_p0, .inr (6, [.ref a_p0_setup, .int c_p0_latestError, .int c_p0_latestErrorPosition, .ref a_p0_net, .ref a_p0_trial, .ref a_p0_saved, .ref a_p0_line])), (a_p0_net, .inr (2, [.ref a_p0_net_stations, .ref a_p0_net_links, .ref a_p0_net_messages, .ref a_p0_net_copies, .ref a_p0_net_log, .ref a_p0_net_ways, .ref a_p0_net_frames, .int c_p0_net_stationCount, .int c_p0_net_linkCount, .int c_p0_net_messageCount, .int c_p0_net_time, .int t1.2.1, .int t1.2.2.1, .int t1.2.2.2]))] rfl rfl rfl rfl ⟨rfl, rfl, rn_m0, rfl, rfl⟩ (rn_rT hR rfl) (rn_cs1 hR) hl.1 rfl (Nat.le_of_ble_eq_true rfl) dL_setRules_4 (fun hk H locs q9 ce hW hq9 hv hcl => ?_) (fun hk H locs hW => ?_)
  · replace hf := rn_f hf hk
    by_cases hk0 : t1.1 = 1
    · replace hf := rn_t hf hk0
      rw [hk0] at hcl
      refine vx_catch (name := rn_ex 1) X.1.2.2.2.1 [] (⟨0, 8, 9, 46⟩ : ExceptionTableEntry) [] (htab.trans rfl) (fun z hz => nomatch hz) (by decide) (by decide) (hts _ qc_1) (va_any rfl hxc.2.1.1) hq9 hv hcl ?_
      refine lv_astore (lv' := [(4, .ref q9), (0, .ref a_p0), (1, .int i1), (2, .int i2), (3, .int i3)]) hx hb dL_setRules_9 hl (Nat.le_of_ble_eq_true rfl) rfl (fun ls hl => ?_)
      refine lv_bipush (v := -102) hx hb dL_setRules_11 (by decide) ?_
      cases hf
      exact hE _ _ _ _ hW dL_setRules_13
    replace hf := rn_f hf hk0
    cases hf
  · replace hf := rn_t hf hk
    refine lv_iconst (v := 0) hx hb dL_setRules_7 (by decide) ?_
    cases hf
    exact hE _ _ _ _ hW dL_setRules_8
def fL_station (N : Nat) (c_p0_net_stationCount : Int32) (c_p0_net_linkCount : Int32) (c_p0_net_messageCount : Int32) (c_p0_net_time : Int32) (c_p0_net_stations : Nat → Int32) (c_p0_net_links : Nat → Int32) (c_p0_net_copies : Nat → Int32) (i1 : Int32) (i2 : Int32) : Option (Nat × Int32) :=
  (fX6_station N c_p0_net_stationCount c_p0_net_linkCount c_p0_net_messageCount c_p0_net_time c_p0_net_stations c_p0_net_links c_p0_net_copies i1 i2).bind fun t1 =>
  if t1.1 = 0 then
    some (t1.1, t1.2)
  else
  if t1.1 = 3 then
    some (t1.1, (-101 : Int32))
  else
  if t1.1 = 1 then
    some (t1.1, (-102 : Int32))
  else
  none
set_option maxHeartbeats 4000000 in
set_option maxRecDepth 20000 in
theorem kL_station (l : Launch) (D : va_G) (k : Nat → ClassId) (z : (Nat → Nat) × (Nat → Nat)) (N : Nat) (a_p0 : Nat) (a_p0_setup : Nat) (a_p0_net : Nat) (a_p0_trial : Nat) (a_p0_saved : Nat) (a_p0_line : Nat) (a_p0_net_stations : Nat) (a_p0_net_links : Nat) (a_p0_net_messages : Nat) (a_p0_net_copies : Nat) (a_p0_net_log : Nat) (a_p0_net_ways : Nat) (a_p0_net_frames : Nat) (a_p0_net_stations_cells : Nat) (a_p0_net_links_cells : Nat) (a_p0_net_copies_cells : Nat) (c_p0_latestError : Int32) (c_p0_latestErrorPosition : Int32) (c_p0_net_stationCount : Int32) (c_p0_net_linkCount : Int32) (c_p0_net_messageCount : Int32) (c_p0_net_time : Int32) (c_p0_net_life : Int32) (c_p0_net_tries : Int32) (c_p0_net_x : Int32) (c_p0_net_stations : Nat → Int32) (c_p0_net_links : Nat → Int32) (c_p0_net_copies : Nat → Int32) (i1 : Int32) (i2 : Int32) {u : Nat × Int32} (hf : fL_station N c_p0_net_stationCount c_p0_net_linkCount c_p0_net_messageCount c_p0_net_time c_p0_net_stations c_p0_net_links c_p0_net_copies i1 i2 = some u) : rn_KW l D k z yL_station cL_station 4 hhL_station 7 116 [.ref a_p0, .int i1, .int i2] [(a_p0, .inr (6, [.ref a_p0_setup, .int c_p0_latestError, .int c_p0_latestErrorPosition, .ref a_p0_net, .ref a_p0_trial, .ref a_p0_saved, .ref a_p0_line])), (a_p0_net, .inr (2, [.ref a_p0_net_stations, .ref a_p0_net_links, .ref a_p0_net_messages, .ref a_p0_net_copies, .ref a_p0_net_log, .ref a_p0_net_ways, .ref a_p0_net_frames, .int c_p0_net_stationCount, .int c_p0_net_linkCount, .int c_p0_net_messageCount, .int c_p0_net_time, .int c_p0_net_life, .int c_p0_net_tries, .int c_p0_net_x])), (a_p0_net_stations, .inr (4, [.int (8 : Int32), .int (10 : Int32), .ref a_p0_net_stations_cells])), (a_p0_net_stations_cells, .inl (k 0, 80, .inl c_p0_net_stations)), (a_p0_net_links, .inr (4, [.int (16 : Int32), .int (9 : Int32), .ref a_p0_net_links_cells])), (a_p0_net_links_cells, .inl (k 0, 144, .inl c_p0_net_links)), (a_p0_net_copies, .inr (4, [.int (192 : Int32), .int (5 : Int32), .ref a_p0_net_copies_cells])), (a_p0_net_copies_cells, .inl (k 0, 960, .inl c_p0_net_copies))] [(a_p0, .inr (6, [.ref a_p0_setup, .int c_p0_latestError, .int c_p0_latestErrorPosition, .ref a_p0_net, .ref a_p0_trial, .ref a_p0_saved, .ref a_p0_line])), (a_p0_net, .inr (2, [.ref a_p0_net_stations, .ref a_p0_net_links, .ref a_p0_net_messages, .ref a_p0_net_copies, .ref a_p0_net_log, .ref a_p0_net_ways, .ref a_p0_net_frames, .int c_p0_net_stationCount, .int c_p0_net_linkCount, .int c_p0_net_messageCount, .int c_p0_net_time, .int c_p0_net_life, .int c_p0_net_tries, .int c_p0_net_x])), (a_p0_net_stations, .inr (4, [.int (8 : Int32), .int (10 : Int32), .ref a_p0_net_stations_cells])), (a_p0_net_stations_cells, .inl (k 0, 80, .inl c_p0_net_stations)), (a_p0_net_links, .inr (4, [.int (16 : Int32), .int (9 : Int32), .ref a_p0_net_links_cells])), (a_p0_net_links_cells, .inl (k 0, 144, .inl c_p0_net_links)), (a_p0_net_copies, .inr (4, [.int (192 : Int32), .int (5 : Int32), .ref a_p0_net_copies_cells])), (a_p0_net_copies_cells, .inl (k 0, 960, .inl c_p0_net_copies))] u.1 u.2 := by
  refine rn_KW.go (LOC := [(0, .ref a_p0), (1, .int i1), (2, .int i2)]) rfl (by decide) (Nat.le_of_ble_eq_true rfl) rfl ?_
  intro p e s m args below meth c A ls R Q hst hxc htab X hR hE hW hl
  have hx := X.1.1
  have hb := X.1.2.1
  have hts := X.1.2.2.2.2
  unfold fL_station at hf
  obtain ⟨t1, ht1, hf⟩ := rn_bind hf
  have hu : t1.1 = u.1 := by
    revert hf
    repeat' split
    all_goals (intro hf; first | (cases hf; done) | (cases hf; rfl))
  rw [← hu] at hR hE
  refine lv_aload_n hx hb dL_station_0 rfl (lv_at hl 0 rfl) ?_
  refine lv_iload_n hx hb dL_station_1 rfl (lv_at hl 1 rfl) ?_
  refine lv_iload_n hx hb dL_station_2 rfl (lv_at hl 2 rfl) ?_
  refine rr_xcallI (As := [.int i1, .int i2]) (rest := []) X hxc hst hW (kX6_station l D k z N a_p0 a_p0_setup a_p0_net a_p0_trial a_p0_saved a_p0_line a_p0_net_stations a_p0_net_links a_p0_net_messages a_p0_net_copies a_p0_net_log a_p0_net_ways a_p0_net_frames a_p0_net_stations_cells a_p0_net_links_cells a_p0_net_copies_cells c_p0_latestError c_p0_latestErrorPosition c_p0_net_stationCount c_p0_net_linkCount c_p0_net_messageCount c_p0_net_time c_p0_net_life c_p0_net_tries c_p0_net_x c_p0_net_stations c_p0_net_links c_p0_net_copies i1 i2 ht1) gm_X6_station gl_L_66 [0, 1, 2, 3, 4, 5, 6, 7] [] [(a_p0, .inr (6, [.ref a_p0_setup, .int c_p0_latestError, .int c_p0_latestErrorPosition, .ref a_p0_net, .ref a_p0_trial, .ref a_p0_saved, .ref a_p0_line])), (a_p0_net, .inr (2, [.ref a_p0_net_stations, .ref a_p0_net_links, .ref a_p0_net_messages, .ref a_p0_net_copies, .ref a_p0_net_log, .ref a_p0_net_ways, .ref a_p0_net_frames, .int c_p0_net_stationCount, .int c_p0_net_linkCount, .int c_p0_net_messageCount, .int c_p0_net_time, .int c_p0_net_life, .int c_p0_net_tries, .int c_p0_net_x])), (a_p0_net_stations, .inr (4, [.int (8 : Int32), .int (10 : Int32), .ref a_p0_net_stations_cells])), (a_p0_net_stations_cells, .inl (k 0, 80, .inl c_p0_net_stations)), (a_p0_net_links, .inr (4, [.int (16 : Int32), .int (9 : Int32), .ref a_p0_net_links_cells])), (a_p0_net_links_cells, .inl (k 0, 144, .inl c_p0_net_links)), (a_p0_net_copies, .inr (4, [.int (192 : Int32), .int (5 : Int32), .ref a_p0_net_copies_cells])), (a_p0_net_copies_cells, .inl (k 0, 960, .inl c_p0_net_copies))] rfl rfl rfl rfl ⟨rfl, rfl, rn_m0, rfl, rfl⟩ (rn_rT hR rfl) (rn_cs1 hR) hl.1 rfl (Nat.le_of_ble_eq_true rfl) dL_station_3 (fun hk H locs q9 ce hW hq9 hv hcl => ?_) (fun hk _ H locs hW => ?_)
  · replace hf := rn_f hf hk
    by_cases hk0 : t1.1 = 3
    · replace hf := rn_t hf hk0
      rw [hk0] at hcl
      refine vx_catch (name := rn_ex 3) X.1.2.2.2.1 [] (⟨0, 6, 7, 54⟩ : ExceptionTableEntry) [(⟨0, 6, 11, 46⟩ : ExceptionTableEntry)] (htab.trans rfl) (fun z hz => nomatch hz) (by decide) (by decide) (hts _ qc_3) (va_any rfl hxc.2.1.2.2) hq9 hv hcl ?_
      refine lv_astore_n (lv' := [(3, .ref q9), (0, .ref a_p0), (1, .int i1), (2, .int i2)]) hx hb dL_station_7 rfl hl (Nat.le_of_ble_eq_true rfl) rfl (fun ls hl => ?_)
      refine lv_bipush (v := -101) hx hb dL_station_8 (by decide) ?_
      cases hf
      exact hE _ _ _ _ hW dL_station_10
    replace hf := rn_f hf hk0
    by_cases hk1 : t1.1 = 1
    · replace hf := rn_t hf hk1
      rw [hk1] at hcl
      refine vx_catch (name := rn_ex 1) X.1.2.2.2.1 [(⟨0, 6, 7, 54⟩ : ExceptionTableEntry)] (⟨0, 6, 11, 46⟩ : ExceptionTableEntry) [] (htab.trans rfl) (fun z hz => by rcases List.mem_singleton.mp hz with rfl; exact Or.inr ⟨by decide, rn_ex 3, hts _ qc_3, hxc.2.2.1.2⟩) (by decide) (by decide) (hts _ qc_1) (va_any rfl hxc.2.1.1) hq9 hv hcl ?_
      refine lv_astore_n (lv' := [(3, .ref q9), (0, .ref a_p0), (1, .int i1), (2, .int i2)]) hx hb dL_station_11 rfl hl (Nat.le_of_ble_eq_true rfl) rfl (fun ls hl => ?_)
      refine lv_bipush (v := -102) hx hb dL_station_12 (by decide) ?_
      cases hf
      exact hE _ _ _ _ hW dL_station_14
    replace hf := rn_f hf hk1
    cases hf
  · replace hf := rn_t hf hk
    cases hf
    exact hE _ _ _ _ hW dL_station_6
def fL_link (c_p0_net_linkCount : Int32) (c_p0_net_time : Int32) (c_p0_net_stations : Nat → Int32) (c_p0_net_links : Nat → Int32) (i1 : Int32) (i2 : Int32) : Option (Nat × Int32) :=
  (fX6_link c_p0_net_linkCount c_p0_net_time c_p0_net_stations c_p0_net_links i1 i2).bind fun t1 =>
  if t1.1 = 0 then
    some (t1.1, t1.2)
  else
  if t1.1 = 3 then
    some (t1.1, (-101 : Int32))
  else
  if t1.1 = 1 then
    some (t1.1, (-102 : Int32))
  else
  none
set_option maxHeartbeats 4000000 in
set_option maxRecDepth 20000 in
theorem kL_link (l : Launch) (D : va_G) (k : Nat → ClassId) (z : (Nat → Nat) × (Nat → Nat)) (a_p0 : Nat) (a_p0_setup : Nat) (a_p0_net : Nat) (a_p0_trial : Nat) (a_p0_saved : Nat) (a_p0_line : Nat) (a_p0_net_stations : Nat) (a_p0_net_links : Nat) (a_p0_net_messages : Nat) (a_p0_net_copies : Nat) (a_p0_net_log : Nat) (a_p0_net_ways : Nat) (a_p0_net_frames : Nat) (a_p0_net_stations_cells : Nat) (a_p0_net_links_cells : Nat) (c_p0_latestError : Int32) (c_p0_latestErrorPosition : Int32) (c_p0_net_stationCount : Int32) (c_p0_net_linkCount : Int32) (c_p0_net_messageCount : Int32) (c_p0_net_time : Int32) (c_p0_net_life : Int32) (c_p0_net_tries : Int32) (c_p0_net_x : Int32) (c_p0_net_stations : Nat → Int32) (c_p0_net_links : Nat → Int32) (i1 : Int32) (i2 : Int32) {u : Nat × Int32} (hf : fL_link c_p0_net_linkCount c_p0_net_time c_p0_net_stations c_p0_net_links i1 i2 = some u) : rn_KW l D k z yL_link cL_link 4 hhL_link 7 111 [.ref a_p0, .int i1, .int i2] [(a_p0, .inr (6, [.ref a_p0_setup, .int c_p0_latestError, .int c_p0_latestErrorPosition, .ref a_p0_net, .ref a_p0_trial, .ref a_p0_saved, .ref a_p0_line])), (a_p0_net, .inr (2, [.ref a_p0_net_stations, .ref a_p0_net_links, .ref a_p0_net_messages, .ref a_p0_net_copies, .ref a_p0_net_log, .ref a_p0_net_ways, .ref a_p0_net_frames, .int c_p0_net_stationCount, .int c_p0_net_linkCount, .int c_p0_net_messageCount, .int c_p0_net_time, .int c_p0_net_life, .int c_p0_net_tries, .int c_p0_net_x])), (a_p0_net_stations, .inr (4, [.int (8 : Int32), .int (10 : Int32), .ref a_p0_net_stations_cells])), (a_p0_net_stations_cells, .inl (k 0, 80, .inl c_p0_net_stations)), (a_p0_net_links, .inr (4, [.int (16 : Int32), .int (9 : Int32), .ref a_p0_net_links_cells])), (a_p0_net_links_cells, .inl (k 0, 144, .inl c_p0_net_links))] [(a_p0, .inr (6, [.ref a_p0_setup, .int c_p0_latestError, .int c_p0_latestErrorPosition, .ref a_p0_net, .ref a_p0_trial, .ref a_p0_saved, .ref a_p0_line])), (a_p0_net, .inr (2, [.ref a_p0_net_stations, .ref a_p0_net_links, .ref a_p0_net_messages, .ref a_p0_net_copies, .ref a_p0_net_log, .ref a_p0_net_ways, .ref a_p0_net_frames, .int c_p0_net_stationCount, .int c_p0_net_linkCount, .int c_p0_net_messageCount, .int c_p0_net_time, .int c_p0_net_life, .int c_p0_net_tries, .int c_p0_net_x])), (a_p0_net_stations, .inr (4, [.int (8 : Int32), .int (10 : Int32), .ref a_p0_net_stations_cells])), (a_p0_net_stations_cells, .inl (k 0, 80, .inl c_p0_net_stations)), (a_p0_net_links, .inr (4, [.int (16 : Int32), .int (9 : Int32), .ref a_p0_net_links_cells])), (a_p0_net_links_cells, .inl (k 0, 144, .inl c_p0_net_links))] u.1 u.2 := by
  refine rn_KW.go (LOC := [(0, .ref a_p0), (1, .int i1), (2, .int i2)]) rfl (by decide) (Nat.le_of_ble_eq_true rfl) rfl ?_
  intro p e s m args below meth c A ls R Q hst hxc htab X hR hE hW hl
  have hx := X.1.1
  have hb := X.1.2.1
  have hts := X.1.2.2.2.2
  unfold fL_link at hf
  obtain ⟨t1, ht1, hf⟩ := rn_bind hf
  have hu : t1.1 = u.1 := by
    revert hf
    repeat' split
    all_goals (intro hf; first | (cases hf; done) | (cases hf; rfl))
  rw [← hu] at hR hE
  refine lv_aload_n hx hb dL_link_0 rfl (lv_at hl 0 rfl) ?_
  refine lv_iload_n hx hb dL_link_1 rfl (lv_at hl 1 rfl) ?_
  refine lv_iload_n hx hb dL_link_2 rfl (lv_at hl 2 rfl) ?_
  refine rr_xcallI (As := [.int i1, .int i2]) (rest := []) X hxc hst hW (kX6_link l D k z a_p0 a_p0_setup a_p0_net a_p0_trial a_p0_saved a_p0_line a_p0_net_stations a_p0_net_links a_p0_net_messages a_p0_net_copies a_p0_net_log a_p0_net_ways a_p0_net_frames a_p0_net_stations_cells a_p0_net_links_cells c_p0_latestError c_p0_latestErrorPosition c_p0_net_stationCount c_p0_net_linkCount c_p0_net_messageCount c_p0_net_time c_p0_net_life c_p0_net_tries c_p0_net_x c_p0_net_stations c_p0_net_links i1 i2 ht1) gm_X6_link gl_L_69 [0, 1, 2, 3, 4, 5] [] [(a_p0, .inr (6, [.ref a_p0_setup, .int c_p0_latestError, .int c_p0_latestErrorPosition, .ref a_p0_net, .ref a_p0_trial, .ref a_p0_saved, .ref a_p0_line])), (a_p0_net, .inr (2, [.ref a_p0_net_stations, .ref a_p0_net_links, .ref a_p0_net_messages, .ref a_p0_net_copies, .ref a_p0_net_log, .ref a_p0_net_ways, .ref a_p0_net_frames, .int c_p0_net_stationCount, .int c_p0_net_linkCount, .int c_p0_net_messageCount, .int c_p0_net_time, .int c_p0_net_life, .int c_p0_net_tries, .int c_p0_net_x])), (a_p0_net_stations, .inr (4, [.int (8 : Int32), .int (10 : Int32), .ref a_p0_net_stations_cells])), (a_p0_net_stations_cells, .inl (k 0, 80, .inl c_p0_net_stations)), (a_p0_net_links, .inr (4, [.int (16 : Int32), .int (9 : Int32), .ref a_p0_net_links_cells])), (a_p0_net_links_cells, .inl (k 0, 144, .inl c_p0_net_links))] rfl rfl rfl rfl ⟨rfl, rfl, rn_m0, rfl, rfl⟩ (rn_rT hR rfl) (rn_cs1 hR) hl.1 rfl (Nat.le_of_ble_eq_true rfl) dL_link_3 (fun hk H locs q9 ce hW hq9 hv hcl => ?_) (fun hk _ H locs hW => ?_)
  · replace hf := rn_f hf hk
    by_cases hk0 : t1.1 = 3
    · replace hf := rn_t hf hk0
      rw [hk0] at hcl
      refine vx_catch (name := rn_ex 3) X.1.2.2.2.1 [] (⟨0, 6, 7, 54⟩ : ExceptionTableEntry) [(⟨0, 6, 11, 46⟩ : ExceptionTableEntry)] (htab.trans rfl) (fun z hz => nomatch hz) (by decide) (by decide) (hts _ qc_3) (va_any rfl hxc.2.1.2.2) hq9 hv hcl ?_
      refine lv_astore_n (lv' := [(3, .ref q9), (0, .ref a_p0), (1, .int i1), (2, .int i2)]) hx hb dL_link_7 rfl hl (Nat.le_of_ble_eq_true rfl) rfl (fun ls hl => ?_)
      refine lv_bipush (v := -101) hx hb dL_link_8 (by decide) ?_
      cases hf
      exact hE _ _ _ _ hW dL_link_10
    replace hf := rn_f hf hk0
    by_cases hk1 : t1.1 = 1
    · replace hf := rn_t hf hk1
      rw [hk1] at hcl
      refine vx_catch (name := rn_ex 1) X.1.2.2.2.1 [(⟨0, 6, 7, 54⟩ : ExceptionTableEntry)] (⟨0, 6, 11, 46⟩ : ExceptionTableEntry) [] (htab.trans rfl) (fun z hz => by rcases List.mem_singleton.mp hz with rfl; exact Or.inr ⟨by decide, rn_ex 3, hts _ qc_3, hxc.2.2.1.2⟩) (by decide) (by decide) (hts _ qc_1) (va_any rfl hxc.2.1.1) hq9 hv hcl ?_
      refine lv_astore_n (lv' := [(3, .ref q9), (0, .ref a_p0), (1, .int i1), (2, .int i2)]) hx hb dL_link_11 rfl hl (Nat.le_of_ble_eq_true rfl) rfl (fun ls hl => ?_)
      refine lv_bipush (v := -102) hx hb dL_link_12 (by decide) ?_
      cases hf
      exact hE _ _ _ _ hW dL_link_14
    replace hf := rn_f hf hk1
    cases hf
  · replace hf := rn_t hf hk
    cases hf
    exact hE _ _ _ _ hW dL_link_6
def fL_count (N : Nat) (c_p0_net_stationCount : Int32) (c_p0_net_linkCount : Int32) (c_p0_net_messageCount : Int32) (c_p0_net_time : Int32) (c_p0_net_life : Int32) (c_p0_net_tries : Int32) (c_p0_net_x : Int32) (c_p0_net_stations : Nat → Int32) (c_p0_net_links : Nat → Int32) (c_p0_net_messages : Nat → Int32) (c_p0_net_copies : Nat → Int32) (c_p0_net_log_size : Int32) (i1 : Int32) : Option (Nat × Int32) :=
  (fX6_count N c_p0_net_stationCount c_p0_net_linkCount c_p0_net_messageCount c_p0_net_time c_p0_net_life c_p0_net_tries c_p0_net_x c_p0_net_stations c_p0_net_links c_p0_net_messages c_p0_net_copies c_p0_net_log_size i1).bind fun t1 =>
  if t1.1 = 0 then
    some (t1.1, t1.2)
  else
  if t1.1 = 1 then
    some (t1.1, (-102 : Int32))
  else
  none
set_option maxHeartbeats 4000000 in
set_option maxRecDepth 20000 in
theorem kL_count (l : Launch) (D : va_G) (k : Nat → ClassId) (z : (Nat → Nat) × (Nat → Nat)) (N : Nat) (a_p0 : Nat) (a_p0_setup : Nat) (a_p0_net : Nat) (a_p0_trial : Nat) (a_p0_saved : Nat) (a_p0_line : Nat) (a_p0_net_stations : Nat) (a_p0_net_links : Nat) (a_p0_net_messages : Nat) (a_p0_net_copies : Nat) (a_p0_net_log : Nat) (a_p0_net_ways : Nat) (a_p0_net_frames : Nat) (a_p0_net_stations_cells : Nat) (a_p0_net_links_cells : Nat) (a_p0_net_messages_cells : Nat) (a_p0_net_copies_cells : Nat) (a_p0_net_log_events : Nat) (c_p0_latestError : Int32) (c_p0_latestErrorPosition : Int32) (c_p0_net_stationCount : Int32) (c_p0_net_linkCount : Int32) (c_p0_net_messageCount : Int32) (c_p0_net_time : Int32) (c_p0_net_life : Int32) (c_p0_net_tries : Int32) (c_p0_net_x : Int32) (c_p0_net_stations : Nat → Int32) (c_p0_net_links : Nat → Int32) (c_p0_net_messages : Nat → Int32) (c_p0_net_copies : Nat → Int32) (c_p0_net_log_first : Int32) (c_p0_net_log_size : Int32) (i1 : Int32) {u : Nat × Int32} (hf : fL_count N c_p0_net_stationCount c_p0_net_linkCount c_p0_net_messageCount c_p0_net_time c_p0_net_life c_p0_net_tries c_p0_net_x c_p0_net_stations c_p0_net_links c_p0_net_messages c_p0_net_copies c_p0_net_log_size i1 = some u) : rn_KW l D k z yL_count cL_count 3 hhL_count 7 158 [.ref a_p0, .int i1] [(a_p0, .inr (6, [.ref a_p0_setup, .int c_p0_latestError, .int c_p0_latestErrorPosition, .ref a_p0_net, .ref a_p0_trial, .ref a_p0_saved, .ref a_p0_line])), (a_p0_net, .inr (2, [.ref a_p0_net_stations, .ref a_p0_net_links, .ref a_p0_net_messages, .ref a_p0_net_copies, .ref a_p0_net_log, .ref a_p0_net_ways, .ref a_p0_net_frames, .int c_p0_net_stationCount, .int c_p0_net_linkCount, .int c_p0_net_messageCount, .int c_p0_net_time, .int c_p0_net_life, .int c_p0_net_tries, .int c_p0_net_x])), (a_p0_net_stations, .inr (4, [.int (8 : Int32), .int (10 : Int32), .ref a_p0_net_stations_cells])), (a_p0_net_stations_cells, .inl (k 0, 80, .inl c_p0_net_stations)), (a_p0_net_links, .inr (4, [.int (16 : Int32), .int (9 : Int32), .ref a_p0_net_links_cells])), (a_p0_net_links_cells, .inl (k 0, 144, .inl c_p0_net_links)), (a_p0_net_messages, .inr (4, [.int (24 : Int32), .int (12 : Int32), .ref a_p0_net_messages_cells])), (a_p0_net_messages_cells, .inl (k 0, 288, .inl c_p0_net_messages)), (a_p0_net_copies, .inr (4, [.int (192 : Int32), .int (5 : Int32), .ref a_p0_net_copies_cells])), (a_p0_net_copies_cells, .inl (k 0, 960, .inl c_p0_net_copies)), (a_p0_net_log, .inr (0, [.ref a_p0_net_log_events, .int c_p0_net_log_first, .int c_p0_net_log_size]))] [(a_p0, .inr (6, [.ref a_p0_setup, .int c_p0_latestError, .int c_p0_latestErrorPosition, .ref a_p0_net, .ref a_p0_trial, .ref a_p0_saved, .ref a_p0_line])), (a_p0_net, .inr (2, [.ref a_p0_net_stations, .ref a_p0_net_links, .ref a_p0_net_messages, .ref a_p0_net_copies, .ref a_p0_net_log, .ref a_p0_net_ways, .ref a_p0_net_frames, .int c_p0_net_stationCount, .int c_p0_net_linkCount, .int c_p0_net_messageCount, .int c_p0_net_time, .int c_p0_net_life, .int c_p0_net_tries, .int c_p0_net_x])), (a_p0_net_stations, .inr (4, [.int (8 : Int32), .int (10 : Int32), .ref a_p0_net_stations_cells])), (a_p0_net_stations_cells, .inl (k 0, 80, .inl c_p0_net_stations)), (a_p0_net_links, .inr (4, [.int (16 : Int32), .int (9 : Int32), .ref a_p0_net_links_cells])), (a_p0_net_links_cells, .inl (k 0, 144, .inl c_p0_net_links)), (a_p0_net_messages, .inr (4, [.int (24 : Int32), .int (12 : Int32), .ref a_p0_net_messages_cells])), (a_p0_net_messages_cells, .inl (k 0, 288, .inl c_p0_net_messages)), (a_p0_net_copies, .inr (4, [.int (192 : Int32), .int (5 : Int32), .ref a_p0_net_copies_cells])), (a_p0_net_copies_cells, .inl (k 0, 960, .inl c_p0_net_copies)), (a_p0_net_log, .inr (0, [.ref a_p0_net_log_events, .int c_p0_net_log_first, .int c_p0_net_log_size]))] u.1 u.2 := by
  refine rn_KW.go (LOC := [(0, .ref a_p0), (1, .int i1)]) rfl (by decide) (Nat.le_of_ble_eq_true rfl) rfl ?_
  intro p e s m args below meth c A ls R Q hst hxc htab X hR hE hW hl
  have hx := X.1.1
  have hb := X.1.2.1
  have hts := X.1.2.2.2.2
  unfold fL_count at hf
  obtain ⟨t1, ht1, hf⟩ := rn_bind hf
  have hu : t1.1 = u.1 := by
    revert hf
    repeat' split
    all_goals (intro hf; first | (cases hf; done) | (cases hf; rfl))
  rw [← hu] at hR hE
  refine lv_aload_n hx hb dL_count_0 rfl (lv_at hl 0 rfl) ?_
  refine lv_iload_n hx hb dL_count_1 rfl (lv_at hl 1 rfl) ?_
  refine rr_xcallI (As := [.int i1]) (rest := []) X hxc hst hW (kX6_count l D k z N a_p0 a_p0_setup a_p0_net a_p0_trial a_p0_saved a_p0_line a_p0_net_stations a_p0_net_links a_p0_net_messages a_p0_net_copies a_p0_net_log a_p0_net_ways a_p0_net_frames a_p0_net_stations_cells a_p0_net_links_cells a_p0_net_messages_cells a_p0_net_copies_cells a_p0_net_log_events c_p0_latestError c_p0_latestErrorPosition c_p0_net_stationCount c_p0_net_linkCount c_p0_net_messageCount c_p0_net_time c_p0_net_life c_p0_net_tries c_p0_net_x c_p0_net_stations c_p0_net_links c_p0_net_messages c_p0_net_copies c_p0_net_log_first c_p0_net_log_size i1 ht1) gm_X6_count gl_L_72 [0, 1, 2, 3, 4, 5, 6, 7, 8, 9, 10] [] [(a_p0, .inr (6, [.ref a_p0_setup, .int c_p0_latestError, .int c_p0_latestErrorPosition, .ref a_p0_net, .ref a_p0_trial, .ref a_p0_saved, .ref a_p0_line])), (a_p0_net, .inr (2, [.ref a_p0_net_stations, .ref a_p0_net_links, .ref a_p0_net_messages, .ref a_p0_net_copies, .ref a_p0_net_log, .ref a_p0_net_ways, .ref a_p0_net_frames, .int c_p0_net_stationCount, .int c_p0_net_linkCount, .int c_p0_net_messageCount, .int c_p0_net_time, .int c_p0_net_life, .int c_p0_net_tries, .int c_p0_net_x])), (a_p0_net_stations, .inr (4, [.int (8 : Int32), .int (10 : Int32), .ref a_p0_net_stations_cells])), (a_p0_net_stations_cells, .inl (k 0, 80, .inl c_p0_net_stations)), (a_p0_net_links, .inr (4, [.int (16 : Int32), .int (9 : Int32), .ref a_p0_net_links_cells])), (a_p0_net_links_cells, .inl (k 0, 144, .inl c_p0_net_links)), (a_p0_net_messages, .inr (4, [.int (24 : Int32), .int (12 : Int32), .ref a_p0_net_messages_cells])), (a_p0_net_messages_cells, .inl (k 0, 288, .inl c_p0_net_messages)), (a_p0_net_copies, .inr (4, [.int (192 : Int32), .int (5 : Int32), .ref a_p0_net_copies_cells])), (a_p0_net_copies_cells, .inl (k 0, 960, .inl c_p0_net_copies)), (a_p0_net_log, .inr (0, [.ref a_p0_net_log_events, .int c_p0_net_log_first, .int c_p0_net_log_size]))] rfl rfl rfl rfl ⟨rfl, rfl, rn_m0, rfl, rfl⟩ (rn_rT hR rfl) (rn_cs1 hR) hl.1 rfl (Nat.le_of_ble_eq_true rfl) dL_count_2 (fun hk H locs q9 ce hW hq9 hv hcl => ?_) (fun hk _ H locs hW => ?_)
  · replace hf := rn_f hf hk
    by_cases hk0 : t1.1 = 1
    · replace hf := rn_t hf hk0
      rw [hk0] at hcl
      refine vx_catch (name := rn_ex 1) X.1.2.2.2.1 [] (⟨0, 5, 6, 46⟩ : ExceptionTableEntry) [] (htab.trans rfl) (fun z hz => nomatch hz) (by decide) (by decide) (hts _ qc_1) (va_any rfl hxc.2.1.1) hq9 hv hcl ?_
      refine lv_astore_n (lv' := [(2, .ref q9), (0, .ref a_p0), (1, .int i1)]) hx hb dL_count_6 rfl hl (Nat.le_of_ble_eq_true rfl) rfl (fun ls hl => ?_)
      refine lv_bipush (v := -102) hx hb dL_count_7 (by decide) ?_
      cases hf
      exact hE _ _ _ _ hW dL_count_9
    replace hf := rn_f hf hk0
    cases hf
  · replace hf := rn_t hf hk
    cases hf
    exact hE _ _ _ _ hW dL_count_5
def fL_way (N : Nat) (c_p0_net_stationCount : Int32) (c_p0_net_ways_arrival : Int32) (c_p0_net_ways_fewest : Int32) (c_p0_net_ways_next : Int32) (c_p0_net_ways_heard : Nat → Int64) (i1 : Int32) (i2 : Int32) (i3 : Int32) (i4 : Int32) : Option (Nat × Int32 × Int32 × Int32 × Int32) :=
  (fX6_way N c_p0_net_stationCount c_p0_net_ways_arrival c_p0_net_ways_fewest c_p0_net_ways_next c_p0_net_ways_heard i1 i2 i3 i4).bind fun t1 =>
  if t1.1 = 0 then
    some (t1.1, t1.2.1, t1.2.2.1, t1.2.2.2.1, t1.2.2.2.2)
  else
  if t1.1 = 3 then
    some (t1.1, (-101 : Int32), t1.2.2.1, t1.2.2.2.1, t1.2.2.2.2)
  else
  if t1.1 = 1 then
    some (t1.1, (-102 : Int32), t1.2.2.1, t1.2.2.2.1, t1.2.2.2.2)
  else
  none
set_option maxHeartbeats 4000000 in
set_option maxRecDepth 20000 in
theorem kL_way (l : Launch) (D : va_G) (k : Nat → ClassId) (z : (Nat → Nat) × (Nat → Nat)) (N : Nat) (a_p0 : Nat) (a_p0_setup : Nat) (a_p0_net : Nat) (a_p0_trial : Nat) (a_p0_saved : Nat) (a_p0_line : Nat) (a_p0_net_stations : Nat) (a_p0_net_links : Nat) (a_p0_net_messages : Nat) (a_p0_net_copies : Nat) (a_p0_net_log : Nat) (a_p0_net_ways : Nat) (a_p0_net_frames : Nat) (a_p0_net_ways_heard : Nat) (c_p0_latestError : Int32) (c_p0_latestErrorPosition : Int32) (c_p0_net_stationCount : Int32) (c_p0_net_linkCount : Int32) (c_p0_net_messageCount : Int32) (c_p0_net_time : Int32) (c_p0_net_life : Int32) (c_p0_net_tries : Int32) (c_p0_net_x : Int32) (c_p0_net_ways_arrival : Int32) (c_p0_net_ways_fewest : Int32) (c_p0_net_ways_next : Int32) (c_p0_net_ways_heard : Nat → Int64) (i1 : Int32) (i2 : Int32) (i3 : Int32) (i4 : Int32) {u : Nat × Int32 × Int32 × Int32 × Int32} (hf : fL_way N c_p0_net_stationCount c_p0_net_ways_arrival c_p0_net_ways_fewest c_p0_net_ways_next c_p0_net_ways_heard i1 i2 i3 i4 = some u) : rn_KW l D k z yL_way cL_way 6 hhL_way 7 134 [.ref a_p0, .int i1, .int i2, .int i3, .int i4] [(a_p0, .inr (6, [.ref a_p0_setup, .int c_p0_latestError, .int c_p0_latestErrorPosition, .ref a_p0_net, .ref a_p0_trial, .ref a_p0_saved, .ref a_p0_line])), (a_p0_net, .inr (2, [.ref a_p0_net_stations, .ref a_p0_net_links, .ref a_p0_net_messages, .ref a_p0_net_copies, .ref a_p0_net_log, .ref a_p0_net_ways, .ref a_p0_net_frames, .int c_p0_net_stationCount, .int c_p0_net_linkCount, .int c_p0_net_messageCount, .int c_p0_net_time, .int c_p0_net_life, .int c_p0_net_tries, .int c_p0_net_x])), (a_p0_net_ways, .inr (5, [.ref a_p0_net_ways_heard, .int c_p0_net_ways_arrival, .int c_p0_net_ways_fewest, .int c_p0_net_ways_next])), (a_p0_net_ways_heard, .inl (k 1, 24, .inr (.inl c_p0_net_ways_heard)))] [(a_p0, .inr (6, [.ref a_p0_setup, .int c_p0_latestError, .int c_p0_latestErrorPosition, .ref a_p0_net, .ref a_p0_trial, .ref a_p0_saved, .ref a_p0_line])), (a_p0_net, .inr (2, [.ref a_p0_net_stations, .ref a_p0_net_links, .ref a_p0_net_messages, .ref a_p0_net_copies, .ref a_p0_net_log, .ref a_p0_net_ways, .ref a_p0_net_frames, .int c_p0_net_stationCount, .int c_p0_net_linkCount, .int c_p0_net_messageCount, .int c_p0_net_time, .int c_p0_net_life, .int c_p0_net_tries, .int c_p0_net_x])), (a_p0_net_ways, .inr (5, [.ref a_p0_net_ways_heard, .int u.2.2.1, .int u.2.2.2.1, .int u.2.2.2.2])), (a_p0_net_ways_heard, .inl (k 1, 24, .inr (.inl c_p0_net_ways_heard)))] u.1 u.2.1 := by
  refine rn_KW.go (LOC := [(0, .ref a_p0), (1, .int i1), (2, .int i2), (3, .int i3), (4, .int i4)]) rfl (by decide) (Nat.le_of_ble_eq_true rfl) rfl ?_
  intro p e s m args below meth c A ls R Q hst hxc htab X hR hE hW hl
  have hx := X.1.1
  have hb := X.1.2.1
  have hts := X.1.2.2.2.2
  unfold fL_way at hf
  obtain ⟨t1, ht1, hf⟩ := rn_bind hf
  have hu : t1.1 = u.1 := by
    revert hf
    repeat' split
    all_goals (intro hf; first | (cases hf; done) | (cases hf; rfl))
  rw [← hu] at hR hE
  refine lv_aload_n hx hb dL_way_0 rfl (lv_at hl 0 rfl) ?_
  refine lv_iload_n hx hb dL_way_1 rfl (lv_at hl 1 rfl) ?_
  refine lv_iload_n hx hb dL_way_2 rfl (lv_at hl 2 rfl) ?_
  refine lv_iload_n hx hb dL_way_3 rfl (lv_at hl 3 rfl) ?_
  refine lv_iload hx hb dL_way_4 (lv_at hl 4 rfl) ?_
  refine rr_xcallI (As := [.int i1, .int i2, .int i3, .int i4]) (rest := []) X hxc hst hW (kX6_way l D k z N a_p0 a_p0_setup a_p0_net a_p0_trial a_p0_saved a_p0_line a_p0_net_stations a_p0_net_links a_p0_net_messages a_p0_net_copies a_p0_net_log a_p0_net_ways a_p0_net_frames a_p0_net_ways_heard c_p0_latestError c_p0_latestErrorPosition c_p0_net_stationCount c_p0_net_linkCount c_p0_net_messageCount c_p0_net_time c_p0_net_life c_p0_net_tries c_p0_net_x c_p0_net_ways_arrival c_p0_net_ways_fewest c_p0_net_ways_next c_p0_net_ways_heard i1 i2 i3 i4 ht1) gm_X6_way gl_L_76 [0, 1, 2, 3] [] [(a_p0, .inr (6, [.ref a_p0_setup, .int c_p0_latestError, .int c_p0_latestErrorPosition, .ref a_p0_net, .ref a_p0_trial, .ref a_p0_saved, .ref a_p0_line])), (a_p0_net, .inr (2, [.ref a_p0_net_stations, .ref a_p0_net_links, .ref a_p0_net_messages, .ref a_p0_net_copies, .ref a_p0_net_log, .ref a_p0_net_ways, .ref a_p0_net_frames, .int c_p0_net_stationCount, .int c_p0_net_linkCount, .int c_p0_net_messageCount, .int c_p0_net_time, .int c_p0_net_life, .int c_p0_net_tries, .int c_p0_net_x])), (a_p0_net_ways, .inr (5, [.ref a_p0_net_ways_heard, .int t1.2.2.1, .int t1.2.2.2.1, .int t1.2.2.2.2])), (a_p0_net_ways_heard, .inl (k 1, 24, .inr (.inl c_p0_net_ways_heard)))] rfl rfl rfl rfl ⟨rfl, rfl, rn_m0, rfl, rfl⟩ (rn_rT hR rfl) (rn_cs1 hR) hl.1 rfl (Nat.le_of_ble_eq_true rfl) dL_way_6 (fun hk H locs q9 ce hW hq9 hv hcl => ?_) (fun hk _ H locs hW => ?_)
  · replace hf := rn_f hf hk
    by_cases hk0 : t1.1 = 3
    · replace hf := rn_t hf hk0
      rw [hk0] at hcl
      refine vx_catch (name := rn_ex 3) X.1.2.2.2.1 [] (⟨0, 9, 10, 54⟩ : ExceptionTableEntry) [(⟨0, 9, 15, 46⟩ : ExceptionTableEntry)] (htab.trans rfl) (fun z hz => nomatch hz) (by decide) (by decide) (hts _ qc_3) (va_any rfl hxc.2.1.2.2) hq9 hv hcl ?_
      refine lv_astore (lv' := [(5, .ref q9), (0, .ref a_p0), (1, .int i1), (2, .int i2), (3, .int i3), (4, .int i4)]) hx hb dL_way_10 hl (Nat.le_of_ble_eq_true rfl) rfl (fun ls hl => ?_)
      refine lv_bipush (v := -101) hx hb dL_way_12 (by decide) ?_
      cases hf
      exact hE _ _ _ _ hW dL_way_14
    replace hf := rn_f hf hk0
    by_cases hk1 : t1.1 = 1
    · replace hf := rn_t hf hk1
      rw [hk1] at hcl
      refine vx_catch (name := rn_ex 1) X.1.2.2.2.1 [(⟨0, 9, 10, 54⟩ : ExceptionTableEntry)] (⟨0, 9, 15, 46⟩ : ExceptionTableEntry) [] (htab.trans rfl) (fun z hz => by rcases List.mem_singleton.mp hz with rfl; exact Or.inr ⟨by decide, rn_ex 3, hts _ qc_3, hxc.2.2.1.2⟩) (by decide) (by decide) (hts _ qc_1) (va_any rfl hxc.2.1.1) hq9 hv hcl ?_
      refine lv_astore (lv' := [(5, .ref q9), (0, .ref a_p0), (1, .int i1), (2, .int i2), (3, .int i3), (4, .int i4)]) hx hb dL_way_15 hl (Nat.le_of_ble_eq_true rfl) rfl (fun ls hl => ?_)
      refine lv_bipush (v := -102) hx hb dL_way_17 (by decide) ?_
      cases hf
      exact hE _ _ _ _ hW dL_way_19
    replace hf := rn_f hf hk1
    cases hf
  · replace hf := rn_t hf hk
    cases hf
    exact hE _ _ _ _ hW dL_way_9
def fL_send (c_p0_net_stationCount : Int32) (c_p0_net_messageCount : Int32) (c_p0_net_time : Int32) (c_p0_net_messages : Nat → Int32) (c_p0_net_copies : Nat → Int32) (c_p0_net_log_first : Int32) (c_p0_net_log_size : Int32) (c_p0_net_log_events : Nat → Int32) (i1 : Int32) (i2 : Int32) (i3 : Int32) : Option (Nat × Int32 × Int32 × (Nat → Int32) × (Nat → Int32) × Int32 × Int32 × (Nat → Int32)) :=
  (fX6_send c_p0_net_stationCount c_p0_net_messageCount c_p0_net_time c_p0_net_messages c_p0_net_copies c_p0_net_log_first c_p0_net_log_size c_p0_net_log_events i1 i2 i3).bind fun t1 =>
  if t1.1 = 0 then
    some (t1.1, t1.2.1, t1.2.2.1, t1.2.2.2.1, t1.2.2.2.2.1, t1.2.2.2.2.2.1, t1.2.2.2.2.2.2.1, t1.2.2.2.2.2.2.2)
  else
  if t1.1 = 3 then
    some (t1.1, (-101 : Int32), t1.2.2.1, t1.2.2.2.1, t1.2.2.2.2.1, t1.2.2.2.2.2.1, t1.2.2.2.2.2.2.1, t1.2.2.2.2.2.2.2)
  else
  if t1.1 = 1 then
    some (t1.1, (-102 : Int32), t1.2.2.1, t1.2.2.2.1, t1.2.2.2.2.1, t1.2.2.2.2.2.1, t1.2.2.2.2.2.2.1, t1.2.2.2.2.2.2.2)
  else
  if t1.1 = 2 then
    some (t1.1, (-103 : Int32), t1.2.2.1, t1.2.2.2.1, t1.2.2.2.2.1, t1.2.2.2.2.2.1, t1.2.2.2.2.2.2.1, t1.2.2.2.2.2.2.2)
  else
  none
set_option maxHeartbeats 4000000 in
set_option maxRecDepth 20000 in
theorem kL_send (l : Launch) (D : va_G) (k : Nat → ClassId) (z : (Nat → Nat) × (Nat → Nat)) (a_p0 : Nat) (a_p0_setup : Nat) (a_p0_net : Nat) (a_p0_trial : Nat) (a_p0_saved : Nat) (a_p0_line : Nat) (a_p0_net_stations : Nat) (a_p0_net_links : Nat) (a_p0_net_messages : Nat) (a_p0_net_copies : Nat) (a_p0_net_log : Nat) (a_p0_net_ways : Nat) (a_p0_net_frames : Nat) (a_p0_net_messages_cells : Nat) (a_p0_net_copies_cells : Nat) (a_p0_net_log_events : Nat) (a_p0_net_log_events_cells : Nat) (c_p0_latestError : Int32) (c_p0_latestErrorPosition : Int32) (c_p0_net_stationCount : Int32) (c_p0_net_linkCount : Int32) (c_p0_net_messageCount : Int32) (c_p0_net_time : Int32) (c_p0_net_life : Int32) (c_p0_net_tries : Int32) (c_p0_net_x : Int32) (c_p0_net_messages : Nat → Int32) (c_p0_net_copies : Nat → Int32) (c_p0_net_log_first : Int32) (c_p0_net_log_size : Int32) (c_p0_net_log_events : Nat → Int32) (i1 : Int32) (i2 : Int32) (i3 : Int32) {u : Nat × Int32 × Int32 × (Nat → Int32) × (Nat → Int32) × Int32 × Int32 × (Nat → Int32)} (hf : fL_send c_p0_net_stationCount c_p0_net_messageCount c_p0_net_time c_p0_net_messages c_p0_net_copies c_p0_net_log_first c_p0_net_log_size c_p0_net_log_events i1 i2 i3 = some u) : rn_KW l D k z yL_send cL_send 5 hhL_send 7 105 [.ref a_p0, .int i1, .int i2, .int i3] [(a_p0, .inr (6, [.ref a_p0_setup, .int c_p0_latestError, .int c_p0_latestErrorPosition, .ref a_p0_net, .ref a_p0_trial, .ref a_p0_saved, .ref a_p0_line])), (a_p0_net, .inr (2, [.ref a_p0_net_stations, .ref a_p0_net_links, .ref a_p0_net_messages, .ref a_p0_net_copies, .ref a_p0_net_log, .ref a_p0_net_ways, .ref a_p0_net_frames, .int c_p0_net_stationCount, .int c_p0_net_linkCount, .int c_p0_net_messageCount, .int c_p0_net_time, .int c_p0_net_life, .int c_p0_net_tries, .int c_p0_net_x])), (a_p0_net_messages, .inr (4, [.int (24 : Int32), .int (12 : Int32), .ref a_p0_net_messages_cells])), (a_p0_net_messages_cells, .inl (k 0, 288, .inl c_p0_net_messages)), (a_p0_net_copies, .inr (4, [.int (192 : Int32), .int (5 : Int32), .ref a_p0_net_copies_cells])), (a_p0_net_copies_cells, .inl (k 0, 960, .inl c_p0_net_copies)), (a_p0_net_log, .inr (0, [.ref a_p0_net_log_events, .int c_p0_net_log_first, .int c_p0_net_log_size])), (a_p0_net_log_events, .inr (4, [.int (40 : Int32), .int (5 : Int32), .ref a_p0_net_log_events_cells])), (a_p0_net_log_events_cells, .inl (k 0, 200, .inl c_p0_net_log_events))] [(a_p0, .inr (6, [.ref a_p0_setup, .int c_p0_latestError, .int c_p0_latestErrorPosition, .ref a_p0_net, .ref a_p0_trial, .ref a_p0_saved, .ref a_p0_line])), (a_p0_net, .inr (2, [.ref a_p0_net_stations, .ref a_p0_net_links, .ref a_p0_net_messages, .ref a_p0_net_copies, .ref a_p0_net_log, .ref a_p0_net_ways, .ref a_p0_net_frames, .int c_p0_net_stationCount, .int c_p0_net_linkCount, .int u.2.2.1, .int c_p0_net_time, .int c_p0_net_life, .int c_p0_net_tries, .int c_p0_net_x])), (a_p0_net_messages, .inr (4, [.int (24 : Int32), .int (12 : Int32), .ref a_p0_net_messages_cells])), (a_p0_net_messages_cells, .inl (k 0, 288, .inl u.2.2.2.1)), (a_p0_net_copies, .inr (4, [.int (192 : Int32), .int (5 : Int32), .ref a_p0_net_copies_cells])), (a_p0_net_copies_cells, .inl (k 0, 960, .inl u.2.2.2.2.1)), (a_p0_net_log, .inr (0, [.ref a_p0_net_log_events, .int u.2.2.2.2.2.1, .int u.2.2.2.2.2.2.1])), (a_p0_net_log_events, .inr (4, [.int (40 : Int32), .int (5 : Int32), .ref a_p0_net_log_events_cells])), (a_p0_net_log_events_cells, .inl (k 0, 200, .inl u.2.2.2.2.2.2.2))] u.1 u.2.1 := by
  refine rn_KW.go (LOC := [(0, .ref a_p0), (1, .int i1), (2, .int i2), (3, .int i3)]) rfl (by decide) (Nat.le_of_ble_eq_true rfl) rfl ?_
  intro p e s m args below meth c A ls R Q hst hxc htab X hR hE hW hl
  have hx := X.1.1
  have hb := X.1.2.1
  have hts := X.1.2.2.2.2
  unfold fL_send at hf
  obtain ⟨t1, ht1, hf⟩ := rn_bind hf
  obtain ⟨u0, u1, u2, u3, u4, u5, u6, u7⟩ := u
  dsimp only at hE hR
  have hu : t1.1 = u0 := by
    revert hf
    repeat' split
    all_goals (intro hf; first | (cases hf; done) | (cases hf; rfl))
  rw [← hu] at hR hE
  refine lv_aload_n hx hb dL_send_0 rfl (lv_at hl 0 rfl) ?_
  refine lv_iload_n hx hb dL_send_1 rfl (lv_at hl 1 rfl) ?_
  refine lv_iload_n hx hb dL_send_2 rfl (lv_at hl 2 rfl) ?_
  refine lv_iload_n hx hb dL_send_3 rfl (lv_at hl 3 rfl) ?_
  refine rr_xcallI (As := [.int i1, .int i2, .int i3]) (rest := []) X hxc hst hW (kX6_send l D k z a_p0 a_p0_setup a_p0_net a_p0_trial a_p0_saved a_p0_line a_p0_net_stations a_p0_net_links a_p0_net_messages a_p0_net_copies a_p0_net_log a_p0_net_ways a_p0_net_frames a_p0_net_messages_cells a_p0_net_copies_cells a_p0_net_log_events a_p0_net_log_events_cells c_p0_latestError c_p0_latestErrorPosition c_p0_net_stationCount c_p0_net_linkCount c_p0_net_messageCount c_p0_net_time c_p0_net_life c_p0_net_tries c_p0_net_x c_p0_net_messages c_p0_net_copies c_p0_net_log_first c_p0_net_log_size c_p0_net_log_events i1 i2 i3 ht1) gm_X6_send gl_L_80 [0, 1, 2, 3, 4, 5, 6, 7, 8] [] [(a_p0, .inr (6, [.ref a_p0_setup, .int c_p0_latestError, .int c_p0_latestErrorPosition, .ref a_p0_net, .ref a_p0_trial, .ref a_p0_saved, .ref a_p0_line])), (a_p0_net, .inr (2, [.ref a_p0_net_stations, .ref a_p0_net_links, .ref a_p0_net_messages, .ref a_p0_net_copies, .ref a_p0_net_log, .ref a_p0_net_ways, .ref a_p0_net_frames, .int c_p0_net_stationCount, .int c_p0_net_linkCount, .int t1.2.2.1, .int c_p0_net_time, .int c_p0_net_life, .int c_p0_net_tries, .int c_p0_net_x])), (a_p0_net_messages, .inr (4, [.int (24 : Int32), .int (12 : Int32), .ref a_p0_net_messages_cells])), (a_p0_net_messages_cells, .inl (k 0, 288, .inl t1.2.2.2.1)), (a_p0_net_copies, .inr (4, [.int (192 : Int32), .int (5 : Int32), .ref a_p0_net_copies_cells])), (a_p0_net_copies_cells, .inl (k 0, 960, .inl t1.2.2.2.2.1)), (a_p0_net_log, .inr (0, [.ref a_p0_net_log_events, .int t1.2.2.2.2.2.1, .int t1.2.2.2.2.2.2.1])), (a_p0_net_log_events, .inr (4, [.int (40 : Int32), .int (5 : Int32), .ref a_p0_net_log_events_cells])), (a_p0_net_log_events_cells, .inl (k 0, 200, .inl t1.2.2.2.2.2.2.2))] rfl rfl rfl rfl ⟨rfl, rfl, rn_m0, rfl, rfl⟩ (rn_rT hR rfl) (rn_cs1 hR) hl.1 rfl (Nat.le_of_ble_eq_true rfl) dL_send_4 (fun hk H locs q9 ce hW hq9 hv hcl => ?_) (fun hk _ H locs hW => ?_)
  · replace hf := rn_f hf hk
    by_cases hk0 : t1.1 = 3
    · replace hf := rn_t hf hk0
      rw [hk0] at hcl
      refine vx_catch (name := rn_ex 3) X.1.2.2.2.1 [] (⟨0, 7, 8, 54⟩ : ExceptionTableEntry) [(⟨0, 7, 13, 46⟩ : ExceptionTableEntry), (⟨0, 7, 18, 48⟩ : ExceptionTableEntry)] (htab.trans rfl) (fun z hz => nomatch hz) (by decide) (by decide) (hts _ qc_3) (va_any rfl hxc.2.1.2.2) hq9 hv hcl ?_
      refine lv_astore (lv' := [(4, .ref q9), (0, .ref a_p0), (1, .int i1), (2, .int i2), (3, .int i3)]) hx hb dL_send_8 hl (Nat.le_of_ble_eq_true rfl) rfl (fun ls hl => ?_)
      refine lv_bipush (v := -101) hx hb dL_send_10 (by decide) ?_
      cases hf
      exact hE _ _ _ _ hW dL_send_12
    replace hf := rn_f hf hk0
    by_cases hk1 : t1.1 = 1
    · replace hf := rn_t hf hk1
      rw [hk1] at hcl
      refine vx_catch (name := rn_ex 1) X.1.2.2.2.1 [(⟨0, 7, 8, 54⟩ : ExceptionTableEntry)] (⟨0, 7, 13, 46⟩ : ExceptionTableEntry) [(⟨0, 7, 18, 48⟩ : ExceptionTableEntry)] (htab.trans rfl) (fun z hz => by rcases List.mem_singleton.mp hz with rfl; exact Or.inr ⟨by decide, rn_ex 3, hts _ qc_3, hxc.2.2.1.2⟩) (by decide) (by decide) (hts _ qc_1) (va_any rfl hxc.2.1.1) hq9 hv hcl ?_
      refine lv_astore (lv' := [(4, .ref q9), (0, .ref a_p0), (1, .int i1), (2, .int i2), (3, .int i3)]) hx hb dL_send_13 hl (Nat.le_of_ble_eq_true rfl) rfl (fun ls hl => ?_)
      refine lv_bipush (v := -102) hx hb dL_send_15 (by decide) ?_
      cases hf
      exact hE _ _ _ _ hW dL_send_17
    replace hf := rn_f hf hk1
    by_cases hk2 : t1.1 = 2
    · replace hf := rn_t hf hk2
      rw [hk2] at hcl
      refine vx_catch (name := rn_ex 2) X.1.2.2.2.1 [(⟨0, 7, 8, 54⟩ : ExceptionTableEntry), (⟨0, 7, 13, 46⟩ : ExceptionTableEntry)] (⟨0, 7, 18, 48⟩ : ExceptionTableEntry) [] (htab.trans rfl) (fun z hz => by rcases List.mem_cons.mp hz with rfl | hz; exact Or.inr ⟨by decide, rn_ex 3, hts _ qc_3, hxc.2.2.2.1.2⟩; rcases List.mem_singleton.mp hz with rfl; exact Or.inr ⟨by decide, rn_ex 1, hts _ qc_1, hxc.2.2.2.1.1⟩) (by decide) (by decide) (hts _ qc_2) (va_any rfl hxc.2.1.2.1) hq9 hv hcl ?_
      refine lv_astore (lv' := [(4, .ref q9), (0, .ref a_p0), (1, .int i1), (2, .int i2), (3, .int i3)]) hx hb dL_send_18 hl (Nat.le_of_ble_eq_true rfl) rfl (fun ls hl => ?_)
      refine lv_bipush (v := -103) hx hb dL_send_20 (by decide) ?_
      cases hf
      exact hE _ _ _ _ hW dL_send_22
    replace hf := rn_f hf hk2
    cases hf
  · replace hf := rn_t hf hk
    cases hf
    exact hE _ _ _ _ hW dL_send_7
def fL_takeBack (N : Nat) (c_p0_net_stationCount : Int32) (c_p0_net_messageCount : Int32) (c_p0_net_time : Int32) (c_p0_net_messages : Nat → Int32) (c_p0_net_copies : Nat → Int32) (c_p0_net_log_first : Int32) (c_p0_net_log_size : Int32) (c_p0_net_log_events : Nat → Int32) (i1 : Int32) : Option (Nat × Int32 × (Nat → Int32) × (Nat → Int32) × Int32 × Int32 × (Nat → Int32)) :=
  (fX6_takeBack N c_p0_net_stationCount c_p0_net_messageCount c_p0_net_time c_p0_net_messages c_p0_net_copies c_p0_net_log_first c_p0_net_log_size c_p0_net_log_events i1).bind fun t1 =>
  if t1.1 = 0 then
    some (t1.1, t1.2.1, t1.2.2.1, t1.2.2.2.1, t1.2.2.2.2.1, t1.2.2.2.2.2.1, t1.2.2.2.2.2.2)
  else
  if t1.1 = 3 then
    some (t1.1, (-101 : Int32), t1.2.2.1, t1.2.2.2.1, t1.2.2.2.2.1, t1.2.2.2.2.2.1, t1.2.2.2.2.2.2)
  else
  none
set_option maxHeartbeats 4000000 in
set_option maxRecDepth 20000 in
theorem kL_takeBack (l : Launch) (D : va_G) (k : Nat → ClassId) (z : (Nat → Nat) × (Nat → Nat)) (N : Nat) (a_p0 : Nat) (a_p0_setup : Nat) (a_p0_net : Nat) (a_p0_trial : Nat) (a_p0_saved : Nat) (a_p0_line : Nat) (a_p0_net_stations : Nat) (a_p0_net_links : Nat) (a_p0_net_messages : Nat) (a_p0_net_copies : Nat) (a_p0_net_log : Nat) (a_p0_net_ways : Nat) (a_p0_net_frames : Nat) (a_p0_net_messages_cells : Nat) (a_p0_net_copies_cells : Nat) (a_p0_net_log_events : Nat) (a_p0_net_log_events_cells : Nat) (c_p0_latestError : Int32) (c_p0_latestErrorPosition : Int32) (c_p0_net_stationCount : Int32) (c_p0_net_linkCount : Int32) (c_p0_net_messageCount : Int32) (c_p0_net_time : Int32) (c_p0_net_life : Int32) (c_p0_net_tries : Int32) (c_p0_net_x : Int32) (c_p0_net_messages : Nat → Int32) (c_p0_net_copies : Nat → Int32) (c_p0_net_log_first : Int32) (c_p0_net_log_size : Int32) (c_p0_net_log_events : Nat → Int32) (i1 : Int32) {u : Nat × Int32 × (Nat → Int32) × (Nat → Int32) × Int32 × Int32 × (Nat → Int32)} (hf : fL_takeBack N c_p0_net_stationCount c_p0_net_messageCount c_p0_net_time c_p0_net_messages c_p0_net_copies c_p0_net_log_first c_p0_net_log_size c_p0_net_log_events i1 = some u) : rn_KW l D k z yL_takeBack cL_takeBack 3 hhL_takeBack 7 119 [.ref a_p0, .int i1] [(a_p0, .inr (6, [.ref a_p0_setup, .int c_p0_latestError, .int c_p0_latestErrorPosition, .ref a_p0_net, .ref a_p0_trial, .ref a_p0_saved, .ref a_p0_line])), (a_p0_net, .inr (2, [.ref a_p0_net_stations, .ref a_p0_net_links, .ref a_p0_net_messages, .ref a_p0_net_copies, .ref a_p0_net_log, .ref a_p0_net_ways, .ref a_p0_net_frames, .int c_p0_net_stationCount, .int c_p0_net_linkCount, .int c_p0_net_messageCount, .int c_p0_net_time, .int c_p0_net_life, .int c_p0_net_tries, .int c_p0_net_x])), (a_p0_net_messages, .inr (4, [.int (24 : Int32), .int (12 : Int32), .ref a_p0_net_messages_cells])), (a_p0_net_messages_cells, .inl (k 0, 288, .inl c_p0_net_messages)), (a_p0_net_copies, .inr (4, [.int (192 : Int32), .int (5 : Int32), .ref a_p0_net_copies_cells])), (a_p0_net_copies_cells, .inl (k 0, 960, .inl c_p0_net_copies)), (a_p0_net_log, .inr (0, [.ref a_p0_net_log_events, .int c_p0_net_log_first, .int c_p0_net_log_size])), (a_p0_net_log_events, .inr (4, [.int (40 : Int32), .int (5 : Int32), .ref a_p0_net_log_events_cells])), (a_p0_net_log_events_cells, .inl (k 0, 200, .inl c_p0_net_log_events))] [(a_p0, .inr (6, [.ref a_p0_setup, .int c_p0_latestError, .int c_p0_latestErrorPosition, .ref a_p0_net, .ref a_p0_trial, .ref a_p0_saved, .ref a_p0_line])), (a_p0_net, .inr (2, [.ref a_p0_net_stations, .ref a_p0_net_links, .ref a_p0_net_messages, .ref a_p0_net_copies, .ref a_p0_net_log, .ref a_p0_net_ways, .ref a_p0_net_frames, .int c_p0_net_stationCount, .int c_p0_net_linkCount, .int c_p0_net_messageCount, .int c_p0_net_time, .int c_p0_net_life, .int c_p0_net_tries, .int c_p0_net_x])), (a_p0_net_messages, .inr (4, [.int (24 : Int32), .int (12 : Int32), .ref a_p0_net_messages_cells])), (a_p0_net_messages_cells, .inl (k 0, 288, .inl u.2.2.1)), (a_p0_net_copies, .inr (4, [.int (192 : Int32), .int (5 : Int32), .ref a_p0_net_copies_cells])), (a_p0_net_copies_cells, .inl (k 0, 960, .inl u.2.2.2.1)), (a_p0_net_log, .inr (0, [.ref a_p0_net_log_events, .int u.2.2.2.2.1, .int u.2.2.2.2.2.1])), (a_p0_net_log_events, .inr (4, [.int (40 : Int32), .int (5 : Int32), .ref a_p0_net_log_events_cells])), (a_p0_net_log_events_cells, .inl (k 0, 200, .inl u.2.2.2.2.2.2))] u.1 u.2.1 := by
  refine rn_KW.go (LOC := [(0, .ref a_p0), (1, .int i1)]) rfl (by decide) (Nat.le_of_ble_eq_true rfl) rfl ?_
  intro p e s m args below meth c A ls R Q hst hxc htab X hR hE hW hl
  have hx := X.1.1
  have hb := X.1.2.1
  have hts := X.1.2.2.2.2
  unfold fL_takeBack at hf
  obtain ⟨t1, ht1, hf⟩ := rn_bind hf
  obtain ⟨u0, u1, u2, u3, u4, u5, u6⟩ := u
  dsimp only at hE hR
  have hu : t1.1 = u0 := by
    revert hf
    repeat' split
    all_goals (intro hf; first | (cases hf; done) | (cases hf; rfl))
  rw [← hu] at hR hE
  refine lv_aload_n hx hb dL_takeBack_0 rfl (lv_at hl 0 rfl) ?_
  refine lv_iload_n hx hb dL_takeBack_1 rfl (lv_at hl 1 rfl) ?_
  refine rr_xcallI (As := [.int i1]) (rest := []) X hxc hst hW (kX6_takeBack l D k z N a_p0 a_p0_setup a_p0_net a_p0_trial a_p0_saved a_p0_line a_p0_net_stations a_p0_net_links a_p0_net_messages a_p0_net_copies a_p0_net_log a_p0_net_ways a_p0_net_frames a_p0_net_messages_cells a_p0_net_copies_cells a_p0_net_log_events a_p0_net_log_events_cells c_p0_latestError c_p0_latestErrorPosition c_p0_net_stationCount c_p0_net_linkCount c_p0_net_messageCount c_p0_net_time c_p0_net_life c_p0_net_tries c_p0_net_x c_p0_net_messages c_p0_net_copies c_p0_net_log_first c_p0_net_log_size c_p0_net_log_events i1 ht1) gm_X6_takeBack gl_L_86 [0, 1, 2, 3, 4, 5, 6, 7, 8] [] [(a_p0, .inr (6, [.ref a_p0_setup, .int c_p0_latestError, .int c_p0_latestErrorPosition, .ref a_p0_net, .ref a_p0_trial, .ref a_p0_saved, .ref a_p0_line])), (a_p0_net, .inr (2, [.ref a_p0_net_stations, .ref a_p0_net_links, .ref a_p0_net_messages, .ref a_p0_net_copies, .ref a_p0_net_log, .ref a_p0_net_ways, .ref a_p0_net_frames, .int c_p0_net_stationCount, .int c_p0_net_linkCount, .int c_p0_net_messageCount, .int c_p0_net_time, .int c_p0_net_life, .int c_p0_net_tries, .int c_p0_net_x])), (a_p0_net_messages, .inr (4, [.int (24 : Int32), .int (12 : Int32), .ref a_p0_net_messages_cells])), (a_p0_net_messages_cells, .inl (k 0, 288, .inl t1.2.2.1)), (a_p0_net_copies, .inr (4, [.int (192 : Int32), .int (5 : Int32), .ref a_p0_net_copies_cells])), (a_p0_net_copies_cells, .inl (k 0, 960, .inl t1.2.2.2.1)), (a_p0_net_log, .inr (0, [.ref a_p0_net_log_events, .int t1.2.2.2.2.1, .int t1.2.2.2.2.2.1])), (a_p0_net_log_events, .inr (4, [.int (40 : Int32), .int (5 : Int32), .ref a_p0_net_log_events_cells])), (a_p0_net_log_events_cells, .inl (k 0, 200, .inl t1.2.2.2.2.2.2))] rfl rfl rfl rfl ⟨rfl, rfl, rn_m0, rfl, rfl⟩ (rn_rT hR rfl) (rn_cs1 hR) hl.1 rfl (Nat.le_of_ble_eq_true rfl) dL_takeBack_2 (fun hk H locs q9 ce hW hq9 hv hcl => ?_) (fun hk _ H locs hW => ?_)
  · replace hf := rn_f hf hk
    by_cases hk0 : t1.1 = 3
    · replace hf := rn_t hf hk0
      rw [hk0] at hcl
      refine vx_catch (name := rn_ex 3) X.1.2.2.2.1 [] (⟨0, 5, 6, 54⟩ : ExceptionTableEntry) [] (htab.trans rfl) (fun z hz => nomatch hz) (by decide) (by decide) (hts _ qc_3) (va_any rfl hxc.2.1.2.2) hq9 hv hcl ?_
      refine lv_astore_n (lv' := [(2, .ref q9), (0, .ref a_p0), (1, .int i1)]) hx hb dL_takeBack_6 rfl hl (Nat.le_of_ble_eq_true rfl) rfl (fun ls hl => ?_)
      refine lv_bipush (v := -101) hx hb dL_takeBack_7 (by decide) ?_
      cases hf
      exact hE _ _ _ _ hW dL_takeBack_9
    replace hf := rn_f hf hk0
    cases hf
  · replace hf := rn_t hf hk
    cases hf
    exact hE _ _ _ _ hW dL_takeBack_5
def fL_message (N : Nat) (c_p0_net_stationCount : Int32) (c_p0_net_messageCount : Int32) (c_p0_net_messages : Nat → Int32) (c_p0_net_copies : Nat → Int32) (i1 : Int32) (i2 : Int32) : Option (Nat × Int32) :=
  (fX6_message N c_p0_net_stationCount c_p0_net_messageCount c_p0_net_messages c_p0_net_copies i1 i2).bind fun t1 =>
  if t1.1 = 0 then
    some (t1.1, t1.2)
  else
  if t1.1 = 3 then
    some (t1.1, (-101 : Int32))
  else
  if t1.1 = 1 then
    some (t1.1, (-102 : Int32))
  else
  none
set_option maxHeartbeats 4000000 in
set_option maxRecDepth 20000 in
theorem kL_message (l : Launch) (D : va_G) (k : Nat → ClassId) (z : (Nat → Nat) × (Nat → Nat)) (N : Nat) (a_p0 : Nat) (a_p0_setup : Nat) (a_p0_net : Nat) (a_p0_trial : Nat) (a_p0_saved : Nat) (a_p0_line : Nat) (a_p0_net_stations : Nat) (a_p0_net_links : Nat) (a_p0_net_messages : Nat) (a_p0_net_copies : Nat) (a_p0_net_log : Nat) (a_p0_net_ways : Nat) (a_p0_net_frames : Nat) (a_p0_net_messages_cells : Nat) (a_p0_net_copies_cells : Nat) (c_p0_latestError : Int32) (c_p0_latestErrorPosition : Int32) (c_p0_net_stationCount : Int32) (c_p0_net_linkCount : Int32) (c_p0_net_messageCount : Int32) (c_p0_net_time : Int32) (c_p0_net_life : Int32) (c_p0_net_tries : Int32) (c_p0_net_x : Int32) (c_p0_net_messages : Nat → Int32) (c_p0_net_copies : Nat → Int32) (i1 : Int32) (i2 : Int32) {u : Nat × Int32} (hf : fL_message N c_p0_net_stationCount c_p0_net_messageCount c_p0_net_messages c_p0_net_copies i1 i2 = some u) : rn_KW l D k z yL_message cL_message 4 hhL_message 7 137 [.ref a_p0, .int i1, .int i2] [(a_p0, .inr (6, [.ref a_p0_setup, .int c_p0_latestError, .int c_p0_latestErrorPosition, .ref a_p0_net, .ref a_p0_trial, .ref a_p0_saved, .ref a_p0_line])), (a_p0_net, .inr (2, [.ref a_p0_net_stations, .ref a_p0_net_links, .ref a_p0_net_messages, .ref a_p0_net_copies, .ref a_p0_net_log, .ref a_p0_net_ways, .ref a_p0_net_frames, .int c_p0_net_stationCount, .int c_p0_net_linkCount, .int c_p0_net_messageCount, .int c_p0_net_time, .int c_p0_net_life, .int c_p0_net_tries, .int c_p0_net_x])), (a_p0_net_messages, .inr (4, [.int (24 : Int32), .int (12 : Int32), .ref a_p0_net_messages_cells])), (a_p0_net_messages_cells, .inl (k 0, 288, .inl c_p0_net_messages)), (a_p0_net_copies, .inr (4, [.int (192 : Int32), .int (5 : Int32), .ref a_p0_net_copies_cells])), (a_p0_net_copies_cells, .inl (k 0, 960, .inl c_p0_net_copies))] [(a_p0, .inr (6, [.ref a_p0_setup, .int c_p0_latestError, .int c_p0_latestErrorPosition, .ref a_p0_net, .ref a_p0_trial, .ref a_p0_saved, .ref a_p0_line])), (a_p0_net, .inr (2, [.ref a_p0_net_stations, .ref a_p0_net_links, .ref a_p0_net_messages, .ref a_p0_net_copies, .ref a_p0_net_log, .ref a_p0_net_ways, .ref a_p0_net_frames, .int c_p0_net_stationCount, .int c_p0_net_linkCount, .int c_p0_net_messageCount, .int c_p0_net_time, .int c_p0_net_life, .int c_p0_net_tries, .int c_p0_net_x])), (a_p0_net_messages, .inr (4, [.int (24 : Int32), .int (12 : Int32), .ref a_p0_net_messages_cells])), (a_p0_net_messages_cells, .inl (k 0, 288, .inl c_p0_net_messages)), (a_p0_net_copies, .inr (4, [.int (192 : Int32), .int (5 : Int32), .ref a_p0_net_copies_cells])), (a_p0_net_copies_cells, .inl (k 0, 960, .inl c_p0_net_copies))] u.1 u.2 := by
  refine rn_KW.go (LOC := [(0, .ref a_p0), (1, .int i1), (2, .int i2)]) rfl (by decide) (Nat.le_of_ble_eq_true rfl) rfl ?_
  intro p e s m args below meth c A ls R Q hst hxc htab X hR hE hW hl
  have hx := X.1.1
  have hb := X.1.2.1
  have hts := X.1.2.2.2.2
  unfold fL_message at hf
  obtain ⟨t1, ht1, hf⟩ := rn_bind hf
  have hu : t1.1 = u.1 := by
    revert hf
    repeat' split
    all_goals (intro hf; first | (cases hf; done) | (cases hf; rfl))
  rw [← hu] at hR hE
  refine lv_aload_n hx hb dL_message_0 rfl (lv_at hl 0 rfl) ?_
  refine lv_iload_n hx hb dL_message_1 rfl (lv_at hl 1 rfl) ?_
  refine lv_iload_n hx hb dL_message_2 rfl (lv_at hl 2 rfl) ?_
  refine rr_xcallI (As := [.int i1, .int i2]) (rest := []) X hxc hst hW (kX6_message l D k z N a_p0 a_p0_setup a_p0_net a_p0_trial a_p0_saved a_p0_line a_p0_net_stations a_p0_net_links a_p0_net_messages a_p0_net_copies a_p0_net_log a_p0_net_ways a_p0_net_frames a_p0_net_messages_cells a_p0_net_copies_cells c_p0_latestError c_p0_latestErrorPosition c_p0_net_stationCount c_p0_net_linkCount c_p0_net_messageCount c_p0_net_time c_p0_net_life c_p0_net_tries c_p0_net_x c_p0_net_messages c_p0_net_copies i1 i2 ht1) gm_X6_message gl_L_89 [0, 1, 2, 3, 4, 5] [] [(a_p0, .inr (6, [.ref a_p0_setup, .int c_p0_latestError, .int c_p0_latestErrorPosition, .ref a_p0_net, .ref a_p0_trial, .ref a_p0_saved, .ref a_p0_line])), (a_p0_net, .inr (2, [.ref a_p0_net_stations, .ref a_p0_net_links, .ref a_p0_net_messages, .ref a_p0_net_copies, .ref a_p0_net_log, .ref a_p0_net_ways, .ref a_p0_net_frames, .int c_p0_net_stationCount, .int c_p0_net_linkCount, .int c_p0_net_messageCount, .int c_p0_net_time, .int c_p0_net_life, .int c_p0_net_tries, .int c_p0_net_x])), (a_p0_net_messages, .inr (4, [.int (24 : Int32), .int (12 : Int32), .ref a_p0_net_messages_cells])), (a_p0_net_messages_cells, .inl (k 0, 288, .inl c_p0_net_messages)), (a_p0_net_copies, .inr (4, [.int (192 : Int32), .int (5 : Int32), .ref a_p0_net_copies_cells])), (a_p0_net_copies_cells, .inl (k 0, 960, .inl c_p0_net_copies))] rfl rfl rfl rfl ⟨rfl, rfl, rn_m0, rfl, rfl⟩ (rn_rT hR rfl) (rn_cs1 hR) hl.1 rfl (Nat.le_of_ble_eq_true rfl) dL_message_3 (fun hk H locs q9 ce hW hq9 hv hcl => ?_) (fun hk _ H locs hW => ?_)
  · replace hf := rn_f hf hk
    by_cases hk0 : t1.1 = 3
    · replace hf := rn_t hf hk0
      rw [hk0] at hcl
      refine vx_catch (name := rn_ex 3) X.1.2.2.2.1 [] (⟨0, 6, 7, 54⟩ : ExceptionTableEntry) [(⟨0, 6, 11, 46⟩ : ExceptionTableEntry)] (htab.trans rfl) (fun z hz => nomatch hz) (by decide) (by decide) (hts _ qc_3) (va_any rfl hxc.2.1.2.2) hq9 hv hcl ?_
      refine lv_astore_n (lv' := [(3, .ref q9), (0, .ref a_p0), (1, .int i1), (2, .int i2)]) hx hb dL_message_7 rfl hl (Nat.le_of_ble_eq_true rfl) rfl (fun ls hl => ?_)
      refine lv_bipush (v := -101) hx hb dL_message_8 (by decide) ?_
      cases hf
      exact hE _ _ _ _ hW dL_message_10
    replace hf := rn_f hf hk0
    by_cases hk1 : t1.1 = 1
    · replace hf := rn_t hf hk1
      rw [hk1] at hcl
      refine vx_catch (name := rn_ex 1) X.1.2.2.2.1 [(⟨0, 6, 7, 54⟩ : ExceptionTableEntry)] (⟨0, 6, 11, 46⟩ : ExceptionTableEntry) [] (htab.trans rfl) (fun z hz => by rcases List.mem_singleton.mp hz with rfl; exact Or.inr ⟨by decide, rn_ex 3, hts _ qc_3, hxc.2.2.1.2⟩) (by decide) (by decide) (hts _ qc_1) (va_any rfl hxc.2.1.1) hq9 hv hcl ?_
      refine lv_astore_n (lv' := [(3, .ref q9), (0, .ref a_p0), (1, .int i1), (2, .int i2)]) hx hb dL_message_11 rfl hl (Nat.le_of_ble_eq_true rfl) rfl (fun ls hl => ?_)
      refine lv_bipush (v := -102) hx hb dL_message_12 (by decide) ?_
      cases hf
      exact hE _ _ _ _ hW dL_message_14
    replace hf := rn_f hf hk1
    cases hf
  · replace hf := rn_t hf hk
    cases hf
    exact hE _ _ _ _ hW dL_message_6
def fL_copy (N : Nat) (c_p0_net_stationCount : Int32) (c_p0_net_messageCount : Int32) (c_p0_net_time : Int32) (c_p0_net_messages : Nat → Int32) (c_p0_net_copies : Nat → Int32) (c_p0_net_ways_arrival : Int32) (c_p0_net_ways_fewest : Int32) (c_p0_net_ways_next : Int32) (c_p0_net_ways_heard : Nat → Int64) (i1 : Int32) (i2 : Int32) (i3 : Int32) : Option (Nat × Int32 × Int32 × Int32 × Int32) :=
  (fX6_copy N c_p0_net_stationCount c_p0_net_messageCount c_p0_net_time c_p0_net_messages c_p0_net_copies c_p0_net_ways_arrival c_p0_net_ways_fewest c_p0_net_ways_next c_p0_net_ways_heard i1 i2 i3).bind fun t1 =>
  if t1.1 = 0 then
    some (t1.1, t1.2.1, t1.2.2.1, t1.2.2.2.1, t1.2.2.2.2)
  else
  if t1.1 = 3 then
    some (t1.1, (-101 : Int32), t1.2.2.1, t1.2.2.2.1, t1.2.2.2.2)
  else
  if t1.1 = 1 then
    some (t1.1, (-102 : Int32), t1.2.2.1, t1.2.2.2.1, t1.2.2.2.2)
  else
  none
set_option maxHeartbeats 4000000 in
set_option maxRecDepth 20000 in
theorem kL_copy (l : Launch) (D : va_G) (k : Nat → ClassId) (z : (Nat → Nat) × (Nat → Nat)) (N : Nat) (a_p0 : Nat) (a_p0_setup : Nat) (a_p0_net : Nat) (a_p0_trial : Nat) (a_p0_saved : Nat) (a_p0_line : Nat) (a_p0_net_stations : Nat) (a_p0_net_links : Nat) (a_p0_net_messages : Nat) (a_p0_net_copies : Nat) (a_p0_net_log : Nat) (a_p0_net_ways : Nat) (a_p0_net_frames : Nat) (a_p0_net_messages_cells : Nat) (a_p0_net_copies_cells : Nat) (a_p0_net_ways_heard : Nat) (c_p0_latestError : Int32) (c_p0_latestErrorPosition : Int32) (c_p0_net_stationCount : Int32) (c_p0_net_linkCount : Int32) (c_p0_net_messageCount : Int32) (c_p0_net_time : Int32) (c_p0_net_life : Int32) (c_p0_net_tries : Int32) (c_p0_net_x : Int32) (c_p0_net_messages : Nat → Int32) (c_p0_net_copies : Nat → Int32) (c_p0_net_ways_arrival : Int32) (c_p0_net_ways_fewest : Int32) (c_p0_net_ways_next : Int32) (c_p0_net_ways_heard : Nat → Int64) (i1 : Int32) (i2 : Int32) (i3 : Int32) {u : Nat × Int32 × Int32 × Int32 × Int32} (hf : fL_copy N c_p0_net_stationCount c_p0_net_messageCount c_p0_net_time c_p0_net_messages c_p0_net_copies c_p0_net_ways_arrival c_p0_net_ways_fewest c_p0_net_ways_next c_p0_net_ways_heard i1 i2 i3 = some u) : rn_KW l D k z yL_copy cL_copy 5 hhL_copy 7 157 [.ref a_p0, .int i1, .int i2, .int i3] [(a_p0, .inr (6, [.ref a_p0_setup, .int c_p0_latestError, .int c_p0_latestErrorPosition, .ref a_p0_net, .ref a_p0_trial, .ref a_p0_saved, .ref a_p0_line])), (a_p0_net, .inr (2, [.ref a_p0_net_stations, .ref a_p0_net_links, .ref a_p0_net_messages, .ref a_p0_net_copies, .ref a_p0_net_log, .ref a_p0_net_ways, .ref a_p0_net_frames, .int c_p0_net_stationCount, .int c_p0_net_linkCount, .int c_p0_net_messageCount, .int c_p0_net_time, .int c_p0_net_life, .int c_p0_net_tries, .int c_p0_net_x])), (a_p0_net_messages, .inr (4, [.int (24 : Int32), .int (12 : Int32), .ref a_p0_net_messages_cells])), (a_p0_net_messages_cells, .inl (k 0, 288, .inl c_p0_net_messages)), (a_p0_net_copies, .inr (4, [.int (192 : Int32), .int (5 : Int32), .ref a_p0_net_copies_cells])), (a_p0_net_copies_cells, .inl (k 0, 960, .inl c_p0_net_copies)), (a_p0_net_ways, .inr (5, [.ref a_p0_net_ways_heard, .int c_p0_net_ways_arrival, .int c_p0_net_ways_fewest, .int c_p0_net_ways_next])), (a_p0_net_ways_heard, .inl (k 1, 24, .inr (.inl c_p0_net_ways_heard)))] [(a_p0, .inr (6, [.ref a_p0_setup, .int c_p0_latestError, .int c_p0_latestErrorPosition, .ref a_p0_net, .ref a_p0_trial, .ref a_p0_saved, .ref a_p0_line])), (a_p0_net, .inr (2, [.ref a_p0_net_stations, .ref a_p0_net_links, .ref a_p0_net_messages, .ref a_p0_net_copies, .ref a_p0_net_log, .ref a_p0_net_ways, .ref a_p0_net_frames, .int c_p0_net_stationCount, .int c_p0_net_linkCount, .int c_p0_net_messageCount, .int c_p0_net_time, .int c_p0_net_life, .int c_p0_net_tries, .int c_p0_net_x])), (a_p0_net_messages, .inr (4, [.int (24 : Int32), .int (12 : Int32), .ref a_p0_net_messages_cells])), (a_p0_net_messages_cells, .inl (k 0, 288, .inl c_p0_net_messages)), (a_p0_net_copies, .inr (4, [.int (192 : Int32), .int (5 : Int32), .ref a_p0_net_copies_cells])), (a_p0_net_copies_cells, .inl (k 0, 960, .inl c_p0_net_copies)), (a_p0_net_ways, .inr (5, [.ref a_p0_net_ways_heard, .int u.2.2.1, .int u.2.2.2.1, .int u.2.2.2.2])), (a_p0_net_ways_heard, .inl (k 1, 24, .inr (.inl c_p0_net_ways_heard)))] u.1 u.2.1 := by
  refine rn_KW.go (LOC := [(0, .ref a_p0), (1, .int i1), (2, .int i2), (3, .int i3)]) rfl (by decide) (Nat.le_of_ble_eq_true rfl) rfl ?_
  intro p e s m args below meth c A ls R Q hst hxc htab X hR hE hW hl
  have hx := X.1.1
  have hb := X.1.2.1
  have hts := X.1.2.2.2.2
  unfold fL_copy at hf
  obtain ⟨t1, ht1, hf⟩ := rn_bind hf
  have hu : t1.1 = u.1 := by
    revert hf
    repeat' split
    all_goals (intro hf; first | (cases hf; done) | (cases hf; rfl))
  rw [← hu] at hR hE
  refine lv_aload_n hx hb dL_copy_0 rfl (lv_at hl 0 rfl) ?_
  refine lv_iload_n hx hb dL_copy_1 rfl (lv_at hl 1 rfl) ?_
  refine lv_iload_n hx hb dL_copy_2 rfl (lv_at hl 2 rfl) ?_
  refine lv_iload_n hx hb dL_copy_3 rfl (lv_at hl 3 rfl) ?_
  refine rr_xcallI (As := [.int i1, .int i2, .int i3]) (rest := []) X hxc hst hW (kX6_copy l D k z N a_p0 a_p0_setup a_p0_net a_p0_trial a_p0_saved a_p0_line a_p0_net_stations a_p0_net_links a_p0_net_messages a_p0_net_copies a_p0_net_log a_p0_net_ways a_p0_net_frames a_p0_net_messages_cells a_p0_net_copies_cells a_p0_net_ways_heard c_p0_latestError c_p0_latestErrorPosition c_p0_net_stationCount c_p0_net_linkCount c_p0_net_messageCount c_p0_net_time c_p0_net_life c_p0_net_tries c_p0_net_x c_p0_net_messages c_p0_net_copies c_p0_net_ways_arrival c_p0_net_ways_fewest c_p0_net_ways_next c_p0_net_ways_heard i1 i2 i3 ht1) gm_X6_copy gl_L_92 [0, 1, 2, 3, 4, 5, 6, 7] [] [(a_p0, .inr (6, [.ref a_p0_setup, .int c_p0_latestError, .int c_p0_latestErrorPosition, .ref a_p0_net, .ref a_p0_trial, .ref a_p0_saved, .ref a_p0_line])), (a_p0_net, .inr (2, [.ref a_p0_net_stations, .ref a_p0_net_links, .ref a_p0_net_messages, .ref a_p0_net_copies, .ref a_p0_net_log, .ref a_p0_net_ways, .ref a_p0_net_frames, .int c_p0_net_stationCount, .int c_p0_net_linkCount, .int c_p0_net_messageCount, .int c_p0_net_time, .int c_p0_net_life, .int c_p0_net_tries, .int c_p0_net_x])), (a_p0_net_messages, .inr (4, [.int (24 : Int32), .int (12 : Int32), .ref a_p0_net_messages_cells])), (a_p0_net_messages_cells, .inl (k 0, 288, .inl c_p0_net_messages)), (a_p0_net_copies, .inr (4, [.int (192 : Int32), .int (5 : Int32), .ref a_p0_net_copies_cells])), (a_p0_net_copies_cells, .inl (k 0, 960, .inl c_p0_net_copies)), (a_p0_net_ways, .inr (5, [.ref a_p0_net_ways_heard, .int t1.2.2.1, .int t1.2.2.2.1, .int t1.2.2.2.2])), (a_p0_net_ways_heard, .inl (k 1, 24, .inr (.inl c_p0_net_ways_heard)))] rfl rfl rfl rfl ⟨rfl, rfl, rn_m0, rfl, rfl⟩ (rn_rT hR rfl) (rn_cs1 hR) hl.1 rfl (Nat.le_of_ble_eq_true rfl) dL_copy_4 (fun hk H locs q9 ce hW hq9 hv hcl => ?_) (fun hk _ H locs hW => ?_)
  · replace hf := rn_f hf hk
    by_cases hk0 : t1.1 = 3
    · replace hf := rn_t hf hk0
      rw [hk0] at hcl
      refine vx_catch (name := rn_ex 3) X.1.2.2.2.1 [] (⟨0, 7, 8, 54⟩ : ExceptionTableEntry) [(⟨0, 7, 13, 46⟩ : ExceptionTableEntry)] (htab.trans rfl) (fun z hz => nomatch hz) (by decide) (by decide) (hts _ qc_3) (va_any rfl hxc.2.1.2.2) hq9 hv hcl ?_
      refine lv_astore (lv' := [(4, .ref q9), (0, .ref a_p0), (1, .int i1), (2, .int i2), (3, .int i3)]) hx hb dL_copy_8 hl (Nat.le_of_ble_eq_true rfl) rfl (fun ls hl => ?_)
      refine lv_bipush (v := -101) hx hb dL_copy_10 (by decide) ?_
      cases hf
      exact hE _ _ _ _ hW dL_copy_12
    replace hf := rn_f hf hk0
    by_cases hk1 : t1.1 = 1
    · replace hf := rn_t hf hk1
      rw [hk1] at hcl
      refine vx_catch (name := rn_ex 1) X.1.2.2.2.1 [(⟨0, 7, 8, 54⟩ : ExceptionTableEntry)] (⟨0, 7, 13, 46⟩ : ExceptionTableEntry) [] (htab.trans rfl) (fun z hz => by rcases List.mem_singleton.mp hz with rfl; exact Or.inr ⟨by decide, rn_ex 3, hts _ qc_3, hxc.2.2.1.2⟩) (by decide) (by decide) (hts _ qc_1) (va_any rfl hxc.2.1.1) hq9 hv hcl ?_
      refine lv_astore (lv' := [(4, .ref q9), (0, .ref a_p0), (1, .int i1), (2, .int i2), (3, .int i3)]) hx hb dL_copy_13 hl (Nat.le_of_ble_eq_true rfl) rfl (fun ls hl => ?_)
      refine lv_bipush (v := -102) hx hb dL_copy_15 (by decide) ?_
      cases hf
      exact hE _ _ _ _ hW dL_copy_17
    replace hf := rn_f hf hk1
    cases hf
  · replace hf := rn_t hf hk
    cases hf
    exact hE _ _ _ _ hW dL_copy_7
def fL_path (c_p0_net_stationCount : Int32) (c_p0_net_messageCount : Int32) (c_p0_net_copies : Nat → Int32) (i1 : Int32) (i2 : Int32) (i3 : Int32) : Option (Nat × Int32) :=
  (fX6_path c_p0_net_stationCount c_p0_net_messageCount c_p0_net_copies i1 i2 i3).bind fun t1 =>
  if t1.1 = 0 then
    some (t1.1, t1.2)
  else
  if t1.1 = 3 then
    some (t1.1, (-101 : Int32))
  else
  none
set_option maxHeartbeats 4000000 in
set_option maxRecDepth 20000 in
theorem kL_path (l : Launch) (D : va_G) (k : Nat → ClassId) (z : (Nat → Nat) × (Nat → Nat)) (a_p0 : Nat) (a_p0_setup : Nat) (a_p0_net : Nat) (a_p0_trial : Nat) (a_p0_saved : Nat) (a_p0_line : Nat) (a_p0_net_stations : Nat) (a_p0_net_links : Nat) (a_p0_net_messages : Nat) (a_p0_net_copies : Nat) (a_p0_net_log : Nat) (a_p0_net_ways : Nat) (a_p0_net_frames : Nat) (a_p0_net_copies_cells : Nat) (c_p0_latestError : Int32) (c_p0_latestErrorPosition : Int32) (c_p0_net_stationCount : Int32) (c_p0_net_linkCount : Int32) (c_p0_net_messageCount : Int32) (c_p0_net_time : Int32) (c_p0_net_life : Int32) (c_p0_net_tries : Int32) (c_p0_net_x : Int32) (c_p0_net_copies : Nat → Int32) (i1 : Int32) (i2 : Int32) (i3 : Int32) {u : Nat × Int32} (hf : fL_path c_p0_net_stationCount c_p0_net_messageCount c_p0_net_copies i1 i2 i3 = some u) : rn_KW l D k z yL_path cL_path 5 hhL_path 7 106 [.ref a_p0, .int i1, .int i2, .int i3] [(a_p0, .inr (6, [.ref a_p0_setup, .int c_p0_latestError, .int c_p0_latestErrorPosition, .ref a_p0_net, .ref a_p0_trial, .ref a_p0_saved, .ref a_p0_line])), (a_p0_net, .inr (2, [.ref a_p0_net_stations, .ref a_p0_net_links, .ref a_p0_net_messages, .ref a_p0_net_copies, .ref a_p0_net_log, .ref a_p0_net_ways, .ref a_p0_net_frames, .int c_p0_net_stationCount, .int c_p0_net_linkCount, .int c_p0_net_messageCount, .int c_p0_net_time, .int c_p0_net_life, .int c_p0_net_tries, .int c_p0_net_x])), (a_p0_net_copies, .inr (4, [.int (192 : Int32), .int (5 : Int32), .ref a_p0_net_copies_cells])), (a_p0_net_copies_cells, .inl (k 0, 960, .inl c_p0_net_copies))] [(a_p0, .inr (6, [.ref a_p0_setup, .int c_p0_latestError, .int c_p0_latestErrorPosition, .ref a_p0_net, .ref a_p0_trial, .ref a_p0_saved, .ref a_p0_line])), (a_p0_net, .inr (2, [.ref a_p0_net_stations, .ref a_p0_net_links, .ref a_p0_net_messages, .ref a_p0_net_copies, .ref a_p0_net_log, .ref a_p0_net_ways, .ref a_p0_net_frames, .int c_p0_net_stationCount, .int c_p0_net_linkCount, .int c_p0_net_messageCount, .int c_p0_net_time, .int c_p0_net_life, .int c_p0_net_tries, .int c_p0_net_x])), (a_p0_net_copies, .inr (4, [.int (192 : Int32), .int (5 : Int32), .ref a_p0_net_copies_cells])), (a_p0_net_copies_cells, .inl (k 0, 960, .inl c_p0_net_copies))] u.1 u.2 := by
  refine rn_KW.go (LOC := [(0, .ref a_p0), (1, .int i1), (2, .int i2), (3, .int i3)]) rfl (by decide) (Nat.le_of_ble_eq_true rfl) rfl ?_
  intro p e s m args below meth c A ls R Q hst hxc htab X hR hE hW hl
  have hx := X.1.1
  have hb := X.1.2.1
  have hts := X.1.2.2.2.2
  unfold fL_path at hf
  obtain ⟨t1, ht1, hf⟩ := rn_bind hf
  have hu : t1.1 = u.1 := by
    revert hf
    repeat' split
    all_goals (intro hf; first | (cases hf; done) | (cases hf; rfl))
  rw [← hu] at hR hE
  refine lv_aload_n hx hb dL_path_0 rfl (lv_at hl 0 rfl) ?_
  refine lv_iload_n hx hb dL_path_1 rfl (lv_at hl 1 rfl) ?_
  refine lv_iload_n hx hb dL_path_2 rfl (lv_at hl 2 rfl) ?_
  refine lv_iload_n hx hb dL_path_3 rfl (lv_at hl 3 rfl) ?_
  refine rr_xcallI (As := [.int i1, .int i2, .int i3]) (rest := []) X hxc hst hW (kX6_path l D k z a_p0 a_p0_setup a_p0_net a_p0_trial a_p0_saved a_p0_line a_p0_net_stations a_p0_net_links a_p0_net_messages a_p0_net_copies a_p0_net_log a_p0_net_ways a_p0_net_frames a_p0_net_copies_cells c_p0_latestError c_p0_latestErrorPosition c_p0_net_stationCount c_p0_net_linkCount c_p0_net_messageCount c_p0_net_time c_p0_net_life c_p0_net_tries c_p0_net_x c_p0_net_copies i1 i2 i3 ht1) gm_X6_path gl_L_95 [0, 1, 2, 3] [] [(a_p0, .inr (6, [.ref a_p0_setup, .int c_p0_latestError, .int c_p0_latestErrorPosition, .ref a_p0_net, .ref a_p0_trial, .ref a_p0_saved, .ref a_p0_line])), (a_p0_net, .inr (2, [.ref a_p0_net_stations, .ref a_p0_net_links, .ref a_p0_net_messages, .ref a_p0_net_copies, .ref a_p0_net_log, .ref a_p0_net_ways, .ref a_p0_net_frames, .int c_p0_net_stationCount, .int c_p0_net_linkCount, .int c_p0_net_messageCount, .int c_p0_net_time, .int c_p0_net_life, .int c_p0_net_tries, .int c_p0_net_x])), (a_p0_net_copies, .inr (4, [.int (192 : Int32), .int (5 : Int32), .ref a_p0_net_copies_cells])), (a_p0_net_copies_cells, .inl (k 0, 960, .inl c_p0_net_copies))] rfl rfl rfl rfl ⟨rfl, rfl, rn_m0, rfl, rfl⟩ (rn_rT hR rfl) (rn_cs1 hR) hl.1 rfl (Nat.le_of_ble_eq_true rfl) dL_path_4 (fun hk H locs q9 ce hW hq9 hv hcl => ?_) (fun hk _ H locs hW => ?_)
  · replace hf := rn_f hf hk
    by_cases hk0 : t1.1 = 3
    · replace hf := rn_t hf hk0
      rw [hk0] at hcl
      refine vx_catch (name := rn_ex 3) X.1.2.2.2.1 [] (⟨0, 7, 8, 54⟩ : ExceptionTableEntry) [] (htab.trans rfl) (fun z hz => nomatch hz) (by decide) (by decide) (hts _ qc_3) (va_any rfl hxc.2.1.2.2) hq9 hv hcl ?_
      refine lv_astore (lv' := [(4, .ref q9), (0, .ref a_p0), (1, .int i1), (2, .int i2), (3, .int i3)]) hx hb dL_path_8 hl (Nat.le_of_ble_eq_true rfl) rfl (fun ls hl => ?_)
      refine lv_bipush (v := -101) hx hb dL_path_10 (by decide) ?_
      cases hf
      exact hE _ _ _ _ hW dL_path_12
    replace hf := rn_f hf hk0
    cases hf
  · replace hf := rn_t hf hk
    cases hf
    exact hE _ _ _ _ hW dL_path_7
def fL_sends (N : Nat) (c_p0_net_stationCount : Int32) (c_p0_net_messageCount : Int32) (c_p0_net_time : Int32) (c_p0_net_stations : Nat → Int32) (c_p0_net_messages : Nat → Int32) (c_p0_net_copies : Nat → Int32) (c_p0_net_ways_arrival : Int32) (c_p0_net_ways_fewest : Int32) (c_p0_net_ways_next : Int32) (c_p0_net_ways_heard : Nat → Int64) (c_p0_net_frames : Nat → Int32) (i1 : Int32) (i2 : Int32) : Option (Nat × Int32 × Int32 × Int32 × Int32 × (Nat → Int32)) :=
  (fX6_sends N c_p0_net_stationCount c_p0_net_messageCount c_p0_net_time c_p0_net_stations c_p0_net_messages c_p0_net_copies c_p0_net_ways_arrival c_p0_net_ways_fewest c_p0_net_ways_next c_p0_net_ways_heard c_p0_net_frames i1 i2).bind fun t1 =>
  if t1.1 = 0 then
    some (t1.1, t1.2.1, t1.2.2.1, t1.2.2.2.1, t1.2.2.2.2.1, t1.2.2.2.2.2)
  else
  if t1.1 = 3 then
    some (t1.1, (-101 : Int32), t1.2.2.1, t1.2.2.2.1, t1.2.2.2.2.1, t1.2.2.2.2.2)
  else
  none
set_option maxHeartbeats 4000000 in
set_option maxRecDepth 20000 in
theorem kL_sends (l : Launch) (D : va_G) (k : Nat → ClassId) (z : (Nat → Nat) × (Nat → Nat)) (N : Nat) (a_p0 : Nat) (a_p0_setup : Nat) (a_p0_net : Nat) (a_p0_trial : Nat) (a_p0_saved : Nat) (a_p0_line : Nat) (a_p0_net_stations : Nat) (a_p0_net_links : Nat) (a_p0_net_messages : Nat) (a_p0_net_copies : Nat) (a_p0_net_log : Nat) (a_p0_net_ways : Nat) (a_p0_net_frames : Nat) (a_p0_net_stations_cells : Nat) (a_p0_net_messages_cells : Nat) (a_p0_net_copies_cells : Nat) (a_p0_net_ways_heard : Nat) (a_p0_net_frames_cells : Nat) (c_p0_latestError : Int32) (c_p0_latestErrorPosition : Int32) (c_p0_net_stationCount : Int32) (c_p0_net_linkCount : Int32) (c_p0_net_messageCount : Int32) (c_p0_net_time : Int32) (c_p0_net_life : Int32) (c_p0_net_tries : Int32) (c_p0_net_x : Int32) (c_p0_net_stations : Nat → Int32) (c_p0_net_messages : Nat → Int32) (c_p0_net_copies : Nat → Int32) (c_p0_net_ways_arrival : Int32) (c_p0_net_ways_fewest : Int32) (c_p0_net_ways_next : Int32) (c_p0_net_ways_heard : Nat → Int64) (c_p0_net_frames : Nat → Int32) (i1 : Int32) (i2 : Int32) {u : Nat × Int32 × Int32 × Int32 × Int32 × (Nat → Int32)} (hf : fL_sends N c_p0_net_stationCount c_p0_net_messageCount c_p0_net_time c_p0_net_stations c_p0_net_messages c_p0_net_copies c_p0_net_ways_arrival c_p0_net_ways_fewest c_p0_net_ways_next c_p0_net_ways_heard c_p0_net_frames i1 i2 = some u) : rn_KW l D k z yL_sends cL_sends 4 hhL_sends 7 180 [.ref a_p0, .int i1, .int i2] [(a_p0, .inr (6, [.ref a_p0_setup, .int c_p0_latestError, .int c_p0_latestErrorPosition, .ref a_p0_net, .ref a_p0_trial, .ref a_p0_saved, .ref a_p0_line])), (a_p0_net, .inr (2, [.ref a_p0_net_stations, .ref a_p0_net_links, .ref a_p0_net_messages, .ref a_p0_net_copies, .ref a_p0_net_log, .ref a_p0_net_ways, .ref a_p0_net_frames, .int c_p0_net_stationCount, .int c_p0_net_linkCount, .int c_p0_net_messageCount, .int c_p0_net_time, .int c_p0_net_life, .int c_p0_net_tries, .int c_p0_net_x])), (a_p0_net_stations, .inr (4, [.int (8 : Int32), .int (10 : Int32), .ref a_p0_net_stations_cells])), (a_p0_net_stations_cells, .inl (k 0, 80, .inl c_p0_net_stations)), (a_p0_net_messages, .inr (4, [.int (24 : Int32), .int (12 : Int32), .ref a_p0_net_messages_cells])), (a_p0_net_messages_cells, .inl (k 0, 288, .inl c_p0_net_messages)), (a_p0_net_copies, .inr (4, [.int (192 : Int32), .int (5 : Int32), .ref a_p0_net_copies_cells])), (a_p0_net_copies_cells, .inl (k 0, 960, .inl c_p0_net_copies)), (a_p0_net_ways, .inr (5, [.ref a_p0_net_ways_heard, .int c_p0_net_ways_arrival, .int c_p0_net_ways_fewest, .int c_p0_net_ways_next])), (a_p0_net_ways_heard, .inl (k 1, 24, .inr (.inl c_p0_net_ways_heard))), (a_p0_net_frames, .inr (4, [.int (9 : Int32), .int (2 : Int32), .ref a_p0_net_frames_cells])), (a_p0_net_frames_cells, .inl (k 0, 18, .inl c_p0_net_frames))] [(a_p0, .inr (6, [.ref a_p0_setup, .int c_p0_latestError, .int c_p0_latestErrorPosition, .ref a_p0_net, .ref a_p0_trial, .ref a_p0_saved, .ref a_p0_line])), (a_p0_net, .inr (2, [.ref a_p0_net_stations, .ref a_p0_net_links, .ref a_p0_net_messages, .ref a_p0_net_copies, .ref a_p0_net_log, .ref a_p0_net_ways, .ref a_p0_net_frames, .int c_p0_net_stationCount, .int c_p0_net_linkCount, .int c_p0_net_messageCount, .int c_p0_net_time, .int c_p0_net_life, .int c_p0_net_tries, .int c_p0_net_x])), (a_p0_net_stations, .inr (4, [.int (8 : Int32), .int (10 : Int32), .ref a_p0_net_stations_cells])), (a_p0_net_stations_cells, .inl (k 0, 80, .inl c_p0_net_stations)), (a_p0_net_messages, .inr (4, [.int (24 : Int32), .int (12 : Int32), .ref a_p0_net_messages_cells])), (a_p0_net_messages_cells, .inl (k 0, 288, .inl c_p0_net_messages)), (a_p0_net_copies, .inr (4, [.int (192 : Int32), .int (5 : Int32), .ref a_p0_net_copies_cells])), (a_p0_net_copies_cells, .inl (k 0, 960, .inl c_p0_net_copies)), (a_p0_net_ways, .inr (5, [.ref a_p0_net_ways_heard, .int u.2.2.1, .int u.2.2.2.1, .int u.2.2.2.2.1])), (a_p0_net_ways_heard, .inl (k 1, 24, .inr (.inl c_p0_net_ways_heard))), (a_p0_net_frames, .inr (4, [.int (9 : Int32), .int (2 : Int32), .ref a_p0_net_frames_cells])), (a_p0_net_frames_cells, .inl (k 0, 18, .inl u.2.2.2.2.2))] u.1 u.2.1 := by
  refine rn_KW.go (LOC := [(0, .ref a_p0), (1, .int i1), (2, .int i2)]) rfl (by decide) (Nat.le_of_ble_eq_true rfl) rfl ?_
  intro p e s m args below meth c A ls R Q hst hxc htab X hR hE hW hl
  have hx := X.1.1
  have hb := X.1.2.1
  have hts := X.1.2.2.2.2
  unfold fL_sends at hf
  obtain ⟨t1, ht1, hf⟩ := rn_bind hf
  obtain ⟨u0, u1, u2, u3, u4, u5⟩ := u
  dsimp only at hE hR
  have hu : t1.1 = u0 := by
    revert hf
    repeat' split
    all_goals (intro hf; first | (cases hf; done) | (cases hf; rfl))
  rw [← hu] at hR hE
  refine lv_aload_n hx hb dL_sends_0 rfl (lv_at hl 0 rfl) ?_
  refine lv_iload_n hx hb dL_sends_1 rfl (lv_at hl 1 rfl) ?_
  refine lv_iload_n hx hb dL_sends_2 rfl (lv_at hl 2 rfl) ?_
  refine rr_xcallI (As := [.int i1, .int i2]) (rest := []) X hxc hst hW (kX6_sends l D k z N a_p0 a_p0_setup a_p0_net a_p0_trial a_p0_saved a_p0_line a_p0_net_stations a_p0_net_links a_p0_net_messages a_p0_net_copies a_p0_net_log a_p0_net_ways a_p0_net_frames a_p0_net_stations_cells a_p0_net_messages_cells a_p0_net_copies_cells a_p0_net_ways_heard a_p0_net_frames_cells c_p0_latestError c_p0_latestErrorPosition c_p0_net_stationCount c_p0_net_linkCount c_p0_net_messageCount c_p0_net_time c_p0_net_life c_p0_net_tries c_p0_net_x c_p0_net_stations c_p0_net_messages c_p0_net_copies c_p0_net_ways_arrival c_p0_net_ways_fewest c_p0_net_ways_next c_p0_net_ways_heard c_p0_net_frames i1 i2 ht1) gm_X6_sends gl_L_98 [0, 1, 2, 3, 4, 5, 6, 7, 8, 9, 10, 11] [] [(a_p0, .inr (6, [.ref a_p0_setup, .int c_p0_latestError, .int c_p0_latestErrorPosition, .ref a_p0_net, .ref a_p0_trial, .ref a_p0_saved, .ref a_p0_line])), (a_p0_net, .inr (2, [.ref a_p0_net_stations, .ref a_p0_net_links, .ref a_p0_net_messages, .ref a_p0_net_copies, .ref a_p0_net_log, .ref a_p0_net_ways, .ref a_p0_net_frames, .int c_p0_net_stationCount, .int c_p0_net_linkCount, .int c_p0_net_messageCount, .int c_p0_net_time, .int c_p0_net_life, .int c_p0_net_tries, .int c_p0_net_x])), (a_p0_net_stations, .inr (4, [.int (8 : Int32), .int (10 : Int32), .ref a_p0_net_stations_cells])), (a_p0_net_stations_cells, .inl (k 0, 80, .inl c_p0_net_stations)), (a_p0_net_messages, .inr (4, [.int (24 : Int32), .int (12 : Int32), .ref a_p0_net_messages_cells])), (a_p0_net_messages_cells, .inl (k 0, 288, .inl c_p0_net_messages)), (a_p0_net_copies, .inr (4, [.int (192 : Int32), .int (5 : Int32), .ref a_p0_net_copies_cells])), (a_p0_net_copies_cells, .inl (k 0, 960, .inl c_p0_net_copies)), (a_p0_net_ways, .inr (5, [.ref a_p0_net_ways_heard, .int t1.2.2.1, .int t1.2.2.2.1, .int t1.2.2.2.2.1])), (a_p0_net_ways_heard, .inl (k 1, 24, .inr (.inl c_p0_net_ways_heard))), (a_p0_net_frames, .inr (4, [.int (9 : Int32), .int (2 : Int32), .ref a_p0_net_frames_cells])), (a_p0_net_frames_cells, .inl (k 0, 18, .inl t1.2.2.2.2.2))] rfl rfl rfl rfl ⟨rfl, rfl, rn_m0, rfl, rfl⟩ (rn_rT hR rfl) (rn_cs1 hR) hl.1 rfl (Nat.le_of_ble_eq_true rfl) dL_sends_3 (fun hk H locs q9 ce hW hq9 hv hcl => ?_) (fun hk _ H locs hW => ?_)
  · replace hf := rn_f hf hk
    by_cases hk0 : t1.1 = 3
    · replace hf := rn_t hf hk0
      rw [hk0] at hcl
      refine vx_catch (name := rn_ex 3) X.1.2.2.2.1 [] (⟨0, 6, 7, 54⟩ : ExceptionTableEntry) [] (htab.trans rfl) (fun z hz => nomatch hz) (by decide) (by decide) (hts _ qc_3) (va_any rfl hxc.2.1.2.2) hq9 hv hcl ?_
      refine lv_astore_n (lv' := [(3, .ref q9), (0, .ref a_p0), (1, .int i1), (2, .int i2)]) hx hb dL_sends_7 rfl hl (Nat.le_of_ble_eq_true rfl) rfl (fun ls hl => ?_)
      refine lv_bipush (v := -101) hx hb dL_sends_8 (by decide) ?_
      cases hf
      exact hE _ _ _ _ hW dL_sends_10
    replace hf := rn_f hf hk0
    cases hf
  · replace hf := rn_t hf hk
    cases hf
    exact hE _ _ _ _ hW dL_sends_6
def fL_run (N : Nat) (c_p0_net_stationCount : Int32) (c_p0_net_linkCount : Int32) (c_p0_net_messageCount : Int32) (c_p0_net_time : Int32) (c_p0_net_life : Int32) (c_p0_net_tries : Int32) (c_p0_net_x : Int32) (c_p0_net_stations : Nat → Int32) (c_p0_net_links : Nat → Int32) (c_p0_net_messages : Nat → Int32) (c_p0_net_copies : Nat → Int32) (c_p0_net_log_first : Int32) (c_p0_net_log_size : Int32) (c_p0_net_log_events : Nat → Int32) (c_p0_net_ways_arrival : Int32) (c_p0_net_ways_fewest : Int32) (c_p0_net_ways_next : Int32) (c_p0_net_ways_heard : Nat → Int64) (c_p0_net_frames : Nat → Int32) (i1 : Int32) : Option (Nat × Int32 × Int32 × Int32 × (Nat → Int32) × (Nat → Int32) × (Nat → Int32) × (Nat → Int32) × Int32 × Int32 × (Nat → Int32) × Int32 × Int32 × Int32 × (Nat → Int32)) :=
  (fX6_run N c_p0_net_stationCount c_p0_net_linkCount c_p0_net_messageCount c_p0_net_time c_p0_net_life c_p0_net_tries c_p0_net_x c_p0_net_stations c_p0_net_links c_p0_net_messages c_p0_net_copies c_p0_net_log_first c_p0_net_log_size c_p0_net_log_events c_p0_net_ways_arrival c_p0_net_ways_fewest c_p0_net_ways_next c_p0_net_ways_heard c_p0_net_frames i1).bind fun t1 =>
  if t1.1 = 0 then
    some (t1.1, t1.2.1, t1.2.2.1, t1.2.2.2.1, t1.2.2.2.2.1, t1.2.2.2.2.2.1, t1.2.2.2.2.2.2.1, t1.2.2.2.2.2.2.2.1, t1.2.2.2.2.2.2.2.2.1, t1.2.2.2.2.2.2.2.2.2.1, t1.2.2.2.2.2.2.2.2.2.2.1, t1.2.2.2.2.2.2.2.2.2.2.2.1, t1.2.2.2.2.2.2.2.2.2.2.2.2.1, t1.2.2.2.2.2.2.2.2.2.2.2.2.2.1, t1.2.2.2.2.2.2.2.2.2.2.2.2.2.2)
  else
  if t1.1 = 1 then
    some (t1.1, (-102 : Int32), t1.2.2.1, t1.2.2.2.1, t1.2.2.2.2.1, t1.2.2.2.2.2.1, t1.2.2.2.2.2.2.1, t1.2.2.2.2.2.2.2.1, t1.2.2.2.2.2.2.2.2.1, t1.2.2.2.2.2.2.2.2.2.1, t1.2.2.2.2.2.2.2.2.2.2.1, t1.2.2.2.2.2.2.2.2.2.2.2.1, t1.2.2.2.2.2.2.2.2.2.2.2.2.1, t1.2.2.2.2.2.2.2.2.2.2.2.2.2.1, t1.2.2.2.2.2.2.2.2.2.2.2.2.2.2)
  else
  none
set_option maxHeartbeats 4000000 in
set_option maxRecDepth 20000 in
theorem kL_run (l : Launch) (D : va_G) (k : Nat → ClassId) (z : (Nat → Nat) × (Nat → Nat)) (N : Nat) (a_p0 : Nat) (a_p0_setup : Nat) (a_p0_net : Nat) (a_p0_trial : Nat) (a_p0_saved : Nat) (a_p0_line : Nat) (a_p0_net_stations : Nat) (a_p0_net_links : Nat) (a_p0_net_messages : Nat) (a_p0_net_copies : Nat) (a_p0_net_log : Nat) (a_p0_net_ways : Nat) (a_p0_net_frames : Nat) (a_p0_net_stations_cells : Nat) (a_p0_net_links_cells : Nat) (a_p0_net_messages_cells : Nat) (a_p0_net_copies_cells : Nat) (a_p0_net_log_events : Nat) (a_p0_net_log_events_cells : Nat) (a_p0_net_ways_heard : Nat) (a_p0_net_frames_cells : Nat) (c_p0_latestError : Int32) (c_p0_latestErrorPosition : Int32) (c_p0_net_stationCount : Int32) (c_p0_net_linkCount : Int32) (c_p0_net_messageCount : Int32) (c_p0_net_time : Int32) (c_p0_net_life : Int32) (c_p0_net_tries : Int32) (c_p0_net_x : Int32) (c_p0_net_stations : Nat → Int32) (c_p0_net_links : Nat → Int32) (c_p0_net_messages : Nat → Int32) (c_p0_net_copies : Nat → Int32) (c_p0_net_log_first : Int32) (c_p0_net_log_size : Int32) (c_p0_net_log_events : Nat → Int32) (c_p0_net_ways_arrival : Int32) (c_p0_net_ways_fewest : Int32) (c_p0_net_ways_next : Int32) (c_p0_net_ways_heard : Nat → Int64) (c_p0_net_frames : Nat → Int32) (i1 : Int32) {u : Nat × Int32 × Int32 × Int32 × (Nat → Int32) × (Nat → Int32) × (Nat → Int32) × (Nat → Int32) × Int32 × Int32 × (Nat → Int32) × Int32 × Int32 × Int32 × (Nat → Int32)} (hf : fL_run N c_p0_net_stationCount c_p0_net_linkCount c_p0_net_messageCount c_p0_net_time c_p0_net_life c_p0_net_tries c_p0_net_x c_p0_net_stations c_p0_net_links c_p0_net_messages c_p0_net_copies c_p0_net_log_first c_p0_net_log_size c_p0_net_log_events c_p0_net_ways_arrival c_p0_net_ways_fewest c_p0_net_ways_next c_p0_net_ways_heard c_p0_net_frames i1 = some u) : rn_KW l D k z yL_run cL_run 3 hhL_run 7 182 [.ref a_p0, .int i1] [(a_p0, .inr (6, [.ref a_p0_setup, .int c_p0_latestError, .int c_p0_latestErrorPosition, .ref a_p0_net, .ref a_p0_trial, .ref a_p0_saved, .ref a_p0_line])), (a_p0_net, .inr (2, [.ref a_p0_net_stations, .ref a_p0_net_links, .ref a_p0_net_messages, .ref a_p0_net_copies, .ref a_p0_net_log, .ref a_p0_net_ways, .ref a_p0_net_frames, .int c_p0_net_stationCount, .int c_p0_net_linkCount, .int c_p0_net_messageCount, .int c_p0_net_time, .int c_p0_net_life, .int c_p0_net_tries, .int c_p0_net_x])), (a_p0_net_stations, .inr (4, [.int (8 : Int32), .int (10 : Int32), .ref a_p0_net_stations_cells])), (a_p0_net_stations_cells, .inl (k 0, 80, .inl c_p0_net_stations)), (a_p0_net_links, .inr (4, [.int (16 : Int32), .int (9 : Int32), .ref a_p0_net_links_cells])), (a_p0_net_links_cells, .inl (k 0, 144, .inl c_p0_net_links)), (a_p0_net_messages, .inr (4, [.int (24 : Int32), .int (12 : Int32), .ref a_p0_net_messages_cells])), (a_p0_net_messages_cells, .inl (k 0, 288, .inl c_p0_net_messages)), (a_p0_net_copies, .inr (4, [.int (192 : Int32), .int (5 : Int32), .ref a_p0_net_copies_cells])), (a_p0_net_copies_cells, .inl (k 0, 960, .inl c_p0_net_copies)), (a_p0_net_log, .inr (0, [.ref a_p0_net_log_events, .int c_p0_net_log_first, .int c_p0_net_log_size])), (a_p0_net_log_events, .inr (4, [.int (40 : Int32), .int (5 : Int32), .ref a_p0_net_log_events_cells])), (a_p0_net_log_events_cells, .inl (k 0, 200, .inl c_p0_net_log_events)), (a_p0_net_ways, .inr (5, [.ref a_p0_net_ways_heard, .int c_p0_net_ways_arrival, .int c_p0_net_ways_fewest, .int c_p0_net_ways_next])), (a_p0_net_ways_heard, .inl (k 1, 24, .inr (.inl c_p0_net_ways_heard))), (a_p0_net_frames, .inr (4, [.int (9 : Int32), .int (2 : Int32), .ref a_p0_net_frames_cells])), (a_p0_net_frames_cells, .inl (k 0, 18, .inl c_p0_net_frames))] [(a_p0, .inr (6, [.ref a_p0_setup, .int c_p0_latestError, .int c_p0_latestErrorPosition, .ref a_p0_net, .ref a_p0_trial, .ref a_p0_saved, .ref a_p0_line])), (a_p0_net, .inr (2, [.ref a_p0_net_stations, .ref a_p0_net_links, .ref a_p0_net_messages, .ref a_p0_net_copies, .ref a_p0_net_log, .ref a_p0_net_ways, .ref a_p0_net_frames, .int c_p0_net_stationCount, .int c_p0_net_linkCount, .int c_p0_net_messageCount, .int u.2.2.1, .int c_p0_net_life, .int c_p0_net_tries, .int u.2.2.2.1])), (a_p0_net_stations, .inr (4, [.int (8 : Int32), .int (10 : Int32), .ref a_p0_net_stations_cells])), (a_p0_net_stations_cells, .inl (k 0, 80, .inl u.2.2.2.2.1)), (a_p0_net_links, .inr (4, [.int (16 : Int32), .int (9 : Int32), .ref a_p0_net_links_cells])), (a_p0_net_links_cells, .inl (k 0, 144, .inl u.2.2.2.2.2.1)), (a_p0_net_messages, .inr (4, [.int (24 : Int32), .int (12 : Int32), .ref a_p0_net_messages_cells])), (a_p0_net_messages_cells, .inl (k 0, 288, .inl u.2.2.2.2.2.2.1)), (a_p0_net_copies, .inr (4, [.int (192 : Int32), .int (5 : Int32), .ref a_p0_net_copies_cells])), (a_p0_net_copies_cells, .inl (k 0, 960, .inl u.2.2.2.2.2.2.2.1)), (a_p0_net_log, .inr (0, [.ref a_p0_net_log_events, .int u.2.2.2.2.2.2.2.2.1, .int u.2.2.2.2.2.2.2.2.2.1])), (a_p0_net_log_events, .inr (4, [.int (40 : Int32), .int (5 : Int32), .ref a_p0_net_log_events_cells])), (a_p0_net_log_events_cells, .inl (k 0, 200, .inl u.2.2.2.2.2.2.2.2.2.2.1)), (a_p0_net_ways, .inr (5, [.ref a_p0_net_ways_heard, .int u.2.2.2.2.2.2.2.2.2.2.2.1, .int u.2.2.2.2.2.2.2.2.2.2.2.2.1, .int u.2.2.2.2.2.2.2.2.2.2.2.2.2.1])), (a_p0_net_ways_heard, .inl (k 1, 24, .inr (.inl c_p0_net_ways_heard))), (a_p0_net_frames, .inr (4, [.int (9 : Int32), .int (2 : Int32), .ref a_p0_net_frames_cells])), (a_p0_net_frames_cells, .inl (k 0, 18, .inl u.2.2.2.2.2.2.2.2.2.2.2.2.2.2))] u.1 u.2.1 := by
  refine rn_KW.go (LOC := [(0, .ref a_p0), (1, .int i1)]) rfl (by decide) (Nat.le_of_ble_eq_true rfl) rfl ?_
  intro p e s m args below meth c A ls R Q hst hxc htab X hR hE hW hl
  have hx := X.1.1
  have hb := X.1.2.1
  have hts := X.1.2.2.2.2
  unfold fL_run at hf
  obtain ⟨t1, ht1, hf⟩ := rn_bind hf
  obtain ⟨u0, u1, u2, u3, u4, u5, u6, u7, u8, u9, u10, u11, u12, u13, u14⟩ := u
  dsimp only at hE hR
  have hu : t1.1 = u0 := by
    revert hf
    repeat' split
    all_goals (intro hf; first | (cases hf; done) | (cases hf; rfl))
  rw [← hu] at hR hE
  refine lv_aload_n hx hb dL_run_0 rfl (lv_at hl 0 rfl) ?_
  refine lv_iload_n hx hb dL_run_1 rfl (lv_at hl 1 rfl) ?_
  refine rr_xcallI (As := [.int i1]) (rest := []) X hxc hst hW (kX6_run l D k z N a_p0 a_p0_setup a_p0_net a_p0_trial a_p0_saved a_p0_line a_p0_net_stations a_p0_net_links a_p0_net_messages a_p0_net_copies a_p0_net_log a_p0_net_ways a_p0_net_frames a_p0_net_stations_cells a_p0_net_links_cells a_p0_net_messages_cells a_p0_net_copies_cells a_p0_net_log_events a_p0_net_log_events_cells a_p0_net_ways_heard a_p0_net_frames_cells c_p0_latestError c_p0_latestErrorPosition c_p0_net_stationCount c_p0_net_linkCount c_p0_net_messageCount c_p0_net_time c_p0_net_life c_p0_net_tries c_p0_net_x c_p0_net_stations c_p0_net_links c_p0_net_messages c_p0_net_copies c_p0_net_log_first c_p0_net_log_size c_p0_net_log_events c_p0_net_ways_arrival c_p0_net_ways_fewest c_p0_net_ways_next c_p0_net_ways_heard c_p0_net_frames i1 ht1) gm_X6_run gl_L_101 [0, 1, 2, 3, 4, 5, 6, 7, 8, 9, 10, 11, 12, 13, 14, 15, 16] [] [(a_p0, .inr (6, [.ref a_p0_setup, .int c_p0_latestError, .int c_p0_latestErrorPosition, .ref a_p0_net, .ref a_p0_trial, .ref a_p0_saved, .ref a_p0_line])), (a_p0_net, .inr (2, [.ref a_p0_net_stations, .ref a_p0_net_links, .ref a_p0_net_messages, .ref a_p0_net_copies, .ref a_p0_net_log, .ref a_p0_net_ways, .ref a_p0_net_frames, .int c_p0_net_stationCount, .int c_p0_net_linkCount, .int c_p0_net_messageCount, .int t1.2.2.1, .int c_p0_net_life, .int c_p0_net_tries, .int t1.2.2.2.1])), (a_p0_net_stations, .inr (4, [.int (8 : Int32), .int (10 : Int32), .ref a_p0_net_stations_cells])), (a_p0_net_stations_cells, .inl (k 0, 80, .inl t1.2.2.2.2.1)), (a_p0_net_links, .inr (4, [.int (16 : Int32), .int (9 : Int32), .ref a_p0_net_links_cells])), (a_p0_net_links_cells, .inl (k 0, 144, .inl t1.2.2.2.2.2.1)), (a_p0_net_messages, .inr (4, [.int (24 : Int32), .int (12 : Int32), .ref a_p0_net_messages_cells])), (a_p0_net_messages_cells, .inl (k 0, 288, .inl t1.2.2.2.2.2.2.1)), (a_p0_net_copies, .inr (4, [.int (192 : Int32), .int (5 : Int32), .ref a_p0_net_copies_cells])), (a_p0_net_copies_cells, .inl (k 0, 960, .inl t1.2.2.2.2.2.2.2.1)), (a_p0_net_log, .inr (0, [.ref a_p0_net_log_events, .int t1.2.2.2.2.2.2.2.2.1, .int t1.2.2.2.2.2.2.2.2.2.1])), (a_p0_net_log_events, .inr (4, [.int (40 : Int32), .int (5 : Int32), .ref a_p0_net_log_events_cells])), (a_p0_net_log_events_cells, .inl (k 0, 200, .inl t1.2.2.2.2.2.2.2.2.2.2.1)), (a_p0_net_ways, .inr (5, [.ref a_p0_net_ways_heard, .int t1.2.2.2.2.2.2.2.2.2.2.2.1, .int t1.2.2.2.2.2.2.2.2.2.2.2.2.1, .int t1.2.2.2.2.2.2.2.2.2.2.2.2.2.1])), (a_p0_net_ways_heard, .inl (k 1, 24, .inr (.inl c_p0_net_ways_heard))), (a_p0_net_frames, .inr (4, [.int (9 : Int32), .int (2 : Int32), .ref a_p0_net_frames_cells])), (a_p0_net_frames_cells, .inl (k 0, 18, .inl t1.2.2.2.2.2.2.2.2.2.2.2.2.2.2))] rfl rfl rfl rfl ⟨rfl, rfl, rn_m0, rfl, rfl⟩ (rn_rT hR rfl) (rn_cs1 hR) hl.1 rfl (Nat.le_of_ble_eq_true rfl) dL_run_2 (fun hk H locs q9 ce hW hq9 hv hcl => ?_) (fun hk _ H locs hW => ?_)
  · replace hf := rn_f hf hk
    by_cases hk0 : t1.1 = 1
    · replace hf := rn_t hf hk0
      rw [hk0] at hcl
      refine vx_catch (name := rn_ex 1) X.1.2.2.2.1 [] (⟨0, 5, 6, 46⟩ : ExceptionTableEntry) [] (htab.trans rfl) (fun z hz => nomatch hz) (by decide) (by decide) (hts _ qc_1) (va_any rfl hxc.2.1.1) hq9 hv hcl ?_
      refine lv_astore_n (lv' := [(2, .ref q9), (0, .ref a_p0), (1, .int i1)]) hx hb dL_run_6 rfl hl (Nat.le_of_ble_eq_true rfl) rfl (fun ls hl => ?_)
      refine lv_bipush (v := -102) hx hb dL_run_7 (by decide) ?_
      cases hf
      exact hE _ _ _ _ hW dL_run_9
    replace hf := rn_f hf hk0
    cases hf
  · replace hf := rn_t hf hk
    cases hf
    exact hE _ _ _ _ hW dL_run_5
def fL_stateAfter (N : Nat) (c_p0_net_stationCount : Int32) (c_p0_net_linkCount : Int32) (c_p0_net_messageCount : Int32) (c_p0_net_time : Int32) (c_p0_net_life : Int32) (c_p0_net_tries : Int32) (c_p0_net_x : Int32) (c_p0_net_stations : Nat → Int32) (c_p0_net_links : Nat → Int32) (c_p0_net_messages : Nat → Int32) (c_p0_net_copies : Nat → Int32) (c_p0_net_log_first : Int32) (c_p0_net_log_size : Int32) (c_p0_net_log_events : Nat → Int32) (c_p0_net_ways_heard : Nat → Int64) (c_p0_trial_stationCount : Int32) (c_p0_trial_linkCount : Int32) (c_p0_trial_messageCount : Int32) (c_p0_trial_time : Int32) (c_p0_trial_life : Int32) (c_p0_trial_tries : Int32) (c_p0_trial_x : Int32) (c_p0_trial_stations : Nat → Int32) (c_p0_trial_links : Nat → Int32) (c_p0_trial_messages : Nat → Int32) (c_p0_trial_copies : Nat → Int32) (c_p0_trial_log_first : Int32) (c_p0_trial_log_size : Int32) (c_p0_trial_log_events : Nat → Int32) (c_p0_trial_ways_arrival : Int32) (c_p0_trial_ways_fewest : Int32) (c_p0_trial_ways_next : Int32) (c_p0_trial_ways_heard : Nat → Int64) (c_p0_trial_frames : Nat → Int32) (i1 : Int32) (i2 : Int32) : Option (Nat × Int32 × Int32 × Int32 × Int32 × Int32 × Int32 × Int32 × Int32 × (Nat → Int32) × (Nat → Int32) × (Nat → Int32) × (Nat → Int32) × Int32 × Int32 × (Nat → Int32) × Int32 × Int32 × Int32 × (Nat → Int64) × (Nat → Int32)) :=
  (fX6_stateAfter N c_p0_net_stationCount c_p0_net_linkCount c_p0_net_messageCount c_p0_net_time c_p0_net_life c_p0_net_tries c_p0_net_x c_p0_net_stations c_p0_net_links c_p0_net_messages c_p0_net_copies c_p0_net_log_first c_p0_net_log_size c_p0_net_log_events c_p0_net_ways_heard c_p0_trial_stationCount c_p0_trial_linkCount c_p0_trial_messageCount c_p0_trial_time c_p0_trial_life c_p0_trial_tries c_p0_trial_x c_p0_trial_stations c_p0_trial_links c_p0_trial_messages c_p0_trial_copies c_p0_trial_log_first c_p0_trial_log_size c_p0_trial_log_events c_p0_trial_ways_arrival c_p0_trial_ways_fewest c_p0_trial_ways_next c_p0_trial_ways_heard c_p0_trial_frames i1 i2).bind fun t1 =>
  if t1.1 = 0 then
    some (t1.1, t1.2.1, t1.2.2.1, t1.2.2.2.1, t1.2.2.2.2.1, t1.2.2.2.2.2.1, t1.2.2.2.2.2.2.1, t1.2.2.2.2.2.2.2.1, t1.2.2.2.2.2.2.2.2.1, t1.2.2.2.2.2.2.2.2.2.1, t1.2.2.2.2.2.2.2.2.2.2.1, t1.2.2.2.2.2.2.2.2.2.2.2.1, t1.2.2.2.2.2.2.2.2.2.2.2.2.1, t1.2.2.2.2.2.2.2.2.2.2.2.2.2.1, t1.2.2.2.2.2.2.2.2.2.2.2.2.2.2.1, t1.2.2.2.2.2.2.2.2.2.2.2.2.2.2.2.1, t1.2.2.2.2.2.2.2.2.2.2.2.2.2.2.2.2.1, t1.2.2.2.2.2.2.2.2.2.2.2.2.2.2.2.2.2.1, t1.2.2.2.2.2.2.2.2.2.2.2.2.2.2.2.2.2.2.1, t1.2.2.2.2.2.2.2.2.2.2.2.2.2.2.2.2.2.2.2.1, t1.2.2.2.2.2.2.2.2.2.2.2.2.2.2.2.2.2.2.2.2)
  else
  if t1.1 = 3 then
    some (t1.1, (-101 : Int32), t1.2.2.1, t1.2.2.2.1, t1.2.2.2.2.1, t1.2.2.2.2.2.1, t1.2.2.2.2.2.2.1, t1.2.2.2.2.2.2.2.1, t1.2.2.2.2.2.2.2.2.1, t1.2.2.2.2.2.2.2.2.2.1, t1.2.2.2.2.2.2.2.2.2.2.1, t1.2.2.2.2.2.2.2.2.2.2.2.1, t1.2.2.2.2.2.2.2.2.2.2.2.2.1, t1.2.2.2.2.2.2.2.2.2.2.2.2.2.1, t1.2.2.2.2.2.2.2.2.2.2.2.2.2.2.1, t1.2.2.2.2.2.2.2.2.2.2.2.2.2.2.2.1, t1.2.2.2.2.2.2.2.2.2.2.2.2.2.2.2.2.1, t1.2.2.2.2.2.2.2.2.2.2.2.2.2.2.2.2.2.1, t1.2.2.2.2.2.2.2.2.2.2.2.2.2.2.2.2.2.2.1, t1.2.2.2.2.2.2.2.2.2.2.2.2.2.2.2.2.2.2.2.1, t1.2.2.2.2.2.2.2.2.2.2.2.2.2.2.2.2.2.2.2.2)
  else
  if t1.1 = 1 then
    some (t1.1, (-102 : Int32), t1.2.2.1, t1.2.2.2.1, t1.2.2.2.2.1, t1.2.2.2.2.2.1, t1.2.2.2.2.2.2.1, t1.2.2.2.2.2.2.2.1, t1.2.2.2.2.2.2.2.2.1, t1.2.2.2.2.2.2.2.2.2.1, t1.2.2.2.2.2.2.2.2.2.2.1, t1.2.2.2.2.2.2.2.2.2.2.2.1, t1.2.2.2.2.2.2.2.2.2.2.2.2.1, t1.2.2.2.2.2.2.2.2.2.2.2.2.2.1, t1.2.2.2.2.2.2.2.2.2.2.2.2.2.2.1, t1.2.2.2.2.2.2.2.2.2.2.2.2.2.2.2.1, t1.2.2.2.2.2.2.2.2.2.2.2.2.2.2.2.2.1, t1.2.2.2.2.2.2.2.2.2.2.2.2.2.2.2.2.2.1, t1.2.2.2.2.2.2.2.2.2.2.2.2.2.2.2.2.2.2.1, t1.2.2.2.2.2.2.2.2.2.2.2.2.2.2.2.2.2.2.2.1, t1.2.2.2.2.2.2.2.2.2.2.2.2.2.2.2.2.2.2.2.2)
  else
  none
set_option maxHeartbeats 4000000 in
set_option maxRecDepth 20000 in
theorem kL_stateAfter (l : Launch) (D : va_G) (k : Nat → ClassId) (z : (Nat → Nat) × (Nat → Nat)) (N : Nat) (a_p0 : Nat) (a_p0_setup : Nat) (a_p0_net : Nat) (a_p0_trial : Nat) (a_p0_saved : Nat) (a_p0_line : Nat) (a_p0_net_stations : Nat) (a_p0_net_links : Nat) (a_p0_net_messages : Nat) (a_p0_net_copies : Nat) (a_p0_net_log : Nat) (a_p0_net_ways : Nat) (a_p0_net_frames : Nat) (a_p0_net_stations_cells : Nat) (a_p0_net_links_cells : Nat) (a_p0_net_messages_cells : Nat) (a_p0_net_copies_cells : Nat) (a_p0_net_log_events : Nat) (a_p0_net_log_events_cells : Nat) (a_p0_net_ways_heard : Nat) (a_p0_trial_stations : Nat) (a_p0_trial_links : Nat) (a_p0_trial_messages : Nat) (a_p0_trial_copies : Nat) (a_p0_trial_log : Nat) (a_p0_trial_ways : Nat) (a_p0_trial_frames : Nat) (a_p0_trial_stations_cells : Nat) (a_p0_trial_links_cells : Nat) (a_p0_trial_messages_cells : Nat) (a_p0_trial_copies_cells : Nat) (a_p0_trial_log_events : Nat) (a_p0_trial_log_events_cells : Nat) (a_p0_trial_ways_heard : Nat) (a_p0_trial_frames_cells : Nat) (c_p0_latestError : Int32) (c_p0_latestErrorPosition : Int32) (c_p0_net_stationCount : Int32) (c_p0_net_linkCount : Int32) (c_p0_net_messageCount : Int32) (c_p0_net_time : Int32) (c_p0_net_life : Int32) (c_p0_net_tries : Int32) (c_p0_net_x : Int32) (c_p0_net_stations : Nat → Int32) (c_p0_net_links : Nat → Int32) (c_p0_net_messages : Nat → Int32) (c_p0_net_copies : Nat → Int32) (c_p0_net_log_first : Int32) (c_p0_net_log_size : Int32) (c_p0_net_log_events : Nat → Int32) (c_p0_net_ways_arrival : Int32) (c_p0_net_ways_fewest : Int32) (c_p0_net_ways_next : Int32) (c_p0_net_ways_heard : Nat → Int64) (c_p0_trial_stationCount : Int32) (c_p0_trial_linkCount : Int32) (c_p0_trial_messageCount : Int32) (c_p0_trial_time : Int32) (c_p0_trial_life : Int32) (c_p0_trial_tries : Int32) (c_p0_trial_x : Int32) (c_p0_trial_stations : Nat → Int32) (c_p0_trial_links : Nat → Int32) (c_p0_trial_messages : Nat → Int32) (c_p0_trial_copies : Nat → Int32) (c_p0_trial_log_first : Int32) (c_p0_trial_log_size : Int32) (c_p0_trial_log_events : Nat → Int32) (c_p0_trial_ways_arrival : Int32) (c_p0_trial_ways_fewest : Int32) (c_p0_trial_ways_next : Int32) (c_p0_trial_ways_heard : Nat → Int64) (c_p0_trial_frames : Nat → Int32) (i1 : Int32) (i2 : Int32) {u : Nat × Int32 × Int32 × Int32 × Int32 × Int32 × Int32 × Int32 × Int32 × (Nat → Int32) × (Nat → Int32) × (Nat → Int32) × (Nat → Int32) × Int32 × Int32 × (Nat → Int32) × Int32 × Int32 × Int32 × (Nat → Int64) × (Nat → Int32)} (hf : fL_stateAfter N c_p0_net_stationCount c_p0_net_linkCount c_p0_net_messageCount c_p0_net_time c_p0_net_life c_p0_net_tries c_p0_net_x c_p0_net_stations c_p0_net_links c_p0_net_messages c_p0_net_copies c_p0_net_log_first c_p0_net_log_size c_p0_net_log_events c_p0_net_ways_heard c_p0_trial_stationCount c_p0_trial_linkCount c_p0_trial_messageCount c_p0_trial_time c_p0_trial_life c_p0_trial_tries c_p0_trial_x c_p0_trial_stations c_p0_trial_links c_p0_trial_messages c_p0_trial_copies c_p0_trial_log_first c_p0_trial_log_size c_p0_trial_log_events c_p0_trial_ways_arrival c_p0_trial_ways_fewest c_p0_trial_ways_next c_p0_trial_ways_heard c_p0_trial_frames i1 i2 = some u) : rn_KW l D k z yL_stateAfter cL_stateAfter 4 hhL_stateAfter 7 182 [.ref a_p0, .int i1, .int i2] [(a_p0, .inr (6, [.ref a_p0_setup, .int c_p0_latestError, .int c_p0_latestErrorPosition, .ref a_p0_net, .ref a_p0_trial, .ref a_p0_saved, .ref a_p0_line])), (a_p0_net, .inr (2, [.ref a_p0_net_stations, .ref a_p0_net_links, .ref a_p0_net_messages, .ref a_p0_net_copies, .ref a_p0_net_log, .ref a_p0_net_ways, .ref a_p0_net_frames, .int c_p0_net_stationCount, .int c_p0_net_linkCount, .int c_p0_net_messageCount, .int c_p0_net_time, .int c_p0_net_life, .int c_p0_net_tries, .int c_p0_net_x])), (a_p0_net_stations, .inr (4, [.int (8 : Int32), .int (10 : Int32), .ref a_p0_net_stations_cells])), (a_p0_net_stations_cells, .inl (k 0, 80, .inl c_p0_net_stations)), (a_p0_net_links, .inr (4, [.int (16 : Int32), .int (9 : Int32), .ref a_p0_net_links_cells])), (a_p0_net_links_cells, .inl (k 0, 144, .inl c_p0_net_links)), (a_p0_net_messages, .inr (4, [.int (24 : Int32), .int (12 : Int32), .ref a_p0_net_messages_cells])), (a_p0_net_messages_cells, .inl (k 0, 288, .inl c_p0_net_messages)), (a_p0_net_copies, .inr (4, [.int (192 : Int32), .int (5 : Int32), .ref a_p0_net_copies_cells])), (a_p0_net_copies_cells, .inl (k 0, 960, .inl c_p0_net_copies)), (a_p0_net_log, .inr (0, [.ref a_p0_net_log_events, .int c_p0_net_log_first, .int c_p0_net_log_size])), (a_p0_net_log_events, .inr (4, [.int (40 : Int32), .int (5 : Int32), .ref a_p0_net_log_events_cells])), (a_p0_net_log_events_cells, .inl (k 0, 200, .inl c_p0_net_log_events)), (a_p0_net_ways, .inr (5, [.ref a_p0_net_ways_heard, .int c_p0_net_ways_arrival, .int c_p0_net_ways_fewest, .int c_p0_net_ways_next])), (a_p0_net_ways_heard, .inl (k 1, 24, .inr (.inl c_p0_net_ways_heard))), (a_p0_trial, .inr (2, [.ref a_p0_trial_stations, .ref a_p0_trial_links, .ref a_p0_trial_messages, .ref a_p0_trial_copies, .ref a_p0_trial_log, .ref a_p0_trial_ways, .ref a_p0_trial_frames, .int c_p0_trial_stationCount, .int c_p0_trial_linkCount, .int c_p0_trial_messageCount, .int c_p0_trial_time, .int c_p0_trial_life, .int c_p0_trial_tries, .int c_p0_trial_x])), (a_p0_trial_stations, .inr (4, [.int (8 : Int32), .int (10 : Int32), .ref a_p0_trial_stations_cells])), (a_p0_trial_stations_cells, .inl (k 0, 80, .inl c_p0_trial_stations)), (a_p0_trial_links, .inr (4, [.int (16 : Int32), .int (9 : Int32), .ref a_p0_trial_links_cells])), (a_p0_trial_links_cells, .inl (k 0, 144, .inl c_p0_trial_links)), (a_p0_trial_messages, .inr (4, [.int (24 : Int32), .int (12 : Int32), .ref a_p0_trial_messages_cells])), (a_p0_trial_messages_cells, .inl (k 0, 288, .inl c_p0_trial_messages)), (a_p0_trial_copies, .inr (4, [.int (192 : Int32), .int (5 : Int32), .ref a_p0_trial_copies_cells])), (a_p0_trial_copies_cells, .inl (k 0, 960, .inl c_p0_trial_copies)), (a_p0_trial_log, .inr (0, [.ref a_p0_trial_log_events, .int c_p0_trial_log_first, .int c_p0_trial_log_size])), (a_p0_trial_log_events, .inr (4, [.int (40 : Int32), .int (5 : Int32), .ref a_p0_trial_log_events_cells])), (a_p0_trial_log_events_cells, .inl (k 0, 200, .inl c_p0_trial_log_events)), (a_p0_trial_ways, .inr (5, [.ref a_p0_trial_ways_heard, .int c_p0_trial_ways_arrival, .int c_p0_trial_ways_fewest, .int c_p0_trial_ways_next])), (a_p0_trial_ways_heard, .inl (k 1, 24, .inr (.inl c_p0_trial_ways_heard))), (a_p0_trial_frames, .inr (4, [.int (9 : Int32), .int (2 : Int32), .ref a_p0_trial_frames_cells])), (a_p0_trial_frames_cells, .inl (k 0, 18, .inl c_p0_trial_frames))] [(a_p0, .inr (6, [.ref a_p0_setup, .int c_p0_latestError, .int c_p0_latestErrorPosition, .ref a_p0_net, .ref a_p0_trial, .ref a_p0_saved, .ref a_p0_line])), (a_p0_net, .inr (2, [.ref a_p0_net_stations, .ref a_p0_net_links, .ref a_p0_net_messages, .ref a_p0_net_copies, .ref a_p0_net_log, .ref a_p0_net_ways, .ref a_p0_net_frames, .int c_p0_net_stationCount, .int c_p0_net_linkCount, .int c_p0_net_messageCount, .int c_p0_net_time, .int c_p0_net_life, .int c_p0_net_tries, .int c_p0_net_x])), (a_p0_net_stations, .inr (4, [.int (8 : Int32), .int (10 : Int32), .ref a_p0_net_stations_cells])), (a_p0_net_stations_cells, .inl (k 0, 80, .inl c_p0_net_stations)), (a_p0_net_links, .inr (4, [.int (16 : Int32), .int (9 : Int32), .ref a_p0_net_links_cells])), (a_p0_net_links_cells, .inl (k 0, 144, .inl c_p0_net_links)), (a_p0_net_messages, .inr (4, [.int (24 : Int32), .int (12 : Int32), .ref a_p0_net_messages_cells])), (a_p0_net_messages_cells, .inl (k 0, 288, .inl c_p0_net_messages)), (a_p0_net_copies, .inr (4, [.int (192 : Int32), .int (5 : Int32), .ref a_p0_net_copies_cells])), (a_p0_net_copies_cells, .inl (k 0, 960, .inl c_p0_net_copies)), (a_p0_net_log, .inr (0, [.ref a_p0_net_log_events, .int c_p0_net_log_first, .int c_p0_net_log_size])), (a_p0_net_log_events, .inr (4, [.int (40 : Int32), .int (5 : Int32), .ref a_p0_net_log_events_cells])), (a_p0_net_log_events_cells, .inl (k 0, 200, .inl c_p0_net_log_events)), (a_p0_net_ways, .inr (5, [.ref a_p0_net_ways_heard, .int c_p0_net_ways_arrival, .int c_p0_net_ways_fewest, .int c_p0_net_ways_next])), (a_p0_net_ways_heard, .inl (k 1, 24, .inr (.inl c_p0_net_ways_heard))), (a_p0_trial, .inr (2, [.ref a_p0_trial_stations, .ref a_p0_trial_links, .ref a_p0_trial_messages, .ref a_p0_trial_copies, .ref a_p0_trial_log, .ref a_p0_trial_ways, .ref a_p0_trial_frames, .int u.2.2.1, .int u.2.2.2.1, .int u.2.2.2.2.1, .int u.2.2.2.2.2.1, .int u.2.2.2.2.2.2.1, .int u.2.2.2.2.2.2.2.1, .int u.2.2.2.2.2.2.2.2.1])), (a_p0_trial_stations, .inr (4, [.int (8 : Int32), .int (10 : Int32), .ref a_p0_trial_stations_cells])), (a_p0_trial_stations_cells, .inl (k 0, 80, .inl u.2.2.2.2.2.2.2.2.2.1)), (a_p0_trial_links, .inr (4, [.int (16 : Int32), .int (9 : Int32), .ref a_p0_trial_links_cells])), (a_p0_trial_links_cells, .inl (k 0, 144, .inl u.2.2.2.2.2.2.2.2.2.2.1)), (a_p0_trial_messages, .inr (4, [.int (24 : Int32), .int (12 : Int32), .ref a_p0_trial_messages_cells])), (a_p0_trial_messages_cells, .inl (k 0, 288, .inl u.2.2.2.2.2.2.2.2.2.2.2.1)), (a_p0_trial_copies, .inr (4, [.int (192 : Int32), .int (5 : Int32), .ref a_p0_trial_copies_cells])), (a_p0_trial_copies_cells, .inl (k 0, 960, .inl u.2.2.2.2.2.2.2.2.2.2.2.2.1)), (a_p0_trial_log, .inr (0, [.ref a_p0_trial_log_events, .int u.2.2.2.2.2.2.2.2.2.2.2.2.2.1, .int u.2.2.2.2.2.2.2.2.2.2.2.2.2.2.1])), (a_p0_trial_log_events, .inr (4, [.int (40 : Int32), .int (5 : Int32), .ref a_p0_trial_log_events_cells])), (a_p0_trial_log_events_cells, .inl (k 0, 200, .inl u.2.2.2.2.2.2.2.2.2.2.2.2.2.2.2.1)), (a_p0_trial_ways, .inr (5, [.ref a_p0_trial_ways_heard, .int u.2.2.2.2.2.2.2.2.2.2.2.2.2.2.2.2.1, .int u.2.2.2.2.2.2.2.2.2.2.2.2.2.2.2.2.2.1, .int u.2.2.2.2.2.2.2.2.2.2.2.2.2.2.2.2.2.2.1])), (a_p0_trial_ways_heard, .inl (k 1, 24, .inr (.inl u.2.2.2.2.2.2.2.2.2.2.2.2.2.2.2.2.2.2.2.1))), (a_p0_trial_frames, .inr (4, [.int (9 : Int32), .int (2 : Int32), .ref a_p0_trial_frames_cells])), (a_p0_trial_frames_cells, .inl (k 0, 18, .inl u.2.2.2.2.2.2.2.2.2.2.2.2.2.2.2.2.2.2.2.2))] u.1 u.2.1 := by
  refine rn_KW.go (LOC := [(0, .ref a_p0), (1, .int i1), (2, .int i2)]) rfl (by decide) (Nat.le_of_ble_eq_true rfl) rfl ?_
  intro p e s m args below meth c A ls R Q hst hxc htab X hR hE hW hl
  have hx := X.1.1
  have hb := X.1.2.1
  have hts := X.1.2.2.2.2
  unfold fL_stateAfter at hf
  obtain ⟨t1, ht1, hf⟩ := rn_bind hf
  obtain ⟨u0, u1, u2, u3, u4, u5, u6, u7, u8, u9, u10, u11, u12, u13, u14, u15, u16, u17, u18, u19, u20⟩ := u
  dsimp only at hE hR
  have hu : t1.1 = u0 := by
    revert hf
    repeat' split
    all_goals (intro hf; first | (cases hf; done) | (cases hf; rfl))
  rw [← hu] at hR hE
  refine lv_aload_n hx hb dL_stateAfter_0 rfl (lv_at hl 0 rfl) ?_
  refine lv_iload_n hx hb dL_stateAfter_1 rfl (lv_at hl 1 rfl) ?_
  refine lv_iload_n hx hb dL_stateAfter_2 rfl (lv_at hl 2 rfl) ?_
  refine rr_xcallI (As := [.int i1, .int i2]) (rest := []) X hxc hst hW (kX6_stateAfter l D k z N a_p0 a_p0_setup a_p0_net a_p0_trial a_p0_saved a_p0_line a_p0_net_stations a_p0_net_links a_p0_net_messages a_p0_net_copies a_p0_net_log a_p0_net_ways a_p0_net_frames a_p0_net_stations_cells a_p0_net_links_cells a_p0_net_messages_cells a_p0_net_copies_cells a_p0_net_log_events a_p0_net_log_events_cells a_p0_net_ways_heard a_p0_trial_stations a_p0_trial_links a_p0_trial_messages a_p0_trial_copies a_p0_trial_log a_p0_trial_ways a_p0_trial_frames a_p0_trial_stations_cells a_p0_trial_links_cells a_p0_trial_messages_cells a_p0_trial_copies_cells a_p0_trial_log_events a_p0_trial_log_events_cells a_p0_trial_ways_heard a_p0_trial_frames_cells c_p0_latestError c_p0_latestErrorPosition c_p0_net_stationCount c_p0_net_linkCount c_p0_net_messageCount c_p0_net_time c_p0_net_life c_p0_net_tries c_p0_net_x c_p0_net_stations c_p0_net_links c_p0_net_messages c_p0_net_copies c_p0_net_log_first c_p0_net_log_size c_p0_net_log_events c_p0_net_ways_arrival c_p0_net_ways_fewest c_p0_net_ways_next c_p0_net_ways_heard c_p0_trial_stationCount c_p0_trial_linkCount c_p0_trial_messageCount c_p0_trial_time c_p0_trial_life c_p0_trial_tries c_p0_trial_x c_p0_trial_stations c_p0_trial_links c_p0_trial_messages c_p0_trial_copies c_p0_trial_log_first c_p0_trial_log_size c_p0_trial_log_events c_p0_trial_ways_arrival c_p0_trial_ways_fewest c_p0_trial_ways_next c_p0_trial_ways_heard c_p0_trial_frames i1 i2 ht1) gm_X6_stateAfter gl_L_104 [0, 1, 2, 3, 4, 5, 6, 7, 8, 9, 10, 11, 12, 13, 14, 15, 16, 17, 18, 19, 20, 21, 22, 23, 24, 25, 26, 27, 28, 29, 30] [] [(a_p0, .inr (6, [.ref a_p0_setup, .int c_p0_latestError, .int c_p0_latestErrorPosition, .ref a_p0_net, .ref a_p0_trial, .ref a_p0_saved, .ref a_p0_line])), (a_p0_net, .inr (2, [.ref a_p0_net_stations, .ref a_p0_net_links, .ref a_p0_net_messages, .ref a_p0_net_copies, .ref a_p0_net_log, .ref a_p0_net_ways, .ref a_p0_net_frames, .int c_p0_net_stationCount, .int c_p0_net_linkCount, .int c_p0_net_messageCount, .int c_p0_net_time, .int c_p0_net_life, .int c_p0_net_tries, .int c_p0_net_x])), (a_p0_net_stations, .inr (4, [.int (8 : Int32), .int (10 : Int32), .ref a_p0_net_stations_cells])), (a_p0_net_stations_cells, .inl (k 0, 80, .inl c_p0_net_stations)), (a_p0_net_links, .inr (4, [.int (16 : Int32), .int (9 : Int32), .ref a_p0_net_links_cells])), (a_p0_net_links_cells, .inl (k 0, 144, .inl c_p0_net_links)), (a_p0_net_messages, .inr (4, [.int (24 : Int32), .int (12 : Int32), .ref a_p0_net_messages_cells])), (a_p0_net_messages_cells, .inl (k 0, 288, .inl c_p0_net_messages)), (a_p0_net_copies, .inr (4, [.int (192 : Int32), .int (5 : Int32), .ref a_p0_net_copies_cells])), (a_p0_net_copies_cells, .inl (k 0, 960, .inl c_p0_net_copies)), (a_p0_net_log, .inr (0, [.ref a_p0_net_log_events, .int c_p0_net_log_first, .int c_p0_net_log_size])), (a_p0_net_log_events, .inr (4, [.int (40 : Int32), .int (5 : Int32), .ref a_p0_net_log_events_cells])), (a_p0_net_log_events_cells, .inl (k 0, 200, .inl c_p0_net_log_events)), (a_p0_net_ways, .inr (5, [.ref a_p0_net_ways_heard, .int c_p0_net_ways_arrival, .int c_p0_net_ways_fewest, .int c_p0_net_ways_next])), (a_p0_net_ways_heard, .inl (k 1, 24, .inr (.inl c_p0_net_ways_heard))), (a_p0_trial, .inr (2, [.ref a_p0_trial_stations, .ref a_p0_trial_links, .ref a_p0_trial_messages, .ref a_p0_trial_copies, .ref a_p0_trial_log, .ref a_p0_trial_ways, .ref a_p0_trial_frames, .int t1.2.2.1, .int t1.2.2.2.1, .int t1.2.2.2.2.1, .int t1.2.2.2.2.2.1, .int t1.2.2.2.2.2.2.1, .int t1.2.2.2.2.2.2.2.1, .int t1.2.2.2.2.2.2.2.2.1])), (a_p0_trial_stations, .inr (4, [.int (8 : Int32), .int (10 : Int32), .ref a_p0_trial_stations_cells])), (a_p0_trial_stations_cells, .inl (k 0, 80, .inl t1.2.2.2.2.2.2.2.2.2.1)), (a_p0_trial_links, .inr (4, [.int (16 : Int32), .int (9 : Int32), .ref a_p0_trial_links_cells])), (a_p0_trial_links_cells, .inl (k 0, 144, .inl t1.2.2.2.2.2.2.2.2.2.2.1)), (a_p0_trial_messages, .inr (4, [.int (24 : Int32), .int (12 : Int32), .ref a_p0_trial_messages_cells])), (a_p0_trial_messages_cells, .inl (k 0, 288, .inl t1.2.2.2.2.2.2.2.2.2.2.2.1)), (a_p0_trial_copies, .inr (4, [.int (192 : Int32), .int (5 : Int32), .ref a_p0_trial_copies_cells])), (a_p0_trial_copies_cells, .inl (k 0, 960, .inl t1.2.2.2.2.2.2.2.2.2.2.2.2.1)), (a_p0_trial_log, .inr (0, [.ref a_p0_trial_log_events, .int t1.2.2.2.2.2.2.2.2.2.2.2.2.2.1, .int t1.2.2.2.2.2.2.2.2.2.2.2.2.2.2.1])), (a_p0_trial_log_events, .inr (4, [.int (40 : Int32), .int (5 : Int32), .ref a_p0_trial_log_events_cells])), (a_p0_trial_log_events_cells, .inl (k 0, 200, .inl t1.2.2.2.2.2.2.2.2.2.2.2.2.2.2.2.1)), (a_p0_trial_ways, .inr (5, [.ref a_p0_trial_ways_heard, .int t1.2.2.2.2.2.2.2.2.2.2.2.2.2.2.2.2.1, .int t1.2.2.2.2.2.2.2.2.2.2.2.2.2.2.2.2.2.1, .int t1.2.2.2.2.2.2.2.2.2.2.2.2.2.2.2.2.2.2.1])), (a_p0_trial_ways_heard, .inl (k 1, 24, .inr (.inl t1.2.2.2.2.2.2.2.2.2.2.2.2.2.2.2.2.2.2.2.1))), (a_p0_trial_frames, .inr (4, [.int (9 : Int32), .int (2 : Int32), .ref a_p0_trial_frames_cells])), (a_p0_trial_frames_cells, .inl (k 0, 18, .inl t1.2.2.2.2.2.2.2.2.2.2.2.2.2.2.2.2.2.2.2.2))] rfl rfl rfl rfl ⟨rfl, rfl, rn_m0, rfl, rfl⟩ (rn_rT hR rfl) (rn_cs1 hR) hl.1 rfl (Nat.le_of_ble_eq_true rfl) dL_stateAfter_3 (fun hk H locs q9 ce hW hq9 hv hcl => ?_) (fun hk _ H locs hW => ?_)
  · replace hf := rn_f hf hk
    by_cases hk0 : t1.1 = 3
    · replace hf := rn_t hf hk0
      rw [hk0] at hcl
      refine vx_catch (name := rn_ex 3) X.1.2.2.2.1 [] (⟨0, 6, 7, 54⟩ : ExceptionTableEntry) [(⟨0, 6, 11, 46⟩ : ExceptionTableEntry)] (htab.trans rfl) (fun z hz => nomatch hz) (by decide) (by decide) (hts _ qc_3) (va_any rfl hxc.2.1.2.2) hq9 hv hcl ?_
      refine lv_astore_n (lv' := [(3, .ref q9), (0, .ref a_p0), (1, .int i1), (2, .int i2)]) hx hb dL_stateAfter_7 rfl hl (Nat.le_of_ble_eq_true rfl) rfl (fun ls hl => ?_)
      refine lv_bipush (v := -101) hx hb dL_stateAfter_8 (by decide) ?_
      cases hf
      exact hE _ _ _ _ hW dL_stateAfter_10
    replace hf := rn_f hf hk0
    by_cases hk1 : t1.1 = 1
    · replace hf := rn_t hf hk1
      rw [hk1] at hcl
      refine vx_catch (name := rn_ex 1) X.1.2.2.2.1 [(⟨0, 6, 7, 54⟩ : ExceptionTableEntry)] (⟨0, 6, 11, 46⟩ : ExceptionTableEntry) [] (htab.trans rfl) (fun z hz => by rcases List.mem_singleton.mp hz with rfl; exact Or.inr ⟨by decide, rn_ex 3, hts _ qc_3, hxc.2.2.1.2⟩) (by decide) (by decide) (hts _ qc_1) (va_any rfl hxc.2.1.1) hq9 hv hcl ?_
      refine lv_astore_n (lv' := [(3, .ref q9), (0, .ref a_p0), (1, .int i1), (2, .int i2)]) hx hb dL_stateAfter_11 rfl hl (Nat.le_of_ble_eq_true rfl) rfl (fun ls hl => ?_)
      refine lv_bipush (v := -102) hx hb dL_stateAfter_12 (by decide) ?_
      cases hf
      exact hE _ _ _ _ hW dL_stateAfter_14
    replace hf := rn_f hf hk1
    cases hf
  · replace hf := rn_t hf hk
    cases hf
    exact hE _ _ _ _ hW dL_stateAfter_6
def fL_hoursTo (N : Nat) (c_p0_net_stationCount : Int32) (c_p0_net_linkCount : Int32) (c_p0_net_messageCount : Int32) (c_p0_net_time : Int32) (c_p0_net_life : Int32) (c_p0_net_tries : Int32) (c_p0_net_x : Int32) (c_p0_net_stations : Nat → Int32) (c_p0_net_links : Nat → Int32) (c_p0_net_messages : Nat → Int32) (c_p0_net_copies : Nat → Int32) (c_p0_net_log_first : Int32) (c_p0_net_log_size : Int32) (c_p0_net_log_events : Nat → Int32) (c_p0_net_ways_heard : Nat → Int64) (c_p0_trial_stationCount : Int32) (c_p0_trial_linkCount : Int32) (c_p0_trial_messageCount : Int32) (c_p0_trial_time : Int32) (c_p0_trial_life : Int32) (c_p0_trial_tries : Int32) (c_p0_trial_x : Int32) (c_p0_trial_stations : Nat → Int32) (c_p0_trial_links : Nat → Int32) (c_p0_trial_messages : Nat → Int32) (c_p0_trial_copies : Nat → Int32) (c_p0_trial_log_first : Int32) (c_p0_trial_log_size : Int32) (c_p0_trial_log_events : Nat → Int32) (c_p0_trial_ways_arrival : Int32) (c_p0_trial_ways_fewest : Int32) (c_p0_trial_ways_next : Int32) (c_p0_trial_ways_heard : Nat → Int64) (c_p0_trial_frames : Nat → Int32) (i1 : Int32) : Option (Nat × Int32 × Int32 × Int32 × Int32 × Int32 × Int32 × Int32 × Int32 × (Nat → Int32) × (Nat → Int32) × (Nat → Int32) × (Nat → Int32) × Int32 × Int32 × (Nat → Int32) × Int32 × Int32 × Int32 × (Nat → Int64) × (Nat → Int32)) :=
  (fX6_hoursTo N c_p0_net_stationCount c_p0_net_linkCount c_p0_net_messageCount c_p0_net_time c_p0_net_life c_p0_net_tries c_p0_net_x c_p0_net_stations c_p0_net_links c_p0_net_messages c_p0_net_copies c_p0_net_log_first c_p0_net_log_size c_p0_net_log_events c_p0_net_ways_heard c_p0_trial_stationCount c_p0_trial_linkCount c_p0_trial_messageCount c_p0_trial_time c_p0_trial_life c_p0_trial_tries c_p0_trial_x c_p0_trial_stations c_p0_trial_links c_p0_trial_messages c_p0_trial_copies c_p0_trial_log_first c_p0_trial_log_size c_p0_trial_log_events c_p0_trial_ways_arrival c_p0_trial_ways_fewest c_p0_trial_ways_next c_p0_trial_ways_heard c_p0_trial_frames i1).bind fun t1 =>
  if t1.1 = 0 then
    some (t1.1, t1.2.1, t1.2.2.1, t1.2.2.2.1, t1.2.2.2.2.1, t1.2.2.2.2.2.1, t1.2.2.2.2.2.2.1, t1.2.2.2.2.2.2.2.1, t1.2.2.2.2.2.2.2.2.1, t1.2.2.2.2.2.2.2.2.2.1, t1.2.2.2.2.2.2.2.2.2.2.1, t1.2.2.2.2.2.2.2.2.2.2.2.1, t1.2.2.2.2.2.2.2.2.2.2.2.2.1, t1.2.2.2.2.2.2.2.2.2.2.2.2.2.1, t1.2.2.2.2.2.2.2.2.2.2.2.2.2.2.1, t1.2.2.2.2.2.2.2.2.2.2.2.2.2.2.2.1, t1.2.2.2.2.2.2.2.2.2.2.2.2.2.2.2.2.1, t1.2.2.2.2.2.2.2.2.2.2.2.2.2.2.2.2.2.1, t1.2.2.2.2.2.2.2.2.2.2.2.2.2.2.2.2.2.2.1, t1.2.2.2.2.2.2.2.2.2.2.2.2.2.2.2.2.2.2.2.1, t1.2.2.2.2.2.2.2.2.2.2.2.2.2.2.2.2.2.2.2.2)
  else
  if t1.1 = 1 then
    some (t1.1, (-102 : Int32), t1.2.2.1, t1.2.2.2.1, t1.2.2.2.2.1, t1.2.2.2.2.2.1, t1.2.2.2.2.2.2.1, t1.2.2.2.2.2.2.2.1, t1.2.2.2.2.2.2.2.2.1, t1.2.2.2.2.2.2.2.2.2.1, t1.2.2.2.2.2.2.2.2.2.2.1, t1.2.2.2.2.2.2.2.2.2.2.2.1, t1.2.2.2.2.2.2.2.2.2.2.2.2.1, t1.2.2.2.2.2.2.2.2.2.2.2.2.2.1, t1.2.2.2.2.2.2.2.2.2.2.2.2.2.2.1, t1.2.2.2.2.2.2.2.2.2.2.2.2.2.2.2.1, t1.2.2.2.2.2.2.2.2.2.2.2.2.2.2.2.2.1, t1.2.2.2.2.2.2.2.2.2.2.2.2.2.2.2.2.2.1, t1.2.2.2.2.2.2.2.2.2.2.2.2.2.2.2.2.2.2.1, t1.2.2.2.2.2.2.2.2.2.2.2.2.2.2.2.2.2.2.2.1, t1.2.2.2.2.2.2.2.2.2.2.2.2.2.2.2.2.2.2.2.2)
  else
  none
set_option maxHeartbeats 4000000 in
set_option maxRecDepth 20000 in
theorem kL_hoursTo (l : Launch) (D : va_G) (k : Nat → ClassId) (z : (Nat → Nat) × (Nat → Nat)) (N : Nat) (a_p0 : Nat) (a_p0_setup : Nat) (a_p0_net : Nat) (a_p0_trial : Nat) (a_p0_saved : Nat) (a_p0_line : Nat) (a_p0_net_stations : Nat) (a_p0_net_links : Nat) (a_p0_net_messages : Nat) (a_p0_net_copies : Nat) (a_p0_net_log : Nat) (a_p0_net_ways : Nat) (a_p0_net_frames : Nat) (a_p0_net_stations_cells : Nat) (a_p0_net_links_cells : Nat) (a_p0_net_messages_cells : Nat) (a_p0_net_copies_cells : Nat) (a_p0_net_log_events : Nat) (a_p0_net_log_events_cells : Nat) (a_p0_net_ways_heard : Nat) (a_p0_trial_stations : Nat) (a_p0_trial_links : Nat) (a_p0_trial_messages : Nat) (a_p0_trial_copies : Nat) (a_p0_trial_log : Nat) (a_p0_trial_ways : Nat) (a_p0_trial_frames : Nat) (a_p0_trial_stations_cells : Nat) (a_p0_trial_links_cells : Nat) (a_p0_trial_messages_cells : Nat) (a_p0_trial_copies_cells : Nat) (a_p0_trial_log_events : Nat) (a_p0_trial_log_events_cells : Nat) (a_p0_trial_ways_heard : Nat) (a_p0_trial_frames_cells : Nat) (c_p0_latestError : Int32) (c_p0_latestErrorPosition : Int32) (c_p0_net_stationCount : Int32) (c_p0_net_linkCount : Int32) (c_p0_net_messageCount : Int32) (c_p0_net_time : Int32) (c_p0_net_life : Int32) (c_p0_net_tries : Int32) (c_p0_net_x : Int32) (c_p0_net_stations : Nat → Int32) (c_p0_net_links : Nat → Int32) (c_p0_net_messages : Nat → Int32) (c_p0_net_copies : Nat → Int32) (c_p0_net_log_first : Int32) (c_p0_net_log_size : Int32) (c_p0_net_log_events : Nat → Int32) (c_p0_net_ways_arrival : Int32) (c_p0_net_ways_fewest : Int32) (c_p0_net_ways_next : Int32) (c_p0_net_ways_heard : Nat → Int64) (c_p0_trial_stationCount : Int32) (c_p0_trial_linkCount : Int32) (c_p0_trial_messageCount : Int32) (c_p0_trial_time : Int32) (c_p0_trial_life : Int32) (c_p0_trial_tries : Int32) (c_p0_trial_x : Int32) (c_p0_trial_stations : Nat → Int32) (c_p0_trial_links : Nat → Int32) (c_p0_trial_messages : Nat → Int32) (c_p0_trial_copies : Nat → Int32) (c_p0_trial_log_first : Int32) (c_p0_trial_log_size : Int32) (c_p0_trial_log_events : Nat → Int32) (c_p0_trial_ways_arrival : Int32) (c_p0_trial_ways_fewest : Int32) (c_p0_trial_ways_next : Int32) (c_p0_trial_ways_heard : Nat → Int64) (c_p0_trial_frames : Nat → Int32) (i1 : Int32) {u : Nat × Int32 × Int32 × Int32 × Int32 × Int32 × Int32 × Int32 × Int32 × (Nat → Int32) × (Nat → Int32) × (Nat → Int32) × (Nat → Int32) × Int32 × Int32 × (Nat → Int32) × Int32 × Int32 × Int32 × (Nat → Int64) × (Nat → Int32)} (hf : fL_hoursTo N c_p0_net_stationCount c_p0_net_linkCount c_p0_net_messageCount c_p0_net_time c_p0_net_life c_p0_net_tries c_p0_net_x c_p0_net_stations c_p0_net_links c_p0_net_messages c_p0_net_copies c_p0_net_log_first c_p0_net_log_size c_p0_net_log_events c_p0_net_ways_heard c_p0_trial_stationCount c_p0_trial_linkCount c_p0_trial_messageCount c_p0_trial_time c_p0_trial_life c_p0_trial_tries c_p0_trial_x c_p0_trial_stations c_p0_trial_links c_p0_trial_messages c_p0_trial_copies c_p0_trial_log_first c_p0_trial_log_size c_p0_trial_log_events c_p0_trial_ways_arrival c_p0_trial_ways_fewest c_p0_trial_ways_next c_p0_trial_ways_heard c_p0_trial_frames i1 = some u) : rn_KW l D k z yL_hoursTo cL_hoursTo 3 hhL_hoursTo 7 181 [.ref a_p0, .int i1] [(a_p0, .inr (6, [.ref a_p0_setup, .int c_p0_latestError, .int c_p0_latestErrorPosition, .ref a_p0_net, .ref a_p0_trial, .ref a_p0_saved, .ref a_p0_line])), (a_p0_net, .inr (2, [.ref a_p0_net_stations, .ref a_p0_net_links, .ref a_p0_net_messages, .ref a_p0_net_copies, .ref a_p0_net_log, .ref a_p0_net_ways, .ref a_p0_net_frames, .int c_p0_net_stationCount, .int c_p0_net_linkCount, .int c_p0_net_messageCount, .int c_p0_net_time, .int c_p0_net_life, .int c_p0_net_tries, .int c_p0_net_x])), (a_p0_net_stations, .inr (4, [.int (8 : Int32), .int (10 : Int32), .ref a_p0_net_stations_cells])), (a_p0_net_stations_cells, .inl (k 0, 80, .inl c_p0_net_stations)), (a_p0_net_links, .inr (4, [.int (16 : Int32), .int (9 : Int32), .ref a_p0_net_links_cells])), (a_p0_net_links_cells, .inl (k 0, 144, .inl c_p0_net_links)), (a_p0_net_messages, .inr (4, [.int (24 : Int32), .int (12 : Int32), .ref a_p0_net_messages_cells])), (a_p0_net_messages_cells, .inl (k 0, 288, .inl c_p0_net_messages)), (a_p0_net_copies, .inr (4, [.int (192 : Int32), .int (5 : Int32), .ref a_p0_net_copies_cells])), (a_p0_net_copies_cells, .inl (k 0, 960, .inl c_p0_net_copies)), (a_p0_net_log, .inr (0, [.ref a_p0_net_log_events, .int c_p0_net_log_first, .int c_p0_net_log_size])), (a_p0_net_log_events, .inr (4, [.int (40 : Int32), .int (5 : Int32), .ref a_p0_net_log_events_cells])), (a_p0_net_log_events_cells, .inl (k 0, 200, .inl c_p0_net_log_events)), (a_p0_net_ways, .inr (5, [.ref a_p0_net_ways_heard, .int c_p0_net_ways_arrival, .int c_p0_net_ways_fewest, .int c_p0_net_ways_next])), (a_p0_net_ways_heard, .inl (k 1, 24, .inr (.inl c_p0_net_ways_heard))), (a_p0_trial, .inr (2, [.ref a_p0_trial_stations, .ref a_p0_trial_links, .ref a_p0_trial_messages, .ref a_p0_trial_copies, .ref a_p0_trial_log, .ref a_p0_trial_ways, .ref a_p0_trial_frames, .int c_p0_trial_stationCount, .int c_p0_trial_linkCount, .int c_p0_trial_messageCount, .int c_p0_trial_time, .int c_p0_trial_life, .int c_p0_trial_tries, .int c_p0_trial_x])), (a_p0_trial_stations, .inr (4, [.int (8 : Int32), .int (10 : Int32), .ref a_p0_trial_stations_cells])), (a_p0_trial_stations_cells, .inl (k 0, 80, .inl c_p0_trial_stations)), (a_p0_trial_links, .inr (4, [.int (16 : Int32), .int (9 : Int32), .ref a_p0_trial_links_cells])), (a_p0_trial_links_cells, .inl (k 0, 144, .inl c_p0_trial_links)), (a_p0_trial_messages, .inr (4, [.int (24 : Int32), .int (12 : Int32), .ref a_p0_trial_messages_cells])), (a_p0_trial_messages_cells, .inl (k 0, 288, .inl c_p0_trial_messages)), (a_p0_trial_copies, .inr (4, [.int (192 : Int32), .int (5 : Int32), .ref a_p0_trial_copies_cells])), (a_p0_trial_copies_cells, .inl (k 0, 960, .inl c_p0_trial_copies)), (a_p0_trial_log, .inr (0, [.ref a_p0_trial_log_events, .int c_p0_trial_log_first, .int c_p0_trial_log_size])), (a_p0_trial_log_events, .inr (4, [.int (40 : Int32), .int (5 : Int32), .ref a_p0_trial_log_events_cells])), (a_p0_trial_log_events_cells, .inl (k 0, 200, .inl c_p0_trial_log_events)), (a_p0_trial_ways, .inr (5, [.ref a_p0_trial_ways_heard, .int c_p0_trial_ways_arrival, .int c_p0_trial_ways_fewest, .int c_p0_trial_ways_next])), (a_p0_trial_ways_heard, .inl (k 1, 24, .inr (.inl c_p0_trial_ways_heard))), (a_p0_trial_frames, .inr (4, [.int (9 : Int32), .int (2 : Int32), .ref a_p0_trial_frames_cells])), (a_p0_trial_frames_cells, .inl (k 0, 18, .inl c_p0_trial_frames))] [(a_p0, .inr (6, [.ref a_p0_setup, .int c_p0_latestError, .int c_p0_latestErrorPosition, .ref a_p0_net, .ref a_p0_trial, .ref a_p0_saved, .ref a_p0_line])), (a_p0_net, .inr (2, [.ref a_p0_net_stations, .ref a_p0_net_links, .ref a_p0_net_messages, .ref a_p0_net_copies, .ref a_p0_net_log, .ref a_p0_net_ways, .ref a_p0_net_frames, .int c_p0_net_stationCount, .int c_p0_net_linkCount, .int c_p0_net_messageCount, .int c_p0_net_time, .int c_p0_net_life, .int c_p0_net_tries, .int c_p0_net_x])), (a_p0_net_stations, .inr (4, [.int (8 : Int32), .int (10 : Int32), .ref a_p0_net_stations_cells])), (a_p0_net_stations_cells, .inl (k 0, 80, .inl c_p0_net_stations)), (a_p0_net_links, .inr (4, [.int (16 : Int32), .int (9 : Int32), .ref a_p0_net_links_cells])), (a_p0_net_links_cells, .inl (k 0, 144, .inl c_p0_net_links)), (a_p0_net_messages, .inr (4, [.int (24 : Int32), .int (12 : Int32), .ref a_p0_net_messages_cells])), (a_p0_net_messages_cells, .inl (k 0, 288, .inl c_p0_net_messages)), (a_p0_net_copies, .inr (4, [.int (192 : Int32), .int (5 : Int32), .ref a_p0_net_copies_cells])), (a_p0_net_copies_cells, .inl (k 0, 960, .inl c_p0_net_copies)), (a_p0_net_log, .inr (0, [.ref a_p0_net_log_events, .int c_p0_net_log_first, .int c_p0_net_log_size])), (a_p0_net_log_events, .inr (4, [.int (40 : Int32), .int (5 : Int32), .ref a_p0_net_log_events_cells])), (a_p0_net_log_events_cells, .inl (k 0, 200, .inl c_p0_net_log_events)), (a_p0_net_ways, .inr (5, [.ref a_p0_net_ways_heard, .int c_p0_net_ways_arrival, .int c_p0_net_ways_fewest, .int c_p0_net_ways_next])), (a_p0_net_ways_heard, .inl (k 1, 24, .inr (.inl c_p0_net_ways_heard))), (a_p0_trial, .inr (2, [.ref a_p0_trial_stations, .ref a_p0_trial_links, .ref a_p0_trial_messages, .ref a_p0_trial_copies, .ref a_p0_trial_log, .ref a_p0_trial_ways, .ref a_p0_trial_frames, .int u.2.2.1, .int u.2.2.2.1, .int u.2.2.2.2.1, .int u.2.2.2.2.2.1, .int u.2.2.2.2.2.2.1, .int u.2.2.2.2.2.2.2.1, .int u.2.2.2.2.2.2.2.2.1])), (a_p0_trial_stations, .inr (4, [.int (8 : Int32), .int (10 : Int32), .ref a_p0_trial_stations_cells])), (a_p0_trial_stations_cells, .inl (k 0, 80, .inl u.2.2.2.2.2.2.2.2.2.1)), (a_p0_trial_links, .inr (4, [.int (16 : Int32), .int (9 : Int32), .ref a_p0_trial_links_cells])), (a_p0_trial_links_cells, .inl (k 0, 144, .inl u.2.2.2.2.2.2.2.2.2.2.1)), (a_p0_trial_messages, .inr (4, [.int (24 : Int32), .int (12 : Int32), .ref a_p0_trial_messages_cells])), (a_p0_trial_messages_cells, .inl (k 0, 288, .inl u.2.2.2.2.2.2.2.2.2.2.2.1)), (a_p0_trial_copies, .inr (4, [.int (192 : Int32), .int (5 : Int32), .ref a_p0_trial_copies_cells])), (a_p0_trial_copies_cells, .inl (k 0, 960, .inl u.2.2.2.2.2.2.2.2.2.2.2.2.1)), (a_p0_trial_log, .inr (0, [.ref a_p0_trial_log_events, .int u.2.2.2.2.2.2.2.2.2.2.2.2.2.1, .int u.2.2.2.2.2.2.2.2.2.2.2.2.2.2.1])), (a_p0_trial_log_events, .inr (4, [.int (40 : Int32), .int (5 : Int32), .ref a_p0_trial_log_events_cells])), (a_p0_trial_log_events_cells, .inl (k 0, 200, .inl u.2.2.2.2.2.2.2.2.2.2.2.2.2.2.2.1)), (a_p0_trial_ways, .inr (5, [.ref a_p0_trial_ways_heard, .int u.2.2.2.2.2.2.2.2.2.2.2.2.2.2.2.2.1, .int u.2.2.2.2.2.2.2.2.2.2.2.2.2.2.2.2.2.1, .int u.2.2.2.2.2.2.2.2.2.2.2.2.2.2.2.2.2.2.1])), (a_p0_trial_ways_heard, .inl (k 1, 24, .inr (.inl u.2.2.2.2.2.2.2.2.2.2.2.2.2.2.2.2.2.2.2.1))), (a_p0_trial_frames, .inr (4, [.int (9 : Int32), .int (2 : Int32), .ref a_p0_trial_frames_cells])), (a_p0_trial_frames_cells, .inl (k 0, 18, .inl u.2.2.2.2.2.2.2.2.2.2.2.2.2.2.2.2.2.2.2.2))] u.1 u.2.1 := by
  refine rn_KW.go (LOC := [(0, .ref a_p0), (1, .int i1)]) rfl (by decide) (Nat.le_of_ble_eq_true rfl) rfl ?_
  intro p e s m args below meth c A ls R Q hst hxc htab X hR hE hW hl
  have hx := X.1.1
  have hb := X.1.2.1
  have hts := X.1.2.2.2.2
  unfold fL_hoursTo at hf
  obtain ⟨t1, ht1, hf⟩ := rn_bind hf
  obtain ⟨u0, u1, u2, u3, u4, u5, u6, u7, u8, u9, u10, u11, u12, u13, u14, u15, u16, u17, u18, u19, u20⟩ := u
  dsimp only at hE hR
  have hu : t1.1 = u0 := by
    revert hf
    repeat' split
    all_goals (intro hf; first | (cases hf; done) | (cases hf; rfl))
  rw [← hu] at hR hE
  refine lv_aload_n hx hb dL_hoursTo_0 rfl (lv_at hl 0 rfl) ?_
  refine lv_iload_n hx hb dL_hoursTo_1 rfl (lv_at hl 1 rfl) ?_
  refine rr_xcallI (As := [.int i1]) (rest := []) X hxc hst hW (kX6_hoursTo l D k z N a_p0 a_p0_setup a_p0_net a_p0_trial a_p0_saved a_p0_line a_p0_net_stations a_p0_net_links a_p0_net_messages a_p0_net_copies a_p0_net_log a_p0_net_ways a_p0_net_frames a_p0_net_stations_cells a_p0_net_links_cells a_p0_net_messages_cells a_p0_net_copies_cells a_p0_net_log_events a_p0_net_log_events_cells a_p0_net_ways_heard a_p0_trial_stations a_p0_trial_links a_p0_trial_messages a_p0_trial_copies a_p0_trial_log a_p0_trial_ways a_p0_trial_frames a_p0_trial_stations_cells a_p0_trial_links_cells a_p0_trial_messages_cells a_p0_trial_copies_cells a_p0_trial_log_events a_p0_trial_log_events_cells a_p0_trial_ways_heard a_p0_trial_frames_cells c_p0_latestError c_p0_latestErrorPosition c_p0_net_stationCount c_p0_net_linkCount c_p0_net_messageCount c_p0_net_time c_p0_net_life c_p0_net_tries c_p0_net_x c_p0_net_stations c_p0_net_links c_p0_net_messages c_p0_net_copies c_p0_net_log_first c_p0_net_log_size c_p0_net_log_events c_p0_net_ways_arrival c_p0_net_ways_fewest c_p0_net_ways_next c_p0_net_ways_heard c_p0_trial_stationCount c_p0_trial_linkCount c_p0_trial_messageCount c_p0_trial_time c_p0_trial_life c_p0_trial_tries c_p0_trial_x c_p0_trial_stations c_p0_trial_links c_p0_trial_messages c_p0_trial_copies c_p0_trial_log_first c_p0_trial_log_size c_p0_trial_log_events c_p0_trial_ways_arrival c_p0_trial_ways_fewest c_p0_trial_ways_next c_p0_trial_ways_heard c_p0_trial_frames i1 ht1) gm_X6_hoursTo gl_L_107 [0, 1, 2, 3, 4, 5, 6, 7, 8, 9, 10, 11, 12, 13, 14, 15, 16, 17, 18, 19, 20, 21, 22, 23, 24, 25, 26, 27, 28, 29, 30] [] [(a_p0, .inr (6, [.ref a_p0_setup, .int c_p0_latestError, .int c_p0_latestErrorPosition, .ref a_p0_net, .ref a_p0_trial, .ref a_p0_saved, .ref a_p0_line])), (a_p0_net, .inr (2, [.ref a_p0_net_stations, .ref a_p0_net_links, .ref a_p0_net_messages, .ref a_p0_net_copies, .ref a_p0_net_log, .ref a_p0_net_ways, .ref a_p0_net_frames, .int c_p0_net_stationCount, .int c_p0_net_linkCount, .int c_p0_net_messageCount, .int c_p0_net_time, .int c_p0_net_life, .int c_p0_net_tries, .int c_p0_net_x])), (a_p0_net_stations, .inr (4, [.int (8 : Int32), .int (10 : Int32), .ref a_p0_net_stations_cells])), (a_p0_net_stations_cells, .inl (k 0, 80, .inl c_p0_net_stations)), (a_p0_net_links, .inr (4, [.int (16 : Int32), .int (9 : Int32), .ref a_p0_net_links_cells])), (a_p0_net_links_cells, .inl (k 0, 144, .inl c_p0_net_links)), (a_p0_net_messages, .inr (4, [.int (24 : Int32), .int (12 : Int32), .ref a_p0_net_messages_cells])), (a_p0_net_messages_cells, .inl (k 0, 288, .inl c_p0_net_messages)), (a_p0_net_copies, .inr (4, [.int (192 : Int32), .int (5 : Int32), .ref a_p0_net_copies_cells])), (a_p0_net_copies_cells, .inl (k 0, 960, .inl c_p0_net_copies)), (a_p0_net_log, .inr (0, [.ref a_p0_net_log_events, .int c_p0_net_log_first, .int c_p0_net_log_size])), (a_p0_net_log_events, .inr (4, [.int (40 : Int32), .int (5 : Int32), .ref a_p0_net_log_events_cells])), (a_p0_net_log_events_cells, .inl (k 0, 200, .inl c_p0_net_log_events)), (a_p0_net_ways, .inr (5, [.ref a_p0_net_ways_heard, .int c_p0_net_ways_arrival, .int c_p0_net_ways_fewest, .int c_p0_net_ways_next])), (a_p0_net_ways_heard, .inl (k 1, 24, .inr (.inl c_p0_net_ways_heard))), (a_p0_trial, .inr (2, [.ref a_p0_trial_stations, .ref a_p0_trial_links, .ref a_p0_trial_messages, .ref a_p0_trial_copies, .ref a_p0_trial_log, .ref a_p0_trial_ways, .ref a_p0_trial_frames, .int t1.2.2.1, .int t1.2.2.2.1, .int t1.2.2.2.2.1, .int t1.2.2.2.2.2.1, .int t1.2.2.2.2.2.2.1, .int t1.2.2.2.2.2.2.2.1, .int t1.2.2.2.2.2.2.2.2.1])), (a_p0_trial_stations, .inr (4, [.int (8 : Int32), .int (10 : Int32), .ref a_p0_trial_stations_cells])), (a_p0_trial_stations_cells, .inl (k 0, 80, .inl t1.2.2.2.2.2.2.2.2.2.1)), (a_p0_trial_links, .inr (4, [.int (16 : Int32), .int (9 : Int32), .ref a_p0_trial_links_cells])), (a_p0_trial_links_cells, .inl (k 0, 144, .inl t1.2.2.2.2.2.2.2.2.2.2.1)), (a_p0_trial_messages, .inr (4, [.int (24 : Int32), .int (12 : Int32), .ref a_p0_trial_messages_cells])), (a_p0_trial_messages_cells, .inl (k 0, 288, .inl t1.2.2.2.2.2.2.2.2.2.2.2.1)), (a_p0_trial_copies, .inr (4, [.int (192 : Int32), .int (5 : Int32), .ref a_p0_trial_copies_cells])), (a_p0_trial_copies_cells, .inl (k 0, 960, .inl t1.2.2.2.2.2.2.2.2.2.2.2.2.1)), (a_p0_trial_log, .inr (0, [.ref a_p0_trial_log_events, .int t1.2.2.2.2.2.2.2.2.2.2.2.2.2.1, .int t1.2.2.2.2.2.2.2.2.2.2.2.2.2.2.1])), (a_p0_trial_log_events, .inr (4, [.int (40 : Int32), .int (5 : Int32), .ref a_p0_trial_log_events_cells])), (a_p0_trial_log_events_cells, .inl (k 0, 200, .inl t1.2.2.2.2.2.2.2.2.2.2.2.2.2.2.2.1)), (a_p0_trial_ways, .inr (5, [.ref a_p0_trial_ways_heard, .int t1.2.2.2.2.2.2.2.2.2.2.2.2.2.2.2.2.1, .int t1.2.2.2.2.2.2.2.2.2.2.2.2.2.2.2.2.2.1, .int t1.2.2.2.2.2.2.2.2.2.2.2.2.2.2.2.2.2.2.1])), (a_p0_trial_ways_heard, .inl (k 1, 24, .inr (.inl t1.2.2.2.2.2.2.2.2.2.2.2.2.2.2.2.2.2.2.2.1))), (a_p0_trial_frames, .inr (4, [.int (9 : Int32), .int (2 : Int32), .ref a_p0_trial_frames_cells])), (a_p0_trial_frames_cells, .inl (k 0, 18, .inl t1.2.2.2.2.2.2.2.2.2.2.2.2.2.2.2.2.2.2.2.2))] rfl rfl rfl rfl ⟨rfl, rfl, rn_m0, rfl, rfl⟩ (rn_rT hR rfl) (rn_cs1 hR) hl.1 rfl (Nat.le_of_ble_eq_true rfl) dL_hoursTo_2 (fun hk H locs q9 ce hW hq9 hv hcl => ?_) (fun hk _ H locs hW => ?_)
  · replace hf := rn_f hf hk
    by_cases hk0 : t1.1 = 1
    · replace hf := rn_t hf hk0
      rw [hk0] at hcl
      refine vx_catch (name := rn_ex 1) X.1.2.2.2.1 [] (⟨0, 5, 6, 46⟩ : ExceptionTableEntry) [] (htab.trans rfl) (fun z hz => nomatch hz) (by decide) (by decide) (hts _ qc_1) (va_any rfl hxc.2.1.1) hq9 hv hcl ?_
      refine lv_astore_n (lv' := [(2, .ref q9), (0, .ref a_p0), (1, .int i1)]) hx hb dL_hoursTo_6 rfl hl (Nat.le_of_ble_eq_true rfl) rfl (fun ls hl => ?_)
      refine lv_bipush (v := -102) hx hb dL_hoursTo_7 (by decide) ?_
      cases hf
      exact hE _ _ _ _ hW dL_hoursTo_9
    replace hf := rn_f hf hk0
    cases hf
  · replace hf := rn_t hf hk
    cases hf
    exact hE _ _ _ _ hW dL_hoursTo_5
def fL_event (c_p0_net_log_first : Int32) (c_p0_net_log_size : Int32) (c_p0_net_log_events : Nat → Int32) (i1 : Int32) (i2 : Int32) : Option (Nat × Int32) :=
  (fX6_event c_p0_net_log_first c_p0_net_log_size c_p0_net_log_events i1 i2).bind fun t1 =>
  if t1.1 = 0 then
    some (t1.1, t1.2)
  else
  if t1.1 = 3 then
    some (t1.1, (-101 : Int32))
  else
  if t1.1 = 1 then
    some (t1.1, (-102 : Int32))
  else
  none
set_option maxHeartbeats 4000000 in
set_option maxRecDepth 20000 in
theorem kL_event (l : Launch) (D : va_G) (k : Nat → ClassId) (z : (Nat → Nat) × (Nat → Nat)) (a_p0 : Nat) (a_p0_setup : Nat) (a_p0_net : Nat) (a_p0_trial : Nat) (a_p0_saved : Nat) (a_p0_line : Nat) (a_p0_net_stations : Nat) (a_p0_net_links : Nat) (a_p0_net_messages : Nat) (a_p0_net_copies : Nat) (a_p0_net_log : Nat) (a_p0_net_ways : Nat) (a_p0_net_frames : Nat) (a_p0_net_log_events : Nat) (a_p0_net_log_events_cells : Nat) (c_p0_latestError : Int32) (c_p0_latestErrorPosition : Int32) (c_p0_net_stationCount : Int32) (c_p0_net_linkCount : Int32) (c_p0_net_messageCount : Int32) (c_p0_net_time : Int32) (c_p0_net_life : Int32) (c_p0_net_tries : Int32) (c_p0_net_x : Int32) (c_p0_net_log_first : Int32) (c_p0_net_log_size : Int32) (c_p0_net_log_events : Nat → Int32) (i1 : Int32) (i2 : Int32) {u : Nat × Int32} (hf : fL_event c_p0_net_log_first c_p0_net_log_size c_p0_net_log_events i1 i2 = some u) : rn_KW l D k z yL_event cL_event 4 hhL_event 7 104 [.ref a_p0, .int i1, .int i2] [(a_p0, .inr (6, [.ref a_p0_setup, .int c_p0_latestError, .int c_p0_latestErrorPosition, .ref a_p0_net, .ref a_p0_trial, .ref a_p0_saved, .ref a_p0_line])), (a_p0_net, .inr (2, [.ref a_p0_net_stations, .ref a_p0_net_links, .ref a_p0_net_messages, .ref a_p0_net_copies, .ref a_p0_net_log, .ref a_p0_net_ways, .ref a_p0_net_frames, .int c_p0_net_stationCount, .int c_p0_net_linkCount, .int c_p0_net_messageCount, .int c_p0_net_time, .int c_p0_net_life, .int c_p0_net_tries, .int c_p0_net_x])), (a_p0_net_log, .inr (0, [.ref a_p0_net_log_events, .int c_p0_net_log_first, .int c_p0_net_log_size])), (a_p0_net_log_events, .inr (4, [.int (40 : Int32), .int (5 : Int32), .ref a_p0_net_log_events_cells])), (a_p0_net_log_events_cells, .inl (k 0, 200, .inl c_p0_net_log_events))] [(a_p0, .inr (6, [.ref a_p0_setup, .int c_p0_latestError, .int c_p0_latestErrorPosition, .ref a_p0_net, .ref a_p0_trial, .ref a_p0_saved, .ref a_p0_line])), (a_p0_net, .inr (2, [.ref a_p0_net_stations, .ref a_p0_net_links, .ref a_p0_net_messages, .ref a_p0_net_copies, .ref a_p0_net_log, .ref a_p0_net_ways, .ref a_p0_net_frames, .int c_p0_net_stationCount, .int c_p0_net_linkCount, .int c_p0_net_messageCount, .int c_p0_net_time, .int c_p0_net_life, .int c_p0_net_tries, .int c_p0_net_x])), (a_p0_net_log, .inr (0, [.ref a_p0_net_log_events, .int c_p0_net_log_first, .int c_p0_net_log_size])), (a_p0_net_log_events, .inr (4, [.int (40 : Int32), .int (5 : Int32), .ref a_p0_net_log_events_cells])), (a_p0_net_log_events_cells, .inl (k 0, 200, .inl c_p0_net_log_events))] u.1 u.2 := by
  refine rn_KW.go (LOC := [(0, .ref a_p0), (1, .int i1), (2, .int i2)]) rfl (by decide) (Nat.le_of_ble_eq_true rfl) rfl ?_
  intro p e s m args below meth c A ls R Q hst hxc htab X hR hE hW hl
  have hx := X.1.1
  have hb := X.1.2.1
  have hts := X.1.2.2.2.2
  unfold fL_event at hf
  obtain ⟨t1, ht1, hf⟩ := rn_bind hf
  have hu : t1.1 = u.1 := by
    revert hf
    repeat' split
    all_goals (intro hf; first | (cases hf; done) | (cases hf; rfl))
  rw [← hu] at hR hE
  refine lv_aload_n hx hb dL_event_0 rfl (lv_at hl 0 rfl) ?_
  refine lv_iload_n hx hb dL_event_1 rfl (lv_at hl 1 rfl) ?_
  refine lv_iload_n hx hb dL_event_2 rfl (lv_at hl 2 rfl) ?_
  refine rr_xcallI (As := [.int i1, .int i2]) (rest := []) X hxc hst hW (kX6_event l D k z a_p0 a_p0_setup a_p0_net a_p0_trial a_p0_saved a_p0_line a_p0_net_stations a_p0_net_links a_p0_net_messages a_p0_net_copies a_p0_net_log a_p0_net_ways a_p0_net_frames a_p0_net_log_events a_p0_net_log_events_cells c_p0_latestError c_p0_latestErrorPosition c_p0_net_stationCount c_p0_net_linkCount c_p0_net_messageCount c_p0_net_time c_p0_net_life c_p0_net_tries c_p0_net_x c_p0_net_log_first c_p0_net_log_size c_p0_net_log_events i1 i2 ht1) gm_X6_event gl_L_110 [0, 1, 2, 3, 4] [] [(a_p0, .inr (6, [.ref a_p0_setup, .int c_p0_latestError, .int c_p0_latestErrorPosition, .ref a_p0_net, .ref a_p0_trial, .ref a_p0_saved, .ref a_p0_line])), (a_p0_net, .inr (2, [.ref a_p0_net_stations, .ref a_p0_net_links, .ref a_p0_net_messages, .ref a_p0_net_copies, .ref a_p0_net_log, .ref a_p0_net_ways, .ref a_p0_net_frames, .int c_p0_net_stationCount, .int c_p0_net_linkCount, .int c_p0_net_messageCount, .int c_p0_net_time, .int c_p0_net_life, .int c_p0_net_tries, .int c_p0_net_x])), (a_p0_net_log, .inr (0, [.ref a_p0_net_log_events, .int c_p0_net_log_first, .int c_p0_net_log_size])), (a_p0_net_log_events, .inr (4, [.int (40 : Int32), .int (5 : Int32), .ref a_p0_net_log_events_cells])), (a_p0_net_log_events_cells, .inl (k 0, 200, .inl c_p0_net_log_events))] rfl rfl rfl rfl ⟨rfl, rfl, rn_m0, rfl, rfl⟩ (rn_rT hR rfl) (rn_cs1 hR) hl.1 rfl (Nat.le_of_ble_eq_true rfl) dL_event_3 (fun hk H locs q9 ce hW hq9 hv hcl => ?_) (fun hk _ H locs hW => ?_)
  · replace hf := rn_f hf hk
    by_cases hk0 : t1.1 = 3
    · replace hf := rn_t hf hk0
      rw [hk0] at hcl
      refine vx_catch (name := rn_ex 3) X.1.2.2.2.1 [] (⟨0, 6, 7, 54⟩ : ExceptionTableEntry) [(⟨0, 6, 11, 46⟩ : ExceptionTableEntry)] (htab.trans rfl) (fun z hz => nomatch hz) (by decide) (by decide) (hts _ qc_3) (va_any rfl hxc.2.1.2.2) hq9 hv hcl ?_
      refine lv_astore_n (lv' := [(3, .ref q9), (0, .ref a_p0), (1, .int i1), (2, .int i2)]) hx hb dL_event_7 rfl hl (Nat.le_of_ble_eq_true rfl) rfl (fun ls hl => ?_)
      refine lv_bipush (v := -101) hx hb dL_event_8 (by decide) ?_
      cases hf
      exact hE _ _ _ _ hW dL_event_10
    replace hf := rn_f hf hk0
    by_cases hk1 : t1.1 = 1
    · replace hf := rn_t hf hk1
      rw [hk1] at hcl
      refine vx_catch (name := rn_ex 1) X.1.2.2.2.1 [(⟨0, 6, 7, 54⟩ : ExceptionTableEntry)] (⟨0, 6, 11, 46⟩ : ExceptionTableEntry) [] (htab.trans rfl) (fun z hz => by rcases List.mem_singleton.mp hz with rfl; exact Or.inr ⟨by decide, rn_ex 3, hts _ qc_3, hxc.2.2.1.2⟩) (by decide) (by decide) (hts _ qc_1) (va_any rfl hxc.2.1.1) hq9 hv hcl ?_
      refine lv_astore_n (lv' := [(3, .ref q9), (0, .ref a_p0), (1, .int i1), (2, .int i2)]) hx hb dL_event_11 rfl hl (Nat.le_of_ble_eq_true rfl) rfl (fun ls hl => ?_)
      refine lv_bipush (v := -102) hx hb dL_event_12 (by decide) ?_
      cases hf
      exact hE _ _ _ _ hW dL_event_14
    replace hf := rn_f hf hk1
    cases hf
  · replace hf := rn_t hf hk
    cases hf
    exact hE _ _ _ _ hW dL_event_6
