/-! generated (wip/whole/gen/emit.py): functions and contracts: 13.fX2 -/
def fX2_stationCount (c_stationCount : Int32) : Option (Int32) :=
  some c_stationCount
set_option maxHeartbeats 4000000 in
set_option maxRecDepth 20000 in
theorem kX2_stationCount (l : Launch) (D : va_G) (k : Nat → ClassId) (z : (Nat → Nat) × (Nat → Nat)) (a_this : Nat) (a_this_stations : Nat) (a_this_links : Nat) (a_this_messages : Nat) (a_this_copies : Nat) (a_this_log : Nat) (a_this_ways : Nat) (a_this_frames : Nat) (c_stationCount : Int32) (c_linkCount : Int32) (c_messageCount : Int32) (c_time : Int32) (c_life : Int32) (c_tries : Int32) (c_x : Int32) {u : Int32} (hf : fX2_stationCount c_stationCount = some u) : rn_KI l D k z yX2_stationCount cX2_stationCount 1 .int 0 0 [.ref a_this] [(a_this, .inr (2, [.ref a_this_stations, .ref a_this_links, .ref a_this_messages, .ref a_this_copies, .ref a_this_log, .ref a_this_ways, .ref a_this_frames, .int c_stationCount, .int c_linkCount, .int c_messageCount, .int c_time, .int c_life, .int c_tries, .int c_x]))] [(a_this, .inr (2, [.ref a_this_stations, .ref a_this_links, .ref a_this_messages, .ref a_this_copies, .ref a_this_log, .ref a_this_ways, .ref a_this_frames, .int c_stationCount, .int c_linkCount, .int c_messageCount, .int c_time, .int c_life, .int c_tries, .int c_x]))] u := by
  refine rn_KI.go (LOC := [(0, .ref a_this)]) rfl (by decide) (Nat.le_of_ble_eq_true rfl) rfl ?_
  intro p e s m args below meth c A ls R Q X hR hE hW hl
  have hx := X.1.1
  have hb := X.1.2.1
  unfold fX2_stationCount at hf
  refine lv_aload_n hx hb dX2_stationCount_0 rfl (lv_at hl 0 rfl) ?_
  refine rr_get X hW 0 7 gf_X2_46 rfl rfl dX2_stationCount_1 ?_
  cases hf
  exact hE _ _ _ _ hW rfl dX2_stationCount_4
def fX2_linkCount (c_linkCount : Int32) : Option (Int32) :=
  some c_linkCount
set_option maxHeartbeats 4000000 in
set_option maxRecDepth 20000 in
theorem kX2_linkCount (l : Launch) (D : va_G) (k : Nat → ClassId) (z : (Nat → Nat) × (Nat → Nat)) (a_this : Nat) (a_this_stations : Nat) (a_this_links : Nat) (a_this_messages : Nat) (a_this_copies : Nat) (a_this_log : Nat) (a_this_ways : Nat) (a_this_frames : Nat) (c_stationCount : Int32) (c_linkCount : Int32) (c_messageCount : Int32) (c_time : Int32) (c_life : Int32) (c_tries : Int32) (c_x : Int32) {u : Int32} (hf : fX2_linkCount c_linkCount = some u) : rn_KI l D k z yX2_linkCount cX2_linkCount 1 .int 0 0 [.ref a_this] [(a_this, .inr (2, [.ref a_this_stations, .ref a_this_links, .ref a_this_messages, .ref a_this_copies, .ref a_this_log, .ref a_this_ways, .ref a_this_frames, .int c_stationCount, .int c_linkCount, .int c_messageCount, .int c_time, .int c_life, .int c_tries, .int c_x]))] [(a_this, .inr (2, [.ref a_this_stations, .ref a_this_links, .ref a_this_messages, .ref a_this_copies, .ref a_this_log, .ref a_this_ways, .ref a_this_frames, .int c_stationCount, .int c_linkCount, .int c_messageCount, .int c_time, .int c_life, .int c_tries, .int c_x]))] u := by
  refine rn_KI.go (LOC := [(0, .ref a_this)]) rfl (by decide) (Nat.le_of_ble_eq_true rfl) rfl ?_
  intro p e s m args below meth c A ls R Q X hR hE hW hl
  have hx := X.1.1
  have hb := X.1.2.1
  unfold fX2_linkCount at hf
  refine lv_aload_n hx hb dX2_linkCount_0 rfl (lv_at hl 0 rfl) ?_
  refine rr_get X hW 0 8 gf_X2_50 rfl rfl dX2_linkCount_1 ?_
  cases hf
  exact hE _ _ _ _ hW rfl dX2_linkCount_4
def fX2_messageCount (c_messageCount : Int32) : Option (Int32) :=
  some c_messageCount
set_option maxHeartbeats 4000000 in
set_option maxRecDepth 20000 in
theorem kX2_messageCount (l : Launch) (D : va_G) (k : Nat → ClassId) (z : (Nat → Nat) × (Nat → Nat)) (a_this : Nat) (a_this_stations : Nat) (a_this_links : Nat) (a_this_messages : Nat) (a_this_copies : Nat) (a_this_log : Nat) (a_this_ways : Nat) (a_this_frames : Nat) (c_stationCount : Int32) (c_linkCount : Int32) (c_messageCount : Int32) (c_time : Int32) (c_life : Int32) (c_tries : Int32) (c_x : Int32) {u : Int32} (hf : fX2_messageCount c_messageCount = some u) : rn_KI l D k z yX2_messageCount cX2_messageCount 1 .int 0 0 [.ref a_this] [(a_this, .inr (2, [.ref a_this_stations, .ref a_this_links, .ref a_this_messages, .ref a_this_copies, .ref a_this_log, .ref a_this_ways, .ref a_this_frames, .int c_stationCount, .int c_linkCount, .int c_messageCount, .int c_time, .int c_life, .int c_tries, .int c_x]))] [(a_this, .inr (2, [.ref a_this_stations, .ref a_this_links, .ref a_this_messages, .ref a_this_copies, .ref a_this_log, .ref a_this_ways, .ref a_this_frames, .int c_stationCount, .int c_linkCount, .int c_messageCount, .int c_time, .int c_life, .int c_tries, .int c_x]))] u := by
  refine rn_KI.go (LOC := [(0, .ref a_this)]) rfl (by decide) (Nat.le_of_ble_eq_true rfl) rfl ?_
  intro p e s m args below meth c A ls R Q X hR hE hW hl
  have hx := X.1.1
  have hb := X.1.2.1
  unfold fX2_messageCount at hf
  refine lv_aload_n hx hb dX2_messageCount_0 rfl (lv_at hl 0 rfl) ?_
  refine rr_get X hW 0 9 gf_X2_53 rfl rfl dX2_messageCount_1 ?_
  cases hf
  exact hE _ _ _ _ hW rfl dX2_messageCount_4
def fX2_eventCount (c_log_size : Int32) : Option (Int32) :=
  (fX0_size c_log_size).bind fun t1 =>
  some t1
set_option maxHeartbeats 4000000 in
set_option maxRecDepth 20000 in
theorem kX2_eventCount (l : Launch) (D : va_G) (k : Nat → ClassId) (z : (Nat → Nat) × (Nat → Nat)) (a_this : Nat) (a_this_stations : Nat) (a_this_links : Nat) (a_this_messages : Nat) (a_this_copies : Nat) (a_this_log : Nat) (a_this_ways : Nat) (a_this_frames : Nat) (a_this_log_events : Nat) (c_stationCount : Int32) (c_linkCount : Int32) (c_messageCount : Int32) (c_time : Int32) (c_life : Int32) (c_tries : Int32) (c_x : Int32) (c_log_first : Int32) (c_log_size : Int32) {u : Int32} (hf : fX2_eventCount c_log_size = some u) : rn_KI l D k z yX2_eventCount cX2_eventCount 1 .int 1 20 [.ref a_this] [(a_this, .inr (2, [.ref a_this_stations, .ref a_this_links, .ref a_this_messages, .ref a_this_copies, .ref a_this_log, .ref a_this_ways, .ref a_this_frames, .int c_stationCount, .int c_linkCount, .int c_messageCount, .int c_time, .int c_life, .int c_tries, .int c_x])), (a_this_log, .inr (0, [.ref a_this_log_events, .int c_log_first, .int c_log_size]))] [(a_this, .inr (2, [.ref a_this_stations, .ref a_this_links, .ref a_this_messages, .ref a_this_copies, .ref a_this_log, .ref a_this_ways, .ref a_this_frames, .int c_stationCount, .int c_linkCount, .int c_messageCount, .int c_time, .int c_life, .int c_tries, .int c_x])), (a_this_log, .inr (0, [.ref a_this_log_events, .int c_log_first, .int c_log_size]))] u := by
  refine rn_KI.go (LOC := [(0, .ref a_this)]) rfl (by decide) (Nat.le_of_ble_eq_true rfl) rfl ?_
  intro p e s m args below meth c A ls R Q X hR hE hW hl
  have hx := X.1.1
  have hb := X.1.2.1
  unfold fX2_eventCount at hf
  refine lv_aload_n hx hb dX2_eventCount_0 rfl (lv_at hl 0 rfl) ?_
  refine rr_get X hW 0 4 gf_X2_32 rfl rfl dX2_eventCount_1 ?_
  obtain ⟨t1, ht1, hf⟩ := rn_bind hf
  refine rr_callI (As := []) (rest := []) X hW (kX0_size l D k z a_this_log a_this_log_events c_log_first c_log_size ht1) gm_X0_size gl_X2_83 [1] [0] [(a_this, .inr (2, [.ref a_this_stations, .ref a_this_links, .ref a_this_messages, .ref a_this_copies, .ref a_this_log, .ref a_this_ways, .ref a_this_frames, .int c_stationCount, .int c_linkCount, .int c_messageCount, .int c_time, .int c_life, .int c_tries, .int c_x])), (a_this_log, .inr (0, [.ref a_this_log_events, .int c_log_first, .int c_log_size]))] rfl rfl rfl rfl ⟨rfl, rfl, rn_Bw (wr := [(a_this, .inr (2, [.ref a_this_stations, .ref a_this_links, .ref a_this_messages, .ref a_this_copies, .ref a_this_log, .ref a_this_ways, .ref a_this_frames, .int c_stationCount, .int c_linkCount, .int c_messageCount, .int c_time, .int c_life, .int c_tries, .int c_x]))]) rfl rfl, rfl, rfl⟩ (rn_r hR rfl) rn_cs hl.1 rfl (Nat.le_of_ble_eq_true rfl) dX2_eventCount_4 (fun hn1 H locs hW => ?_)
  cases hf
  exact hE _ _ _ _ hW rfl dX2_eventCount_7
def fX2_eventNumber (c_log_first : Int32) (c_log_events : Nat → Int32) (i1 : Int32) (i2 : Int32) : Option (Int32) :=
  (fX0_number c_log_first c_log_events i1 i2).bind fun t1 =>
  some t1
set_option maxHeartbeats 4000000 in
set_option maxRecDepth 20000 in
theorem kX2_eventNumber (l : Launch) (D : va_G) (k : Nat → ClassId) (z : (Nat → Nat) × (Nat → Nat)) (a_this : Nat) (a_this_stations : Nat) (a_this_links : Nat) (a_this_messages : Nat) (a_this_copies : Nat) (a_this_log : Nat) (a_this_ways : Nat) (a_this_frames : Nat) (a_this_log_events : Nat) (a_this_log_events_cells : Nat) (c_stationCount : Int32) (c_linkCount : Int32) (c_messageCount : Int32) (c_time : Int32) (c_life : Int32) (c_tries : Int32) (c_x : Int32) (c_log_first : Int32) (c_log_size : Int32) (c_log_events : Nat → Int32) (i1 : Int32) (i2 : Int32) {u : Int32} (hf : fX2_eventNumber c_log_first c_log_events i1 i2 = some u) : rn_KI l D k z yX2_eventNumber cX2_eventNumber 3 .int 2 45 [.ref a_this, .int i1, .int i2] [(a_this, .inr (2, [.ref a_this_stations, .ref a_this_links, .ref a_this_messages, .ref a_this_copies, .ref a_this_log, .ref a_this_ways, .ref a_this_frames, .int c_stationCount, .int c_linkCount, .int c_messageCount, .int c_time, .int c_life, .int c_tries, .int c_x])), (a_this_log, .inr (0, [.ref a_this_log_events, .int c_log_first, .int c_log_size])), (a_this_log_events, .inr (4, [.int (40 : Int32), .int (5 : Int32), .ref a_this_log_events_cells])), (a_this_log_events_cells, .inl (k 0, 200, .inl c_log_events))] [(a_this, .inr (2, [.ref a_this_stations, .ref a_this_links, .ref a_this_messages, .ref a_this_copies, .ref a_this_log, .ref a_this_ways, .ref a_this_frames, .int c_stationCount, .int c_linkCount, .int c_messageCount, .int c_time, .int c_life, .int c_tries, .int c_x])), (a_this_log, .inr (0, [.ref a_this_log_events, .int c_log_first, .int c_log_size])), (a_this_log_events, .inr (4, [.int (40 : Int32), .int (5 : Int32), .ref a_this_log_events_cells])), (a_this_log_events_cells, .inl (k 0, 200, .inl c_log_events))] u := by
  refine rn_KI.go (LOC := [(0, .ref a_this), (1, .int i1), (2, .int i2)]) rfl (by decide) (Nat.le_of_ble_eq_true rfl) rfl ?_
  intro p e s m args below meth c A ls R Q X hR hE hW hl
  have hx := X.1.1
  have hb := X.1.2.1
  unfold fX2_eventNumber at hf
  refine lv_aload_n hx hb dX2_eventNumber_0 rfl (lv_at hl 0 rfl) ?_
  refine rr_get X hW 0 4 gf_X2_32 rfl rfl dX2_eventNumber_1 ?_
  refine lv_iload_n hx hb dX2_eventNumber_4 rfl (lv_at hl 1 rfl) ?_
  refine lv_iload_n hx hb dX2_eventNumber_5 rfl (lv_at hl 2 rfl) ?_
  obtain ⟨t1, ht1, hf⟩ := rn_bind hf
  refine rr_callI (As := [.int i1, .int i2]) (rest := []) X hW (kX0_number l D k z a_this_log a_this_log_events a_this_log_events_cells c_log_first c_log_size c_log_events i1 i2 ht1) gm_X0_number gl_X2_87 [1, 2, 3] [0] [(a_this, .inr (2, [.ref a_this_stations, .ref a_this_links, .ref a_this_messages, .ref a_this_copies, .ref a_this_log, .ref a_this_ways, .ref a_this_frames, .int c_stationCount, .int c_linkCount, .int c_messageCount, .int c_time, .int c_life, .int c_tries, .int c_x])), (a_this_log, .inr (0, [.ref a_this_log_events, .int c_log_first, .int c_log_size])), (a_this_log_events, .inr (4, [.int (40 : Int32), .int (5 : Int32), .ref a_this_log_events_cells])), (a_this_log_events_cells, .inl (k 0, 200, .inl c_log_events))] rfl rfl rfl rfl ⟨rfl, rfl, rn_Bw (wr := [(a_this, .inr (2, [.ref a_this_stations, .ref a_this_links, .ref a_this_messages, .ref a_this_copies, .ref a_this_log, .ref a_this_ways, .ref a_this_frames, .int c_stationCount, .int c_linkCount, .int c_messageCount, .int c_time, .int c_life, .int c_tries, .int c_x]))]) rfl rfl, rfl, rfl⟩ (rn_r hR rfl) rn_cs hl.1 rfl (Nat.le_of_ble_eq_true rfl) dX2_eventNumber_6 (fun hn1 H locs hW => ?_)
  cases hf
  exact hE _ _ _ _ hW rfl dX2_eventNumber_9
def fX2_setLife (c_life : Int32) (i1 : Int32) : Option (Int32) :=
  some i1
set_option maxHeartbeats 4000000 in
set_option maxRecDepth 20000 in
theorem kX2_setLife (l : Launch) (D : va_G) (k : Nat → ClassId) (z : (Nat → Nat) × (Nat → Nat)) (a_this : Nat) (a_this_stations : Nat) (a_this_links : Nat) (a_this_messages : Nat) (a_this_copies : Nat) (a_this_log : Nat) (a_this_ways : Nat) (a_this_frames : Nat) (c_stationCount : Int32) (c_linkCount : Int32) (c_messageCount : Int32) (c_time : Int32) (c_life : Int32) (c_tries : Int32) (c_x : Int32) (i1 : Int32) {u : Int32} (hf : fX2_setLife c_life i1 = some u) : rn_KV l D k z yX2_setLife cX2_setLife 2 0 0 [.ref a_this, .int i1] [(a_this, .inr (2, [.ref a_this_stations, .ref a_this_links, .ref a_this_messages, .ref a_this_copies, .ref a_this_log, .ref a_this_ways, .ref a_this_frames, .int c_stationCount, .int c_linkCount, .int c_messageCount, .int c_time, .int c_life, .int c_tries, .int c_x]))] [(a_this, .inr (2, [.ref a_this_stations, .ref a_this_links, .ref a_this_messages, .ref a_this_copies, .ref a_this_log, .ref a_this_ways, .ref a_this_frames, .int c_stationCount, .int c_linkCount, .int c_messageCount, .int c_time, .int u, .int c_tries, .int c_x]))] := by
  refine rn_KV.go (LOC := [(0, .ref a_this), (1, .int i1)]) rfl (by decide) (Nat.le_of_ble_eq_true rfl) rfl ?_
  intro p e s m args below meth c A ls R Q X hR hE hW hl
  have hx := X.1.1
  have hb := X.1.2.1
  unfold fX2_setLife at hf
  refine lv_aload_n hx hb dX2_setLife_0 rfl (lv_at hl 0 rfl) ?_
  refine lv_iload_n hx hb dX2_setLife_1 rfl (lv_at hl 1 rfl) ?_
  refine rr_put X hW 0 11 gp_X2_59 rfl rfl rfl (Nat.le_of_ble_eq_true rfl) (ws' := [(a_this, .inr (2, [.ref a_this_stations, .ref a_this_links, .ref a_this_messages, .ref a_this_copies, .ref a_this_log, .ref a_this_ways, .ref a_this_frames, .int c_stationCount, .int c_linkCount, .int c_messageCount, .int c_time, .int i1, .int c_tries, .int c_x]))]) rfl dX2_setLife_2 (fun H locs hW => ?_)
  cases hf
  exact hE _ _ _ _ hW dX2_setLife_5
def fX2_setTries (c_tries : Int32) (i1 : Int32) : Option (Int32) :=
  some i1
set_option maxHeartbeats 4000000 in
set_option maxRecDepth 20000 in
theorem kX2_setTries (l : Launch) (D : va_G) (k : Nat → ClassId) (z : (Nat → Nat) × (Nat → Nat)) (a_this : Nat) (a_this_stations : Nat) (a_this_links : Nat) (a_this_messages : Nat) (a_this_copies : Nat) (a_this_log : Nat) (a_this_ways : Nat) (a_this_frames : Nat) (c_stationCount : Int32) (c_linkCount : Int32) (c_messageCount : Int32) (c_time : Int32) (c_life : Int32) (c_tries : Int32) (c_x : Int32) (i1 : Int32) {u : Int32} (hf : fX2_setTries c_tries i1 = some u) : rn_KV l D k z yX2_setTries cX2_setTries 2 0 0 [.ref a_this, .int i1] [(a_this, .inr (2, [.ref a_this_stations, .ref a_this_links, .ref a_this_messages, .ref a_this_copies, .ref a_this_log, .ref a_this_ways, .ref a_this_frames, .int c_stationCount, .int c_linkCount, .int c_messageCount, .int c_time, .int c_life, .int c_tries, .int c_x]))] [(a_this, .inr (2, [.ref a_this_stations, .ref a_this_links, .ref a_this_messages, .ref a_this_copies, .ref a_this_log, .ref a_this_ways, .ref a_this_frames, .int c_stationCount, .int c_linkCount, .int c_messageCount, .int c_time, .int c_life, .int u, .int c_x]))] := by
  refine rn_KV.go (LOC := [(0, .ref a_this), (1, .int i1)]) rfl (by decide) (Nat.le_of_ble_eq_true rfl) rfl ?_
  intro p e s m args below meth c A ls R Q X hR hE hW hl
  have hx := X.1.1
  have hb := X.1.2.1
  unfold fX2_setTries at hf
  refine lv_aload_n hx hb dX2_setTries_0 rfl (lv_at hl 0 rfl) ?_
  refine lv_iload_n hx hb dX2_setTries_1 rfl (lv_at hl 1 rfl) ?_
  refine rr_put X hW 0 12 gp_X2_62 rfl rfl rfl (Nat.le_of_ble_eq_true rfl) (ws' := [(a_this, .inr (2, [.ref a_this_stations, .ref a_this_links, .ref a_this_messages, .ref a_this_copies, .ref a_this_log, .ref a_this_ways, .ref a_this_frames, .int c_stationCount, .int c_linkCount, .int c_messageCount, .int c_time, .int c_life, .int i1, .int c_x]))]) rfl dX2_setTries_2 (fun H locs hW => ?_)
  cases hf
  exact hE _ _ _ _ hW dX2_setTries_5
def fX2_setX (c_x : Int32) (i1 : Int32) : Option (Int32) :=
  some i1
set_option maxHeartbeats 4000000 in
set_option maxRecDepth 20000 in
theorem kX2_setX (l : Launch) (D : va_G) (k : Nat → ClassId) (z : (Nat → Nat) × (Nat → Nat)) (a_this : Nat) (a_this_stations : Nat) (a_this_links : Nat) (a_this_messages : Nat) (a_this_copies : Nat) (a_this_log : Nat) (a_this_ways : Nat) (a_this_frames : Nat) (c_stationCount : Int32) (c_linkCount : Int32) (c_messageCount : Int32) (c_time : Int32) (c_life : Int32) (c_tries : Int32) (c_x : Int32) (i1 : Int32) {u : Int32} (hf : fX2_setX c_x i1 = some u) : rn_KV l D k z yX2_setX cX2_setX 2 0 0 [.ref a_this, .int i1] [(a_this, .inr (2, [.ref a_this_stations, .ref a_this_links, .ref a_this_messages, .ref a_this_copies, .ref a_this_log, .ref a_this_ways, .ref a_this_frames, .int c_stationCount, .int c_linkCount, .int c_messageCount, .int c_time, .int c_life, .int c_tries, .int c_x]))] [(a_this, .inr (2, [.ref a_this_stations, .ref a_this_links, .ref a_this_messages, .ref a_this_copies, .ref a_this_log, .ref a_this_ways, .ref a_this_frames, .int c_stationCount, .int c_linkCount, .int c_messageCount, .int c_time, .int c_life, .int c_tries, .int u]))] := by
  refine rn_KV.go (LOC := [(0, .ref a_this), (1, .int i1)]) rfl (by decide) (Nat.le_of_ble_eq_true rfl) rfl ?_
  intro p e s m args below meth c A ls R Q X hR hE hW hl
  have hx := X.1.1
  have hb := X.1.2.1
  unfold fX2_setX at hf
  refine lv_aload_n hx hb dX2_setX_0 rfl (lv_at hl 0 rfl) ?_
  refine lv_iload_n hx hb dX2_setX_1 rfl (lv_at hl 1 rfl) ?_
  refine rr_put X hW 0 13 gp_X2_65 rfl rfl rfl (Nat.le_of_ble_eq_true rfl) (ws' := [(a_this, .inr (2, [.ref a_this_stations, .ref a_this_links, .ref a_this_messages, .ref a_this_copies, .ref a_this_log, .ref a_this_ways, .ref a_this_frames, .int c_stationCount, .int c_linkCount, .int c_messageCount, .int c_time, .int c_life, .int c_tries, .int i1]))]) rfl dX2_setX_2 (fun H locs hW => ?_)
  cases hf
  exact hE _ _ _ _ hW dX2_setX_5
def fX2_newStation (c_stationCount : Int32) (c_stations : Nat → Int32) (i1 : Int32) (i2 : Int32) (i3 : Int32) : Option (Int32 × Int32 × (Nat → Int32)) :=
  (fX4_set (8 : Int32) (10 : Int32) 80 c_stations c_stationCount (0 : Int32) i1).bind fun t1 =>
  (fX4_set (8 : Int32) (10 : Int32) 80 t1 c_stationCount (1 : Int32) i2).bind fun t2 =>
  (fX4_set (8 : Int32) (10 : Int32) 80 t2 c_stationCount (2 : Int32) i3).bind fun t3 =>
  some (c_stationCount, (c_stationCount + (1 : Int32)), t3)
set_option maxHeartbeats 4000000 in
set_option maxRecDepth 20000 in
theorem kX2_newStation (l : Launch) (D : va_G) (k : Nat → ClassId) (z : (Nat → Nat) × (Nat → Nat)) (a_this : Nat) (a_this_stations : Nat) (a_this_links : Nat) (a_this_messages : Nat) (a_this_copies : Nat) (a_this_log : Nat) (a_this_ways : Nat) (a_this_frames : Nat) (a_this_stations_cells : Nat) (c_stationCount : Int32) (c_linkCount : Int32) (c_messageCount : Int32) (c_time : Int32) (c_life : Int32) (c_tries : Int32) (c_x : Int32) (c_stations : Nat → Int32) (i1 : Int32) (i2 : Int32) (i3 : Int32) {u : Int32 × Int32 × (Nat → Int32)} (hf : fX2_newStation c_stationCount c_stations i1 i2 i3 = some u) : rn_KI l D k z yX2_newStation cX2_newStation 5 .int 1 24 [.ref a_this, .int i1, .int i2, .int i3] [(a_this, .inr (2, [.ref a_this_stations, .ref a_this_links, .ref a_this_messages, .ref a_this_copies, .ref a_this_log, .ref a_this_ways, .ref a_this_frames, .int c_stationCount, .int c_linkCount, .int c_messageCount, .int c_time, .int c_life, .int c_tries, .int c_x])), (a_this_stations, .inr (4, [.int (8 : Int32), .int (10 : Int32), .ref a_this_stations_cells])), (a_this_stations_cells, .inl (k 0, 80, .inl c_stations))] [(a_this, .inr (2, [.ref a_this_stations, .ref a_this_links, .ref a_this_messages, .ref a_this_copies, .ref a_this_log, .ref a_this_ways, .ref a_this_frames, .int u.2.1, .int c_linkCount, .int c_messageCount, .int c_time, .int c_life, .int c_tries, .int c_x])), (a_this_stations, .inr (4, [.int (8 : Int32), .int (10 : Int32), .ref a_this_stations_cells])), (a_this_stations_cells, .inl (k 0, 80, .inl u.2.2))] u.1 := by
  refine rn_KI.go (LOC := [(0, .ref a_this), (1, .int i1), (2, .int i2), (3, .int i3)]) rfl (by decide) (Nat.le_of_ble_eq_true rfl) rfl ?_
  intro p e s m args below meth c A ls R Q X hR hE hW hl
  have hx := X.1.1
  have hb := X.1.2.1
  unfold fX2_newStation at hf
  refine lv_aload_n hx hb dX2_newStation_0 rfl (lv_at hl 0 rfl) ?_
  refine rr_get X hW 0 7 gf_X2_46 rfl rfl dX2_newStation_1 ?_
  refine lv_istore (lv' := [(4, .int c_stationCount), (0, .ref a_this), (1, .int i1), (2, .int i2), (3, .int i3)]) hx hb dX2_newStation_4 hl (Nat.le_of_ble_eq_true rfl) rfl (fun ls hl => ?_)
  refine lv_aload_n hx hb dX2_newStation_6 rfl (lv_at hl 1 rfl) ?_
  refine rr_get X hW 0 0 gf_X2_14 rfl rfl dX2_newStation_7 ?_
  refine lv_iload hx hb dX2_newStation_10 (lv_at hl 0 rfl) ?_
  refine lv_iconst (v := 0) hx hb dX2_newStation_12 (by decide) ?_
  refine lv_iload_n hx hb dX2_newStation_13 rfl (lv_at hl 2 rfl) ?_
  obtain ⟨t1, ht1, hf⟩ := rn_bind hf
  refine rr_callV (As := [.int c_stationCount, .int (0 : Int32), .int i1]) (rest := []) X hW (kX4_set l D k z a_this_stations a_this_stations_cells (8 : Int32) (10 : Int32) 80 c_stations c_stationCount (0 : Int32) i1 ht1) gm_X4_set gl_X2_91 [1, 2] [0] [(a_this, .inr (2, [.ref a_this_stations, .ref a_this_links, .ref a_this_messages, .ref a_this_copies, .ref a_this_log, .ref a_this_ways, .ref a_this_frames, .int c_stationCount, .int c_linkCount, .int c_messageCount, .int c_time, .int c_life, .int c_tries, .int c_x])), (a_this_stations, .inr (4, [.int (8 : Int32), .int (10 : Int32), .ref a_this_stations_cells])), (a_this_stations_cells, .inl (k 0, 80, .inl t1))] rfl rfl rfl rfl ⟨rfl, rfl, rn_Bw (wr := [(a_this, .inr (2, [.ref a_this_stations, .ref a_this_links, .ref a_this_messages, .ref a_this_copies, .ref a_this_log, .ref a_this_ways, .ref a_this_frames, .int c_stationCount, .int c_linkCount, .int c_messageCount, .int c_time, .int c_life, .int c_tries, .int c_x]))]) rfl rfl, rfl, rfl⟩ (rn_r hR rfl) rn_cs hl.1 rfl (Nat.le_of_ble_eq_true rfl) dX2_newStation_14 (fun H locs hW => ?_)
  refine lv_aload_n hx hb dX2_newStation_17 rfl (lv_at hl 1 rfl) ?_
  refine rr_get X hW 0 0 gf_X2_14 rfl rfl dX2_newStation_18 ?_
  refine lv_iload hx hb dX2_newStation_21 (lv_at hl 0 rfl) ?_
  refine lv_iconst (v := 1) hx hb dX2_newStation_23 (by decide) ?_
  refine lv_iload_n hx hb dX2_newStation_24 rfl (lv_at hl 3 rfl) ?_
  obtain ⟨t2, ht2, hf⟩ := rn_bind hf
  refine rr_callV (As := [.int c_stationCount, .int (1 : Int32), .int i2]) (rest := []) X hW (kX4_set l D k z a_this_stations a_this_stations_cells (8 : Int32) (10 : Int32) 80 t1 c_stationCount (1 : Int32) i2 ht2) gm_X4_set gl_X2_91 [1, 2] [0] [(a_this, .inr (2, [.ref a_this_stations, .ref a_this_links, .ref a_this_messages, .ref a_this_copies, .ref a_this_log, .ref a_this_ways, .ref a_this_frames, .int c_stationCount, .int c_linkCount, .int c_messageCount, .int c_time, .int c_life, .int c_tries, .int c_x])), (a_this_stations, .inr (4, [.int (8 : Int32), .int (10 : Int32), .ref a_this_stations_cells])), (a_this_stations_cells, .inl (k 0, 80, .inl t2))] rfl rfl rfl rfl ⟨rfl, rfl, rn_Bw (wr := [(a_this, .inr (2, [.ref a_this_stations, .ref a_this_links, .ref a_this_messages, .ref a_this_copies, .ref a_this_log, .ref a_this_ways, .ref a_this_frames, .int c_stationCount, .int c_linkCount, .int c_messageCount, .int c_time, .int c_life, .int c_tries, .int c_x]))]) rfl rfl, rfl, rfl⟩ (rn_r hR rfl) rn_cs hl.1 rfl (Nat.le_of_ble_eq_true rfl) dX2_newStation_25 (fun H locs hW => ?_)
  refine lv_aload_n hx hb dX2_newStation_28 rfl (lv_at hl 1 rfl) ?_
  refine rr_get X hW 0 0 gf_X2_14 rfl rfl dX2_newStation_29 ?_
  refine lv_iload hx hb dX2_newStation_32 (lv_at hl 0 rfl) ?_
  refine lv_iconst (v := 2) hx hb dX2_newStation_34 (by decide) ?_
  refine lv_iload_n hx hb dX2_newStation_35 rfl (lv_at hl 4 rfl) ?_
  obtain ⟨t3, ht3, hf⟩ := rn_bind hf
  refine rr_callV (As := [.int c_stationCount, .int (2 : Int32), .int i3]) (rest := []) X hW (kX4_set l D k z a_this_stations a_this_stations_cells (8 : Int32) (10 : Int32) 80 t2 c_stationCount (2 : Int32) i3 ht3) gm_X4_set gl_X2_91 [1, 2] [0] [(a_this, .inr (2, [.ref a_this_stations, .ref a_this_links, .ref a_this_messages, .ref a_this_copies, .ref a_this_log, .ref a_this_ways, .ref a_this_frames, .int c_stationCount, .int c_linkCount, .int c_messageCount, .int c_time, .int c_life, .int c_tries, .int c_x])), (a_this_stations, .inr (4, [.int (8 : Int32), .int (10 : Int32), .ref a_this_stations_cells])), (a_this_stations_cells, .inl (k 0, 80, .inl t3))] rfl rfl rfl rfl ⟨rfl, rfl, rn_Bw (wr := [(a_this, .inr (2, [.ref a_this_stations, .ref a_this_links, .ref a_this_messages, .ref a_this_copies, .ref a_this_log, .ref a_this_ways, .ref a_this_frames, .int c_stationCount, .int c_linkCount, .int c_messageCount, .int c_time, .int c_life, .int c_tries, .int c_x]))]) rfl rfl, rfl, rfl⟩ (rn_r hR rfl) rn_cs hl.1 rfl (Nat.le_of_ble_eq_true rfl) dX2_newStation_36 (fun H locs hW => ?_)
  refine lv_aload_n hx hb dX2_newStation_39 rfl (lv_at hl 1 rfl) ?_
  refine lv_dup hx hb dX2_newStation_40 rfl ?_
  refine rr_get X hW 0 7 gf_X2_46 rfl rfl dX2_newStation_41 ?_
  refine lv_iconst (v := 1) hx hb dX2_newStation_44 (by decide) ?_
  refine lv_iadd hx hb dX2_newStation_45 ?_
  refine rr_put X hW 0 7 gp_X2_46 rfl rfl rfl (Nat.le_of_ble_eq_true rfl) (ws' := [(a_this, .inr (2, [.ref a_this_stations, .ref a_this_links, .ref a_this_messages, .ref a_this_copies, .ref a_this_log, .ref a_this_ways, .ref a_this_frames, .int (c_stationCount + (1 : Int32)), .int c_linkCount, .int c_messageCount, .int c_time, .int c_life, .int c_tries, .int c_x])), (a_this_stations, .inr (4, [.int (8 : Int32), .int (10 : Int32), .ref a_this_stations_cells])), (a_this_stations_cells, .inl (k 0, 80, .inl t3))]) rfl dX2_newStation_46 (fun H locs hW => ?_)
  refine lv_iload hx hb dX2_newStation_49 (lv_at hl 0 rfl) ?_
  cases hf
  exact hE _ _ _ _ hW rfl dX2_newStation_51
def fX2_newLink (c_linkCount : Int32) (c_links : Nat → Int32) (i1 : Int32) (i2 : Int32) (i3 : Int32) (i4 : Int32) (i5 : Int32) : Option (Int32 × Int32 × (Nat → Int32)) :=
  (fX4_set (16 : Int32) (9 : Int32) 144 c_links c_linkCount (0 : Int32) i1).bind fun t1 =>
  (fX4_set (16 : Int32) (9 : Int32) 144 t1 c_linkCount (1 : Int32) i2).bind fun t2 =>
  (fX4_set (16 : Int32) (9 : Int32) 144 t2 c_linkCount (2 : Int32) i3).bind fun t3 =>
  (fX4_set (16 : Int32) (9 : Int32) 144 t3 c_linkCount (3 : Int32) i4).bind fun t4 =>
  (fX4_set (16 : Int32) (9 : Int32) 144 t4 c_linkCount (4 : Int32) i5).bind fun t5 =>
  some (c_linkCount, (c_linkCount + (1 : Int32)), t5)
set_option maxHeartbeats 4000000 in
set_option maxRecDepth 20000 in
theorem kX2_newLink (l : Launch) (D : va_G) (k : Nat → ClassId) (z : (Nat → Nat) × (Nat → Nat)) (a_this : Nat) (a_this_stations : Nat) (a_this_links : Nat) (a_this_messages : Nat) (a_this_copies : Nat) (a_this_log : Nat) (a_this_ways : Nat) (a_this_frames : Nat) (a_this_links_cells : Nat) (c_stationCount : Int32) (c_linkCount : Int32) (c_messageCount : Int32) (c_time : Int32) (c_life : Int32) (c_tries : Int32) (c_x : Int32) (c_links : Nat → Int32) (i1 : Int32) (i2 : Int32) (i3 : Int32) (i4 : Int32) (i5 : Int32) {u : Int32 × Int32 × (Nat → Int32)} (hf : fX2_newLink c_linkCount c_links i1 i2 i3 i4 i5 = some u) : rn_KI l D k z yX2_newLink cX2_newLink 7 .int 1 24 [.ref a_this, .int i1, .int i2, .int i3, .int i4, .int i5] [(a_this, .inr (2, [.ref a_this_stations, .ref a_this_links, .ref a_this_messages, .ref a_this_copies, .ref a_this_log, .ref a_this_ways, .ref a_this_frames, .int c_stationCount, .int c_linkCount, .int c_messageCount, .int c_time, .int c_life, .int c_tries, .int c_x])), (a_this_links, .inr (4, [.int (16 : Int32), .int (9 : Int32), .ref a_this_links_cells])), (a_this_links_cells, .inl (k 0, 144, .inl c_links))] [(a_this, .inr (2, [.ref a_this_stations, .ref a_this_links, .ref a_this_messages, .ref a_this_copies, .ref a_this_log, .ref a_this_ways, .ref a_this_frames, .int c_stationCount, .int u.2.1, .int c_messageCount, .int c_time, .int c_life, .int c_tries, .int c_x])), (a_this_links, .inr (4, [.int (16 : Int32), .int (9 : Int32), .ref a_this_links_cells])), (a_this_links_cells, .inl (k 0, 144, .inl u.2.2))] u.1 := by
  refine rn_KI.go (LOC := [(0, .ref a_this), (1, .int i1), (2, .int i2), (3, .int i3), (4, .int i4), (5, .int i5)]) rfl (by decide) (Nat.le_of_ble_eq_true rfl) rfl ?_
  intro p e s m args below meth c A ls R Q X hR hE hW hl
  have hx := X.1.1
  have hb := X.1.2.1
  unfold fX2_newLink at hf
  refine lv_aload_n hx hb dX2_newLink_0 rfl (lv_at hl 0 rfl) ?_
  refine rr_get X hW 0 8 gf_X2_50 rfl rfl dX2_newLink_1 ?_
  refine lv_istore (lv' := [(6, .int c_linkCount), (0, .ref a_this), (1, .int i1), (2, .int i2), (3, .int i3), (4, .int i4), (5, .int i5)]) hx hb dX2_newLink_4 hl (Nat.le_of_ble_eq_true rfl) rfl (fun ls hl => ?_)
  refine lv_aload_n hx hb dX2_newLink_6 rfl (lv_at hl 1 rfl) ?_
  refine rr_get X hW 0 1 gf_X2_20 rfl rfl dX2_newLink_7 ?_
  refine lv_iload hx hb dX2_newLink_10 (lv_at hl 0 rfl) ?_
  refine lv_iconst (v := 0) hx hb dX2_newLink_12 (by decide) ?_
  refine lv_iload_n hx hb dX2_newLink_13 rfl (lv_at hl 2 rfl) ?_
  obtain ⟨t1, ht1, hf⟩ := rn_bind hf
  refine rr_callV (As := [.int c_linkCount, .int (0 : Int32), .int i1]) (rest := []) X hW (kX4_set l D k z a_this_links a_this_links_cells (16 : Int32) (9 : Int32) 144 c_links c_linkCount (0 : Int32) i1 ht1) gm_X4_set gl_X2_91 [1, 2] [0] [(a_this, .inr (2, [.ref a_this_stations, .ref a_this_links, .ref a_this_messages, .ref a_this_copies, .ref a_this_log, .ref a_this_ways, .ref a_this_frames, .int c_stationCount, .int c_linkCount, .int c_messageCount, .int c_time, .int c_life, .int c_tries, .int c_x])), (a_this_links, .inr (4, [.int (16 : Int32), .int (9 : Int32), .ref a_this_links_cells])), (a_this_links_cells, .inl (k 0, 144, .inl t1))] rfl rfl rfl rfl ⟨rfl, rfl, rn_Bw (wr := [(a_this, .inr (2, [.ref a_this_stations, .ref a_this_links, .ref a_this_messages, .ref a_this_copies, .ref a_this_log, .ref a_this_ways, .ref a_this_frames, .int c_stationCount, .int c_linkCount, .int c_messageCount, .int c_time, .int c_life, .int c_tries, .int c_x]))]) rfl rfl, rfl, rfl⟩ (rn_r hR rfl) rn_cs hl.1 rfl (Nat.le_of_ble_eq_true rfl) dX2_newLink_14 (fun H locs hW => ?_)
  refine lv_aload_n hx hb dX2_newLink_17 rfl (lv_at hl 1 rfl) ?_
  refine rr_get X hW 0 1 gf_X2_20 rfl rfl dX2_newLink_18 ?_
  refine lv_iload hx hb dX2_newLink_21 (lv_at hl 0 rfl) ?_
  refine lv_iconst (v := 1) hx hb dX2_newLink_23 (by decide) ?_
  refine lv_iload_n hx hb dX2_newLink_24 rfl (lv_at hl 3 rfl) ?_
  obtain ⟨t2, ht2, hf⟩ := rn_bind hf
  refine rr_callV (As := [.int c_linkCount, .int (1 : Int32), .int i2]) (rest := []) X hW (kX4_set l D k z a_this_links a_this_links_cells (16 : Int32) (9 : Int32) 144 t1 c_linkCount (1 : Int32) i2 ht2) gm_X4_set gl_X2_91 [1, 2] [0] [(a_this, .inr (2, [.ref a_this_stations, .ref a_this_links, .ref a_this_messages, .ref a_this_copies, .ref a_this_log, .ref a_this_ways, .ref a_this_frames, .int c_stationCount, .int c_linkCount, .int c_messageCount, .int c_time, .int c_life, .int c_tries, .int c_x])), (a_this_links, .inr (4, [.int (16 : Int32), .int (9 : Int32), .ref a_this_links_cells])), (a_this_links_cells, .inl (k 0, 144, .inl t2))] rfl rfl rfl rfl ⟨rfl, rfl, rn_Bw (wr := [(a_this, .inr (2, [.ref a_this_stations, .ref a_this_links, .ref a_this_messages, .ref a_this_copies, .ref a_this_log, .ref a_this_ways, .ref a_this_frames, .int c_stationCount, .int c_linkCount, .int c_messageCount, .int c_time, .int c_life, .int c_tries, .int c_x]))]) rfl rfl, rfl, rfl⟩ (rn_r hR rfl) rn_cs hl.1 rfl (Nat.le_of_ble_eq_true rfl) dX2_newLink_25 (fun H locs hW => ?_)
  refine lv_aload_n hx hb dX2_newLink_28 rfl (lv_at hl 1 rfl) ?_
  refine rr_get X hW 0 1 gf_X2_20 rfl rfl dX2_newLink_29 ?_
  refine lv_iload hx hb dX2_newLink_32 (lv_at hl 0 rfl) ?_
  refine lv_iconst (v := 2) hx hb dX2_newLink_34 (by decide) ?_
  refine lv_iload_n hx hb dX2_newLink_35 rfl (lv_at hl 4 rfl) ?_
  obtain ⟨t3, ht3, hf⟩ := rn_bind hf
  refine rr_callV (As := [.int c_linkCount, .int (2 : Int32), .int i3]) (rest := []) X hW (kX4_set l D k z a_this_links a_this_links_cells (16 : Int32) (9 : Int32) 144 t2 c_linkCount (2 : Int32) i3 ht3) gm_X4_set gl_X2_91 [1, 2] [0] [(a_this, .inr (2, [.ref a_this_stations, .ref a_this_links, .ref a_this_messages, .ref a_this_copies, .ref a_this_log, .ref a_this_ways, .ref a_this_frames, .int c_stationCount, .int c_linkCount, .int c_messageCount, .int c_time, .int c_life, .int c_tries, .int c_x])), (a_this_links, .inr (4, [.int (16 : Int32), .int (9 : Int32), .ref a_this_links_cells])), (a_this_links_cells, .inl (k 0, 144, .inl t3))] rfl rfl rfl rfl ⟨rfl, rfl, rn_Bw (wr := [(a_this, .inr (2, [.ref a_this_stations, .ref a_this_links, .ref a_this_messages, .ref a_this_copies, .ref a_this_log, .ref a_this_ways, .ref a_this_frames, .int c_stationCount, .int c_linkCount, .int c_messageCount, .int c_time, .int c_life, .int c_tries, .int c_x]))]) rfl rfl, rfl, rfl⟩ (rn_r hR rfl) rn_cs hl.1 rfl (Nat.le_of_ble_eq_true rfl) dX2_newLink_36 (fun H locs hW => ?_)
  refine lv_aload_n hx hb dX2_newLink_39 rfl (lv_at hl 1 rfl) ?_
  refine rr_get X hW 0 1 gf_X2_20 rfl rfl dX2_newLink_40 ?_
  refine lv_iload hx hb dX2_newLink_43 (lv_at hl 0 rfl) ?_
  refine lv_iconst (v := 3) hx hb dX2_newLink_45 (by decide) ?_
  refine lv_iload hx hb dX2_newLink_46 (lv_at hl 5 rfl) ?_
  obtain ⟨t4, ht4, hf⟩ := rn_bind hf
  refine rr_callV (As := [.int c_linkCount, .int (3 : Int32), .int i4]) (rest := []) X hW (kX4_set l D k z a_this_links a_this_links_cells (16 : Int32) (9 : Int32) 144 t3 c_linkCount (3 : Int32) i4 ht4) gm_X4_set gl_X2_91 [1, 2] [0] [(a_this, .inr (2, [.ref a_this_stations, .ref a_this_links, .ref a_this_messages, .ref a_this_copies, .ref a_this_log, .ref a_this_ways, .ref a_this_frames, .int c_stationCount, .int c_linkCount, .int c_messageCount, .int c_time, .int c_life, .int c_tries, .int c_x])), (a_this_links, .inr (4, [.int (16 : Int32), .int (9 : Int32), .ref a_this_links_cells])), (a_this_links_cells, .inl (k 0, 144, .inl t4))] rfl rfl rfl rfl ⟨rfl, rfl, rn_Bw (wr := [(a_this, .inr (2, [.ref a_this_stations, .ref a_this_links, .ref a_this_messages, .ref a_this_copies, .ref a_this_log, .ref a_this_ways, .ref a_this_frames, .int c_stationCount, .int c_linkCount, .int c_messageCount, .int c_time, .int c_life, .int c_tries, .int c_x]))]) rfl rfl, rfl, rfl⟩ (rn_r hR rfl) rn_cs hl.1 rfl (Nat.le_of_ble_eq_true rfl) dX2_newLink_48 (fun H locs hW => ?_)
  refine lv_aload_n hx hb dX2_newLink_51 rfl (lv_at hl 1 rfl) ?_
  refine rr_get X hW 0 1 gf_X2_20 rfl rfl dX2_newLink_52 ?_
  refine lv_iload hx hb dX2_newLink_55 (lv_at hl 0 rfl) ?_
  refine lv_iconst (v := 4) hx hb dX2_newLink_57 (by decide) ?_
  refine lv_iload hx hb dX2_newLink_58 (lv_at hl 6 rfl) ?_
  obtain ⟨t5, ht5, hf⟩ := rn_bind hf
  refine rr_callV (As := [.int c_linkCount, .int (4 : Int32), .int i5]) (rest := []) X hW (kX4_set l D k z a_this_links a_this_links_cells (16 : Int32) (9 : Int32) 144 t4 c_linkCount (4 : Int32) i5 ht5) gm_X4_set gl_X2_91 [1, 2] [0] [(a_this, .inr (2, [.ref a_this_stations, .ref a_this_links, .ref a_this_messages, .ref a_this_copies, .ref a_this_log, .ref a_this_ways, .ref a_this_frames, .int c_stationCount, .int c_linkCount, .int c_messageCount, .int c_time, .int c_life, .int c_tries, .int c_x])), (a_this_links, .inr (4, [.int (16 : Int32), .int (9 : Int32), .ref a_this_links_cells])), (a_this_links_cells, .inl (k 0, 144, .inl t5))] rfl rfl rfl rfl ⟨rfl, rfl, rn_Bw (wr := [(a_this, .inr (2, [.ref a_this_stations, .ref a_this_links, .ref a_this_messages, .ref a_this_copies, .ref a_this_log, .ref a_this_ways, .ref a_this_frames, .int c_stationCount, .int c_linkCount, .int c_messageCount, .int c_time, .int c_life, .int c_tries, .int c_x]))]) rfl rfl, rfl, rfl⟩ (rn_r hR rfl) rn_cs hl.1 rfl (Nat.le_of_ble_eq_true rfl) dX2_newLink_60 (fun H locs hW => ?_)
  refine lv_aload_n hx hb dX2_newLink_63 rfl (lv_at hl 1 rfl) ?_
  refine lv_dup hx hb dX2_newLink_64 rfl ?_
  refine rr_get X hW 0 8 gf_X2_50 rfl rfl dX2_newLink_65 ?_
  refine lv_iconst (v := 1) hx hb dX2_newLink_68 (by decide) ?_
  refine lv_iadd hx hb dX2_newLink_69 ?_
  refine rr_put X hW 0 8 gp_X2_50 rfl rfl rfl (Nat.le_of_ble_eq_true rfl) (ws' := [(a_this, .inr (2, [.ref a_this_stations, .ref a_this_links, .ref a_this_messages, .ref a_this_copies, .ref a_this_log, .ref a_this_ways, .ref a_this_frames, .int c_stationCount, .int (c_linkCount + (1 : Int32)), .int c_messageCount, .int c_time, .int c_life, .int c_tries, .int c_x])), (a_this_links, .inr (4, [.int (16 : Int32), .int (9 : Int32), .ref a_this_links_cells])), (a_this_links_cells, .inl (k 0, 144, .inl t5))]) rfl dX2_newLink_70 (fun H locs hW => ?_)
  refine lv_iload hx hb dX2_newLink_73 (lv_at hl 0 rfl) ?_
  cases hf
  exact hE _ _ _ _ hW rfl dX2_newLink_75
def fX2_noteEnd (c_messages : Nat → Int32) (i1 : Int32) (i2 : Int32) (i3 : Int32) : Option ((Nat → Int32)) :=
  (fX4_set (24 : Int32) (12 : Int32) 288 c_messages i1 (10 : Int32) i2).bind fun t1 =>
  (fX4_set (24 : Int32) (12 : Int32) 288 t1 i1 (11 : Int32) i3).bind fun t2 =>
  some t2
set_option maxHeartbeats 4000000 in
set_option maxRecDepth 20000 in
theorem kX2_noteEnd (l : Launch) (D : va_G) (k : Nat → ClassId) (z : (Nat → Nat) × (Nat → Nat)) (a_this : Nat) (a_this_stations : Nat) (a_this_links : Nat) (a_this_messages : Nat) (a_this_copies : Nat) (a_this_log : Nat) (a_this_ways : Nat) (a_this_frames : Nat) (a_this_messages_cells : Nat) (c_stationCount : Int32) (c_linkCount : Int32) (c_messageCount : Int32) (c_time : Int32) (c_life : Int32) (c_tries : Int32) (c_x : Int32) (c_messages : Nat → Int32) (i1 : Int32) (i2 : Int32) (i3 : Int32) {u : (Nat → Int32)} (hf : fX2_noteEnd c_messages i1 i2 i3 = some u) : rn_KV l D k z yX2_noteEnd cX2_noteEnd 4 1 24 [.ref a_this, .int i1, .int i2, .int i3] [(a_this, .inr (2, [.ref a_this_stations, .ref a_this_links, .ref a_this_messages, .ref a_this_copies, .ref a_this_log, .ref a_this_ways, .ref a_this_frames, .int c_stationCount, .int c_linkCount, .int c_messageCount, .int c_time, .int c_life, .int c_tries, .int c_x])), (a_this_messages, .inr (4, [.int (24 : Int32), .int (12 : Int32), .ref a_this_messages_cells])), (a_this_messages_cells, .inl (k 0, 288, .inl c_messages))] [(a_this, .inr (2, [.ref a_this_stations, .ref a_this_links, .ref a_this_messages, .ref a_this_copies, .ref a_this_log, .ref a_this_ways, .ref a_this_frames, .int c_stationCount, .int c_linkCount, .int c_messageCount, .int c_time, .int c_life, .int c_tries, .int c_x])), (a_this_messages, .inr (4, [.int (24 : Int32), .int (12 : Int32), .ref a_this_messages_cells])), (a_this_messages_cells, .inl (k 0, 288, .inl u))] := by
  refine rn_KV.go (LOC := [(0, .ref a_this), (1, .int i1), (2, .int i2), (3, .int i3)]) rfl (by decide) (Nat.le_of_ble_eq_true rfl) rfl ?_
  intro p e s m args below meth c A ls R Q X hR hE hW hl
  have hx := X.1.1
  have hb := X.1.2.1
  unfold fX2_noteEnd at hf
  refine lv_aload_n hx hb dX2_noteEnd_0 rfl (lv_at hl 0 rfl) ?_
  refine rr_get X hW 0 2 gf_X2_23 rfl rfl dX2_noteEnd_1 ?_
  refine lv_iload_n hx hb dX2_noteEnd_4 rfl (lv_at hl 1 rfl) ?_
  refine lv_bipush (v := 10) hx hb dX2_noteEnd_5 (by decide) ?_
  refine lv_iload_n hx hb dX2_noteEnd_7 rfl (lv_at hl 2 rfl) ?_
  obtain ⟨t1, ht1, hf⟩ := rn_bind hf
  refine rr_callV (As := [.int i1, .int (10 : Int32), .int i2]) (rest := []) X hW (kX4_set l D k z a_this_messages a_this_messages_cells (24 : Int32) (12 : Int32) 288 c_messages i1 (10 : Int32) i2 ht1) gm_X4_set gl_X2_91 [1, 2] [0] [(a_this, .inr (2, [.ref a_this_stations, .ref a_this_links, .ref a_this_messages, .ref a_this_copies, .ref a_this_log, .ref a_this_ways, .ref a_this_frames, .int c_stationCount, .int c_linkCount, .int c_messageCount, .int c_time, .int c_life, .int c_tries, .int c_x])), (a_this_messages, .inr (4, [.int (24 : Int32), .int (12 : Int32), .ref a_this_messages_cells])), (a_this_messages_cells, .inl (k 0, 288, .inl t1))] rfl rfl rfl rfl ⟨rfl, rfl, rn_Bw (wr := [(a_this, .inr (2, [.ref a_this_stations, .ref a_this_links, .ref a_this_messages, .ref a_this_copies, .ref a_this_log, .ref a_this_ways, .ref a_this_frames, .int c_stationCount, .int c_linkCount, .int c_messageCount, .int c_time, .int c_life, .int c_tries, .int c_x]))]) rfl rfl, rfl, rfl⟩ (rn_r hR rfl) rn_cs hl.1 rfl (Nat.le_of_ble_eq_true rfl) dX2_noteEnd_8 (fun H locs hW => ?_)
  refine lv_aload_n hx hb dX2_noteEnd_11 rfl (lv_at hl 0 rfl) ?_
  refine rr_get X hW 0 2 gf_X2_23 rfl rfl dX2_noteEnd_12 ?_
  refine lv_iload_n hx hb dX2_noteEnd_15 rfl (lv_at hl 1 rfl) ?_
  refine lv_bipush (v := 11) hx hb dX2_noteEnd_16 (by decide) ?_
  refine lv_iload_n hx hb dX2_noteEnd_18 rfl (lv_at hl 3 rfl) ?_
  obtain ⟨t2, ht2, hf⟩ := rn_bind hf
  refine rr_callV (As := [.int i1, .int (11 : Int32), .int i3]) (rest := []) X hW (kX4_set l D k z a_this_messages a_this_messages_cells (24 : Int32) (12 : Int32) 288 t1 i1 (11 : Int32) i3 ht2) gm_X4_set gl_X2_91 [1, 2] [0] [(a_this, .inr (2, [.ref a_this_stations, .ref a_this_links, .ref a_this_messages, .ref a_this_copies, .ref a_this_log, .ref a_this_ways, .ref a_this_frames, .int c_stationCount, .int c_linkCount, .int c_messageCount, .int c_time, .int c_life, .int c_tries, .int c_x])), (a_this_messages, .inr (4, [.int (24 : Int32), .int (12 : Int32), .ref a_this_messages_cells])), (a_this_messages_cells, .inl (k 0, 288, .inl t2))] rfl rfl rfl rfl ⟨rfl, rfl, rn_Bw (wr := [(a_this, .inr (2, [.ref a_this_stations, .ref a_this_links, .ref a_this_messages, .ref a_this_copies, .ref a_this_log, .ref a_this_ways, .ref a_this_frames, .int c_stationCount, .int c_linkCount, .int c_messageCount, .int c_time, .int c_life, .int c_tries, .int c_x]))]) rfl rfl, rfl, rfl⟩ (rn_r hR rfl) rn_cs hl.1 rfl (Nat.le_of_ble_eq_true rfl) dX2_noteEnd_19 (fun H locs hW => ?_)
  cases hf
  exact hE _ _ _ _ hW dX2_noteEnd_22
def fX2_copyRow (i0 : Int32) (i1 : Int32) : Option (Int32) :=
  some ((i0 * (8 : Int32)) + i1)
set_option maxHeartbeats 4000000 in
set_option maxRecDepth 20000 in
theorem kX2_copyRow (l : Launch) (D : va_G) (k : Nat → ClassId) (z : (Nat → Nat) × (Nat → Nat)) (i0 : Int32) (i1 : Int32) {u : Int32} (hf : fX2_copyRow i0 i1 = some u) : rn_KI l D k z yX2_copyRow cX2_copyRow 2 .int 0 0 [.int i0, .int i1] [] [] u := by
  refine rn_KI.go (LOC := [(0, .int i0), (1, .int i1)]) rfl (by decide) (Nat.le_of_ble_eq_true rfl) rfl ?_
  intro p e s m args below meth c A ls R Q X hR hE hW hl
  have hx := X.1.1
  have hb := X.1.2.1
  unfold fX2_copyRow at hf
  refine lv_iload_n hx hb dX2_copyRow_0 rfl (lv_at hl 0 rfl) ?_
  refine lv_bipush (v := 8) hx hb dX2_copyRow_1 (by decide) ?_
  refine lv_imul hx hb dX2_copyRow_3 ?_
  refine lv_iload_n hx hb dX2_copyRow_4 rfl (lv_at hl 1 rfl) ?_
  refine lv_iadd hx hb dX2_copyRow_5 ?_
  cases hf
  exact hE _ _ _ _ hW rfl dX2_copyRow_6
def fX2_newMessage (c_messageCount : Int32) (c_time : Int32) (c_messages : Nat → Int32) (c_copies : Nat → Int32) (c_log_first : Int32) (c_log_size : Int32) (c_log_events : Nat → Int32) (i1 : Int32) (i2 : Int32) (i3 : Int32) : Option (Int32 × Int32 × (Nat → Int32) × (Nat → Int32) × Int32 × Int32 × (Nat → Int32)) :=
  (fX4_set (24 : Int32) (12 : Int32) 288 c_messages c_messageCount (0 : Int32) i1).bind fun t1 =>
  (fX4_set (24 : Int32) (12 : Int32) 288 t1 c_messageCount (1 : Int32) i2).bind fun t2 =>
  (fX4_set (24 : Int32) (12 : Int32) 288 t2 c_messageCount (2 : Int32) i3).bind fun t3 =>
  (fX4_set (24 : Int32) (12 : Int32) 288 t3 c_messageCount (3 : Int32) c_time).bind fun t4 =>
  (fX4_set (24 : Int32) (12 : Int32) 288 t4 c_messageCount (5 : Int32) (-1 : Int32)).bind fun t5 =>
  (fX4_set (24 : Int32) (12 : Int32) 288 t5 c_messageCount (6 : Int32) (-1 : Int32)).bind fun t6 =>
  (fX2_noteEnd t6 c_messageCount (-1 : Int32) (-1 : Int32)).bind fun t7 =>
  (fX2_copyRow c_messageCount i1).bind fun t8 =>
  (fX4_set (192 : Int32) (5 : Int32) 960 c_copies t8 (0 : Int32) (1 : Int32)).bind fun t9 =>
  (fX4_set (192 : Int32) (5 : Int32) 960 t9 t8 (2 : Int32) c_time).bind fun t10 =>
  (fX4_set (192 : Int32) (5 : Int32) 960 t10 t8 (3 : Int32) (1 : Int32)).bind fun t11 =>
  (fX4_set (192 : Int32) (5 : Int32) 960 t11 t8 (4 : Int32) i1).bind fun t12 =>
  (fX0_add c_log_first c_log_size c_log_events c_time (0 : Int32) c_messageCount i1 (-1 : Int32)).bind fun t13 =>
  some (c_messageCount, (c_messageCount + (1 : Int32)), t7, t12, t13.1, t13.2.1, t13.2.2)
set_option maxHeartbeats 4000000 in
set_option maxRecDepth 20000 in
theorem kX2_newMessage (l : Launch) (D : va_G) (k : Nat → ClassId) (z : (Nat → Nat) × (Nat → Nat)) (a_this : Nat) (a_this_stations : Nat) (a_this_links : Nat) (a_this_messages : Nat) (a_this_copies : Nat) (a_this_log : Nat) (a_this_ways : Nat) (a_this_frames : Nat) (a_this_messages_cells : Nat) (a_this_copies_cells : Nat) (a_this_log_events : Nat) (a_this_log_events_cells : Nat) (c_stationCount : Int32) (c_linkCount : Int32) (c_messageCount : Int32) (c_time : Int32) (c_life : Int32) (c_tries : Int32) (c_x : Int32) (c_messages : Nat → Int32) (c_copies : Nat → Int32) (c_log_first : Int32) (c_log_size : Int32) (c_log_events : Nat → Int32) (i1 : Int32) (i2 : Int32) (i3 : Int32) {u : Int32 × Int32 × (Nat → Int32) × (Nat → Int32) × Int32 × Int32 × (Nat → Int32)} (hf : fX2_newMessage c_messageCount c_time c_messages c_copies c_log_first c_log_size c_log_events i1 i2 i3 = some u) : rn_KI l D k z yX2_newMessage cX2_newMessage 6 .int 2 50 [.ref a_this, .int i1, .int i2, .int i3] [(a_this, .inr (2, [.ref a_this_stations, .ref a_this_links, .ref a_this_messages, .ref a_this_copies, .ref a_this_log, .ref a_this_ways, .ref a_this_frames, .int c_stationCount, .int c_linkCount, .int c_messageCount, .int c_time, .int c_life, .int c_tries, .int c_x])), (a_this_messages, .inr (4, [.int (24 : Int32), .int (12 : Int32), .ref a_this_messages_cells])), (a_this_messages_cells, .inl (k 0, 288, .inl c_messages)), (a_this_copies, .inr (4, [.int (192 : Int32), .int (5 : Int32), .ref a_this_copies_cells])), (a_this_copies_cells, .inl (k 0, 960, .inl c_copies)), (a_this_log, .inr (0, [.ref a_this_log_events, .int c_log_first, .int c_log_size])), (a_this_log_events, .inr (4, [.int (40 : Int32), .int (5 : Int32), .ref a_this_log_events_cells])), (a_this_log_events_cells, .inl (k 0, 200, .inl c_log_events))] [(a_this, .inr (2, [.ref a_this_stations, .ref a_this_links, .ref a_this_messages, .ref a_this_copies, .ref a_this_log, .ref a_this_ways, .ref a_this_frames, .int c_stationCount, .int c_linkCount, .int u.2.1, .int c_time, .int c_life, .int c_tries, .int c_x])), (a_this_messages, .inr (4, [.int (24 : Int32), .int (12 : Int32), .ref a_this_messages_cells])), (a_this_messages_cells, .inl (k 0, 288, .inl u.2.2.1)), (a_this_copies, .inr (4, [.int (192 : Int32), .int (5 : Int32), .ref a_this_copies_cells])), (a_this_copies_cells, .inl (k 0, 960, .inl u.2.2.2.1)), (a_this_log, .inr (0, [.ref a_this_log_events, .int u.2.2.2.2.1, .int u.2.2.2.2.2.1])), (a_this_log_events, .inr (4, [.int (40 : Int32), .int (5 : Int32), .ref a_this_log_events_cells])), (a_this_log_events_cells, .inl (k 0, 200, .inl u.2.2.2.2.2.2))] u.1 := by
  refine rn_KI.go (LOC := [(0, .ref a_this), (1, .int i1), (2, .int i2), (3, .int i3)]) rfl (by decide) (Nat.le_of_ble_eq_true rfl) rfl ?_
  intro p e s m args below meth c A ls R Q X hR hE hW hl
  have hx := X.1.1
  have hb := X.1.2.1
  unfold fX2_newMessage at hf
  obtain ⟨u0, u1, u2, u3, u4, u5, u6⟩ := u
  dsimp only at hE
  refine lv_aload_n hx hb dX2_newMessage_0 rfl (lv_at hl 0 rfl) ?_
  refine rr_get X hW 0 9 gf_X2_53 rfl rfl dX2_newMessage_1 ?_
  refine lv_istore (lv' := [(4, .int c_messageCount), (0, .ref a_this), (1, .int i1), (2, .int i2), (3, .int i3)]) hx hb dX2_newMessage_4 hl (Nat.le_of_ble_eq_true rfl) rfl (fun ls hl => ?_)
  refine lv_aload_n hx hb dX2_newMessage_6 rfl (lv_at hl 1 rfl) ?_
  refine rr_get X hW 0 2 gf_X2_23 rfl rfl dX2_newMessage_7 ?_
  refine lv_iload hx hb dX2_newMessage_10 (lv_at hl 0 rfl) ?_
  refine lv_iconst (v := 0) hx hb dX2_newMessage_12 (by decide) ?_
  refine lv_iload_n hx hb dX2_newMessage_13 rfl (lv_at hl 2 rfl) ?_
  obtain ⟨t1, ht1, hf⟩ := rn_bind hf
  refine rr_callV (As := [.int c_messageCount, .int (0 : Int32), .int i1]) (rest := []) X hW (kX4_set l D k z a_this_messages a_this_messages_cells (24 : Int32) (12 : Int32) 288 c_messages c_messageCount (0 : Int32) i1 ht1) gm_X4_set gl_X2_91 [1, 2] [0, 3, 4, 5, 6, 7] [(a_this, .inr (2, [.ref a_this_stations, .ref a_this_links, .ref a_this_messages, .ref a_this_copies, .ref a_this_log, .ref a_this_ways, .ref a_this_frames, .int c_stationCount, .int c_linkCount, .int c_messageCount, .int c_time, .int c_life, .int c_tries, .int c_x])), (a_this_messages, .inr (4, [.int (24 : Int32), .int (12 : Int32), .ref a_this_messages_cells])), (a_this_messages_cells, .inl (k 0, 288, .inl t1)), (a_this_copies, .inr (4, [.int (192 : Int32), .int (5 : Int32), .ref a_this_copies_cells])), (a_this_copies_cells, .inl (k 0, 960, .inl c_copies)), (a_this_log, .inr (0, [.ref a_this_log_events, .int c_log_first, .int c_log_size])), (a_this_log_events, .inr (4, [.int (40 : Int32), .int (5 : Int32), .ref a_this_log_events_cells])), (a_this_log_events_cells, .inl (k 0, 200, .inl c_log_events))] rfl rfl rfl rfl ⟨rfl, rfl, rn_Bw (wr := [(a_this, .inr (2, [.ref a_this_stations, .ref a_this_links, .ref a_this_messages, .ref a_this_copies, .ref a_this_log, .ref a_this_ways, .ref a_this_frames, .int c_stationCount, .int c_linkCount, .int c_messageCount, .int c_time, .int c_life, .int c_tries, .int c_x])), (a_this_copies, .inr (4, [.int (192 : Int32), .int (5 : Int32), .ref a_this_copies_cells])), (a_this_copies_cells, .inl (k 0, 960, .inl c_copies)), (a_this_log, .inr (0, [.ref a_this_log_events, .int c_log_first, .int c_log_size])), (a_this_log_events, .inr (4, [.int (40 : Int32), .int (5 : Int32), .ref a_this_log_events_cells])), (a_this_log_events_cells, .inl (k 0, 200, .inl c_log_events))]) rfl rfl, rfl, rfl⟩ (rn_r hR rfl) rn_cs hl.1 rfl (Nat.le_of_ble_eq_true rfl) dX2_newMessage_14 (fun H locs hW => ?_)
  refine lv_aload_n hx hb dX2_newMessage_17 rfl (lv_at hl 1 rfl) ?_
  refine rr_get X hW 0 2 gf_X2_23 rfl rfl dX2_newMessage_18 ?_
  refine lv_iload hx hb dX2_newMessage_21 (lv_at hl 0 rfl) ?_
  refine lv_iconst (v := 1) hx hb dX2_newMessage_23 (by decide) ?_
  refine lv_iload_n hx hb dX2_newMessage_24 rfl (lv_at hl 3 rfl) ?_
  obtain ⟨t2, ht2, hf⟩ := rn_bind hf
  refine rr_callV (As := [.int c_messageCount, .int (1 : Int32), .int i2]) (rest := []) X hW (kX4_set l D k z a_this_messages a_this_messages_cells (24 : Int32) (12 : Int32) 288 t1 c_messageCount (1 : Int32) i2 ht2) gm_X4_set gl_X2_91 [1, 2] [0, 3, 4, 5, 6, 7] [(a_this, .inr (2, [.ref a_this_stations, .ref a_this_links, .ref a_this_messages, .ref a_this_copies, .ref a_this_log, .ref a_this_ways, .ref a_this_frames, .int c_stationCount, .int c_linkCount, .int c_messageCount, .int c_time, .int c_life, .int c_tries, .int c_x])), (a_this_messages, .inr (4, [.int (24 : Int32), .int (12 : Int32), .ref a_this_messages_cells])), (a_this_messages_cells, .inl (k 0, 288, .inl t2)), (a_this_copies, .inr (4, [.int (192 : Int32), .int (5 : Int32), .ref a_this_copies_cells])), (a_this_copies_cells, .inl (k 0, 960, .inl c_copies)), (a_this_log, .inr (0, [.ref a_this_log_events, .int c_log_first, .int c_log_size])), (a_this_log_events, .inr (4, [.int (40 : Int32), .int (5 : Int32), .ref a_this_log_events_cells])), (a_this_log_events_cells, .inl (k 0, 200, .inl c_log_events))] rfl rfl rfl rfl ⟨rfl, rfl, rn_Bw (wr := [(a_this, .inr (2, [.ref a_this_stations, .ref a_this_links, .ref a_this_messages, .ref a_this_copies, .ref a_this_log, .ref a_this_ways, .ref a_this_frames, .int c_stationCount, .int c_linkCount, .int c_messageCount, .int c_time, .int c_life, .int c_tries, .int c_x])), (a_this_copies, .inr (4, [.int (192 : Int32), .int (5 : Int32), .ref a_this_copies_cells])), (a_this_copies_cells, .inl (k 0, 960, .inl c_copies)), (a_this_log, .inr (0, [.ref a_this_log_events, .int c_log_first, .int c_log_size])), (a_this_log_events, .inr (4, [.int (40 : Int32), .int (5 : Int32), .ref a_this_log_events_cells])), (a_this_log_events_cells, .inl (k 0, 200, .inl c_log_events))]) rfl rfl, rfl, rfl⟩ (rn_r hR rfl) rn_cs hl.1 rfl (Nat.le_of_ble_eq_true rfl) dX2_newMessage_25 (fun H locs hW => ?_)
  refine lv_aload_n hx hb dX2_newMessage_28 rfl (lv_at hl 1 rfl) ?_
  refine rr_get X hW 0 2 gf_X2_23 rfl rfl dX2_newMessage_29 ?_
  refine lv_iload hx hb dX2_newMessage_32 (lv_at hl 0 rfl) ?_
  refine lv_iconst (v := 2) hx hb dX2_newMessage_34 (by decide) ?_
  refine lv_iload_n hx hb dX2_newMessage_35 rfl (lv_at hl 4 rfl) ?_
  obtain ⟨t3, ht3, hf⟩ := rn_bind hf
  refine rr_callV (As := [.int c_messageCount, .int (2 : Int32), .int i3]) (rest := []) X hW (kX4_set l D k z a_this_messages a_this_messages_cells (24 : Int32) (12 : Int32) 288 t2 c_messageCount (2 : Int32) i3 ht3) gm_X4_set gl_X2_91 [1, 2] [0, 3, 4, 5, 6, 7] [(a_this, .inr (2, [.ref a_this_stations, .ref a_this_links, .ref a_this_messages, .ref a_this_copies, .ref a_this_log, .ref a_this_ways, .ref a_this_frames, .int c_stationCount, .int c_linkCount, .int c_messageCount, .int c_time, .int c_life, .int c_tries, .int c_x])), (a_this_messages, .inr (4, [.int (24 : Int32), .int (12 : Int32), .ref a_this_messages_cells])), (a_this_messages_cells, .inl (k 0, 288, .inl t3)), (a_this_copies, .inr (4, [.int (192 : Int32), .int (5 : Int32), .ref a_this_copies_cells])), (a_this_copies_cells, .inl (k 0, 960, .inl c_copies)), (a_this_log, .inr (0, [.ref a_this_log_events, .int c_log_first, .int c_log_size])), (a_this_log_events, .inr (4, [.int (40 : Int32), .int (5 : Int32), .ref a_this_log_events_cells])), (a_this_log_events_cells, .inl (k 0, 200, .inl c_log_events))] rfl rfl rfl rfl ⟨rfl, rfl, rn_Bw (wr := [(a_this, .inr (2, [.ref a_this_stations, .ref a_this_links, .ref a_this_messages, .ref a_this_copies, .ref a_this_log, .ref a_this_ways, .ref a_this_frames, .int c_stationCount, .int c_linkCount, .int c_messageCount, .int c_time, .int c_life, .int c_tries, .int c_x])), (a_this_copies, .inr (4, [.int (192 : Int32), .int (5 : Int32), .ref a_this_copies_cells])), (a_this_copies_cells, .inl (k 0, 960, .inl c_copies)), (a_this_log, .inr (0, [.ref a_this_log_events, .int c_log_first, .int c_log_size])), (a_this_log_events, .inr (4, [.int (40 : Int32), .int (5 : Int32), .ref a_this_log_events_cells])), (a_this_log_events_cells, .inl (k 0, 200, .inl c_log_events))]) rfl rfl, rfl, rfl⟩ (rn_r hR rfl) rn_cs hl.1 rfl (Nat.le_of_ble_eq_true rfl) dX2_newMessage_36 (fun H locs hW => ?_)
  refine lv_aload_n hx hb dX2_newMessage_39 rfl (lv_at hl 1 rfl) ?_
  refine rr_get X hW 0 2 gf_X2_23 rfl rfl dX2_newMessage_40 ?_
  refine lv_iload hx hb dX2_newMessage_43 (lv_at hl 0 rfl) ?_
  refine lv_iconst (v := 3) hx hb dX2_newMessage_45 (by decide) ?_
  refine lv_aload_n hx hb dX2_newMessage_46 rfl (lv_at hl 1 rfl) ?_
  refine rr_get X hW 0 10 gf_X2_56 rfl rfl dX2_newMessage_47 ?_
  obtain ⟨t4, ht4, hf⟩ := rn_bind hf
  refine rr_callV (As := [.int c_messageCount, .int (3 : Int32), .int c_time]) (rest := []) X hW (kX4_set l D k z a_this_messages a_this_messages_cells (24 : Int32) (12 : Int32) 288 t3 c_messageCount (3 : Int32) c_time ht4) gm_X4_set gl_X2_91 [1, 2] [0, 3, 4, 5, 6, 7] [(a_this, .inr (2, [.ref a_this_stations, .ref a_this_links, .ref a_this_messages, .ref a_this_copies, .ref a_this_log, .ref a_this_ways, .ref a_this_frames, .int c_stationCount, .int c_linkCount, .int c_messageCount, .int c_time, .int c_life, .int c_tries, .int c_x])), (a_this_messages, .inr (4, [.int (24 : Int32), .int (12 : Int32), .ref a_this_messages_cells])), (a_this_messages_cells, .inl (k 0, 288, .inl t4)), (a_this_copies, .inr (4, [.int (192 : Int32), .int (5 : Int32), .ref a_this_copies_cells])), (a_this_copies_cells, .inl (k 0, 960, .inl c_copies)), (a_this_log, .inr (0, [.ref a_this_log_events, .int c_log_first, .int c_log_size])), (a_this_log_events, .inr (4, [.int (40 : Int32), .int (5 : Int32), .ref a_this_log_events_cells])), (a_this_log_events_cells, .inl (k 0, 200, .inl c_log_events))] rfl rfl rfl rfl ⟨rfl, rfl, rn_Bw (wr := [(a_this, .inr (2, [.ref a_this_stations, .ref a_this_links, .ref a_this_messages, .ref a_this_copies, .ref a_this_log, .ref a_this_ways, .ref a_this_frames, .int c_stationCount, .int c_linkCount, .int c_messageCount, .int c_time, .int c_life, .int c_tries, .int c_x])), (a_this_copies, .inr (4, [.int (192 : Int32), .int (5 : Int32), .ref a_this_copies_cells])), (a_this_copies_cells, .inl (k 0, 960, .inl c_copies)), (a_this_log, .inr (0, [.ref a_this_log_events, .int c_log_first, .int c_log_size])), (a_this_log_events, .inr (4, [.int (40 : Int32), .int (5 : Int32), .ref a_this_log_events_cells])), (a_this_log_events_cells, .inl (k 0, 200, .inl c_log_events))]) rfl rfl, rfl, rfl⟩ (rn_r hR rfl) rn_cs hl.1 rfl (Nat.le_of_ble_eq_true rfl) dX2_newMessage_50 (fun H locs hW => ?_)
  refine lv_aload_n hx hb dX2_newMessage_53 rfl (lv_at hl 1 rfl) ?_
  refine rr_get X hW 0 2 gf_X2_23 rfl rfl dX2_newMessage_54 ?_
  refine lv_iload hx hb dX2_newMessage_57 (lv_at hl 0 rfl) ?_
  refine lv_iconst (v := 5) hx hb dX2_newMessage_59 (by decide) ?_
  refine lv_iconst (v := -1) hx hb dX2_newMessage_60 (by decide) ?_
  obtain ⟨t5, ht5, hf⟩ := rn_bind hf
  refine rr_callV (As := [.int c_messageCount, .int (5 : Int32), .int (-1 : Int32)]) (rest := []) X hW (kX4_set l D k z a_this_messages a_this_messages_cells (24 : Int32) (12 : Int32) 288 t4 c_messageCount (5 : Int32) (-1 : Int32) ht5) gm_X4_set gl_X2_91 [1, 2] [0, 3, 4, 5, 6, 7] [(a_this, .inr (2, [.ref a_this_stations, .ref a_this_links, .ref a_this_messages, .ref a_this_copies, .ref a_this_log, .ref a_this_ways, .ref a_this_frames, .int c_stationCount, .int c_linkCount, .int c_messageCount, .int c_time, .int c_life, .int c_tries, .int c_x])), (a_this_messages, .inr (4, [.int (24 : Int32), .int (12 : Int32), .ref a_this_messages_cells])), (a_this_messages_cells, .inl (k 0, 288, .inl t5)), (a_this_copies, .inr (4, [.int (192 : Int32), .int (5 : Int32), .ref a_this_copies_cells])), (a_this_copies_cells, .inl (k 0, 960, .inl c_copies)), (a_this_log, .inr (0, [.ref a_this_log_events, .int c_log_first, .int c_log_size])), (a_this_log_events, .inr (4, [.int (40 : Int32), .int (5 : Int32), .ref a_this_log_events_cells])), (a_this_log_events_cells, .inl (k 0, 200, .inl c_log_events))] rfl rfl rfl rfl ⟨rfl, rfl, rn_Bw (wr := [(a_this, .inr (2, [.ref a_this_stations, .ref a_this_links, .ref a_this_messages, .ref a_this_copies, .ref a_this_log, .ref a_this_ways, .ref a_this_frames, .int c_stationCount, .int c_linkCount, .int c_messageCount, .int c_time, .int c_life, .int c_tries, .int c_x])), (a_this_copies, .inr (4, [.int (192 : Int32), .int (5 : Int32), .ref a_this_copies_cells])), (a_this_copies_cells, .inl (k 0, 960, .inl c_copies)), (a_this_log, .inr (0, [.ref a_this_log_events, .int c_log_first, .int c_log_size])), (a_this_log_events, .inr (4, [.int (40 : Int32), .int (5 : Int32), .ref a_this_log_events_cells])), (a_this_log_events_cells, .inl (k 0, 200, .inl c_log_events))]) rfl rfl, rfl, rfl⟩ (rn_r hR rfl) rn_cs hl.1 rfl (Nat.le_of_ble_eq_true rfl) dX2_newMessage_61 (fun H locs hW => ?_)
  refine lv_aload_n hx hb dX2_newMessage_64 rfl (lv_at hl 1 rfl) ?_
  refine rr_get X hW 0 2 gf_X2_23 rfl rfl dX2_newMessage_65 ?_
  refine lv_iload hx hb dX2_newMessage_68 (lv_at hl 0 rfl) ?_
  refine lv_bipush (v := 6) hx hb dX2_newMessage_70 (by decide) ?_
  refine lv_iconst (v := -1) hx hb dX2_newMessage_72 (by decide) ?_
  obtain ⟨t6, ht6, hf⟩ := rn_bind hf
  refine rr_callV (As := [.int c_messageCount, .int (6 : Int32), .int (-1 : Int32)]) (rest := []) X hW (kX4_set l D k z a_this_messages a_this_messages_cells (24 : Int32) (12 : Int32) 288 t5 c_messageCount (6 : Int32) (-1 : Int32) ht6) gm_X4_set gl_X2_91 [1, 2] [0, 3, 4, 5, 6, 7] [(a_this, .inr (2, [.ref a_this_stations, .ref a_this_links, .ref a_this_messages, .ref a_this_copies, .ref a_this_log, .ref a_this_ways, .ref a_this_frames, .int c_stationCount, .int c_linkCount, .int c_messageCount, .int c_time, .int c_life, .int c_tries, .int c_x])), (a_this_messages, .inr (4, [.int (24 : Int32), .int (12 : Int32), .ref a_this_messages_cells])), (a_this_messages_cells, .inl (k 0, 288, .inl t6)), (a_this_copies, .inr (4, [.int (192 : Int32), .int (5 : Int32), .ref a_this_copies_cells])), (a_this_copies_cells, .inl (k 0, 960, .inl c_copies)), (a_this_log, .inr (0, [.ref a_this_log_events, .int c_log_first, .int c_log_size])), (a_this_log_events, .inr (4, [.int (40 : Int32), .int (5 : Int32), .ref a_this_log_events_cells])), (a_this_log_events_cells, .inl (k 0, 200, .inl c_log_events))] rfl rfl rfl rfl ⟨rfl, rfl, rn_Bw (wr := [(a_this, .inr (2, [.ref a_this_stations, .ref a_this_links, .ref a_this_messages, .ref a_this_copies, .ref a_this_log, .ref a_this_ways, .ref a_this_frames, .int c_stationCount, .int c_linkCount, .int c_messageCount, .int c_time, .int c_life, .int c_tries, .int c_x])), (a_this_copies, .inr (4, [.int (192 : Int32), .int (5 : Int32), .ref a_this_copies_cells])), (a_this_copies_cells, .inl (k 0, 960, .inl c_copies)), (a_this_log, .inr (0, [.ref a_this_log_events, .int c_log_first, .int c_log_size])), (a_this_log_events, .inr (4, [.int (40 : Int32), .int (5 : Int32), .ref a_this_log_events_cells])), (a_this_log_events_cells, .inl (k 0, 200, .inl c_log_events))]) rfl rfl, rfl, rfl⟩ (rn_r hR rfl) rn_cs hl.1 rfl (Nat.le_of_ble_eq_true rfl) dX2_newMessage_73 (fun H locs hW => ?_)
  refine lv_aload_n hx hb dX2_newMessage_76 rfl (lv_at hl 1 rfl) ?_
  refine lv_iload hx hb dX2_newMessage_77 (lv_at hl 0 rfl) ?_
  refine lv_iconst (v := -1) hx hb dX2_newMessage_79 (by decide) ?_
  refine lv_iconst (v := -1) hx hb dX2_newMessage_80 (by decide) ?_
  obtain ⟨t7, ht7, hf⟩ := rn_bind hf
  refine rr_callV (As := [.int c_messageCount, .int (-1 : Int32), .int (-1 : Int32)]) (rest := []) X hW (kX2_noteEnd l D k z a_this a_this_stations a_this_links a_this_messages a_this_copies a_this_log a_this_ways a_this_frames a_this_messages_cells c_stationCount c_linkCount c_messageCount c_time c_life c_tries c_x t6 c_messageCount (-1 : Int32) (-1 : Int32) ht7) gm_X2_noteEnd gl_X2_95 [0, 1, 2] [3, 4, 5, 6, 7] [(a_this, .inr (2, [.ref a_this_stations, .ref a_this_links, .ref a_this_messages, .ref a_this_copies, .ref a_this_log, .ref a_this_ways, .ref a_this_frames, .int c_stationCount, .int c_linkCount, .int c_messageCount, .int c_time, .int c_life, .int c_tries, .int c_x])), (a_this_messages, .inr (4, [.int (24 : Int32), .int (12 : Int32), .ref a_this_messages_cells])), (a_this_messages_cells, .inl (k 0, 288, .inl t7)), (a_this_copies, .inr (4, [.int (192 : Int32), .int (5 : Int32), .ref a_this_copies_cells])), (a_this_copies_cells, .inl (k 0, 960, .inl c_copies)), (a_this_log, .inr (0, [.ref a_this_log_events, .int c_log_first, .int c_log_size])), (a_this_log_events, .inr (4, [.int (40 : Int32), .int (5 : Int32), .ref a_this_log_events_cells])), (a_this_log_events_cells, .inl (k 0, 200, .inl c_log_events))] rfl rfl rfl rfl ⟨rfl, rfl, rn_Bw (wr := [(a_this_copies, .inr (4, [.int (192 : Int32), .int (5 : Int32), .ref a_this_copies_cells])), (a_this_copies_cells, .inl (k 0, 960, .inl c_copies)), (a_this_log, .inr (0, [.ref a_this_log_events, .int c_log_first, .int c_log_size])), (a_this_log_events, .inr (4, [.int (40 : Int32), .int (5 : Int32), .ref a_this_log_events_cells])), (a_this_log_events_cells, .inl (k 0, 200, .inl c_log_events))]) rfl rfl, rfl, rfl⟩ (rn_r hR rfl) rn_cs hl.1 rfl (Nat.le_of_ble_eq_true rfl) dX2_newMessage_81 (fun H locs hW => ?_)
  refine lv_iload hx hb dX2_newMessage_84 (lv_at hl 0 rfl) ?_
  refine lv_iload_n hx hb dX2_newMessage_86 rfl (lv_at hl 2 rfl) ?_
  obtain ⟨t8, ht8, hf⟩ := rn_bind hf
  refine rr_scalI (As := [.int c_messageCount, .int i1]) (rest := []) X hW (kX2_copyRow l D k z c_messageCount i1 ht8) gm_X2_copyRow gl_X2_98 [] [0, 1, 2, 3, 4, 5, 6, 7] [(a_this, .inr (2, [.ref a_this_stations, .ref a_this_links, .ref a_this_messages, .ref a_this_copies, .ref a_this_log, .ref a_this_ways, .ref a_this_frames, .int c_stationCount, .int c_linkCount, .int c_messageCount, .int c_time, .int c_life, .int c_tries, .int c_x])), (a_this_messages, .inr (4, [.int (24 : Int32), .int (12 : Int32), .ref a_this_messages_cells])), (a_this_messages_cells, .inl (k 0, 288, .inl t7)), (a_this_copies, .inr (4, [.int (192 : Int32), .int (5 : Int32), .ref a_this_copies_cells])), (a_this_copies_cells, .inl (k 0, 960, .inl c_copies)), (a_this_log, .inr (0, [.ref a_this_log_events, .int c_log_first, .int c_log_size])), (a_this_log_events, .inr (4, [.int (40 : Int32), .int (5 : Int32), .ref a_this_log_events_cells])), (a_this_log_events_cells, .inl (k 0, 200, .inl c_log_events))] rfl rfl ⟨rfl, rfl, rn_Bw (wr := [(a_this, .inr (2, [.ref a_this_stations, .ref a_this_links, .ref a_this_messages, .ref a_this_copies, .ref a_this_log, .ref a_this_ways, .ref a_this_frames, .int c_stationCount, .int c_linkCount, .int c_messageCount, .int c_time, .int c_life, .int c_tries, .int c_x])), (a_this_messages, .inr (4, [.int (24 : Int32), .int (12 : Int32), .ref a_this_messages_cells])), (a_this_messages_cells, .inl (k 0, 288, .inl t7)), (a_this_copies, .inr (4, [.int (192 : Int32), .int (5 : Int32), .ref a_this_copies_cells])), (a_this_copies_cells, .inl (k 0, 960, .inl c_copies)), (a_this_log, .inr (0, [.ref a_this_log_events, .int c_log_first, .int c_log_size])), (a_this_log_events, .inr (4, [.int (40 : Int32), .int (5 : Int32), .ref a_this_log_events_cells])), (a_this_log_events_cells, .inl (k 0, 200, .inl c_log_events))]) rfl rfl, rfl, rfl⟩ (rn_r hR rfl) rn_cs hl.1 rfl (Nat.le_of_ble_eq_true rfl) dX2_newMessage_87 (fun hn8 H locs hW => ?_)
  refine lv_istore (lv' := [(5, .int t8), (4, .int c_messageCount), (0, .ref a_this), (1, .int i1), (2, .int i2), (3, .int i3)]) hx hb dX2_newMessage_90 hl (Nat.le_of_ble_eq_true rfl) rfl (fun ls hl => ?_)
  refine lv_aload_n hx hb dX2_newMessage_92 rfl (lv_at hl 2 rfl) ?_
  refine rr_get X hW 0 3 gf_X2_26 rfl rfl dX2_newMessage_93 ?_
  refine lv_iload hx hb dX2_newMessage_96 (lv_at hl 0 rfl) ?_
  refine lv_iconst (v := 0) hx hb dX2_newMessage_98 (by decide) ?_
  refine lv_iconst (v := 1) hx hb dX2_newMessage_99 (by decide) ?_
  obtain ⟨t9, ht9, hf⟩ := rn_bind hf
  refine rr_callV (As := [.int t8, .int (0 : Int32), .int (1 : Int32)]) (rest := []) X hW (kX4_set l D k z a_this_copies a_this_copies_cells (192 : Int32) (5 : Int32) 960 c_copies t8 (0 : Int32) (1 : Int32) ht9) gm_X4_set gl_X2_91 [3, 4] [0, 1, 2, 5, 6, 7] [(a_this, .inr (2, [.ref a_this_stations, .ref a_this_links, .ref a_this_messages, .ref a_this_copies, .ref a_this_log, .ref a_this_ways, .ref a_this_frames, .int c_stationCount, .int c_linkCount, .int c_messageCount, .int c_time, .int c_life, .int c_tries, .int c_x])), (a_this_messages, .inr (4, [.int (24 : Int32), .int (12 : Int32), .ref a_this_messages_cells])), (a_this_messages_cells, .inl (k 0, 288, .inl t7)), (a_this_copies, .inr (4, [.int (192 : Int32), .int (5 : Int32), .ref a_this_copies_cells])), (a_this_copies_cells, .inl (k 0, 960, .inl t9)), (a_this_log, .inr (0, [.ref a_this_log_events, .int c_log_first, .int c_log_size])), (a_this_log_events, .inr (4, [.int (40 : Int32), .int (5 : Int32), .ref a_this_log_events_cells])), (a_this_log_events_cells, .inl (k 0, 200, .inl c_log_events))] rfl rfl rfl rfl ⟨rfl, rfl, rn_Bw (wr := [(a_this, .inr (2, [.ref a_this_stations, .ref a_this_links, .ref a_this_messages, .ref a_this_copies, .ref a_this_log, .ref a_this_ways, .ref a_this_frames, .int c_stationCount, .int c_linkCount, .int c_messageCount, .int c_time, .int c_life, .int c_tries, .int c_x])), (a_this_messages, .inr (4, [.int (24 : Int32), .int (12 : Int32), .ref a_this_messages_cells])), (a_this_messages_cells, .inl (k 0, 288, .inl t7)), (a_this_log, .inr (0, [.ref a_this_log_events, .int c_log_first, .int c_log_size])), (a_this_log_events, .inr (4, [.int (40 : Int32), .int (5 : Int32), .ref a_this_log_events_cells])), (a_this_log_events_cells, .inl (k 0, 200, .inl c_log_events))]) rfl rfl, rfl, rfl⟩ (rn_r hR rfl) rn_cs hl.1 rfl (Nat.le_of_ble_eq_true rfl) dX2_newMessage_100 (fun H locs hW => ?_)
  refine lv_aload_n hx hb dX2_newMessage_103 rfl (lv_at hl 2 rfl) ?_
  refine rr_get X hW 0 3 gf_X2_26 rfl rfl dX2_newMessage_104 ?_
  refine lv_iload hx hb dX2_newMessage_107 (lv_at hl 0 rfl) ?_
  refine lv_iconst (v := 2) hx hb dX2_newMessage_109 (by decide) ?_
  refine lv_aload_n hx hb dX2_newMessage_110 rfl (lv_at hl 2 rfl) ?_
  refine rr_get X hW 0 10 gf_X2_56 rfl rfl dX2_newMessage_111 ?_
  obtain ⟨t10, ht10, hf⟩ := rn_bind hf
  refine rr_callV (As := [.int t8, .int (2 : Int32), .int c_time]) (rest := []) X hW (kX4_set l D k z a_this_copies a_this_copies_cells (192 : Int32) (5 : Int32) 960 t9 t8 (2 : Int32) c_time ht10) gm_X4_set gl_X2_91 [3, 4] [0, 1, 2, 5, 6, 7] [(a_this, .inr (2, [.ref a_this_stations, .ref a_this_links, .ref a_this_messages, .ref a_this_copies, .ref a_this_log, .ref a_this_ways, .ref a_this_frames, .int c_stationCount, .int c_linkCount, .int c_messageCount, .int c_time, .int c_life, .int c_tries, .int c_x])), (a_this_messages, .inr (4, [.int (24 : Int32), .int (12 : Int32), .ref a_this_messages_cells])), (a_this_messages_cells, .inl (k 0, 288, .inl t7)), (a_this_copies, .inr (4, [.int (192 : Int32), .int (5 : Int32), .ref a_this_copies_cells])), (a_this_copies_cells, .inl (k 0, 960, .inl t10)), (a_this_log, .inr (0, [.ref a_this_log_events, .int c_log_first, .int c_log_size])), (a_this_log_events, .inr (4, [.int (40 : Int32), .int (5 : Int32), .ref a_this_log_events_cells])), (a_this_log_events_cells, .inl (k 0, 200, .inl c_log_events))] rfl rfl rfl rfl ⟨rfl, rfl, rn_Bw (wr := [(a_this, .inr (2, [.ref a_this_stations, .ref a_this_links, .ref a_this_messages, .ref a_this_copies, .ref a_this_log, .ref a_this_ways, .ref a_this_frames, .int c_stationCount, .int c_linkCount, .int c_messageCount, .int c_time, .int c_life, .int c_tries, .int c_x])), (a_this_messages, .inr (4, [.int (24 : Int32), .int (12 : Int32), .ref a_this_messages_cells])), (a_this_messages_cells, .inl (k 0, 288, .inl t7)), (a_this_log, .inr (0, [.ref a_this_log_events, .int c_log_first, .int c_log_size])), (a_this_log_events, .inr (4, [.int (40 : Int32), .int (5 : Int32), .ref a_this_log_events_cells])), (a_this_log_events_cells, .inl (k 0, 200, .inl c_log_events))]) rfl rfl, rfl, rfl⟩ (rn_r hR rfl) rn_cs hl.1 rfl (Nat.le_of_ble_eq_true rfl) dX2_newMessage_114 (fun H locs hW => ?_)
  refine lv_aload_n hx hb dX2_newMessage_117 rfl (lv_at hl 2 rfl) ?_
  refine rr_get X hW 0 3 gf_X2_26 rfl rfl dX2_newMessage_118 ?_
  refine lv_iload hx hb dX2_newMessage_121 (lv_at hl 0 rfl) ?_
  refine lv_iconst (v := 3) hx hb dX2_newMessage_123 (by decide) ?_
  refine lv_iconst (v := 1) hx hb dX2_newMessage_124 (by decide) ?_
  obtain ⟨t11, ht11, hf⟩ := rn_bind hf
  refine rr_callV (As := [.int t8, .int (3 : Int32), .int (1 : Int32)]) (rest := []) X hW (kX4_set l D k z a_this_copies a_this_copies_cells (192 : Int32) (5 : Int32) 960 t10 t8 (3 : Int32) (1 : Int32) ht11) gm_X4_set gl_X2_91 [3, 4] [0, 1, 2, 5, 6, 7] [(a_this, .inr (2, [.ref a_this_stations, .ref a_this_links, .ref a_this_messages, .ref a_this_copies, .ref a_this_log, .ref a_this_ways, .ref a_this_frames, .int c_stationCount, .int c_linkCount, .int c_messageCount, .int c_time, .int c_life, .int c_tries, .int c_x])), (a_this_messages, .inr (4, [.int (24 : Int32), .int (12 : Int32), .ref a_this_messages_cells])), (a_this_messages_cells, .inl (k 0, 288, .inl t7)), (a_this_copies, .inr (4, [.int (192 : Int32), .int (5 : Int32), .ref a_this_copies_cells])), (a_this_copies_cells, .inl (k 0, 960, .inl t11)), (a_this_log, .inr (0, [.ref a_this_log_events, .int c_log_first, .int c_log_size])), (a_this_log_events, .inr (4, [.int (40 : Int32), .int (5 : Int32), .ref a_this_log_events_cells])), (a_this_log_events_cells, .inl (k 0, 200, .inl c_log_events))] rfl rfl rfl rfl ⟨rfl, rfl, rn_Bw (wr := [(a_this, .inr (2, [.ref a_this_stations, .ref a_this_links, .ref a_this_messages, .ref a_this_copies, .ref a_this_log, .ref a_this_ways, .ref a_this_frames, .int c_stationCount, .int c_linkCount, .int c_messageCount, .int c_time, .int c_life, .int c_tries, .int c_x])), (a_this_messages, .inr (4, [.int (24 : Int32), .int (12 : Int32), .ref a_this_messages_cells])), (a_this_messages_cells, .inl (k 0, 288, .inl t7)), (a_this_log, .inr (0, [.ref a_this_log_events, .int c_log_first, .int c_log_size])), (a_this_log_events, .inr (4, [.int (40 : Int32), .int (5 : Int32), .ref a_this_log_events_cells])), (a_this_log_events_cells, .inl (k 0, 200, .inl c_log_events))]) rfl rfl, rfl, rfl⟩ (rn_r hR rfl) rn_cs hl.1 rfl (Nat.le_of_ble_eq_true rfl) dX2_newMessage_125 (fun H locs hW => ?_)
  refine lv_aload_n hx hb dX2_newMessage_128 rfl (lv_at hl 2 rfl) ?_
  refine rr_get X hW 0 3 gf_X2_26 rfl rfl dX2_newMessage_129 ?_
  refine lv_iload hx hb dX2_newMessage_132 (lv_at hl 0 rfl) ?_
  refine lv_iconst (v := 4) hx hb dX2_newMessage_134 (by decide) ?_
  refine lv_iload_n hx hb dX2_newMessage_135 rfl (lv_at hl 3 rfl) ?_
  obtain ⟨t12, ht12, hf⟩ := rn_bind hf
  refine rr_callV (As := [.int t8, .int (4 : Int32), .int i1]) (rest := []) X hW (kX4_set l D k z a_this_copies a_this_copies_cells (192 : Int32) (5 : Int32) 960 t11 t8 (4 : Int32) i1 ht12) gm_X4_set gl_X2_91 [3, 4] [0, 1, 2, 5, 6, 7] [(a_this, .inr (2, [.ref a_this_stations, .ref a_this_links, .ref a_this_messages, .ref a_this_copies, .ref a_this_log, .ref a_this_ways, .ref a_this_frames, .int c_stationCount, .int c_linkCount, .int c_messageCount, .int c_time, .int c_life, .int c_tries, .int c_x])), (a_this_messages, .inr (4, [.int (24 : Int32), .int (12 : Int32), .ref a_this_messages_cells])), (a_this_messages_cells, .inl (k 0, 288, .inl t7)), (a_this_copies, .inr (4, [.int (192 : Int32), .int (5 : Int32), .ref a_this_copies_cells])), (a_this_copies_cells, .inl (k 0, 960, .inl t12)), (a_this_log, .inr (0, [.ref a_this_log_events, .int c_log_first, .int c_log_size])), (a_this_log_events, .inr (4, [.int (40 : Int32), .int (5 : Int32), .ref a_this_log_events_cells])), (a_this_log_events_cells, .inl (k 0, 200, .inl c_log_events))] rfl rfl rfl rfl ⟨rfl, rfl, rn_Bw (wr := [(a_this, .inr (2, [.ref a_this_stations, .ref a_this_links, .ref a_this_messages, .ref a_this_copies, .ref a_this_log, .ref a_this_ways, .ref a_this_frames, .int c_stationCount, .int c_linkCount, .int c_messageCount, .int c_time, .int c_life, .int c_tries, .int c_x])), (a_this_messages, .inr (4, [.int (24 : Int32), .int (12 : Int32), .ref a_this_messages_cells])), (a_this_messages_cells, .inl (k 0, 288, .inl t7)), (a_this_log, .inr (0, [.ref a_this_log_events, .int c_log_first, .int c_log_size])), (a_this_log_events, .inr (4, [.int (40 : Int32), .int (5 : Int32), .ref a_this_log_events_cells])), (a_this_log_events_cells, .inl (k 0, 200, .inl c_log_events))]) rfl rfl, rfl, rfl⟩ (rn_r hR rfl) rn_cs hl.1 rfl (Nat.le_of_ble_eq_true rfl) dX2_newMessage_136 (fun H locs hW => ?_)
  refine lv_aload_n hx hb dX2_newMessage_139 rfl (lv_at hl 2 rfl) ?_
  refine lv_dup hx hb dX2_newMessage_140 rfl ?_
  refine rr_get X hW 0 9 gf_X2_53 rfl rfl dX2_newMessage_141 ?_
  refine lv_iconst (v := 1) hx hb dX2_newMessage_144 (by decide) ?_
  refine lv_iadd hx hb dX2_newMessage_145 ?_
  refine rr_put X hW 0 9 gp_X2_53 rfl rfl rfl (Nat.le_of_ble_eq_true rfl) (ws' := [(a_this, .inr (2, [.ref a_this_stations, .ref a_this_links, .ref a_this_messages, .ref a_this_copies, .ref a_this_log, .ref a_this_ways, .ref a_this_frames, .int c_stationCount, .int c_linkCount, .int (c_messageCount + (1 : Int32)), .int c_time, .int c_life, .int c_tries, .int c_x])), (a_this_messages, .inr (4, [.int (24 : Int32), .int (12 : Int32), .ref a_this_messages_cells])), (a_this_messages_cells, .inl (k 0, 288, .inl t7)), (a_this_copies, .inr (4, [.int (192 : Int32), .int (5 : Int32), .ref a_this_copies_cells])), (a_this_copies_cells, .inl (k 0, 960, .inl t12)), (a_this_log, .inr (0, [.ref a_this_log_events, .int c_log_first, .int c_log_size])), (a_this_log_events, .inr (4, [.int (40 : Int32), .int (5 : Int32), .ref a_this_log_events_cells])), (a_this_log_events_cells, .inl (k 0, 200, .inl c_log_events))]) rfl dX2_newMessage_146 (fun H locs hW => ?_)
  refine lv_aload_n hx hb dX2_newMessage_149 rfl (lv_at hl 2 rfl) ?_
  refine rr_get X hW 0 4 gf_X2_32 rfl rfl dX2_newMessage_150 ?_
  refine lv_aload_n hx hb dX2_newMessage_153 rfl (lv_at hl 2 rfl) ?_
  refine rr_get X hW 0 10 gf_X2_56 rfl rfl dX2_newMessage_154 ?_
  refine lv_iconst (v := 0) hx hb dX2_newMessage_157 (by decide) ?_
  refine lv_iload hx hb dX2_newMessage_158 (lv_at hl 1 rfl) ?_
  refine lv_iload_n hx hb dX2_newMessage_160 rfl (lv_at hl 3 rfl) ?_
  refine lv_iconst (v := -1) hx hb dX2_newMessage_161 (by decide) ?_
  obtain ⟨t13, ht13, hf⟩ := rn_bind hf
  refine rr_callV (As := [.int c_time, .int (0 : Int32), .int c_messageCount, .int i1, .int (-1 : Int32)]) (rest := []) X hW (kX0_add l D k z a_this_log a_this_log_events a_this_log_events_cells c_log_first c_log_size c_log_events c_time (0 : Int32) c_messageCount i1 (-1 : Int32) ht13) gm_X0_add gl_X2_101 [5, 6, 7] [0, 1, 2, 3, 4] [(a_this, .inr (2, [.ref a_this_stations, .ref a_this_links, .ref a_this_messages, .ref a_this_copies, .ref a_this_log, .ref a_this_ways, .ref a_this_frames, .int c_stationCount, .int c_linkCount, .int (c_messageCount + (1 : Int32)), .int c_time, .int c_life, .int c_tries, .int c_x])), (a_this_messages, .inr (4, [.int (24 : Int32), .int (12 : Int32), .ref a_this_messages_cells])), (a_this_messages_cells, .inl (k 0, 288, .inl t7)), (a_this_copies, .inr (4, [.int (192 : Int32), .int (5 : Int32), .ref a_this_copies_cells])), (a_this_copies_cells, .inl (k 0, 960, .inl t12)), (a_this_log, .inr (0, [.ref a_this_log_events, .int t13.1, .int t13.2.1])), (a_this_log_events, .inr (4, [.int (40 : Int32), .int (5 : Int32), .ref a_this_log_events_cells])), (a_this_log_events_cells, .inl (k 0, 200, .inl t13.2.2))] rfl rfl rfl rfl ⟨rfl, rfl, rn_Bw (wr := [(a_this, .inr (2, [.ref a_this_stations, .ref a_this_links, .ref a_this_messages, .ref a_this_copies, .ref a_this_log, .ref a_this_ways, .ref a_this_frames, .int c_stationCount, .int c_linkCount, .int (c_messageCount + (1 : Int32)), .int c_time, .int c_life, .int c_tries, .int c_x])), (a_this_messages, .inr (4, [.int (24 : Int32), .int (12 : Int32), .ref a_this_messages_cells])), (a_this_messages_cells, .inl (k 0, 288, .inl t7)), (a_this_copies, .inr (4, [.int (192 : Int32), .int (5 : Int32), .ref a_this_copies_cells])), (a_this_copies_cells, .inl (k 0, 960, .inl t12))]) rfl rfl, rfl, rfl⟩ (rn_r hR rfl) rn_cs hl.1 rfl (Nat.le_of_ble_eq_true rfl) dX2_newMessage_162 (fun H locs hW => ?_)
  refine lv_iload hx hb dX2_newMessage_165 (lv_at hl 1 rfl) ?_
  cases hf
  exact hE _ _ _ _ hW rfl dX2_newMessage_167
def lX2_linkBetween_2 (c_linkCount : Int32) (c_links : Nat → Int32) (i1 : Int32) (i2 : Int32) : Nat → Int32 → Option (Int32)
  | 0, _ => none
  | n+1, x3_2 =>
    if c_linkCount ≤ x3_2 then
      some (-1 : Int32)
    else
    (fX4_get (16 : Int32) (9 : Int32) 144 c_links x3_2 (0 : Int32)).bind fun t2 =>
    (fX4_get (16 : Int32) (9 : Int32) 144 c_links x3_2 (1 : Int32)).bind fun t3 =>
    if t2 = i1 then
      if t3 = i2 then
        some x3_2
      else
      if t2 = i2 then
        if t3 = i1 then
          some x3_2
        else
        lX2_linkBetween_2 c_linkCount c_links i1 i2 n (x3_2 + (1 : Int32))
      else
      lX2_linkBetween_2 c_linkCount c_links i1 i2 n (x3_2 + (1 : Int32))
    else
    if t2 = i2 then
      if t3 = i1 then
        some x3_2
      else
      lX2_linkBetween_2 c_linkCount c_links i1 i2 n (x3_2 + (1 : Int32))
    else
    lX2_linkBetween_2 c_linkCount c_links i1 i2 n (x3_2 + (1 : Int32))
def fX2_linkBetween (N : Nat) (c_linkCount : Int32) (c_links : Nat → Int32) (i1 : Int32) (i2 : Int32) : Option (Int32) :=
  lX2_linkBetween_2 c_linkCount c_links i1 i2 N (0 : Int32)
set_option maxHeartbeats 4000000 in
set_option maxRecDepth 20000 in
theorem kX2_linkBetween (l : Launch) (D : va_G) (k : Nat → ClassId) (z : (Nat → Nat) × (Nat → Nat)) (N : Nat) (a_this : Nat) (a_this_stations : Nat) (a_this_links : Nat) (a_this_messages : Nat) (a_this_copies : Nat) (a_this_log : Nat) (a_this_ways : Nat) (a_this_frames : Nat) (a_this_links_cells : Nat) (c_stationCount : Int32) (c_linkCount : Int32) (c_messageCount : Int32) (c_time : Int32) (c_life : Int32) (c_tries : Int32) (c_x : Int32) (c_links : Nat → Int32) (i1 : Int32) (i2 : Int32) {u : Int32} (hf : fX2_linkBetween N c_linkCount c_links i1 i2 = some u) : rn_KI l D k z yX2_linkBetween cX2_linkBetween 6 .int 1 23 [.ref a_this, .int i1, .int i2] [(a_this, .inr (2, [.ref a_this_stations, .ref a_this_links, .ref a_this_messages, .ref a_this_copies, .ref a_this_log, .ref a_this_ways, .ref a_this_frames, .int c_stationCount, .int c_linkCount, .int c_messageCount, .int c_time, .int c_life, .int c_tries, .int c_x])), (a_this_links, .inr (4, [.int (16 : Int32), .int (9 : Int32), .ref a_this_links_cells])), (a_this_links_cells, .inl (k 0, 144, .inl c_links))] [(a_this, .inr (2, [.ref a_this_stations, .ref a_this_links, .ref a_this_messages, .ref a_this_copies, .ref a_this_log, .ref a_this_ways, .ref a_this_frames, .int c_stationCount, .int c_linkCount, .int c_messageCount, .int c_time, .int c_life, .int c_tries, .int c_x])), (a_this_links, .inr (4, [.int (16 : Int32), .int (9 : Int32), .ref a_this_links_cells])), (a_this_links_cells, .inl (k 0, 144, .inl c_links))] u := by
  refine rn_KI.go (LOC := [(0, .ref a_this), (1, .int i1), (2, .int i2)]) rfl (by decide) (Nat.le_of_ble_eq_true rfl) rfl ?_
  intro p e s m args below meth c A ls R Q X hR hE hW hl
  have hx := X.1.1
  have hb := X.1.2.1
  unfold fX2_linkBetween at hf
  refine lv_iconst (v := 0) hx hb dX2_linkBetween_0 (by decide) ?_
  refine lv_istore_n (lv' := [(3, .int (0 : Int32)), (0, .ref a_this), (1, .int i1), (2, .int i2)]) hx hb dX2_linkBetween_1 rfl hl (Nat.le_of_ble_eq_true rfl) rfl (fun ls hl => ?_)
  have lp_2 : ∀ (n : Nat) (x3_2 : Int32) (H : Heap) (locs : List Loc) (ls : Array Slot), lX2_linkBetween_2 c_linkCount c_links i1 i2 n x3_2 = some u → rn_W D A s [(a_this, .inr (2, [.ref a_this_stations, .ref a_this_links, .ref a_this_messages, .ref a_this_copies, .ref a_this_log, .ref a_this_ways, .ref a_this_frames, .int c_stationCount, .int c_linkCount, .int c_messageCount, .int c_time, .int c_life, .int c_tries, .int c_x])), (a_this_links, .inr (4, [.int (16 : Int32), .int (9 : Int32), .ref a_this_links_cells])), (a_this_links_cells, .inl (k 0, 144, .inl c_links))] H locs → lv_has ls 6 [(0, .ref a_this), (1, .int i1), (2, .int i2), (3, .int x3_2)] → W p l e R s m args below meth c H locs 0 0 Q (F0 m 2 ls []) := by
    intro n
    induction n with
    | zero => intro x3_2 H locs ls hf; exact absurd hf (by rw [lX2_linkBetween_2]; exact fun h => nomatch h)
    | succ n ih_2 =>
      intro x3_2 H locs ls hf hW hl
      rw [lX2_linkBetween_2] at hf
      refine lv_iload_n hx hb dX2_linkBetween_2 rfl (lv_at hl 3 rfl) ?_
      refine lv_aload_n hx hb dX2_linkBetween_3 rfl (lv_at hl 0 rfl) ?_
      refine rr_get X hW 0 8 gf_X2_50 rfl rfl dX2_linkBetween_4 ?_
      refine lv_icmp_ge (tgt := 64) hx hb dX2_linkBetween_7 (by decide) (fun hc1 => ?_) (fun hc1 => ?_)
      · replace hf := rn_t hf hc1
        refine lv_iconst (v := -1) hx hb dX2_linkBetween_64 (by decide) ?_
        cases hf
        exact hE _ _ _ _ hW rfl dX2_linkBetween_65
      · replace hf := rn_f hf hc1
        refine lv_aload_n hx hb dX2_linkBetween_10 rfl (lv_at hl 0 rfl) ?_
        refine rr_get X hW 0 1 gf_X2_20 rfl rfl dX2_linkBetween_11 ?_
        refine lv_iload_n hx hb dX2_linkBetween_14 rfl (lv_at hl 3 rfl) ?_
        refine lv_iconst (v := 0) hx hb dX2_linkBetween_15 (by decide) ?_
        obtain ⟨t2, ht2, hf⟩ := rn_bind hf
        refine rr_callI (As := [.int x3_2, .int (0 : Int32)]) (rest := []) X hW (kX4_get l D k z a_this_links a_this_links_cells (16 : Int32) (9 : Int32) 144 c_links x3_2 (0 : Int32) ht2) gm_X4_get gl_X2_105 [1, 2] [0] [(a_this, .inr (2, [.ref a_this_stations, .ref a_this_links, .ref a_this_messages, .ref a_this_copies, .ref a_this_log, .ref a_this_ways, .ref a_this_frames, .int c_stationCount, .int c_linkCount, .int c_messageCount, .int c_time, .int c_life, .int c_tries, .int c_x])), (a_this_links, .inr (4, [.int (16 : Int32), .int (9 : Int32), .ref a_this_links_cells])), (a_this_links_cells, .inl (k 0, 144, .inl c_links))] rfl rfl rfl rfl ⟨rfl, rfl, rn_Bw (wr := [(a_this, .inr (2, [.ref a_this_stations, .ref a_this_links, .ref a_this_messages, .ref a_this_copies, .ref a_this_log, .ref a_this_ways, .ref a_this_frames, .int c_stationCount, .int c_linkCount, .int c_messageCount, .int c_time, .int c_life, .int c_tries, .int c_x]))]) rfl rfl, rfl, rfl⟩ (rn_r hR rfl) rn_cs hl.1 rfl (Nat.le_of_ble_eq_true rfl) dX2_linkBetween_16 (fun hn2 H locs hW => ?_)
        refine lv_istore (lv' := [(4, .int t2), (0, .ref a_this), (1, .int i1), (2, .int i2), (3, .int x3_2)]) hx hb dX2_linkBetween_19 hl (Nat.le_of_ble_eq_true rfl) rfl (fun ls hl => ?_)
        refine lv_aload_n hx hb dX2_linkBetween_21 rfl (lv_at hl 1 rfl) ?_
        refine rr_get X hW 0 1 gf_X2_20 rfl rfl dX2_linkBetween_22 ?_
        refine lv_iload_n hx hb dX2_linkBetween_25 rfl (lv_at hl 4 rfl) ?_
        refine lv_iconst (v := 1) hx hb dX2_linkBetween_26 (by decide) ?_
        obtain ⟨t3, ht3, hf⟩ := rn_bind hf
        refine rr_callI (As := [.int x3_2, .int (1 : Int32)]) (rest := []) X hW (kX4_get l D k z a_this_links a_this_links_cells (16 : Int32) (9 : Int32) 144 c_links x3_2 (1 : Int32) ht3) gm_X4_get gl_X2_105 [1, 2] [0] [(a_this, .inr (2, [.ref a_this_stations, .ref a_this_links, .ref a_this_messages, .ref a_this_copies, .ref a_this_log, .ref a_this_ways, .ref a_this_frames, .int c_stationCount, .int c_linkCount, .int c_messageCount, .int c_time, .int c_life, .int c_tries, .int c_x])), (a_this_links, .inr (4, [.int (16 : Int32), .int (9 : Int32), .ref a_this_links_cells])), (a_this_links_cells, .inl (k 0, 144, .inl c_links))] rfl rfl rfl rfl ⟨rfl, rfl, rn_Bw (wr := [(a_this, .inr (2, [.ref a_this_stations, .ref a_this_links, .ref a_this_messages, .ref a_this_copies, .ref a_this_log, .ref a_this_ways, .ref a_this_frames, .int c_stationCount, .int c_linkCount, .int c_messageCount, .int c_time, .int c_life, .int c_tries, .int c_x]))]) rfl rfl, rfl, rfl⟩ (rn_r hR rfl) rn_cs hl.1 rfl (Nat.le_of_ble_eq_true rfl) dX2_linkBetween_27 (fun hn3 H locs hW => ?_)
        refine lv_istore (lv' := [(5, .int t3), (4, .int t2), (0, .ref a_this), (1, .int i1), (2, .int i2), (3, .int x3_2)]) hx hb dX2_linkBetween_30 hl (Nat.le_of_ble_eq_true rfl) rfl (fun ls hl => ?_)
        refine lv_iload hx hb dX2_linkBetween_32 (lv_at hl 1 rfl) ?_
        refine lv_iload_n hx hb dX2_linkBetween_34 rfl (lv_at hl 3 rfl) ?_
        refine lv_icmp_ne (tgt := 44) hx hb dX2_linkBetween_35 (by decide) (fun hc4 => ?_) (fun hc4 => ?_)
        · replace hf := rn_f hf hc4
          refine lv_iload hx hb dX2_linkBetween_44 (lv_at hl 1 rfl) ?_
          refine lv_iload_n hx hb dX2_linkBetween_46 rfl (lv_at hl 4 rfl) ?_
          refine lv_icmp_ne (tgt := 58) hx hb dX2_linkBetween_47 (by decide) (fun hc5 => ?_) (fun hc5 => ?_)
          · replace hf := rn_f hf hc5
            refine lv_iinc (v := (x3_2 + (1 : Int32))) (lv' := [(3, .int (x3_2 + (1 : Int32))), (5, .int t3), (4, .int t2), (0, .ref a_this), (1, .int i1), (2, .int i2)]) hx hb dX2_linkBetween_58 hl (k := 5) rfl (congrArg (fun q => _ + q) (by decide)) (Nat.le_of_ble_eq_true rfl) rfl (fun ls hl => ?_)
            refine lv_goto (tgt := 2) hx hb dX2_linkBetween_61 (by decide) ?_
            exact ih_2 (x3_2 + (1 : Int32)) _ _ _ hf hW (lv_sub hl [3, 4, 5, 0] rfl)
          · replace hf := rn_t hf hc5
            refine lv_iload hx hb dX2_linkBetween_50 (lv_at hl 0 rfl) ?_
            refine lv_iload_n hx hb dX2_linkBetween_52 rfl (lv_at hl 3 rfl) ?_
            refine lv_icmp_ne (tgt := 58) hx hb dX2_linkBetween_53 (by decide) (fun hc6 => ?_) (fun hc6 => ?_)
            · replace hf := rn_f hf hc6
              refine lv_iinc (v := (x3_2 + (1 : Int32))) (lv' := [(3, .int (x3_2 + (1 : Int32))), (5, .int t3), (4, .int t2), (0, .ref a_this), (1, .int i1), (2, .int i2)]) hx hb dX2_linkBetween_58 hl (k := 5) rfl (congrArg (fun q => _ + q) (by decide)) (Nat.le_of_ble_eq_true rfl) rfl (fun ls hl => ?_)
              refine lv_goto (tgt := 2) hx hb dX2_linkBetween_61 (by decide) ?_
              exact ih_2 (x3_2 + (1 : Int32)) _ _ _ hf hW (lv_sub hl [3, 4, 5, 0] rfl)
            · replace hf := rn_t hf hc6
              refine lv_iload_n hx hb dX2_linkBetween_56 rfl (lv_at hl 5 rfl) ?_
              cases hf
              exact hE _ _ _ _ hW rfl dX2_linkBetween_57
        · replace hf := rn_t hf hc4
          refine lv_iload hx hb dX2_linkBetween_38 (lv_at hl 0 rfl) ?_
          refine lv_iload_n hx hb dX2_linkBetween_40 rfl (lv_at hl 4 rfl) ?_
          refine lv_icmp_eq (tgt := 56) hx hb dX2_linkBetween_41 (by decide) (fun hc7 => ?_) (fun hc7 => ?_)
          · replace hf := rn_t hf hc7
            refine lv_iload_n hx hb dX2_linkBetween_56 rfl (lv_at hl 5 rfl) ?_
            cases hf
            exact hE _ _ _ _ hW rfl dX2_linkBetween_57
          · replace hf := rn_f hf hc7
            refine lv_iload hx hb dX2_linkBetween_44 (lv_at hl 1 rfl) ?_
            refine lv_iload_n hx hb dX2_linkBetween_46 rfl (lv_at hl 4 rfl) ?_
            refine lv_icmp_ne (tgt := 58) hx hb dX2_linkBetween_47 (by decide) (fun hc8 => ?_) (fun hc8 => ?_)
            · replace hf := rn_f hf hc8
              refine lv_iinc (v := (x3_2 + (1 : Int32))) (lv' := [(3, .int (x3_2 + (1 : Int32))), (5, .int t3), (4, .int t2), (0, .ref a_this), (1, .int i1), (2, .int i2)]) hx hb dX2_linkBetween_58 hl (k := 5) rfl (congrArg (fun q => _ + q) (by decide)) (Nat.le_of_ble_eq_true rfl) rfl (fun ls hl => ?_)
              refine lv_goto (tgt := 2) hx hb dX2_linkBetween_61 (by decide) ?_
              exact ih_2 (x3_2 + (1 : Int32)) _ _ _ hf hW (lv_sub hl [3, 4, 5, 0] rfl)
            · replace hf := rn_t hf hc8
              refine lv_iload hx hb dX2_linkBetween_50 (lv_at hl 0 rfl) ?_
              refine lv_iload_n hx hb dX2_linkBetween_52 rfl (lv_at hl 3 rfl) ?_
              refine lv_icmp_ne (tgt := 58) hx hb dX2_linkBetween_53 (by decide) (fun hc9 => ?_) (fun hc9 => ?_)
              · replace hf := rn_f hf hc9
                refine lv_iinc (v := (x3_2 + (1 : Int32))) (lv' := [(3, .int (x3_2 + (1 : Int32))), (5, .int t3), (4, .int t2), (0, .ref a_this), (1, .int i1), (2, .int i2)]) hx hb dX2_linkBetween_58 hl (k := 5) rfl (congrArg (fun q => _ + q) (by decide)) (Nat.le_of_ble_eq_true rfl) rfl (fun ls hl => ?_)
                refine lv_goto (tgt := 2) hx hb dX2_linkBetween_61 (by decide) ?_
                exact ih_2 (x3_2 + (1 : Int32)) _ _ _ hf hW (lv_sub hl [3, 4, 5, 0] rfl)
              · replace hf := rn_t hf hc9
                refine lv_iload_n hx hb dX2_linkBetween_56 rfl (lv_at hl 5 rfl) ?_
                cases hf
                exact hE _ _ _ _ hW rfl dX2_linkBetween_57
  exact lp_2 N (0 : Int32) _ _ _ hf hW (lv_sub hl [1, 2, 3, 0] rfl)
def fX2_isWithin (i0 : Int32) (i1 : Int32) (i2 : Int32) : Option (Int32) :=
  if i1 < i0 then
    if i0 ≤ i2 then
      some (1 : Int32)
    else
    if i1 < i2 then
      some (0 : Int32)
    else
    some (1 : Int32)
  else
  if i2 < i0 then
    some (0 : Int32)
  else
  if i1 < i2 then
    some (0 : Int32)
  else
  some (1 : Int32)
set_option maxHeartbeats 4000000 in
set_option maxRecDepth 20000 in
theorem kX2_isWithin (l : Launch) (D : va_G) (k : Nat → ClassId) (z : (Nat → Nat) × (Nat → Nat)) (i0 : Int32) (i1 : Int32) (i2 : Int32) {u : Int32} (hf : fX2_isWithin i0 i1 i2 = some u) : rn_KI l D k z yX2_isWithin cX2_isWithin 3 .boolean 0 0 [.int i0, .int i1, .int i2] [] [] u := by
  refine rn_KI.go (LOC := [(0, .int i0), (1, .int i1), (2, .int i2)]) rfl (by decide) (Nat.le_of_ble_eq_true rfl) rfl ?_
  intro p e s m args below meth c A ls R Q X hR hE hW hl
  have hx := X.1.1
  have hb := X.1.2.1
  unfold fX2_isWithin at hf
  refine lv_iload_n hx hb dX2_isWithin_0 rfl (lv_at hl 0 rfl) ?_
  refine lv_iload_n hx hb dX2_isWithin_1 rfl (lv_at hl 1 rfl) ?_
  refine lv_icmp_gt (tgt := 23) hx hb dX2_isWithin_2 (by decide) (fun hc1 => ?_) (fun hc1 => ?_)
  · replace hf := rn_t hf hc1
    refine lv_iload_n hx hb dX2_isWithin_23 rfl (lv_at hl 0 rfl) ?_
    refine lv_iload_n hx hb dX2_isWithin_24 rfl (lv_at hl 2 rfl) ?_
    refine lv_icmp_le (tgt := 33) hx hb dX2_isWithin_25 (by decide) (fun hc2 => ?_) (fun hc2 => ?_)
    · replace hf := rn_t hf hc2
      refine lv_iconst (v := 1) hx hb dX2_isWithin_33 (by decide) ?_
      refine lv_goto (tgt := 38) hx hb dX2_isWithin_34 (by decide) ?_
      cases hf
      exact hE _ _ _ _ hW (show narrow .boolean (.int (1 : Int32)) = .int (1 : Int32) from rfl) dX2_isWithin_38
    · replace hf := rn_f hf hc2
      refine lv_iload_n hx hb dX2_isWithin_28 rfl (lv_at hl 2 rfl) ?_
      refine lv_iload_n hx hb dX2_isWithin_29 rfl (lv_at hl 1 rfl) ?_
      refine lv_icmp_gt (tgt := 37) hx hb dX2_isWithin_30 (by decide) (fun hc3 => ?_) (fun hc3 => ?_)
      · replace hf := rn_t hf hc3
        refine lv_iconst (v := 0) hx hb dX2_isWithin_37 (by decide) ?_
        cases hf
        exact hE _ _ _ _ hW (show narrow .boolean (.int (0 : Int32)) = .int (0 : Int32) from rfl) dX2_isWithin_38
      · replace hf := rn_f hf hc3
        refine lv_iconst (v := 1) hx hb dX2_isWithin_33 (by decide) ?_
        refine lv_goto (tgt := 38) hx hb dX2_isWithin_34 (by decide) ?_
        cases hf
        exact hE _ _ _ _ hW (show narrow .boolean (.int (1 : Int32)) = .int (1 : Int32) from rfl) dX2_isWithin_38
  · replace hf := rn_f hf hc1
    refine lv_iload_n hx hb dX2_isWithin_5 rfl (lv_at hl 0 rfl) ?_
    refine lv_iload_n hx hb dX2_isWithin_6 rfl (lv_at hl 2 rfl) ?_
    refine lv_icmp_gt (tgt := 19) hx hb dX2_isWithin_7 (by decide) (fun hc4 => ?_) (fun hc4 => ?_)
    · replace hf := rn_t hf hc4
      refine lv_iconst (v := 0) hx hb dX2_isWithin_19 (by decide) ?_
      refine lv_goto (tgt := 38) hx hb dX2_isWithin_20 (by decide) ?_
      cases hf
      exact hE _ _ _ _ hW (show narrow .boolean (.int (0 : Int32)) = .int (0 : Int32) from rfl) dX2_isWithin_38
    · replace hf := rn_f hf hc4
      refine lv_iload_n hx hb dX2_isWithin_10 rfl (lv_at hl 2 rfl) ?_
      refine lv_iload_n hx hb dX2_isWithin_11 rfl (lv_at hl 1 rfl) ?_
      refine lv_icmp_gt (tgt := 19) hx hb dX2_isWithin_12 (by decide) (fun hc5 => ?_) (fun hc5 => ?_)
      · replace hf := rn_t hf hc5
        refine lv_iconst (v := 0) hx hb dX2_isWithin_19 (by decide) ?_
        refine lv_goto (tgt := 38) hx hb dX2_isWithin_20 (by decide) ?_
        cases hf
        exact hE _ _ _ _ hW (show narrow .boolean (.int (0 : Int32)) = .int (0 : Int32) from rfl) dX2_isWithin_38
      · replace hf := rn_f hf hc5
        refine lv_iconst (v := 1) hx hb dX2_isWithin_15 (by decide) ?_
        refine lv_goto (tgt := 38) hx hb dX2_isWithin_16 (by decide) ?_
        cases hf
        exact hE _ _ _ _ hW (show narrow .boolean (.int (1 : Int32)) = .int (1 : Int32) from rfl) dX2_isWithin_38
def fX2_isOnAir (c_stations : Nat → Int32) (i1 : Int32) (i2 : Int32) : Option (Int32) :=
  (fX4_get (8 : Int32) (10 : Int32) 80 c_stations i1 (0 : Int32)).bind fun t1 =>
  (fX4_get (8 : Int32) (10 : Int32) 80 c_stations i1 (1 : Int32)).bind fun t2 =>
  (fX2_isWithin t1 t2 i2).bind fun t3 =>
  some t3
set_option maxHeartbeats 4000000 in
set_option maxRecDepth 20000 in
theorem kX2_isOnAir (l : Launch) (D : va_G) (k : Nat → ClassId) (z : (Nat → Nat) × (Nat → Nat)) (a_this : Nat) (a_this_stations : Nat) (a_this_links : Nat) (a_this_messages : Nat) (a_this_copies : Nat) (a_this_log : Nat) (a_this_ways : Nat) (a_this_frames : Nat) (a_this_stations_cells : Nat) (c_stationCount : Int32) (c_linkCount : Int32) (c_messageCount : Int32) (c_time : Int32) (c_life : Int32) (c_tries : Int32) (c_x : Int32) (c_stations : Nat → Int32) (i1 : Int32) (i2 : Int32) {u : Int32} (hf : fX2_isOnAir c_stations i1 i2 = some u) : rn_KI l D k z yX2_isOnAir cX2_isOnAir 3 .boolean 1 23 [.ref a_this, .int i1, .int i2] [(a_this, .inr (2, [.ref a_this_stations, .ref a_this_links, .ref a_this_messages, .ref a_this_copies, .ref a_this_log, .ref a_this_ways, .ref a_this_frames, .int c_stationCount, .int c_linkCount, .int c_messageCount, .int c_time, .int c_life, .int c_tries, .int c_x])), (a_this_stations, .inr (4, [.int (8 : Int32), .int (10 : Int32), .ref a_this_stations_cells])), (a_this_stations_cells, .inl (k 0, 80, .inl c_stations))] [(a_this, .inr (2, [.ref a_this_stations, .ref a_this_links, .ref a_this_messages, .ref a_this_copies, .ref a_this_log, .ref a_this_ways, .ref a_this_frames, .int c_stationCount, .int c_linkCount, .int c_messageCount, .int c_time, .int c_life, .int c_tries, .int c_x])), (a_this_stations, .inr (4, [.int (8 : Int32), .int (10 : Int32), .ref a_this_stations_cells])), (a_this_stations_cells, .inl (k 0, 80, .inl c_stations))] u := by
  refine rn_KI.go (LOC := [(0, .ref a_this), (1, .int i1), (2, .int i2)]) rfl (by decide) (Nat.le_of_ble_eq_true rfl) rfl ?_
  intro p e s m args below meth c A ls R Q X hR hE hW hl
  have hx := X.1.1
  have hb := X.1.2.1
  unfold fX2_isOnAir at hf
  refine lv_aload_n hx hb dX2_isOnAir_0 rfl (lv_at hl 0 rfl) ?_
  refine rr_get X hW 0 0 gf_X2_14 rfl rfl dX2_isOnAir_1 ?_
  refine lv_iload_n hx hb dX2_isOnAir_4 rfl (lv_at hl 1 rfl) ?_
  refine lv_iconst (v := 0) hx hb dX2_isOnAir_5 (by decide) ?_
  obtain ⟨t1, ht1, hf⟩ := rn_bind hf
  refine rr_callI (As := [.int i1, .int (0 : Int32)]) (rest := []) X hW (kX4_get l D k z a_this_stations a_this_stations_cells (8 : Int32) (10 : Int32) 80 c_stations i1 (0 : Int32) ht1) gm_X4_get gl_X2_105 [1, 2] [0] [(a_this, .inr (2, [.ref a_this_stations, .ref a_this_links, .ref a_this_messages, .ref a_this_copies, .ref a_this_log, .ref a_this_ways, .ref a_this_frames, .int c_stationCount, .int c_linkCount, .int c_messageCount, .int c_time, .int c_life, .int c_tries, .int c_x])), (a_this_stations, .inr (4, [.int (8 : Int32), .int (10 : Int32), .ref a_this_stations_cells])), (a_this_stations_cells, .inl (k 0, 80, .inl c_stations))] rfl rfl rfl rfl ⟨rfl, rfl, rn_Bw (wr := [(a_this, .inr (2, [.ref a_this_stations, .ref a_this_links, .ref a_this_messages, .ref a_this_copies, .ref a_this_log, .ref a_this_ways, .ref a_this_frames, .int c_stationCount, .int c_linkCount, .int c_messageCount, .int c_time, .int c_life, .int c_tries, .int c_x]))]) rfl rfl, rfl, rfl⟩ (rn_r hR rfl) rn_cs hl.1 rfl (Nat.le_of_ble_eq_true rfl) dX2_isOnAir_6 (fun hn1 H locs hW => ?_)
  refine lv_aload_n hx hb dX2_isOnAir_9 rfl (lv_at hl 0 rfl) ?_
  refine rr_get X hW 0 0 gf_X2_14 rfl rfl dX2_isOnAir_10 ?_
  refine lv_iload_n hx hb dX2_isOnAir_13 rfl (lv_at hl 1 rfl) ?_
  refine lv_iconst (v := 1) hx hb dX2_isOnAir_14 (by decide) ?_
  obtain ⟨t2, ht2, hf⟩ := rn_bind hf
  refine rr_callI (As := [.int i1, .int (1 : Int32)]) (rest := [.int t1]) X hW (kX4_get l D k z a_this_stations a_this_stations_cells (8 : Int32) (10 : Int32) 80 c_stations i1 (1 : Int32) ht2) gm_X4_get gl_X2_105 [1, 2] [0] [(a_this, .inr (2, [.ref a_this_stations, .ref a_this_links, .ref a_this_messages, .ref a_this_copies, .ref a_this_log, .ref a_this_ways, .ref a_this_frames, .int c_stationCount, .int c_linkCount, .int c_messageCount, .int c_time, .int c_life, .int c_tries, .int c_x])), (a_this_stations, .inr (4, [.int (8 : Int32), .int (10 : Int32), .ref a_this_stations_cells])), (a_this_stations_cells, .inl (k 0, 80, .inl c_stations))] rfl rfl rfl rfl ⟨rfl, rfl, rn_Bw (wr := [(a_this, .inr (2, [.ref a_this_stations, .ref a_this_links, .ref a_this_messages, .ref a_this_copies, .ref a_this_log, .ref a_this_ways, .ref a_this_frames, .int c_stationCount, .int c_linkCount, .int c_messageCount, .int c_time, .int c_life, .int c_tries, .int c_x]))]) rfl rfl, rfl, rfl⟩ (rn_r hR rfl) rn_cs hl.1 rfl (Nat.le_of_ble_eq_true rfl) dX2_isOnAir_15 (fun hn2 H locs hW => ?_)
  refine lv_iload_n hx hb dX2_isOnAir_18 rfl (lv_at hl 2 rfl) ?_
  obtain ⟨t3, ht3, hf⟩ := rn_bind hf
  refine rr_scalI (As := [.int t1, .int t2, .int i2]) (rest := []) X hW (kX2_isWithin l D k z t1 t2 i2 ht3) gm_X2_isWithin gl_X2_201 [] [0, 1, 2] [(a_this, .inr (2, [.ref a_this_stations, .ref a_this_links, .ref a_this_messages, .ref a_this_copies, .ref a_this_log, .ref a_this_ways, .ref a_this_frames, .int c_stationCount, .int c_linkCount, .int c_messageCount, .int c_time, .int c_life, .int c_tries, .int c_x])), (a_this_stations, .inr (4, [.int (8 : Int32), .int (10 : Int32), .ref a_this_stations_cells])), (a_this_stations_cells, .inl (k 0, 80, .inl c_stations))] rfl rfl ⟨rfl, rfl, rn_Bw (wr := [(a_this, .inr (2, [.ref a_this_stations, .ref a_this_links, .ref a_this_messages, .ref a_this_copies, .ref a_this_log, .ref a_this_ways, .ref a_this_frames, .int c_stationCount, .int c_linkCount, .int c_messageCount, .int c_time, .int c_life, .int c_tries, .int c_x])), (a_this_stations, .inr (4, [.int (8 : Int32), .int (10 : Int32), .ref a_this_stations_cells])), (a_this_stations_cells, .inl (k 0, 80, .inl c_stations))]) rfl rfl, rfl, rfl⟩ (rn_r hR rfl) rn_cs hl.1 rfl (Nat.le_of_ble_eq_true rfl) dX2_isOnAir_19 (fun hn3 H locs hW => ?_)
  cases hf
  exact hE _ _ _ _ hW hn3 dX2_isOnAir_22
def fX2_isOpen (c_stations : Nat → Int32) (c_links : Nat → Int32) (i1 : Int32) (i2 : Int32) : Option (Int32) :=
  (fX4_get (16 : Int32) (9 : Int32) 144 c_links i1 (2 : Int32)).bind fun t1 =>
  (fX4_get (16 : Int32) (9 : Int32) 144 c_links i1 (3 : Int32)).bind fun t2 =>
  (fX2_isWithin t1 t2 i2).bind fun t3 =>
  if t3 = 0 then
    some (0 : Int32)
  else
  (fX4_get (16 : Int32) (9 : Int32) 144 c_links i1 (0 : Int32)).bind fun t5 =>
  (fX2_isOnAir c_stations t5 i2).bind fun t6 =>
  if t6 = 0 then
    some (0 : Int32)
  else
  (fX4_get (16 : Int32) (9 : Int32) 144 c_links i1 (1 : Int32)).bind fun t8 =>
  (fX2_isOnAir c_stations t8 i2).bind fun t9 =>
  if t9 = 0 then
    some (0 : Int32)
  else
  some (1 : Int32)
set_option maxHeartbeats 4000000 in
set_option maxRecDepth 20000 in
theorem kX2_isOpen (l : Launch) (D : va_G) (k : Nat → ClassId) (z : (Nat → Nat) × (Nat → Nat)) (a_this : Nat) (a_this_stations : Nat) (a_this_links : Nat) (a_this_messages : Nat) (a_this_copies : Nat) (a_this_log : Nat) (a_this_ways : Nat) (a_this_frames : Nat) (a_this_stations_cells : Nat) (a_this_links_cells : Nat) (c_stationCount : Int32) (c_linkCount : Int32) (c_messageCount : Int32) (c_time : Int32) (c_life : Int32) (c_tries : Int32) (c_x : Int32) (c_stations : Nat → Int32) (c_links : Nat → Int32) (i1 : Int32) (i2 : Int32) {u : Int32} (hf : fX2_isOpen c_stations c_links i1 i2 = some u) : rn_KI l D k z yX2_isOpen cX2_isOpen 3 .boolean 2 45 [.ref a_this, .int i1, .int i2] [(a_this, .inr (2, [.ref a_this_stations, .ref a_this_links, .ref a_this_messages, .ref a_this_copies, .ref a_this_log, .ref a_this_ways, .ref a_this_frames, .int c_stationCount, .int c_linkCount, .int c_messageCount, .int c_time, .int c_life, .int c_tries, .int c_x])), (a_this_stations, .inr (4, [.int (8 : Int32), .int (10 : Int32), .ref a_this_stations_cells])), (a_this_stations_cells, .inl (k 0, 80, .inl c_stations)), (a_this_links, .inr (4, [.int (16 : Int32), .int (9 : Int32), .ref a_this_links_cells])), (a_this_links_cells, .inl (k 0, 144, .inl c_links))] [(a_this, .inr (2, [.ref a_this_stations, .ref a_this_links, .ref a_this_messages, .ref a_this_copies, .ref a_this_log, .ref a_this_ways, .ref a_this_frames, .int c_stationCount, .int c_linkCount, .int c_messageCount, .int c_time, .int c_life, .int c_tries, .int c_x])), (a_this_stations, .inr (4, [.int (8 : Int32), .int (10 : Int32), .ref a_this_stations_cells])), (a_this_stations_cells, .inl (k 0, 80, .inl c_stations)), (a_this_links, .inr (4, [.int (16 : Int32), .int (9 : Int32), .ref a_this_links_cells])), (a_this_links_cells, .inl (k 0, 144, .inl c_links))] u := by
  refine rn_KI.go (LOC := [(0, .ref a_this), (1, .int i1), (2, .int i2)]) rfl (by decide) (Nat.le_of_ble_eq_true rfl) rfl ?_
  intro p e s m args below meth c A ls R Q X hR hE hW hl
  have hx := X.1.1
  have hb := X.1.2.1
  unfold fX2_isOpen at hf
  refine lv_aload_n hx hb dX2_isOpen_0 rfl (lv_at hl 0 rfl) ?_
  refine rr_get X hW 0 1 gf_X2_20 rfl rfl dX2_isOpen_1 ?_
  refine lv_iload_n hx hb dX2_isOpen_4 rfl (lv_at hl 1 rfl) ?_
  refine lv_iconst (v := 2) hx hb dX2_isOpen_5 (by decide) ?_
  obtain ⟨t1, ht1, hf⟩ := rn_bind hf
  refine rr_callI (As := [.int i1, .int (2 : Int32)]) (rest := []) X hW (kX4_get l D k z a_this_links a_this_links_cells (16 : Int32) (9 : Int32) 144 c_links i1 (2 : Int32) ht1) gm_X4_get gl_X2_105 [3, 4] [0, 1, 2] [(a_this, .inr (2, [.ref a_this_stations, .ref a_this_links, .ref a_this_messages, .ref a_this_copies, .ref a_this_log, .ref a_this_ways, .ref a_this_frames, .int c_stationCount, .int c_linkCount, .int c_messageCount, .int c_time, .int c_life, .int c_tries, .int c_x])), (a_this_stations, .inr (4, [.int (8 : Int32), .int (10 : Int32), .ref a_this_stations_cells])), (a_this_stations_cells, .inl (k 0, 80, .inl c_stations)), (a_this_links, .inr (4, [.int (16 : Int32), .int (9 : Int32), .ref a_this_links_cells])), (a_this_links_cells, .inl (k 0, 144, .inl c_links))] rfl rfl rfl rfl ⟨rfl, rfl, rn_Bw (wr := [(a_this, .inr (2, [.ref a_this_stations, .ref a_this_links, .ref a_this_messages, .ref a_this_copies, .ref a_this_log, .ref a_this_ways, .ref a_this_frames, .int c_stationCount, .int c_linkCount, .int c_messageCount, .int c_time, .int c_life, .int c_tries, .int c_x])), (a_this_stations, .inr (4, [.int (8 : Int32), .int (10 : Int32), .ref a_this_stations_cells])), (a_this_stations_cells, .inl (k 0, 80, .inl c_stations))]) rfl rfl, rfl, rfl⟩ (rn_r hR rfl) rn_cs hl.1 rfl (Nat.le_of_ble_eq_true rfl) dX2_isOpen_6 (fun hn1 H locs hW => ?_)
  refine lv_aload_n hx hb dX2_isOpen_9 rfl (lv_at hl 0 rfl) ?_
  refine rr_get X hW 0 1 gf_X2_20 rfl rfl dX2_isOpen_10 ?_
  refine lv_iload_n hx hb dX2_isOpen_13 rfl (lv_at hl 1 rfl) ?_
  refine lv_iconst (v := 3) hx hb dX2_isOpen_14 (by decide) ?_
  obtain ⟨t2, ht2, hf⟩ := rn_bind hf
  refine rr_callI (As := [.int i1, .int (3 : Int32)]) (rest := [.int t1]) X hW (kX4_get l D k z a_this_links a_this_links_cells (16 : Int32) (9 : Int32) 144 c_links i1 (3 : Int32) ht2) gm_X4_get gl_X2_105 [3, 4] [0, 1, 2] [(a_this, .inr (2, [.ref a_this_stations, .ref a_this_links, .ref a_this_messages, .ref a_this_copies, .ref a_this_log, .ref a_this_ways, .ref a_this_frames, .int c_stationCount, .int c_linkCount, .int c_messageCount, .int c_time, .int c_life, .int c_tries, .int c_x])), (a_this_stations, .inr (4, [.int (8 : Int32), .int (10 : Int32), .ref a_this_stations_cells])), (a_this_stations_cells, .inl (k 0, 80, .inl c_stations)), (a_this_links, .inr (4, [.int (16 : Int32), .int (9 : Int32), .ref a_this_links_cells])), (a_this_links_cells, .inl (k 0, 144, .inl c_links))] rfl rfl rfl rfl ⟨rfl, rfl, rn_Bw (wr := [(a_this, .inr (2, [.ref a_this_stations, .ref a_this_links, .ref a_this_messages, .ref a_this_copies, .ref a_this_log, .ref a_this_ways, .ref a_this_frames, .int c_stationCount, .int c_linkCount, .int c_messageCount, .int c_time, .int c_life, .int c_tries, .int c_x])), (a_this_stations, .inr (4, [.int (8 : Int32), .int (10 : Int32), .ref a_this_stations_cells])), (a_this_stations_cells, .inl (k 0, 80, .inl c_stations))]) rfl rfl, rfl, rfl⟩ (rn_r hR rfl) rn_cs hl.1 rfl (Nat.le_of_ble_eq_true rfl) dX2_isOpen_15 (fun hn2 H locs hW => ?_)
  refine lv_iload_n hx hb dX2_isOpen_18 rfl (lv_at hl 2 rfl) ?_
  obtain ⟨t3, ht3, hf⟩ := rn_bind hf
  refine rr_scalI (As := [.int t1, .int t2, .int i2]) (rest := []) X hW (kX2_isWithin l D k z t1 t2 i2 ht3) gm_X2_isWithin gl_X2_201 [] [0, 1, 2, 3, 4] [(a_this, .inr (2, [.ref a_this_stations, .ref a_this_links, .ref a_this_messages, .ref a_this_copies, .ref a_this_log, .ref a_this_ways, .ref a_this_frames, .int c_stationCount, .int c_linkCount, .int c_messageCount, .int c_time, .int c_life, .int c_tries, .int c_x])), (a_this_stations, .inr (4, [.int (8 : Int32), .int (10 : Int32), .ref a_this_stations_cells])), (a_this_stations_cells, .inl (k 0, 80, .inl c_stations)), (a_this_links, .inr (4, [.int (16 : Int32), .int (9 : Int32), .ref a_this_links_cells])), (a_this_links_cells, .inl (k 0, 144, .inl c_links))] rfl rfl ⟨rfl, rfl, rn_Bw (wr := [(a_this, .inr (2, [.ref a_this_stations, .ref a_this_links, .ref a_this_messages, .ref a_this_copies, .ref a_this_log, .ref a_this_ways, .ref a_this_frames, .int c_stationCount, .int c_linkCount, .int c_messageCount, .int c_time, .int c_life, .int c_tries, .int c_x])), (a_this_stations, .inr (4, [.int (8 : Int32), .int (10 : Int32), .ref a_this_stations_cells])), (a_this_stations_cells, .inl (k 0, 80, .inl c_stations)), (a_this_links, .inr (4, [.int (16 : Int32), .int (9 : Int32), .ref a_this_links_cells])), (a_this_links_cells, .inl (k 0, 144, .inl c_links))]) rfl rfl, rfl, rfl⟩ (rn_r hR rfl) rn_cs hl.1 rfl (Nat.le_of_ble_eq_true rfl) dX2_isOpen_19 (fun hn3 H locs hW => ?_)
  refine lv_if_eq (tgt := 63) hx hb dX2_isOpen_22 (by decide) (fun hc4 => ?_) (fun hc4 => ?_)
  · replace hf := rn_t hf hc4
    refine lv_iconst (v := 0) hx hb dX2_isOpen_63 (by decide) ?_
    cases hf
    exact hE _ _ _ _ hW (show narrow .boolean (.int (0 : Int32)) = .int (0 : Int32) from rfl) dX2_isOpen_64
  · replace hf := rn_f hf hc4
    refine lv_aload_n hx hb dX2_isOpen_25 rfl (lv_at hl 0 rfl) ?_
    refine lv_aload_n hx hb dX2_isOpen_26 rfl (lv_at hl 0 rfl) ?_
    refine rr_get X hW 0 1 gf_X2_20 rfl rfl dX2_isOpen_27 ?_
    refine lv_iload_n hx hb dX2_isOpen_30 rfl (lv_at hl 1 rfl) ?_
    refine lv_iconst (v := 0) hx hb dX2_isOpen_31 (by decide) ?_
    obtain ⟨t5, ht5, hf⟩ := rn_bind hf
    refine rr_callI (As := [.int i1, .int (0 : Int32)]) (rest := [.ref a_this]) X hW (kX4_get l D k z a_this_links a_this_links_cells (16 : Int32) (9 : Int32) 144 c_links i1 (0 : Int32) ht5) gm_X4_get gl_X2_105 [3, 4] [0, 1, 2] [(a_this, .inr (2, [.ref a_this_stations, .ref a_this_links, .ref a_this_messages, .ref a_this_copies, .ref a_this_log, .ref a_this_ways, .ref a_this_frames, .int c_stationCount, .int c_linkCount, .int c_messageCount, .int c_time, .int c_life, .int c_tries, .int c_x])), (a_this_stations, .inr (4, [.int (8 : Int32), .int (10 : Int32), .ref a_this_stations_cells])), (a_this_stations_cells, .inl (k 0, 80, .inl c_stations)), (a_this_links, .inr (4, [.int (16 : Int32), .int (9 : Int32), .ref a_this_links_cells])), (a_this_links_cells, .inl (k 0, 144, .inl c_links))] rfl rfl rfl rfl ⟨rfl, rfl, rn_Bw (wr := [(a_this, .inr (2, [.ref a_this_stations, .ref a_this_links, .ref a_this_messages, .ref a_this_copies, .ref a_this_log, .ref a_this_ways, .ref a_this_frames, .int c_stationCount, .int c_linkCount, .int c_messageCount, .int c_time, .int c_life, .int c_tries, .int c_x])), (a_this_stations, .inr (4, [.int (8 : Int32), .int (10 : Int32), .ref a_this_stations_cells])), (a_this_stations_cells, .inl (k 0, 80, .inl c_stations))]) rfl rfl, rfl, rfl⟩ (rn_r hR rfl) rn_cs hl.1 rfl (Nat.le_of_ble_eq_true rfl) dX2_isOpen_32 (fun hn5 H locs hW => ?_)
    refine lv_iload_n hx hb dX2_isOpen_35 rfl (lv_at hl 2 rfl) ?_
    obtain ⟨t6, ht6, hf⟩ := rn_bind hf
    refine rr_callI (As := [.int t5, .int i2]) (rest := []) X hW (kX2_isOnAir l D k z a_this a_this_stations a_this_links a_this_messages a_this_copies a_this_log a_this_ways a_this_frames a_this_stations_cells c_stationCount c_linkCount c_messageCount c_time c_life c_tries c_x c_stations t5 i2 ht6) gm_X2_isOnAir gl_X2_121 [0, 1, 2] [3, 4] [(a_this, .inr (2, [.ref a_this_stations, .ref a_this_links, .ref a_this_messages, .ref a_this_copies, .ref a_this_log, .ref a_this_ways, .ref a_this_frames, .int c_stationCount, .int c_linkCount, .int c_messageCount, .int c_time, .int c_life, .int c_tries, .int c_x])), (a_this_stations, .inr (4, [.int (8 : Int32), .int (10 : Int32), .ref a_this_stations_cells])), (a_this_stations_cells, .inl (k 0, 80, .inl c_stations)), (a_this_links, .inr (4, [.int (16 : Int32), .int (9 : Int32), .ref a_this_links_cells])), (a_this_links_cells, .inl (k 0, 144, .inl c_links))] rfl rfl rfl rfl ⟨rfl, rfl, rn_Bw (wr := [(a_this_links, .inr (4, [.int (16 : Int32), .int (9 : Int32), .ref a_this_links_cells])), (a_this_links_cells, .inl (k 0, 144, .inl c_links))]) rfl rfl, rfl, rfl⟩ (rn_r hR rfl) rn_cs hl.1 rfl (Nat.le_of_ble_eq_true rfl) dX2_isOpen_36 (fun hn6 H locs hW => ?_)
    refine lv_if_eq (tgt := 63) hx hb dX2_isOpen_39 (by decide) (fun hc7 => ?_) (fun hc7 => ?_)
    · replace hf := rn_t hf hc7
      refine lv_iconst (v := 0) hx hb dX2_isOpen_63 (by decide) ?_
      cases hf
      exact hE _ _ _ _ hW (show narrow .boolean (.int (0 : Int32)) = .int (0 : Int32) from rfl) dX2_isOpen_64
    · replace hf := rn_f hf hc7
      refine lv_aload_n hx hb dX2_isOpen_42 rfl (lv_at hl 0 rfl) ?_
      refine lv_aload_n hx hb dX2_isOpen_43 rfl (lv_at hl 0 rfl) ?_
      refine rr_get X hW 0 1 gf_X2_20 rfl rfl dX2_isOpen_44 ?_
      refine lv_iload_n hx hb dX2_isOpen_47 rfl (lv_at hl 1 rfl) ?_
      refine lv_iconst (v := 1) hx hb dX2_isOpen_48 (by decide) ?_
      obtain ⟨t8, ht8, hf⟩ := rn_bind hf
      refine rr_callI (As := [.int i1, .int (1 : Int32)]) (rest := [.ref a_this]) X hW (kX4_get l D k z a_this_links a_this_links_cells (16 : Int32) (9 : Int32) 144 c_links i1 (1 : Int32) ht8) gm_X4_get gl_X2_105 [3, 4] [0, 1, 2] [(a_this, .inr (2, [.ref a_this_stations, .ref a_this_links, .ref a_this_messages, .ref a_this_copies, .ref a_this_log, .ref a_this_ways, .ref a_this_frames, .int c_stationCount, .int c_linkCount, .int c_messageCount, .int c_time, .int c_life, .int c_tries, .int c_x])), (a_this_stations, .inr (4, [.int (8 : Int32), .int (10 : Int32), .ref a_this_stations_cells])), (a_this_stations_cells, .inl (k 0, 80, .inl c_stations)), (a_this_links, .inr (4, [.int (16 : Int32), .int (9 : Int32), .ref a_this_links_cells])), (a_this_links_cells, .inl (k 0, 144, .inl c_links))] rfl rfl rfl rfl ⟨rfl, rfl, rn_Bw (wr := [(a_this, .inr (2, [.ref a_this_stations, .ref a_this_links, .ref a_this_messages, .ref a_this_copies, .ref a_this_log, .ref a_this_ways, .ref a_this_frames, .int c_stationCount, .int c_linkCount, .int c_messageCount, .int c_time, .int c_life, .int c_tries, .int c_x])), (a_this_stations, .inr (4, [.int (8 : Int32), .int (10 : Int32), .ref a_this_stations_cells])), (a_this_stations_cells, .inl (k 0, 80, .inl c_stations))]) rfl rfl, rfl, rfl⟩ (rn_r hR rfl) rn_cs hl.1 rfl (Nat.le_of_ble_eq_true rfl) dX2_isOpen_49 (fun hn8 H locs hW => ?_)
      refine lv_iload_n hx hb dX2_isOpen_52 rfl (lv_at hl 2 rfl) ?_
      obtain ⟨t9, ht9, hf⟩ := rn_bind hf
      refine rr_callI (As := [.int t8, .int i2]) (rest := []) X hW (kX2_isOnAir l D k z a_this a_this_stations a_this_links a_this_messages a_this_copies a_this_log a_this_ways a_this_frames a_this_stations_cells c_stationCount c_linkCount c_messageCount c_time c_life c_tries c_x c_stations t8 i2 ht9) gm_X2_isOnAir gl_X2_121 [0, 1, 2] [3, 4] [(a_this, .inr (2, [.ref a_this_stations, .ref a_this_links, .ref a_this_messages, .ref a_this_copies, .ref a_this_log, .ref a_this_ways, .ref a_this_frames, .int c_stationCount, .int c_linkCount, .int c_messageCount, .int c_time, .int c_life, .int c_tries, .int c_x])), (a_this_stations, .inr (4, [.int (8 : Int32), .int (10 : Int32), .ref a_this_stations_cells])), (a_this_stations_cells, .inl (k 0, 80, .inl c_stations)), (a_this_links, .inr (4, [.int (16 : Int32), .int (9 : Int32), .ref a_this_links_cells])), (a_this_links_cells, .inl (k 0, 144, .inl c_links))] rfl rfl rfl rfl ⟨rfl, rfl, rn_Bw (wr := [(a_this_links, .inr (4, [.int (16 : Int32), .int (9 : Int32), .ref a_this_links_cells])), (a_this_links_cells, .inl (k 0, 144, .inl c_links))]) rfl rfl, rfl, rfl⟩ (rn_r hR rfl) rn_cs hl.1 rfl (Nat.le_of_ble_eq_true rfl) dX2_isOpen_53 (fun hn9 H locs hW => ?_)
      refine lv_if_eq (tgt := 63) hx hb dX2_isOpen_56 (by decide) (fun hc10 => ?_) (fun hc10 => ?_)
      · replace hf := rn_t hf hc10
        refine lv_iconst (v := 0) hx hb dX2_isOpen_63 (by decide) ?_
        cases hf
        exact hE _ _ _ _ hW (show narrow .boolean (.int (0 : Int32)) = .int (0 : Int32) from rfl) dX2_isOpen_64
      · replace hf := rn_f hf hc10
        refine lv_iconst (v := 1) hx hb dX2_isOpen_59 (by decide) ?_
        refine lv_goto (tgt := 64) hx hb dX2_isOpen_60 (by decide) ?_
        cases hf
        exact hE _ _ _ _ hW (show narrow .boolean (.int (1 : Int32)) = .int (1 : Int32) from rfl) dX2_isOpen_64
def lX2_findOpenLinks_19 (c_stations : Nat → Int32) (c_links : Nat → Int32) (x1_9 : Int32) : Nat → Int32 → (Nat → Int64) → Option ((Nat → Int64))
  | 0, _, _ => none
  | n+1, x2_19, y_ways_heard_19 =>
    if (24 : Int32) ≤ x2_19 then
      some y_ways_heard_19
    else
    (fX2_isOpen c_stations c_links x1_9 x2_19).bind fun t6 =>
    if t6 = 0 then
      lX2_findOpenLinks_19 c_stations c_links x1_9 n (x2_19 + (1 : Int32)) y_ways_heard_19
    else
    (fX4_get (16 : Int32) (9 : Int32) 144 c_links x1_9 (0 : Int32)).bind fun t8 =>
    (fX4_get (16 : Int32) (9 : Int32) 144 c_links x1_9 (1 : Int32)).bind fun t9 =>
    (fX5_connect y_ways_heard_19 x2_19 t8 t9).bind fun t10 =>
    lX2_findOpenLinks_19 c_stations c_links x1_9 n (x2_19 + (1 : Int32)) t10
def lX2_findOpenLinks_9 (N : Nat) (c_linkCount : Int32) (c_stations : Nat → Int32) (c_links : Nat → Int32) : Nat → Int32 → (Nat → Int64) → Option ((Nat → Int64))
  | 0, _, _ => none
  | n+1, x1_9, y_ways_heard_9 =>
    if c_linkCount ≤ x1_9 then
      some y_ways_heard_9
    else
    (lX2_findOpenLinks_19 c_stations c_links x1_9 N (0 : Int32) y_ways_heard_9).bind fun t4 =>
    lX2_findOpenLinks_9 N c_linkCount c_stations c_links n (x1_9 + (1 : Int32)) t4
def fX2_findOpenLinks (N : Nat) (c_linkCount : Int32) (c_stations : Nat → Int32) (c_links : Nat → Int32) (c_ways_heard : Nat → Int64) : Option ((Nat → Int64)) :=
  (fX5_clear N c_ways_heard).bind fun t1 =>
  (lX2_findOpenLinks_9 N c_linkCount c_stations c_links N (0 : Int32) t1).bind fun t2 =>
  some t2
set_option maxHeartbeats 4000000 in
set_option maxRecDepth 20000 in
theorem kX2_findOpenLinks (l : Launch) (D : va_G) (k : Nat → ClassId) (z : (Nat → Nat) × (Nat → Nat)) (N : Nat) (a_this : Nat) (a_this_stations : Nat) (a_this_links : Nat) (a_this_messages : Nat) (a_this_copies : Nat) (a_this_log : Nat) (a_this_ways : Nat) (a_this_frames : Nat) (a_this_stations_cells : Nat) (a_this_links_cells : Nat) (a_this_ways_heard : Nat) (c_stationCount : Int32) (c_linkCount : Int32) (c_messageCount : Int32) (c_time : Int32) (c_life : Int32) (c_tries : Int32) (c_x : Int32) (c_stations : Nat → Int32) (c_links : Nat → Int32) (c_ways_arrival : Int32) (c_ways_fewest : Int32) (c_ways_next : Int32) (c_ways_heard : Nat → Int64) {u : (Nat → Int64)} (hf : fX2_findOpenLinks N c_linkCount c_stations c_links c_ways_heard = some u) : rn_KV l D k z yX2_findOpenLinks cX2_findOpenLinks 3 3 67 [.ref a_this] [(a_this, .inr (2, [.ref a_this_stations, .ref a_this_links, .ref a_this_messages, .ref a_this_copies, .ref a_this_log, .ref a_this_ways, .ref a_this_frames, .int c_stationCount, .int c_linkCount, .int c_messageCount, .int c_time, .int c_life, .int c_tries, .int c_x])), (a_this_stations, .inr (4, [.int (8 : Int32), .int (10 : Int32), .ref a_this_stations_cells])), (a_this_stations_cells, .inl (k 0, 80, .inl c_stations)), (a_this_links, .inr (4, [.int (16 : Int32), .int (9 : Int32), .ref a_this_links_cells])), (a_this_links_cells, .inl (k 0, 144, .inl c_links)), (a_this_ways, .inr (5, [.ref a_this_ways_heard, .int c_ways_arrival, .int c_ways_fewest, .int c_ways_next])), (a_this_ways_heard, .inl (k 1, 24, .inr (.inl c_ways_heard)))] [(a_this, .inr (2, [.ref a_this_stations, .ref a_this_links, .ref a_this_messages, .ref a_this_copies, .ref a_this_log, .ref a_this_ways, .ref a_this_frames, .int c_stationCount, .int c_linkCount, .int c_messageCount, .int c_time, .int c_life, .int c_tries, .int c_x])), (a_this_stations, .inr (4, [.int (8 : Int32), .int (10 : Int32), .ref a_this_stations_cells])), (a_this_stations_cells, .inl (k 0, 80, .inl c_stations)), (a_this_links, .inr (4, [.int (16 : Int32), .int (9 : Int32), .ref a_this_links_cells])), (a_this_links_cells, .inl (k 0, 144, .inl c_links)), (a_this_ways, .inr (5, [.ref a_this_ways_heard, .int c_ways_arrival, .int c_ways_fewest, .int c_ways_next])), (a_this_ways_heard, .inl (k 1, 24, .inr (.inl u)))] := by
  refine rn_KV.go (LOC := [(0, .ref a_this)]) rfl (by decide) (Nat.le_of_ble_eq_true rfl) rfl ?_
  intro p e s m args below meth c A ls R Q X hR hE hW hl
  have hx := X.1.1
  have hb := X.1.2.1
  unfold fX2_findOpenLinks at hf
  refine lv_aload_n hx hb dX2_findOpenLinks_0 rfl (lv_at hl 0 rfl) ?_
  refine rr_get X hW 0 5 gf_X2_39 rfl rfl dX2_findOpenLinks_1 ?_
  obtain ⟨t1, ht1, hf⟩ := rn_bind hf
  refine rr_callV (As := []) (rest := []) X hW (kX5_clear l D k z N a_this_ways a_this_ways_heard c_ways_arrival c_ways_fewest c_ways_next c_ways_heard ht1) gm_X5_clear gl_X2_72 [5, 6] [0, 1, 2, 3, 4] [(a_this, .inr (2, [.ref a_this_stations, .ref a_this_links, .ref a_this_messages, .ref a_this_copies, .ref a_this_log, .ref a_this_ways, .ref a_this_frames, .int c_stationCount, .int c_linkCount, .int c_messageCount, .int c_time, .int c_life, .int c_tries, .int c_x])), (a_this_stations, .inr (4, [.int (8 : Int32), .int (10 : Int32), .ref a_this_stations_cells])), (a_this_stations_cells, .inl (k 0, 80, .inl c_stations)), (a_this_links, .inr (4, [.int (16 : Int32), .int (9 : Int32), .ref a_this_links_cells])), (a_this_links_cells, .inl (k 0, 144, .inl c_links)), (a_this_ways, .inr (5, [.ref a_this_ways_heard, .int c_ways_arrival, .int c_ways_fewest, .int c_ways_next])), (a_this_ways_heard, .inl (k 1, 24, .inr (.inl t1)))] rfl rfl rfl rfl ⟨rfl, rfl, rn_Bw (wr := [(a_this, .inr (2, [.ref a_this_stations, .ref a_this_links, .ref a_this_messages, .ref a_this_copies, .ref a_this_log, .ref a_this_ways, .ref a_this_frames, .int c_stationCount, .int c_linkCount, .int c_messageCount, .int c_time, .int c_life, .int c_tries, .int c_x])), (a_this_stations, .inr (4, [.int (8 : Int32), .int (10 : Int32), .ref a_this_stations_cells])), (a_this_stations_cells, .inl (k 0, 80, .inl c_stations)), (a_this_links, .inr (4, [.int (16 : Int32), .int (9 : Int32), .ref a_this_links_cells])), (a_this_links_cells, .inl (k 0, 144, .inl c_links))]) rfl rfl, rfl, rfl⟩ (rn_r hR rfl) rn_cs hl.1 rfl (Nat.le_of_ble_eq_true rfl) dX2_findOpenLinks_4 (fun H locs hW => ?_)
  refine lv_iconst (v := 0) hx hb dX2_findOpenLinks_7 (by decide) ?_
  refine lv_istore_n (lv' := [(1, .int (0 : Int32)), (0, .ref a_this)]) hx hb dX2_findOpenLinks_8 rfl hl (Nat.le_of_ble_eq_true rfl) rfl (fun ls hl => ?_)
  obtain ⟨t2, ht2, hf⟩ := rn_bind hf
  have kk_9 : ∀ (H : Heap) (locs : List Loc) (ls : Array Slot), rn_W D A s [(a_this, .inr (2, [.ref a_this_stations, .ref a_this_links, .ref a_this_messages, .ref a_this_copies, .ref a_this_log, .ref a_this_ways, .ref a_this_frames, .int c_stationCount, .int c_linkCount, .int c_messageCount, .int c_time, .int c_life, .int c_tries, .int c_x])), (a_this_stations, .inr (4, [.int (8 : Int32), .int (10 : Int32), .ref a_this_stations_cells])), (a_this_stations_cells, .inl (k 0, 80, .inl c_stations)), (a_this_links, .inr (4, [.int (16 : Int32), .int (9 : Int32), .ref a_this_links_cells])), (a_this_links_cells, .inl (k 0, 144, .inl c_links)), (a_this_ways, .inr (5, [.ref a_this_ways_heard, .int c_ways_arrival, .int c_ways_fewest, .int c_ways_next])), (a_this_ways_heard, .inl (k 1, 24, .inr (.inl t2)))] H locs → lv_has ls 3 [] → W p l e R s m args below meth c H locs 0 0 Q (F0 m 72 ls []) := by
    intro H locs ls hW hl
    cases hf
    exact hE _ _ _ _ hW dX2_findOpenLinks_72
  clear hf
  have lp_9 : ∀ (n : Nat) (x1_9 : Int32) (y_ways_heard_9 : Nat → Int64) (H : Heap) (locs : List Loc) (ls : Array Slot), lX2_findOpenLinks_9 N c_linkCount c_stations c_links n x1_9 y_ways_heard_9 = some t2 → rn_W D A s [(a_this, .inr (2, [.ref a_this_stations, .ref a_this_links, .ref a_this_messages, .ref a_this_copies, .ref a_this_log, .ref a_this_ways, .ref a_this_frames, .int c_stationCount, .int c_linkCount, .int c_messageCount, .int c_time, .int c_life, .int c_tries, .int c_x])), (a_this_stations, .inr (4, [.int (8 : Int32), .int (10 : Int32), .ref a_this_stations_cells])), (a_this_stations_cells, .inl (k 0, 80, .inl c_stations)), (a_this_links, .inr (4, [.int (16 : Int32), .int (9 : Int32), .ref a_this_links_cells])), (a_this_links_cells, .inl (k 0, 144, .inl c_links)), (a_this_ways, .inr (5, [.ref a_this_ways_heard, .int c_ways_arrival, .int c_ways_fewest, .int c_ways_next])), (a_this_ways_heard, .inl (k 1, 24, .inr (.inl y_ways_heard_9)))] H locs → lv_has ls 3 [(0, .ref a_this), (1, .int x1_9)] → W p l e R s m args below meth c H locs 0 0 Q (F0 m 9 ls []) := by
    intro n
    induction n with
    | zero => intro x1_9 y_ways_heard_9 H locs ls hf; exact absurd hf (by rw [lX2_findOpenLinks_9]; exact fun h => nomatch h)
    | succ n ih_9 =>
      intro x1_9 y_ways_heard_9 H locs ls hf hW hl
      rw [lX2_findOpenLinks_9] at hf
      refine lv_iload_n hx hb dX2_findOpenLinks_9 rfl (lv_at hl 1 rfl) ?_
      refine lv_aload_n hx hb dX2_findOpenLinks_10 rfl (lv_at hl 0 rfl) ?_
      refine rr_get X hW 0 8 gf_X2_50 rfl rfl dX2_findOpenLinks_11 ?_
      refine lv_icmp_ge (tgt := 72) hx hb dX2_findOpenLinks_14 (by decide) (fun hc3 => ?_) (fun hc3 => ?_)
      · replace hf := rn_t hf hc3
        cases hf
        exact kk_9 _ _ _ hW (lv_sub hl [] rfl)
      · replace hf := rn_f hf hc3
        refine lv_iconst (v := 0) hx hb dX2_findOpenLinks_17 (by decide) ?_
        refine lv_istore_n (lv' := [(2, .int (0 : Int32)), (0, .ref a_this), (1, .int x1_9)]) hx hb dX2_findOpenLinks_18 rfl hl (Nat.le_of_ble_eq_true rfl) rfl (fun ls hl => ?_)
        obtain ⟨t4, ht4, hf⟩ := rn_bind hf
        have kk_19 : ∀ (H : Heap) (locs : List Loc) (ls : Array Slot), rn_W D A s [(a_this, .inr (2, [.ref a_this_stations, .ref a_this_links, .ref a_this_messages, .ref a_this_copies, .ref a_this_log, .ref a_this_ways, .ref a_this_frames, .int c_stationCount, .int c_linkCount, .int c_messageCount, .int c_time, .int c_life, .int c_tries, .int c_x])), (a_this_stations, .inr (4, [.int (8 : Int32), .int (10 : Int32), .ref a_this_stations_cells])), (a_this_stations_cells, .inl (k 0, 80, .inl c_stations)), (a_this_links, .inr (4, [.int (16 : Int32), .int (9 : Int32), .ref a_this_links_cells])), (a_this_links_cells, .inl (k 0, 144, .inl c_links)), (a_this_ways, .inr (5, [.ref a_this_ways_heard, .int c_ways_arrival, .int c_ways_fewest, .int c_ways_next])), (a_this_ways_heard, .inl (k 1, 24, .inr (.inl t4)))] H locs → lv_has ls 3 [(0, .ref a_this), (1, .int x1_9)] → W p l e R s m args below meth c H locs 0 0 Q (F0 m 66 ls []) := by
          intro H locs ls hW hl
          refine lv_iinc (v := (x1_9 + (1 : Int32))) (lv' := [(1, .int (x1_9 + (1 : Int32))), (0, .ref a_this)]) hx hb dX2_findOpenLinks_66 hl (k := 1) rfl (congrArg (fun q => _ + q) (by decide)) (Nat.le_of_ble_eq_true rfl) rfl (fun ls hl => ?_)
          refine lv_goto (tgt := 9) hx hb dX2_findOpenLinks_69 (by decide) ?_
          exact ih_9 (x1_9 + (1 : Int32)) t4 _ _ _ hf hW (lv_sub hl [1, 0] rfl)
        clear hf
        have lp_19 : ∀ (n : Nat) (x2_19 : Int32) (y_ways_heard_19 : Nat → Int64) (H : Heap) (locs : List Loc) (ls : Array Slot), lX2_findOpenLinks_19 c_stations c_links x1_9 n x2_19 y_ways_heard_19 = some t4 → rn_W D A s [(a_this, .inr (2, [.ref a_this_stations, .ref a_this_links, .ref a_this_messages, .ref a_this_copies, .ref a_this_log, .ref a_this_ways, .ref a_this_frames, .int c_stationCount, .int c_linkCount, .int c_messageCount, .int c_time, .int c_life, .int c_tries, .int c_x])), (a_this_stations, .inr (4, [.int (8 : Int32), .int (10 : Int32), .ref a_this_stations_cells])), (a_this_stations_cells, .inl (k 0, 80, .inl c_stations)), (a_this_links, .inr (4, [.int (16 : Int32), .int (9 : Int32), .ref a_this_links_cells])), (a_this_links_cells, .inl (k 0, 144, .inl c_links)), (a_this_ways, .inr (5, [.ref a_this_ways_heard, .int c_ways_arrival, .int c_ways_fewest, .int c_ways_next])), (a_this_ways_heard, .inl (k 1, 24, .inr (.inl y_ways_heard_19)))] H locs → lv_has ls 3 [(0, .ref a_this), (1, .int x1_9), (2, .int x2_19)] → W p l e R s m args below meth c H locs 0 0 Q (F0 m 19 ls []) := by
          intro n
          induction n with
          | zero => intro x2_19 y_ways_heard_19 H locs ls hf; exact absurd hf (by rw [lX2_findOpenLinks_19]; exact fun h => nomatch h)
          | succ n ih_19 =>
            intro x2_19 y_ways_heard_19 H locs ls hf hW hl
            rw [lX2_findOpenLinks_19] at hf
            refine lv_iload_n hx hb dX2_findOpenLinks_19 rfl (lv_at hl 2 rfl) ?_
            refine lv_bipush (v := 24) hx hb dX2_findOpenLinks_20 (by decide) ?_
            refine lv_icmp_ge (tgt := 66) hx hb dX2_findOpenLinks_22 (by decide) (fun hc5 => ?_) (fun hc5 => ?_)
            · replace hf := rn_t hf hc5
              cases hf
              exact kk_19 _ _ _ hW (lv_sub hl [0, 1] rfl)
            · replace hf := rn_f hf hc5
              refine lv_aload_n hx hb dX2_findOpenLinks_25 rfl (lv_at hl 0 rfl) ?_
              refine lv_iload_n hx hb dX2_findOpenLinks_26 rfl (lv_at hl 1 rfl) ?_
              refine lv_iload_n hx hb dX2_findOpenLinks_27 rfl (lv_at hl 2 rfl) ?_
              obtain ⟨t6, ht6, hf⟩ := rn_bind hf
              refine rr_callI (As := [.int x1_9, .int x2_19]) (rest := []) X hW (kX2_isOpen l D k z a_this a_this_stations a_this_links a_this_messages a_this_copies a_this_log a_this_ways a_this_frames a_this_stations_cells a_this_links_cells c_stationCount c_linkCount c_messageCount c_time c_life c_tries c_x c_stations c_links x1_9 x2_19 ht6) gm_X2_isOpen gl_X2_111 [0, 1, 2, 3, 4] [5, 6] [(a_this, .inr (2, [.ref a_this_stations, .ref a_this_links, .ref a_this_messages, .ref a_this_copies, .ref a_this_log, .ref a_this_ways, .ref a_this_frames, .int c_stationCount, .int c_linkCount, .int c_messageCount, .int c_time, .int c_life, .int c_tries, .int c_x])), (a_this_stations, .inr (4, [.int (8 : Int32), .int (10 : Int32), .ref a_this_stations_cells])), (a_this_stations_cells, .inl (k 0, 80, .inl c_stations)), (a_this_links, .inr (4, [.int (16 : Int32), .int (9 : Int32), .ref a_this_links_cells])), (a_this_links_cells, .inl (k 0, 144, .inl c_links)), (a_this_ways, .inr (5, [.ref a_this_ways_heard, .int c_ways_arrival, .int c_ways_fewest, .int c_ways_next])), (a_this_ways_heard, .inl (k 1, 24, .inr (.inl y_ways_heard_19)))] rfl rfl rfl rfl ⟨rfl, rfl, rn_Bw (wr := [(a_this_ways, .inr (5, [.ref a_this_ways_heard, .int c_ways_arrival, .int c_ways_fewest, .int c_ways_next])), (a_this_ways_heard, .inl (k 1, 24, .inr (.inl y_ways_heard_19)))]) rfl rfl, rfl, rfl⟩ (rn_r hR rfl) rn_cs hl.1 rfl (Nat.le_of_ble_eq_true rfl) dX2_findOpenLinks_28 (fun hn6 H locs hW => ?_)
              refine lv_if_eq (tgt := 60) hx hb dX2_findOpenLinks_31 (by decide) (fun hc7 => ?_) (fun hc7 => ?_)
              · replace hf := rn_t hf hc7
                refine lv_iinc (v := (x2_19 + (1 : Int32))) (lv' := [(2, .int (x2_19 + (1 : Int32))), (0, .ref a_this), (1, .int x1_9)]) hx hb dX2_findOpenLinks_60 hl (k := 2) rfl (congrArg (fun q => _ + q) (by decide)) (Nat.le_of_ble_eq_true rfl) rfl (fun ls hl => ?_)
                refine lv_goto (tgt := 19) hx hb dX2_findOpenLinks_63 (by decide) ?_
                exact ih_19 (x2_19 + (1 : Int32)) y_ways_heard_19 _ _ _ hf hW (lv_sub hl [1, 2, 0] rfl)
              · replace hf := rn_f hf hc7
                refine lv_aload_n hx hb dX2_findOpenLinks_34 rfl (lv_at hl 0 rfl) ?_
                refine rr_get X hW 0 5 gf_X2_39 rfl rfl dX2_findOpenLinks_35 ?_
                refine lv_iload_n hx hb dX2_findOpenLinks_38 rfl (lv_at hl 2 rfl) ?_
                refine lv_aload_n hx hb dX2_findOpenLinks_39 rfl (lv_at hl 0 rfl) ?_
                refine rr_get X hW 0 1 gf_X2_20 rfl rfl dX2_findOpenLinks_40 ?_
                refine lv_iload_n hx hb dX2_findOpenLinks_43 rfl (lv_at hl 1 rfl) ?_
                refine lv_iconst (v := 0) hx hb dX2_findOpenLinks_44 (by decide) ?_
                obtain ⟨t8, ht8, hf⟩ := rn_bind hf
                refine rr_callI (As := [.int x1_9, .int (0 : Int32)]) (rest := [.int x2_19, .ref a_this_ways]) X hW (kX4_get l D k z a_this_links a_this_links_cells (16 : Int32) (9 : Int32) 144 c_links x1_9 (0 : Int32) ht8) gm_X4_get gl_X2_105 [3, 4] [0, 1, 2, 5, 6] [(a_this, .inr (2, [.ref a_this_stations, .ref a_this_links, .ref a_this_messages, .ref a_this_copies, .ref a_this_log, .ref a_this_ways, .ref a_this_frames, .int c_stationCount, .int c_linkCount, .int c_messageCount, .int c_time, .int c_life, .int c_tries, .int c_x])), (a_this_stations, .inr (4, [.int (8 : Int32), .int (10 : Int32), .ref a_this_stations_cells])), (a_this_stations_cells, .inl (k 0, 80, .inl c_stations)), (a_this_links, .inr (4, [.int (16 : Int32), .int (9 : Int32), .ref a_this_links_cells])), (a_this_links_cells, .inl (k 0, 144, .inl c_links)), (a_this_ways, .inr (5, [.ref a_this_ways_heard, .int c_ways_arrival, .int c_ways_fewest, .int c_ways_next])), (a_this_ways_heard, .inl (k 1, 24, .inr (.inl y_ways_heard_19)))] rfl rfl rfl rfl ⟨rfl, rfl, rn_Bw (wr := [(a_this, .inr (2, [.ref a_this_stations, .ref a_this_links, .ref a_this_messages, .ref a_this_copies, .ref a_this_log, .ref a_this_ways, .ref a_this_frames, .int c_stationCount, .int c_linkCount, .int c_messageCount, .int c_time, .int c_life, .int c_tries, .int c_x])), (a_this_stations, .inr (4, [.int (8 : Int32), .int (10 : Int32), .ref a_this_stations_cells])), (a_this_stations_cells, .inl (k 0, 80, .inl c_stations)), (a_this_ways, .inr (5, [.ref a_this_ways_heard, .int c_ways_arrival, .int c_ways_fewest, .int c_ways_next])), (a_this_ways_heard, .inl (k 1, 24, .inr (.inl y_ways_heard_19)))]) rfl rfl, rfl, rfl⟩ (rn_r hR rfl) rn_cs hl.1 rfl (Nat.le_of_ble_eq_true rfl) dX2_findOpenLinks_45 (fun hn8 H locs hW => ?_)
                refine lv_aload_n hx hb dX2_findOpenLinks_48 rfl (lv_at hl 0 rfl) ?_
                refine rr_get X hW 0 1 gf_X2_20 rfl rfl dX2_findOpenLinks_49 ?_
                refine lv_iload_n hx hb dX2_findOpenLinks_52 rfl (lv_at hl 1 rfl) ?_
                refine lv_iconst (v := 1) hx hb dX2_findOpenLinks_53 (by decide) ?_
                obtain ⟨t9, ht9, hf⟩ := rn_bind hf
                refine rr_callI (As := [.int x1_9, .int (1 : Int32)]) (rest := [.int t8, .int x2_19, .ref a_this_ways]) X hW (kX4_get l D k z a_this_links a_this_links_cells (16 : Int32) (9 : Int32) 144 c_links x1_9 (1 : Int32) ht9) gm_X4_get gl_X2_105 [3, 4] [0, 1, 2, 5, 6] [(a_this, .inr (2, [.ref a_this_stations, .ref a_this_links, .ref a_this_messages, .ref a_this_copies, .ref a_this_log, .ref a_this_ways, .ref a_this_frames, .int c_stationCount, .int c_linkCount, .int c_messageCount, .int c_time, .int c_life, .int c_tries, .int c_x])), (a_this_stations, .inr (4, [.int (8 : Int32), .int (10 : Int32), .ref a_this_stations_cells])), (a_this_stations_cells, .inl (k 0, 80, .inl c_stations)), (a_this_links, .inr (4, [.int (16 : Int32), .int (9 : Int32), .ref a_this_links_cells])), (a_this_links_cells, .inl (k 0, 144, .inl c_links)), (a_this_ways, .inr (5, [.ref a_this_ways_heard, .int c_ways_arrival, .int c_ways_fewest, .int c_ways_next])), (a_this_ways_heard, .inl (k 1, 24, .inr (.inl y_ways_heard_19)))] rfl rfl rfl rfl ⟨rfl, rfl, rn_Bw (wr := [(a_this, .inr (2, [.ref a_this_stations, .ref a_this_links, .ref a_this_messages, .ref a_this_copies, .ref a_this_log, .ref a_this_ways, .ref a_this_frames, .int c_stationCount, .int c_linkCount, .int c_messageCount, .int c_time, .int c_life, .int c_tries, .int c_x])), (a_this_stations, .inr (4, [.int (8 : Int32), .int (10 : Int32), .ref a_this_stations_cells])), (a_this_stations_cells, .inl (k 0, 80, .inl c_stations)), (a_this_ways, .inr (5, [.ref a_this_ways_heard, .int c_ways_arrival, .int c_ways_fewest, .int c_ways_next])), (a_this_ways_heard, .inl (k 1, 24, .inr (.inl y_ways_heard_19)))]) rfl rfl, rfl, rfl⟩ (rn_r hR rfl) rn_cs hl.1 rfl (Nat.le_of_ble_eq_true rfl) dX2_findOpenLinks_54 (fun hn9 H locs hW => ?_)
                obtain ⟨t10, ht10, hf⟩ := rn_bind hf
                refine rr_callV (As := [.int x2_19, .int t8, .int t9]) (rest := []) X hW (kX5_connect l D k z a_this_ways a_this_ways_heard c_ways_arrival c_ways_fewest c_ways_next y_ways_heard_19 x2_19 t8 t9 ht10) gm_X5_connect gl_X2_115 [5, 6] [0, 1, 2, 3, 4] [(a_this, .inr (2, [.ref a_this_stations, .ref a_this_links, .ref a_this_messages, .ref a_this_copies, .ref a_this_log, .ref a_this_ways, .ref a_this_frames, .int c_stationCount, .int c_linkCount, .int c_messageCount, .int c_time, .int c_life, .int c_tries, .int c_x])), (a_this_stations, .inr (4, [.int (8 : Int32), .int (10 : Int32), .ref a_this_stations_cells])), (a_this_stations_cells, .inl (k 0, 80, .inl c_stations)), (a_this_links, .inr (4, [.int (16 : Int32), .int (9 : Int32), .ref a_this_links_cells])), (a_this_links_cells, .inl (k 0, 144, .inl c_links)), (a_this_ways, .inr (5, [.ref a_this_ways_heard, .int c_ways_arrival, .int c_ways_fewest, .int c_ways_next])), (a_this_ways_heard, .inl (k 1, 24, .inr (.inl t10)))] rfl rfl rfl rfl ⟨rfl, rfl, rn_Bw (wr := [(a_this, .inr (2, [.ref a_this_stations, .ref a_this_links, .ref a_this_messages, .ref a_this_copies, .ref a_this_log, .ref a_this_ways, .ref a_this_frames, .int c_stationCount, .int c_linkCount, .int c_messageCount, .int c_time, .int c_life, .int c_tries, .int c_x])), (a_this_stations, .inr (4, [.int (8 : Int32), .int (10 : Int32), .ref a_this_stations_cells])), (a_this_stations_cells, .inl (k 0, 80, .inl c_stations)), (a_this_links, .inr (4, [.int (16 : Int32), .int (9 : Int32), .ref a_this_links_cells])), (a_this_links_cells, .inl (k 0, 144, .inl c_links))]) rfl rfl, rfl, rfl⟩ (rn_r hR rfl) rn_cs hl.1 rfl (Nat.le_of_ble_eq_true rfl) dX2_findOpenLinks_57 (fun H locs hW => ?_)
                refine lv_iinc (v := (x2_19 + (1 : Int32))) (lv' := [(2, .int (x2_19 + (1 : Int32))), (0, .ref a_this), (1, .int x1_9)]) hx hb dX2_findOpenLinks_60 hl (k := 2) rfl (congrArg (fun q => _ + q) (by decide)) (Nat.le_of_ble_eq_true rfl) rfl (fun ls hl => ?_)
                refine lv_goto (tgt := 19) hx hb dX2_findOpenLinks_63 (by decide) ?_
                exact ih_19 (x2_19 + (1 : Int32)) t10 _ _ _ hf hW (lv_sub hl [1, 2, 0] rfl)
        exact lp_19 N (0 : Int32) y_ways_heard_9 _ _ _ ht4 hW (lv_sub hl [1, 2, 0] rfl)
  exact lp_9 N (0 : Int32) t1 _ _ _ ht2 hW (lv_sub hl [1, 0] rfl)
def fX2_hourOfDay (c_time : Int32) : Option (Int32) :=
  some (rn_rem c_time (24 : Int32))
set_option maxHeartbeats 4000000 in
set_option maxRecDepth 20000 in
theorem kX2_hourOfDay (l : Launch) (D : va_G) (k : Nat → ClassId) (z : (Nat → Nat) × (Nat → Nat)) (a_this : Nat) (a_this_stations : Nat) (a_this_links : Nat) (a_this_messages : Nat) (a_this_copies : Nat) (a_this_log : Nat) (a_this_ways : Nat) (a_this_frames : Nat) (c_stationCount : Int32) (c_linkCount : Int32) (c_messageCount : Int32) (c_time : Int32) (c_life : Int32) (c_tries : Int32) (c_x : Int32) {u : Int32} (hf : fX2_hourOfDay c_time = some u) : rn_KI l D k z yX2_hourOfDay cX2_hourOfDay 1 .int 0 0 [.ref a_this] [(a_this, .inr (2, [.ref a_this_stations, .ref a_this_links, .ref a_this_messages, .ref a_this_copies, .ref a_this_log, .ref a_this_ways, .ref a_this_frames, .int c_stationCount, .int c_linkCount, .int c_messageCount, .int c_time, .int c_life, .int c_tries, .int c_x]))] [(a_this, .inr (2, [.ref a_this_stations, .ref a_this_links, .ref a_this_messages, .ref a_this_copies, .ref a_this_log, .ref a_this_ways, .ref a_this_frames, .int c_stationCount, .int c_linkCount, .int c_messageCount, .int c_time, .int c_life, .int c_tries, .int c_x]))] u := by
  refine rn_KI.go (LOC := [(0, .ref a_this)]) rfl (by decide) (Nat.le_of_ble_eq_true rfl) rfl ?_
  intro p e s m args below meth c A ls R Q X hR hE hW hl
  have hx := X.1.1
  have hb := X.1.2.1
  unfold fX2_hourOfDay at hf
  refine lv_aload_n hx hb dX2_hourOfDay_0 rfl (lv_at hl 0 rfl) ?_
  refine rr_get X hW 0 10 gf_X2_56 rfl rfl dX2_hourOfDay_1 ?_
  refine lv_bipush (v := 24) hx hb dX2_hourOfDay_4 (by decide) ?_
  refine rr_irem hx hb dX2_hourOfDay_6 (by decide) ?_
  cases hf
  exact hE _ _ _ _ hW rfl dX2_hourOfDay_7
def fX2_waits (c_copies : Nat → Int32) (i1 : Int32) (i2 : Int32) : Option (Int32) :=
  (fX2_copyRow i1 i2).bind fun t1 =>
  (fX4_get (192 : Int32) (5 : Int32) 960 c_copies t1 (0 : Int32)).bind fun t2 =>
  if t2 = (1 : Int32) then
    some (1 : Int32)
  else
  some (0 : Int32)
set_option maxHeartbeats 4000000 in
set_option maxRecDepth 20000 in
theorem kX2_waits (l : Launch) (D : va_G) (k : Nat → ClassId) (z : (Nat → Nat) × (Nat → Nat)) (a_this : Nat) (a_this_stations : Nat) (a_this_links : Nat) (a_this_messages : Nat) (a_this_copies : Nat) (a_this_log : Nat) (a_this_ways : Nat) (a_this_frames : Nat) (a_this_copies_cells : Nat) (c_stationCount : Int32) (c_linkCount : Int32) (c_messageCount : Int32) (c_time : Int32) (c_life : Int32) (c_tries : Int32) (c_x : Int32) (c_copies : Nat → Int32) (i1 : Int32) (i2 : Int32) {u : Int32} (hf : fX2_waits c_copies i1 i2 = some u) : rn_KI l D k z yX2_waits cX2_waits 3 .boolean 1 23 [.ref a_this, .int i1, .int i2] [(a_this, .inr (2, [.ref a_this_stations, .ref a_this_links, .ref a_this_messages, .ref a_this_copies, .ref a_this_log, .ref a_this_ways, .ref a_this_frames, .int c_stationCount, .int c_linkCount, .int c_messageCount, .int c_time, .int c_life, .int c_tries, .int c_x])), (a_this_copies, .inr (4, [.int (192 : Int32), .int (5 : Int32), .ref a_this_copies_cells])), (a_this_copies_cells, .inl (k 0, 960, .inl c_copies))] [(a_this, .inr (2, [.ref a_this_stations, .ref a_this_links, .ref a_this_messages, .ref a_this_copies, .ref a_this_log, .ref a_this_ways, .ref a_this_frames, .int c_stationCount, .int c_linkCount, .int c_messageCount, .int c_time, .int c_life, .int c_tries, .int c_x])), (a_this_copies, .inr (4, [.int (192 : Int32), .int (5 : Int32), .ref a_this_copies_cells])), (a_this_copies_cells, .inl (k 0, 960, .inl c_copies))] u := by
  refine rn_KI.go (LOC := [(0, .ref a_this), (1, .int i1), (2, .int i2)]) rfl (by decide) (Nat.le_of_ble_eq_true rfl) rfl ?_
  intro p e s m args below meth c A ls R Q X hR hE hW hl
  have hx := X.1.1
  have hb := X.1.2.1
  unfold fX2_waits at hf
  refine lv_aload_n hx hb dX2_waits_0 rfl (lv_at hl 0 rfl) ?_
  refine rr_get X hW 0 3 gf_X2_26 rfl rfl dX2_waits_1 ?_
  refine lv_iload_n hx hb dX2_waits_4 rfl (lv_at hl 1 rfl) ?_
  refine lv_iload_n hx hb dX2_waits_5 rfl (lv_at hl 2 rfl) ?_
  obtain ⟨t1, ht1, hf⟩ := rn_bind hf
  refine rr_scalI (As := [.int i1, .int i2]) (rest := [.ref a_this_copies]) X hW (kX2_copyRow l D k z i1 i2 ht1) gm_X2_copyRow gl_X2_98 [] [0, 1, 2] [(a_this, .inr (2, [.ref a_this_stations, .ref a_this_links, .ref a_this_messages, .ref a_this_copies, .ref a_this_log, .ref a_this_ways, .ref a_this_frames, .int c_stationCount, .int c_linkCount, .int c_messageCount, .int c_time, .int c_life, .int c_tries, .int c_x])), (a_this_copies, .inr (4, [.int (192 : Int32), .int (5 : Int32), .ref a_this_copies_cells])), (a_this_copies_cells, .inl (k 0, 960, .inl c_copies))] rfl rfl ⟨rfl, rfl, rn_Bw (wr := [(a_this, .inr (2, [.ref a_this_stations, .ref a_this_links, .ref a_this_messages, .ref a_this_copies, .ref a_this_log, .ref a_this_ways, .ref a_this_frames, .int c_stationCount, .int c_linkCount, .int c_messageCount, .int c_time, .int c_life, .int c_tries, .int c_x])), (a_this_copies, .inr (4, [.int (192 : Int32), .int (5 : Int32), .ref a_this_copies_cells])), (a_this_copies_cells, .inl (k 0, 960, .inl c_copies))]) rfl rfl, rfl, rfl⟩ (rn_r hR rfl) rn_cs hl.1 rfl (Nat.le_of_ble_eq_true rfl) dX2_waits_6 (fun hn1 H locs hW => ?_)
  refine lv_iconst (v := 0) hx hb dX2_waits_9 (by decide) ?_
  obtain ⟨t2, ht2, hf⟩ := rn_bind hf
  refine rr_callI (As := [.int t1, .int (0 : Int32)]) (rest := []) X hW (kX4_get l D k z a_this_copies a_this_copies_cells (192 : Int32) (5 : Int32) 960 c_copies t1 (0 : Int32) ht2) gm_X4_get gl_X2_105 [1, 2] [0] [(a_this, .inr (2, [.ref a_this_stations, .ref a_this_links, .ref a_this_messages, .ref a_this_copies, .ref a_this_log, .ref a_this_ways, .ref a_this_frames, .int c_stationCount, .int c_linkCount, .int c_messageCount, .int c_time, .int c_life, .int c_tries, .int c_x])), (a_this_copies, .inr (4, [.int (192 : Int32), .int (5 : Int32), .ref a_this_copies_cells])), (a_this_copies_cells, .inl (k 0, 960, .inl c_copies))] rfl rfl rfl rfl ⟨rfl, rfl, rn_Bw (wr := [(a_this, .inr (2, [.ref a_this_stations, .ref a_this_links, .ref a_this_messages, .ref a_this_copies, .ref a_this_log, .ref a_this_ways, .ref a_this_frames, .int c_stationCount, .int c_linkCount, .int c_messageCount, .int c_time, .int c_life, .int c_tries, .int c_x]))]) rfl rfl, rfl, rfl⟩ (rn_r hR rfl) rn_cs hl.1 rfl (Nat.le_of_ble_eq_true rfl) dX2_waits_10 (fun hn2 H locs hW => ?_)
  refine lv_iconst (v := 1) hx hb dX2_waits_13 (by decide) ?_
  refine lv_icmp_ne (tgt := 21) hx hb dX2_waits_14 (by decide) (fun hc3 => ?_) (fun hc3 => ?_)
  · replace hf := rn_f hf hc3
    refine lv_iconst (v := 0) hx hb dX2_waits_21 (by decide) ?_
    cases hf
    exact hE _ _ _ _ hW (show narrow .boolean (.int (0 : Int32)) = .int (0 : Int32) from rfl) dX2_waits_22
  · replace hf := rn_t hf hc3
    refine lv_iconst (v := 1) hx hb dX2_waits_17 (by decide) ?_
    refine lv_goto (tgt := 22) hx hb dX2_waits_18 (by decide) ?_
    cases hf
    exact hE _ _ _ _ hW (show narrow .boolean (.int (1 : Int32)) = .int (1 : Int32) from rfl) dX2_waits_22
def lX2_copiesThatWait_15 (c_copies : Nat → Int32) (i4 : Int32) (x6_6 : Int32) : Nat → Int32 → Int32 → Option (Int32)
  | 0, _, _ => none
  | n+1, x5_15, x7_15 =>
    if i4 ≤ x7_15 then
      some x5_15
    else
    (fX2_waits c_copies x6_6 x7_15).bind fun t5 =>
    if t5 = 0 then
      lX2_copiesThatWait_15 c_copies i4 x6_6 n x5_15 (x7_15 + (1 : Int32))
    else
    lX2_copiesThatWait_15 c_copies i4 x6_6 n (x5_15 + (1 : Int32)) (x7_15 + (1 : Int32))
def lX2_copiesThatWait_6 (N : Nat) (c_copies : Nat → Int32) (i2 : Int32) (i3 : Int32) (i4 : Int32) : Nat → Int32 → Int32 → Option (Int32)
  | 0, _, _ => none
  | n+1, x5_6, x6_6 =>
    if i2 ≤ x6_6 then
      some x5_6
    else
    (lX2_copiesThatWait_15 c_copies i4 x6_6 N x5_6 i3).bind fun t3 =>
    lX2_copiesThatWait_6 N c_copies i2 i3 i4 n t3 (x6_6 + (1 : Int32))
def fX2_copiesThatWait (N : Nat) (c_copies : Nat → Int32) (i1 : Int32) (i2 : Int32) (i3 : Int32) (i4 : Int32) : Option (Int32) :=
  (lX2_copiesThatWait_6 N c_copies i2 i3 i4 N (0 : Int32) i1).bind fun t1 =>
  some t1
set_option maxHeartbeats 4000000 in
set_option maxRecDepth 20000 in
theorem kX2_copiesThatWait (l : Launch) (D : va_G) (k : Nat → ClassId) (z : (Nat → Nat) × (Nat → Nat)) (N : Nat) (a_this : Nat) (a_this_stations : Nat) (a_this_links : Nat) (a_this_messages : Nat) (a_this_copies : Nat) (a_this_log : Nat) (a_this_ways : Nat) (a_this_frames : Nat) (a_this_copies_cells : Nat) (c_stationCount : Int32) (c_linkCount : Int32) (c_messageCount : Int32) (c_time : Int32) (c_life : Int32) (c_tries : Int32) (c_x : Int32) (c_copies : Nat → Int32) (i1 : Int32) (i2 : Int32) (i3 : Int32) (i4 : Int32) {u : Int32} (hf : fX2_copiesThatWait N c_copies i1 i2 i3 i4 = some u) : rn_KI l D k z yX2_copiesThatWait cX2_copiesThatWait 8 .int 2 45 [.ref a_this, .int i1, .int i2, .int i3, .int i4] [(a_this, .inr (2, [.ref a_this_stations, .ref a_this_links, .ref a_this_messages, .ref a_this_copies, .ref a_this_log, .ref a_this_ways, .ref a_this_frames, .int c_stationCount, .int c_linkCount, .int c_messageCount, .int c_time, .int c_life, .int c_tries, .int c_x])), (a_this_copies, .inr (4, [.int (192 : Int32), .int (5 : Int32), .ref a_this_copies_cells])), (a_this_copies_cells, .inl (k 0, 960, .inl c_copies))] [(a_this, .inr (2, [.ref a_this_stations, .ref a_this_links, .ref a_this_messages, .ref a_this_copies, .ref a_this_log, .ref a_this_ways, .ref a_this_frames, .int c_stationCount, .int c_linkCount, .int c_messageCount, .int c_time, .int c_life, .int c_tries, .int c_x])), (a_this_copies, .inr (4, [.int (192 : Int32), .int (5 : Int32), .ref a_this_copies_cells])), (a_this_copies_cells, .inl (k 0, 960, .inl c_copies))] u := by
  refine rn_KI.go (LOC := [(0, .ref a_this), (1, .int i1), (2, .int i2), (3, .int i3), (4, .int i4)]) rfl (by decide) (Nat.le_of_ble_eq_true rfl) rfl ?_
  intro p e s m args below meth c A ls R Q X hR hE hW hl
  have hx := X.1.1
  have hb := X.1.2.1
  unfold fX2_copiesThatWait at hf
  refine lv_iconst (v := 0) hx hb dX2_copiesThatWait_0 (by decide) ?_
  refine lv_istore (lv' := [(5, .int (0 : Int32)), (0, .ref a_this), (1, .int i1), (2, .int i2), (3, .int i3), (4, .int i4)]) hx hb dX2_copiesThatWait_1 hl (Nat.le_of_ble_eq_true rfl) rfl (fun ls hl => ?_)
  refine lv_iload_n hx hb dX2_copiesThatWait_3 rfl (lv_at hl 2 rfl) ?_
  refine lv_istore (lv' := [(6, .int i1), (5, .int (0 : Int32)), (0, .ref a_this), (1, .int i1), (2, .int i2), (3, .int i3), (4, .int i4)]) hx hb dX2_copiesThatWait_4 hl (Nat.le_of_ble_eq_true rfl) rfl (fun ls hl => ?_)
  obtain ⟨t1, ht1, hf⟩ := rn_bind hf
  have kk_6 : ∀ (H : Heap) (locs : List Loc) (ls : Array Slot), rn_W D A s [(a_this, .inr (2, [.ref a_this_stations, .ref a_this_links, .ref a_this_messages, .ref a_this_copies, .ref a_this_log, .ref a_this_ways, .ref a_this_frames, .int c_stationCount, .int c_linkCount, .int c_messageCount, .int c_time, .int c_life, .int c_tries, .int c_x])), (a_this_copies, .inr (4, [.int (192 : Int32), .int (5 : Int32), .ref a_this_copies_cells])), (a_this_copies_cells, .inl (k 0, 960, .inl c_copies))] H locs → lv_has ls 8 [(5, .int t1)] → W p l e R s m args below meth c H locs 0 0 Q (F0 m 48 ls []) := by
    intro H locs ls hW hl
    refine lv_iload hx hb dX2_copiesThatWait_48 (lv_at hl 0 rfl) ?_
    cases hf
    exact hE _ _ _ _ hW rfl dX2_copiesThatWait_50
  clear hf
  have lp_6 : ∀ (n : Nat) (x5_6 : Int32) (x6_6 : Int32) (H : Heap) (locs : List Loc) (ls : Array Slot), lX2_copiesThatWait_6 N c_copies i2 i3 i4 n x5_6 x6_6 = some t1 → rn_W D A s [(a_this, .inr (2, [.ref a_this_stations, .ref a_this_links, .ref a_this_messages, .ref a_this_copies, .ref a_this_log, .ref a_this_ways, .ref a_this_frames, .int c_stationCount, .int c_linkCount, .int c_messageCount, .int c_time, .int c_life, .int c_tries, .int c_x])), (a_this_copies, .inr (4, [.int (192 : Int32), .int (5 : Int32), .ref a_this_copies_cells])), (a_this_copies_cells, .inl (k 0, 960, .inl c_copies))] H locs → lv_has ls 8 [(0, .ref a_this), (2, .int i2), (3, .int i3), (4, .int i4), (5, .int x5_6), (6, .int x6_6)] → W p l e R s m args below meth c H locs 0 0 Q (F0 m 6 ls []) := by
    intro n
    induction n with
    | zero => intro x5_6 x6_6 H locs ls hf; exact absurd hf (by rw [lX2_copiesThatWait_6]; exact fun h => nomatch h)
    | succ n ih_6 =>
      intro x5_6 x6_6 H locs ls hf hW hl
      rw [lX2_copiesThatWait_6] at hf
      refine lv_iload hx hb dX2_copiesThatWait_6 (lv_at hl 5 rfl) ?_
      refine lv_iload_n hx hb dX2_copiesThatWait_8 rfl (lv_at hl 1 rfl) ?_
      refine lv_icmp_ge (tgt := 48) hx hb dX2_copiesThatWait_9 (by decide) (fun hc2 => ?_) (fun hc2 => ?_)
      · replace hf := rn_t hf hc2
        cases hf
        exact kk_6 _ _ _ hW (lv_sub hl [4] rfl)
      · replace hf := rn_f hf hc2
        refine lv_iload_n hx hb dX2_copiesThatWait_12 rfl (lv_at hl 2 rfl) ?_
        refine lv_istore (lv' := [(7, .int i3), (0, .ref a_this), (2, .int i2), (3, .int i3), (4, .int i4), (5, .int x5_6), (6, .int x6_6)]) hx hb dX2_copiesThatWait_13 hl (Nat.le_of_ble_eq_true rfl) rfl (fun ls hl => ?_)
        obtain ⟨t3, ht3, hf⟩ := rn_bind hf
        have kk_15 : ∀ (H : Heap) (locs : List Loc) (ls : Array Slot), rn_W D A s [(a_this, .inr (2, [.ref a_this_stations, .ref a_this_links, .ref a_this_messages, .ref a_this_copies, .ref a_this_log, .ref a_this_ways, .ref a_this_frames, .int c_stationCount, .int c_linkCount, .int c_messageCount, .int c_time, .int c_life, .int c_tries, .int c_x])), (a_this_copies, .inr (4, [.int (192 : Int32), .int (5 : Int32), .ref a_this_copies_cells])), (a_this_copies_cells, .inl (k 0, 960, .inl c_copies))] H locs → lv_has ls 8 [(0, .ref a_this), (2, .int i2), (3, .int i3), (4, .int i4), (5, .int t3), (6, .int x6_6)] → W p l e R s m args below meth c H locs 0 0 Q (F0 m 42 ls []) := by
          intro H locs ls hW hl
          refine lv_iinc (v := (x6_6 + (1 : Int32))) (lv' := [(6, .int (x6_6 + (1 : Int32))), (0, .ref a_this), (2, .int i2), (3, .int i3), (4, .int i4), (5, .int t3)]) hx hb dX2_copiesThatWait_42 hl (k := 5) rfl (congrArg (fun q => _ + q) (by decide)) (Nat.le_of_ble_eq_true rfl) rfl (fun ls hl => ?_)
          refine lv_goto (tgt := 6) hx hb dX2_copiesThatWait_45 (by decide) ?_
          exact ih_6 t3 (x6_6 + (1 : Int32)) _ _ _ hf hW (lv_sub hl [1, 2, 3, 4, 5, 0] rfl)
        clear hf
        have lp_15 : ∀ (n : Nat) (x5_15 : Int32) (x7_15 : Int32) (H : Heap) (locs : List Loc) (ls : Array Slot), lX2_copiesThatWait_15 c_copies i4 x6_6 n x5_15 x7_15 = some t3 → rn_W D A s [(a_this, .inr (2, [.ref a_this_stations, .ref a_this_links, .ref a_this_messages, .ref a_this_copies, .ref a_this_log, .ref a_this_ways, .ref a_this_frames, .int c_stationCount, .int c_linkCount, .int c_messageCount, .int c_time, .int c_life, .int c_tries, .int c_x])), (a_this_copies, .inr (4, [.int (192 : Int32), .int (5 : Int32), .ref a_this_copies_cells])), (a_this_copies_cells, .inl (k 0, 960, .inl c_copies))] H locs → lv_has ls 8 [(0, .ref a_this), (2, .int i2), (3, .int i3), (4, .int i4), (5, .int x5_15), (6, .int x6_6), (7, .int x7_15)] → W p l e R s m args below meth c H locs 0 0 Q (F0 m 15 ls []) := by
          intro n
          induction n with
          | zero => intro x5_15 x7_15 H locs ls hf; exact absurd hf (by rw [lX2_copiesThatWait_15]; exact fun h => nomatch h)
          | succ n ih_15 =>
            intro x5_15 x7_15 H locs ls hf hW hl
            rw [lX2_copiesThatWait_15] at hf
            refine lv_iload hx hb dX2_copiesThatWait_15 (lv_at hl 6 rfl) ?_
            refine lv_iload hx hb dX2_copiesThatWait_17 (lv_at hl 3 rfl) ?_
            refine lv_icmp_ge (tgt := 42) hx hb dX2_copiesThatWait_19 (by decide) (fun hc4 => ?_) (fun hc4 => ?_)
            · replace hf := rn_t hf hc4
              cases hf
              exact kk_15 _ _ _ hW (lv_sub hl [0, 1, 2, 3, 4, 5] rfl)
            · replace hf := rn_f hf hc4
              refine lv_aload_n hx hb dX2_copiesThatWait_22 rfl (lv_at hl 0 rfl) ?_
              refine lv_iload hx hb dX2_copiesThatWait_23 (lv_at hl 5 rfl) ?_
              refine lv_iload hx hb dX2_copiesThatWait_25 (lv_at hl 6 rfl) ?_
              obtain ⟨t5, ht5, hf⟩ := rn_bind hf
              refine rr_callI (As := [.int x6_6, .int x7_15]) (rest := []) X hW (kX2_waits l D k z a_this a_this_stations a_this_links a_this_messages a_this_copies a_this_log a_this_ways a_this_frames a_this_copies_cells c_stationCount c_linkCount c_messageCount c_time c_life c_tries c_x c_copies x6_6 x7_15 ht5) gm_X2_waits gl_X2_167 [0, 1, 2] [] [(a_this, .inr (2, [.ref a_this_stations, .ref a_this_links, .ref a_this_messages, .ref a_this_copies, .ref a_this_log, .ref a_this_ways, .ref a_this_frames, .int c_stationCount, .int c_linkCount, .int c_messageCount, .int c_time, .int c_life, .int c_tries, .int c_x])), (a_this_copies, .inr (4, [.int (192 : Int32), .int (5 : Int32), .ref a_this_copies_cells])), (a_this_copies_cells, .inl (k 0, 960, .inl c_copies))] rfl rfl rfl rfl ⟨rfl, rfl, rfl, rfl, rfl⟩ (rn_r hR rfl) rn_cs hl.1 rfl (Nat.le_of_ble_eq_true rfl) dX2_copiesThatWait_27 (fun hn5 H locs hW => ?_)
              refine lv_if_eq (tgt := 36) hx hb dX2_copiesThatWait_30 (by decide) (fun hc6 => ?_) (fun hc6 => ?_)
              · replace hf := rn_t hf hc6
                refine lv_iinc (v := (x7_15 + (1 : Int32))) (lv' := [(7, .int (x7_15 + (1 : Int32))), (0, .ref a_this), (2, .int i2), (3, .int i3), (4, .int i4), (5, .int x5_15), (6, .int x6_6)]) hx hb dX2_copiesThatWait_36 hl (k := 6) rfl (congrArg (fun q => _ + q) (by decide)) (Nat.le_of_ble_eq_true rfl) rfl (fun ls hl => ?_)
                refine lv_goto (tgt := 15) hx hb dX2_copiesThatWait_39 (by decide) ?_
                exact ih_15 x5_15 (x7_15 + (1 : Int32)) _ _ _ hf hW (lv_sub hl [1, 2, 3, 4, 5, 6, 0] rfl)
              · replace hf := rn_f hf hc6
                refine lv_iinc (v := (x5_15 + (1 : Int32))) (lv' := [(5, .int (x5_15 + (1 : Int32))), (0, .ref a_this), (2, .int i2), (3, .int i3), (4, .int i4), (6, .int x6_6), (7, .int x7_15)]) hx hb dX2_copiesThatWait_33 hl (k := 4) rfl (congrArg (fun q => _ + q) (by decide)) (Nat.le_of_ble_eq_true rfl) rfl (fun ls hl => ?_)
                refine lv_iinc (v := (x7_15 + (1 : Int32))) (lv' := [(7, .int (x7_15 + (1 : Int32))), (5, .int (x5_15 + (1 : Int32))), (0, .ref a_this), (2, .int i2), (3, .int i3), (4, .int i4), (6, .int x6_6)]) hx hb dX2_copiesThatWait_36 hl (k := 6) rfl (congrArg (fun q => _ + q) (by decide)) (Nat.le_of_ble_eq_true rfl) rfl (fun ls hl => ?_)
                refine lv_goto (tgt := 15) hx hb dX2_copiesThatWait_39 (by decide) ?_
                exact ih_15 (x5_15 + (1 : Int32)) (x7_15 + (1 : Int32)) _ _ _ hf hW (lv_sub hl [2, 3, 4, 5, 1, 6, 0] rfl)
        exact lp_15 N x5_6 i3 _ _ _ ht3 hW (lv_sub hl [1, 2, 3, 4, 5, 6, 0] rfl)
  exact lp_6 N (0 : Int32) i1 _ _ _ ht1 hW (lv_sub hl [2, 4, 5, 6, 1, 0] rfl)
def lX2_linksOf_4 (c_linkCount : Int32) (c_links : Nat → Int32) (i1 : Int32) : Nat → Int32 → Int32 → Option (Int32)
  | 0, _, _ => none
  | n+1, x2_4, x3_4 =>
    if c_linkCount ≤ x3_4 then
      some x2_4
    else
    (fX4_get (16 : Int32) (9 : Int32) 144 c_links x3_4 (0 : Int32)).bind fun t3 =>
    if t3 = i1 then
      lX2_linksOf_4 c_linkCount c_links i1 n (x2_4 + (1 : Int32)) (x3_4 + (1 : Int32))
    else
    (fX4_get (16 : Int32) (9 : Int32) 144 c_links x3_4 (1 : Int32)).bind fun t5 =>
    if t5 = i1 then
      lX2_linksOf_4 c_linkCount c_links i1 n (x2_4 + (1 : Int32)) (x3_4 + (1 : Int32))
    else
    lX2_linksOf_4 c_linkCount c_links i1 n x2_4 (x3_4 + (1 : Int32))
def fX2_linksOf (N : Nat) (c_linkCount : Int32) (c_links : Nat → Int32) (i1 : Int32) : Option (Int32) :=
  (lX2_linksOf_4 c_linkCount c_links i1 N (0 : Int32) (0 : Int32)).bind fun t1 =>
  some t1
set_option maxHeartbeats 4000000 in
set_option maxRecDepth 20000 in
theorem kX2_linksOf (l : Launch) (D : va_G) (k : Nat → ClassId) (z : (Nat → Nat) × (Nat → Nat)) (N : Nat) (a_this : Nat) (a_this_stations : Nat) (a_this_links : Nat) (a_this_messages : Nat) (a_this_copies : Nat) (a_this_log : Nat) (a_this_ways : Nat) (a_this_frames : Nat) (a_this_links_cells : Nat) (c_stationCount : Int32) (c_linkCount : Int32) (c_messageCount : Int32) (c_time : Int32) (c_life : Int32) (c_tries : Int32) (c_x : Int32) (c_links : Nat → Int32) (i1 : Int32) {u : Int32} (hf : fX2_linksOf N c_linkCount c_links i1 = some u) : rn_KI l D k z yX2_linksOf cX2_linksOf 4 .int 1 23 [.ref a_this, .int i1] [(a_this, .inr (2, [.ref a_this_stations, .ref a_this_links, .ref a_this_messages, .ref a_this_copies, .ref a_this_log, .ref a_this_ways, .ref a_this_frames, .int c_stationCount, .int c_linkCount, .int c_messageCount, .int c_time, .int c_life, .int c_tries, .int c_x])), (a_this_links, .inr (4, [.int (16 : Int32), .int (9 : Int32), .ref a_this_links_cells])), (a_this_links_cells, .inl (k 0, 144, .inl c_links))] [(a_this, .inr (2, [.ref a_this_stations, .ref a_this_links, .ref a_this_messages, .ref a_this_copies, .ref a_this_log, .ref a_this_ways, .ref a_this_frames, .int c_stationCount, .int c_linkCount, .int c_messageCount, .int c_time, .int c_life, .int c_tries, .int c_x])), (a_this_links, .inr (4, [.int (16 : Int32), .int (9 : Int32), .ref a_this_links_cells])), (a_this_links_cells, .inl (k 0, 144, .inl c_links))] u := by
  refine rn_KI.go (LOC := [(0, .ref a_this), (1, .int i1)]) rfl (by decide) (Nat.le_of_ble_eq_true rfl) rfl ?_
  intro p e s m args below meth c A ls R Q X hR hE hW hl
  have hx := X.1.1
  have hb := X.1.2.1
  unfold fX2_linksOf at hf
  refine lv_iconst (v := 0) hx hb dX2_linksOf_0 (by decide) ?_
  refine lv_istore_n (lv' := [(2, .int (0 : Int32)), (0, .ref a_this), (1, .int i1)]) hx hb dX2_linksOf_1 rfl hl (Nat.le_of_ble_eq_true rfl) rfl (fun ls hl => ?_)
  refine lv_iconst (v := 0) hx hb dX2_linksOf_2 (by decide) ?_
  refine lv_istore_n (lv' := [(3, .int (0 : Int32)), (2, .int (0 : Int32)), (0, .ref a_this), (1, .int i1)]) hx hb dX2_linksOf_3 rfl hl (Nat.le_of_ble_eq_true rfl) rfl (fun ls hl => ?_)
  obtain ⟨t1, ht1, hf⟩ := rn_bind hf
  have kk_4 : ∀ (H : Heap) (locs : List Loc) (ls : Array Slot), rn_W D A s [(a_this, .inr (2, [.ref a_this_stations, .ref a_this_links, .ref a_this_messages, .ref a_this_copies, .ref a_this_log, .ref a_this_ways, .ref a_this_frames, .int c_stationCount, .int c_linkCount, .int c_messageCount, .int c_time, .int c_life, .int c_tries, .int c_x])), (a_this_links, .inr (4, [.int (16 : Int32), .int (9 : Int32), .ref a_this_links_cells])), (a_this_links_cells, .inl (k 0, 144, .inl c_links))] H locs → lv_has ls 4 [(2, .int t1)] → W p l e R s m args below meth c H locs 0 0 Q (F0 m 47 ls []) := by
    intro H locs ls hW hl
    refine lv_iload_n hx hb dX2_linksOf_47 rfl (lv_at hl 0 rfl) ?_
    cases hf
    exact hE _ _ _ _ hW rfl dX2_linksOf_48
  clear hf
  have lp_4 : ∀ (n : Nat) (x2_4 : Int32) (x3_4 : Int32) (H : Heap) (locs : List Loc) (ls : Array Slot), lX2_linksOf_4 c_linkCount c_links i1 n x2_4 x3_4 = some t1 → rn_W D A s [(a_this, .inr (2, [.ref a_this_stations, .ref a_this_links, .ref a_this_messages, .ref a_this_copies, .ref a_this_log, .ref a_this_ways, .ref a_this_frames, .int c_stationCount, .int c_linkCount, .int c_messageCount, .int c_time, .int c_life, .int c_tries, .int c_x])), (a_this_links, .inr (4, [.int (16 : Int32), .int (9 : Int32), .ref a_this_links_cells])), (a_this_links_cells, .inl (k 0, 144, .inl c_links))] H locs → lv_has ls 4 [(0, .ref a_this), (1, .int i1), (2, .int x2_4), (3, .int x3_4)] → W p l e R s m args below meth c H locs 0 0 Q (F0 m 4 ls []) := by
    intro n
    induction n with
    | zero => intro x2_4 x3_4 H locs ls hf; exact absurd hf (by rw [lX2_linksOf_4]; exact fun h => nomatch h)
    | succ n ih_4 =>
      intro x2_4 x3_4 H locs ls hf hW hl
      rw [lX2_linksOf_4] at hf
      refine lv_iload_n hx hb dX2_linksOf_4 rfl (lv_at hl 3 rfl) ?_
      refine lv_aload_n hx hb dX2_linksOf_5 rfl (lv_at hl 0 rfl) ?_
      refine rr_get X hW 0 8 gf_X2_50 rfl rfl dX2_linksOf_6 ?_
      refine lv_icmp_ge (tgt := 47) hx hb dX2_linksOf_9 (by decide) (fun hc2 => ?_) (fun hc2 => ?_)
      · replace hf := rn_t hf hc2
        cases hf
        exact kk_4 _ _ _ hW (lv_sub hl [2] rfl)
      · replace hf := rn_f hf hc2
        refine lv_aload_n hx hb dX2_linksOf_12 rfl (lv_at hl 0 rfl) ?_
        refine rr_get X hW 0 1 gf_X2_20 rfl rfl dX2_linksOf_13 ?_
        refine lv_iload_n hx hb dX2_linksOf_16 rfl (lv_at hl 3 rfl) ?_
        refine lv_iconst (v := 0) hx hb dX2_linksOf_17 (by decide) ?_
        obtain ⟨t3, ht3, hf⟩ := rn_bind hf
        refine rr_callI (As := [.int x3_4, .int (0 : Int32)]) (rest := []) X hW (kX4_get l D k z a_this_links a_this_links_cells (16 : Int32) (9 : Int32) 144 c_links x3_4 (0 : Int32) ht3) gm_X4_get gl_X2_105 [1, 2] [0] [(a_this, .inr (2, [.ref a_this_stations, .ref a_this_links, .ref a_this_messages, .ref a_this_copies, .ref a_this_log, .ref a_this_ways, .ref a_this_frames, .int c_stationCount, .int c_linkCount, .int c_messageCount, .int c_time, .int c_life, .int c_tries, .int c_x])), (a_this_links, .inr (4, [.int (16 : Int32), .int (9 : Int32), .ref a_this_links_cells])), (a_this_links_cells, .inl (k 0, 144, .inl c_links))] rfl rfl rfl rfl ⟨rfl, rfl, rn_Bw (wr := [(a_this, .inr (2, [.ref a_this_stations, .ref a_this_links, .ref a_this_messages, .ref a_this_copies, .ref a_this_log, .ref a_this_ways, .ref a_this_frames, .int c_stationCount, .int c_linkCount, .int c_messageCount, .int c_time, .int c_life, .int c_tries, .int c_x]))]) rfl rfl, rfl, rfl⟩ (rn_r hR rfl) rn_cs hl.1 rfl (Nat.le_of_ble_eq_true rfl) dX2_linksOf_18 (fun hn3 H locs hW => ?_)
        refine lv_iload_n hx hb dX2_linksOf_21 rfl (lv_at hl 1 rfl) ?_
        refine lv_icmp_eq (tgt := 38) hx hb dX2_linksOf_22 (by decide) (fun hc4 => ?_) (fun hc4 => ?_)
        · replace hf := rn_t hf hc4
          refine lv_iinc (v := (x2_4 + (1 : Int32))) (lv' := [(2, .int (x2_4 + (1 : Int32))), (0, .ref a_this), (1, .int i1), (3, .int x3_4)]) hx hb dX2_linksOf_38 hl (k := 2) rfl (congrArg (fun q => _ + q) (by decide)) (Nat.le_of_ble_eq_true rfl) rfl (fun ls hl => ?_)
          refine lv_iinc (v := (x3_4 + (1 : Int32))) (lv' := [(3, .int (x3_4 + (1 : Int32))), (2, .int (x2_4 + (1 : Int32))), (0, .ref a_this), (1, .int i1)]) hx hb dX2_linksOf_41 hl (k := 3) rfl (congrArg (fun q => _ + q) (by decide)) (Nat.le_of_ble_eq_true rfl) rfl (fun ls hl => ?_)
          refine lv_goto (tgt := 4) hx hb dX2_linksOf_44 (by decide) ?_
          exact ih_4 (x2_4 + (1 : Int32)) (x3_4 + (1 : Int32)) _ _ _ hf hW (lv_sub hl [2, 3, 1, 0] rfl)
        · replace hf := rn_f hf hc4
          refine lv_aload_n hx hb dX2_linksOf_25 rfl (lv_at hl 0 rfl) ?_
          refine rr_get X hW 0 1 gf_X2_20 rfl rfl dX2_linksOf_26 ?_
          refine lv_iload_n hx hb dX2_linksOf_29 rfl (lv_at hl 3 rfl) ?_
          refine lv_iconst (v := 1) hx hb dX2_linksOf_30 (by decide) ?_
          obtain ⟨t5, ht5, hf⟩ := rn_bind hf
          refine rr_callI (As := [.int x3_4, .int (1 : Int32)]) (rest := []) X hW (kX4_get l D k z a_this_links a_this_links_cells (16 : Int32) (9 : Int32) 144 c_links x3_4 (1 : Int32) ht5) gm_X4_get gl_X2_105 [1, 2] [0] [(a_this, .inr (2, [.ref a_this_stations, .ref a_this_links, .ref a_this_messages, .ref a_this_copies, .ref a_this_log, .ref a_this_ways, .ref a_this_frames, .int c_stationCount, .int c_linkCount, .int c_messageCount, .int c_time, .int c_life, .int c_tries, .int c_x])), (a_this_links, .inr (4, [.int (16 : Int32), .int (9 : Int32), .ref a_this_links_cells])), (a_this_links_cells, .inl (k 0, 144, .inl c_links))] rfl rfl rfl rfl ⟨rfl, rfl, rn_Bw (wr := [(a_this, .inr (2, [.ref a_this_stations, .ref a_this_links, .ref a_this_messages, .ref a_this_copies, .ref a_this_log, .ref a_this_ways, .ref a_this_frames, .int c_stationCount, .int c_linkCount, .int c_messageCount, .int c_time, .int c_life, .int c_tries, .int c_x]))]) rfl rfl, rfl, rfl⟩ (rn_r hR rfl) rn_cs hl.1 rfl (Nat.le_of_ble_eq_true rfl) dX2_linksOf_31 (fun hn5 H locs hW => ?_)
          refine lv_iload_n hx hb dX2_linksOf_34 rfl (lv_at hl 1 rfl) ?_
          refine lv_icmp_ne (tgt := 41) hx hb dX2_linksOf_35 (by decide) (fun hc6 => ?_) (fun hc6 => ?_)
          · replace hf := rn_f hf hc6
            refine lv_iinc (v := (x3_4 + (1 : Int32))) (lv' := [(3, .int (x3_4 + (1 : Int32))), (0, .ref a_this), (1, .int i1), (2, .int x2_4)]) hx hb dX2_linksOf_41 hl (k := 3) rfl (congrArg (fun q => _ + q) (by decide)) (Nat.le_of_ble_eq_true rfl) rfl (fun ls hl => ?_)
            refine lv_goto (tgt := 4) hx hb dX2_linksOf_44 (by decide) ?_
            exact ih_4 x2_4 (x3_4 + (1 : Int32)) _ _ _ hf hW (lv_sub hl [1, 2, 3, 0] rfl)
          · replace hf := rn_t hf hc6
            refine lv_iinc (v := (x2_4 + (1 : Int32))) (lv' := [(2, .int (x2_4 + (1 : Int32))), (0, .ref a_this), (1, .int i1), (3, .int x3_4)]) hx hb dX2_linksOf_38 hl (k := 2) rfl (congrArg (fun q => _ + q) (by decide)) (Nat.le_of_ble_eq_true rfl) rfl (fun ls hl => ?_)
            refine lv_iinc (v := (x3_4 + (1 : Int32))) (lv' := [(3, .int (x3_4 + (1 : Int32))), (2, .int (x2_4 + (1 : Int32))), (0, .ref a_this), (1, .int i1)]) hx hb dX2_linksOf_41 hl (k := 3) rfl (congrArg (fun q => _ + q) (by decide)) (Nat.le_of_ble_eq_true rfl) rfl (fun ls hl => ?_)
            refine lv_goto (tgt := 4) hx hb dX2_linksOf_44 (by decide) ?_
            exact ih_4 (x2_4 + (1 : Int32)) (x3_4 + (1 : Int32)) _ _ _ hf hW (lv_sub hl [2, 3, 1, 0] rfl)
  exact lp_4 N (0 : Int32) (0 : Int32) _ _ _ ht1 hW (lv_sub hl [2, 3, 1, 0] rfl)
def fX2_stationNumber (N : Nat) (c_linkCount : Int32) (c_messageCount : Int32) (c_time : Int32) (c_stations : Nat → Int32) (c_links : Nat → Int32) (c_copies : Nat → Int32) (i1 : Int32) (i2 : Int32) : Option (Int32) :=
  if i2 = (3 : Int32) then
    (fX2_hourOfDay c_time).bind fun t2 =>
    (fX2_isOnAir c_stations i1 t2).bind fun t3 =>
    if t3 = 0 then
      some (0 : Int32)
    else
    some (1 : Int32)
  else
  if i2 = (4 : Int32) then
    (fX2_copiesThatWait N c_copies (0 : Int32) c_messageCount i1 (i1 + (1 : Int32))).bind fun t6 =>
    some t6
  else
  if i2 = (9 : Int32) then
    (fX2_linksOf N c_linkCount c_links i1).bind fun t8 =>
    some t8
  else
  (fX4_get (8 : Int32) (10 : Int32) 80 c_stations i1 i2).bind fun t9 =>
  some t9
set_option maxHeartbeats 4000000 in
set_option maxRecDepth 20000 in
theorem kX2_stationNumber (l : Launch) (D : va_G) (k : Nat → ClassId) (z : (Nat → Nat) × (Nat → Nat)) (N : Nat) (a_this : Nat) (a_this_stations : Nat) (a_this_links : Nat) (a_this_messages : Nat) (a_this_copies : Nat) (a_this_log : Nat) (a_this_ways : Nat) (a_this_frames : Nat) (a_this_stations_cells : Nat) (a_this_links_cells : Nat) (a_this_copies_cells : Nat) (c_stationCount : Int32) (c_linkCount : Int32) (c_messageCount : Int32) (c_time : Int32) (c_life : Int32) (c_tries : Int32) (c_x : Int32) (c_stations : Nat → Int32) (c_links : Nat → Int32) (c_copies : Nat → Int32) (i1 : Int32) (i2 : Int32) {u : Int32} (hf : fX2_stationNumber N c_linkCount c_messageCount c_time c_stations c_links c_copies i1 i2 = some u) : rn_KI l D k z yX2_stationNumber cX2_stationNumber 3 .int 3 72 [.ref a_this, .int i1, .int i2] [(a_this, .inr (2, [.ref a_this_stations, .ref a_this_links, .ref a_this_messages, .ref a_this_copies, .ref a_this_log, .ref a_this_ways, .ref a_this_frames, .int c_stationCount, .int c_linkCount, .int c_messageCount, .int c_time, .int c_life, .int c_tries, .int c_x])), (a_this_stations, .inr (4, [.int (8 : Int32), .int (10 : Int32), .ref a_this_stations_cells])), (a_this_stations_cells, .inl (k 0, 80, .inl c_stations)), (a_this_links, .inr (4, [.int (16 : Int32), .int (9 : Int32), .ref a_this_links_cells])), (a_this_links_cells, .inl (k 0, 144, .inl c_links)), (a_this_copies, .inr (4, [.int (192 : Int32), .int (5 : Int32), .ref a_this_copies_cells])), (a_this_copies_cells, .inl (k 0, 960, .inl c_copies))] [(a_this, .inr (2, [.ref a_this_stations, .ref a_this_links, .ref a_this_messages, .ref a_this_copies, .ref a_this_log, .ref a_this_ways, .ref a_this_frames, .int c_stationCount, .int c_linkCount, .int c_messageCount, .int c_time, .int c_life, .int c_tries, .int c_x])), (a_this_stations, .inr (4, [.int (8 : Int32), .int (10 : Int32), .ref a_this_stations_cells])), (a_this_stations_cells, .inl (k 0, 80, .inl c_stations)), (a_this_links, .inr (4, [.int (16 : Int32), .int (9 : Int32), .ref a_this_links_cells])), (a_this_links_cells, .inl (k 0, 144, .inl c_links)), (a_this_copies, .inr (4, [.int (192 : Int32), .int (5 : Int32), .ref a_this_copies_cells])), (a_this_copies_cells, .inl (k 0, 960, .inl c_copies))] u := by
  refine rn_KI.go (LOC := [(0, .ref a_this), (1, .int i1), (2, .int i2)]) rfl (by decide) (Nat.le_of_ble_eq_true rfl) rfl ?_
  intro p e s m args below meth c A ls R Q X hR hE hW hl
  have hx := X.1.1
  have hb := X.1.2.1
  unfold fX2_stationNumber at hf
  refine lv_iload_n hx hb dX2_stationNumber_0 rfl (lv_at hl 2 rfl) ?_
  by_cases hc1 : i2 = (3 : Int32)
  · replace hf := rn_t hf hc1
    refine lv_lookup (off := 35) (tgt := 36) hx hb dX2_stationNumber_1 (by decide) (by rw [hc1]; rfl) (by decide) ?_
    refine lv_aload_n hx hb dX2_stationNumber_36 rfl (lv_at hl 0 rfl) ?_
    refine lv_iload_n hx hb dX2_stationNumber_37 rfl (lv_at hl 1 rfl) ?_
    refine lv_aload_n hx hb dX2_stationNumber_38 rfl (lv_at hl 0 rfl) ?_
    obtain ⟨t2, ht2, hf⟩ := rn_bind hf
    refine rr_callI (As := []) (rest := [.int i1, .ref a_this]) X hW (kX2_hourOfDay l D k z a_this a_this_stations a_this_links a_this_messages a_this_copies a_this_log a_this_ways a_this_frames c_stationCount c_linkCount c_messageCount c_time c_life c_tries c_x ht2) gm_X2_hourOfDay gl_X2_118 [0] [1, 2, 3, 4, 5, 6] [(a_this, .inr (2, [.ref a_this_stations, .ref a_this_links, .ref a_this_messages, .ref a_this_copies, .ref a_this_log, .ref a_this_ways, .ref a_this_frames, .int c_stationCount, .int c_linkCount, .int c_messageCount, .int c_time, .int c_life, .int c_tries, .int c_x])), (a_this_stations, .inr (4, [.int (8 : Int32), .int (10 : Int32), .ref a_this_stations_cells])), (a_this_stations_cells, .inl (k 0, 80, .inl c_stations)), (a_this_links, .inr (4, [.int (16 : Int32), .int (9 : Int32), .ref a_this_links_cells])), (a_this_links_cells, .inl (k 0, 144, .inl c_links)), (a_this_copies, .inr (4, [.int (192 : Int32), .int (5 : Int32), .ref a_this_copies_cells])), (a_this_copies_cells, .inl (k 0, 960, .inl c_copies))] rfl rfl rfl rfl ⟨rfl, rfl, rn_Bw (wr := [(a_this_stations, .inr (4, [.int (8 : Int32), .int (10 : Int32), .ref a_this_stations_cells])), (a_this_stations_cells, .inl (k 0, 80, .inl c_stations)), (a_this_links, .inr (4, [.int (16 : Int32), .int (9 : Int32), .ref a_this_links_cells])), (a_this_links_cells, .inl (k 0, 144, .inl c_links)), (a_this_copies, .inr (4, [.int (192 : Int32), .int (5 : Int32), .ref a_this_copies_cells])), (a_this_copies_cells, .inl (k 0, 960, .inl c_copies))]) rfl rfl, rfl, rfl⟩ (rn_r hR rfl) rn_cs hl.1 rfl (Nat.le_of_ble_eq_true rfl) dX2_stationNumber_39 (fun hn2 H locs hW => ?_)
    obtain ⟨t3, ht3, hf⟩ := rn_bind hf
    refine rr_callI (As := [.int i1, .int t2]) (rest := []) X hW (kX2_isOnAir l D k z a_this a_this_stations a_this_links a_this_messages a_this_copies a_this_log a_this_ways a_this_frames a_this_stations_cells c_stationCount c_linkCount c_messageCount c_time c_life c_tries c_x c_stations i1 t2 ht3) gm_X2_isOnAir gl_X2_121 [0, 1, 2] [3, 4, 5, 6] [(a_this, .inr (2, [.ref a_this_stations, .ref a_this_links, .ref a_this_messages, .ref a_this_copies, .ref a_this_log, .ref a_this_ways, .ref a_this_frames, .int c_stationCount, .int c_linkCount, .int c_messageCount, .int c_time, .int c_life, .int c_tries, .int c_x])), (a_this_stations, .inr (4, [.int (8 : Int32), .int (10 : Int32), .ref a_this_stations_cells])), (a_this_stations_cells, .inl (k 0, 80, .inl c_stations)), (a_this_links, .inr (4, [.int (16 : Int32), .int (9 : Int32), .ref a_this_links_cells])), (a_this_links_cells, .inl (k 0, 144, .inl c_links)), (a_this_copies, .inr (4, [.int (192 : Int32), .int (5 : Int32), .ref a_this_copies_cells])), (a_this_copies_cells, .inl (k 0, 960, .inl c_copies))] rfl rfl rfl rfl ⟨rfl, rfl, rn_Bw (wr := [(a_this_links, .inr (4, [.int (16 : Int32), .int (9 : Int32), .ref a_this_links_cells])), (a_this_links_cells, .inl (k 0, 144, .inl c_links)), (a_this_copies, .inr (4, [.int (192 : Int32), .int (5 : Int32), .ref a_this_copies_cells])), (a_this_copies_cells, .inl (k 0, 960, .inl c_copies))]) rfl rfl, rfl, rfl⟩ (rn_r hR rfl) rn_cs hl.1 rfl (Nat.le_of_ble_eq_true rfl) dX2_stationNumber_42 (fun hn3 H locs hW => ?_)
    refine lv_if_eq (tgt := 52) hx hb dX2_stationNumber_45 (by decide) (fun hc4 => ?_) (fun hc4 => ?_)
    · replace hf := rn_t hf hc4
      refine lv_iconst (v := 0) hx hb dX2_stationNumber_52 (by decide) ?_
      cases hf
      exact hE _ _ _ _ hW rfl dX2_stationNumber_53
    · replace hf := rn_f hf hc4
      refine lv_iconst (v := 1) hx hb dX2_stationNumber_48 (by decide) ?_
      refine lv_goto (tgt := 53) hx hb dX2_stationNumber_49 (by decide) ?_
      cases hf
      exact hE _ _ _ _ hW rfl dX2_stationNumber_53
  · replace hf := rn_f hf hc1
    by_cases hc5 : i2 = (4 : Int32)
    · replace hf := rn_t hf hc5
      refine lv_lookup (off := 53) (tgt := 54) hx hb dX2_stationNumber_1 (by decide) (by rw [hc5]; rfl) (by decide) ?_
      refine lv_aload_n hx hb dX2_stationNumber_54 rfl (lv_at hl 0 rfl) ?_
      refine lv_iconst (v := 0) hx hb dX2_stationNumber_55 (by decide) ?_
      refine lv_aload_n hx hb dX2_stationNumber_56 rfl (lv_at hl 0 rfl) ?_
      refine rr_get X hW 0 9 gf_X2_53 rfl rfl dX2_stationNumber_57 ?_
      refine lv_iload_n hx hb dX2_stationNumber_60 rfl (lv_at hl 1 rfl) ?_
      refine lv_iload_n hx hb dX2_stationNumber_61 rfl (lv_at hl 1 rfl) ?_
      refine lv_iconst (v := 1) hx hb dX2_stationNumber_62 (by decide) ?_
      refine lv_iadd hx hb dX2_stationNumber_63 ?_
      obtain ⟨t6, ht6, hf⟩ := rn_bind hf
      refine rr_callI (As := [.int (0 : Int32), .int c_messageCount, .int i1, .int (i1 + (1 : Int32))]) (rest := []) X hW (kX2_copiesThatWait l D k z N a_this a_this_stations a_this_links a_this_messages a_this_copies a_this_log a_this_ways a_this_frames a_this_copies_cells c_stationCount c_linkCount c_messageCount c_time c_life c_tries c_x c_copies (0 : Int32) c_messageCount i1 (i1 + (1 : Int32)) ht6) gm_X2_copiesThatWait gl_X2_124 [0, 5, 6] [1, 2, 3, 4] [(a_this, .inr (2, [.ref a_this_stations, .ref a_this_links, .ref a_this_messages, .ref a_this_copies, .ref a_this_log, .ref a_this_ways, .ref a_this_frames, .int c_stationCount, .int c_linkCount, .int c_messageCount, .int c_time, .int c_life, .int c_tries, .int c_x])), (a_this_stations, .inr (4, [.int (8 : Int32), .int (10 : Int32), .ref a_this_stations_cells])), (a_this_stations_cells, .inl (k 0, 80, .inl c_stations)), (a_this_links, .inr (4, [.int (16 : Int32), .int (9 : Int32), .ref a_this_links_cells])), (a_this_links_cells, .inl (k 0, 144, .inl c_links)), (a_this_copies, .inr (4, [.int (192 : Int32), .int (5 : Int32), .ref a_this_copies_cells])), (a_this_copies_cells, .inl (k 0, 960, .inl c_copies))] rfl rfl rfl rfl ⟨rfl, rfl, rn_Bw (wr := [(a_this_stations, .inr (4, [.int (8 : Int32), .int (10 : Int32), .ref a_this_stations_cells])), (a_this_stations_cells, .inl (k 0, 80, .inl c_stations)), (a_this_links, .inr (4, [.int (16 : Int32), .int (9 : Int32), .ref a_this_links_cells])), (a_this_links_cells, .inl (k 0, 144, .inl c_links))]) rfl rfl, rfl, rfl⟩ (rn_r hR rfl) rn_cs hl.1 rfl (Nat.le_of_ble_eq_true rfl) dX2_stationNumber_64 (fun hn6 H locs hW => ?_)
      cases hf
      exact hE _ _ _ _ hW rfl dX2_stationNumber_67
    · replace hf := rn_f hf hc5
      by_cases hc7 : i2 = (9 : Int32)
      · replace hf := rn_t hf hc7
        refine lv_lookup (off := 67) (tgt := 68) hx hb dX2_stationNumber_1 (by decide) (by rw [hc7]; rfl) (by decide) ?_
        refine lv_aload_n hx hb dX2_stationNumber_68 rfl (lv_at hl 0 rfl) ?_
        refine lv_iload_n hx hb dX2_stationNumber_69 rfl (lv_at hl 1 rfl) ?_
        obtain ⟨t8, ht8, hf⟩ := rn_bind hf
        refine rr_callI (As := [.int i1]) (rest := []) X hW (kX2_linksOf l D k z N a_this a_this_stations a_this_links a_this_messages a_this_copies a_this_log a_this_ways a_this_frames a_this_links_cells c_stationCount c_linkCount c_messageCount c_time c_life c_tries c_x c_links i1 ht8) gm_X2_linksOf gl_X2_128 [0, 3, 4] [1, 2, 5, 6] [(a_this, .inr (2, [.ref a_this_stations, .ref a_this_links, .ref a_this_messages, .ref a_this_copies, .ref a_this_log, .ref a_this_ways, .ref a_this_frames, .int c_stationCount, .int c_linkCount, .int c_messageCount, .int c_time, .int c_life, .int c_tries, .int c_x])), (a_this_stations, .inr (4, [.int (8 : Int32), .int (10 : Int32), .ref a_this_stations_cells])), (a_this_stations_cells, .inl (k 0, 80, .inl c_stations)), (a_this_links, .inr (4, [.int (16 : Int32), .int (9 : Int32), .ref a_this_links_cells])), (a_this_links_cells, .inl (k 0, 144, .inl c_links)), (a_this_copies, .inr (4, [.int (192 : Int32), .int (5 : Int32), .ref a_this_copies_cells])), (a_this_copies_cells, .inl (k 0, 960, .inl c_copies))] rfl rfl rfl rfl ⟨rfl, rfl, rn_Bw (wr := [(a_this_stations, .inr (4, [.int (8 : Int32), .int (10 : Int32), .ref a_this_stations_cells])), (a_this_stations_cells, .inl (k 0, 80, .inl c_stations)), (a_this_copies, .inr (4, [.int (192 : Int32), .int (5 : Int32), .ref a_this_copies_cells])), (a_this_copies_cells, .inl (k 0, 960, .inl c_copies))]) rfl rfl, rfl, rfl⟩ (rn_r hR rfl) rn_cs hl.1 rfl (Nat.le_of_ble_eq_true rfl) dX2_stationNumber_70 (fun hn8 H locs hW => ?_)
        cases hf
        exact hE _ _ _ _ hW rfl dX2_stationNumber_73
      · replace hf := rn_f hf hc7
        refine lv_lookup (off := 73) (tgt := 74) hx hb dX2_stationNumber_1 (by decide) (by simp only [Array.toList]; rw [lv_osw hc1 (by decide)]; rw [lv_osw hc5 (by decide)]; rw [lv_osw hc7 (by decide)]; rfl) (by decide) ?_
        refine lv_aload_n hx hb dX2_stationNumber_74 rfl (lv_at hl 0 rfl) ?_
        refine rr_get X hW 0 0 gf_X2_14 rfl rfl dX2_stationNumber_75 ?_
        refine lv_iload_n hx hb dX2_stationNumber_78 rfl (lv_at hl 1 rfl) ?_
        refine lv_iload_n hx hb dX2_stationNumber_79 rfl (lv_at hl 2 rfl) ?_
        obtain ⟨t9, ht9, hf⟩ := rn_bind hf
        refine rr_callI (As := [.int i1, .int i2]) (rest := []) X hW (kX4_get l D k z a_this_stations a_this_stations_cells (8 : Int32) (10 : Int32) 80 c_stations i1 i2 ht9) gm_X4_get gl_X2_105 [1, 2] [0, 3, 4, 5, 6] [(a_this, .inr (2, [.ref a_this_stations, .ref a_this_links, .ref a_this_messages, .ref a_this_copies, .ref a_this_log, .ref a_this_ways, .ref a_this_frames, .int c_stationCount, .int c_linkCount, .int c_messageCount, .int c_time, .int c_life, .int c_tries, .int c_x])), (a_this_stations, .inr (4, [.int (8 : Int32), .int (10 : Int32), .ref a_this_stations_cells])), (a_this_stations_cells, .inl (k 0, 80, .inl c_stations)), (a_this_links, .inr (4, [.int (16 : Int32), .int (9 : Int32), .ref a_this_links_cells])), (a_this_links_cells, .inl (k 0, 144, .inl c_links)), (a_this_copies, .inr (4, [.int (192 : Int32), .int (5 : Int32), .ref a_this_copies_cells])), (a_this_copies_cells, .inl (k 0, 960, .inl c_copies))] rfl rfl rfl rfl ⟨rfl, rfl, rn_Bw (wr := [(a_this, .inr (2, [.ref a_this_stations, .ref a_this_links, .ref a_this_messages, .ref a_this_copies, .ref a_this_log, .ref a_this_ways, .ref a_this_frames, .int c_stationCount, .int c_linkCount, .int c_messageCount, .int c_time, .int c_life, .int c_tries, .int c_x])), (a_this_links, .inr (4, [.int (16 : Int32), .int (9 : Int32), .ref a_this_links_cells])), (a_this_links_cells, .inl (k 0, 144, .inl c_links)), (a_this_copies, .inr (4, [.int (192 : Int32), .int (5 : Int32), .ref a_this_copies_cells])), (a_this_copies_cells, .inl (k 0, 960, .inl c_copies))]) rfl rfl, rfl, rfl⟩ (rn_r hR rfl) rn_cs hl.1 rfl (Nat.le_of_ble_eq_true rfl) dX2_stationNumber_80 (fun hn9 H locs hW => ?_)
        cases hf
        exact hE _ _ _ _ hW rfl dX2_stationNumber_83
def fX2_linkNumber (c_time : Int32) (c_stations : Nat → Int32) (c_links : Nat → Int32) (i1 : Int32) (i2 : Int32) : Option (Int32) :=
  if i2 = (5 : Int32) then
    (fX2_hourOfDay c_time).bind fun t3 =>
    (fX2_isOpen c_stations c_links i1 t3).bind fun t4 =>
    if t4 = 0 then
      some (0 : Int32)
    else
    some (1 : Int32)
  else
  (fX4_get (16 : Int32) (9 : Int32) 144 c_links i1 i2).bind fun t2 =>
  some t2
set_option maxHeartbeats 4000000 in
set_option maxRecDepth 20000 in
theorem kX2_linkNumber (l : Launch) (D : va_G) (k : Nat → ClassId) (z : (Nat → Nat) × (Nat → Nat)) (a_this : Nat) (a_this_stations : Nat) (a_this_links : Nat) (a_this_messages : Nat) (a_this_copies : Nat) (a_this_log : Nat) (a_this_ways : Nat) (a_this_frames : Nat) (a_this_stations_cells : Nat) (a_this_links_cells : Nat) (c_stationCount : Int32) (c_linkCount : Int32) (c_messageCount : Int32) (c_time : Int32) (c_life : Int32) (c_tries : Int32) (c_x : Int32) (c_stations : Nat → Int32) (c_links : Nat → Int32) (i1 : Int32) (i2 : Int32) {u : Int32} (hf : fX2_linkNumber c_time c_stations c_links i1 i2 = some u) : rn_KI l D k z yX2_linkNumber cX2_linkNumber 3 .int 3 67 [.ref a_this, .int i1, .int i2] [(a_this, .inr (2, [.ref a_this_stations, .ref a_this_links, .ref a_this_messages, .ref a_this_copies, .ref a_this_log, .ref a_this_ways, .ref a_this_frames, .int c_stationCount, .int c_linkCount, .int c_messageCount, .int c_time, .int c_life, .int c_tries, .int c_x])), (a_this_stations, .inr (4, [.int (8 : Int32), .int (10 : Int32), .ref a_this_stations_cells])), (a_this_stations_cells, .inl (k 0, 80, .inl c_stations)), (a_this_links, .inr (4, [.int (16 : Int32), .int (9 : Int32), .ref a_this_links_cells])), (a_this_links_cells, .inl (k 0, 144, .inl c_links))] [(a_this, .inr (2, [.ref a_this_stations, .ref a_this_links, .ref a_this_messages, .ref a_this_copies, .ref a_this_log, .ref a_this_ways, .ref a_this_frames, .int c_stationCount, .int c_linkCount, .int c_messageCount, .int c_time, .int c_life, .int c_tries, .int c_x])), (a_this_stations, .inr (4, [.int (8 : Int32), .int (10 : Int32), .ref a_this_stations_cells])), (a_this_stations_cells, .inl (k 0, 80, .inl c_stations)), (a_this_links, .inr (4, [.int (16 : Int32), .int (9 : Int32), .ref a_this_links_cells])), (a_this_links_cells, .inl (k 0, 144, .inl c_links))] u := by
  refine rn_KI.go (LOC := [(0, .ref a_this), (1, .int i1), (2, .int i2)]) rfl (by decide) (Nat.le_of_ble_eq_true rfl) rfl ?_
  intro p e s m args below meth c A ls R Q X hR hE hW hl
  have hx := X.1.1
  have hb := X.1.2.1
  unfold fX2_linkNumber at hf
  refine lv_iload_n hx hb dX2_linkNumber_0 rfl (lv_at hl 2 rfl) ?_
  refine lv_iconst (v := 5) hx hb dX2_linkNumber_1 (by decide) ?_
  refine lv_icmp_ne (tgt := 23) hx hb dX2_linkNumber_2 (by decide) (fun hc1 => ?_) (fun hc1 => ?_)
  · replace hf := rn_f hf hc1
    refine lv_aload_n hx hb dX2_linkNumber_23 rfl (lv_at hl 0 rfl) ?_
    refine rr_get X hW 0 1 gf_X2_20 rfl rfl dX2_linkNumber_24 ?_
    refine lv_iload_n hx hb dX2_linkNumber_27 rfl (lv_at hl 1 rfl) ?_
    refine lv_iload_n hx hb dX2_linkNumber_28 rfl (lv_at hl 2 rfl) ?_
    obtain ⟨t2, ht2, hf⟩ := rn_bind hf
    refine rr_callI (As := [.int i1, .int i2]) (rest := []) X hW (kX4_get l D k z a_this_links a_this_links_cells (16 : Int32) (9 : Int32) 144 c_links i1 i2 ht2) gm_X4_get gl_X2_105 [3, 4] [0, 1, 2] [(a_this, .inr (2, [.ref a_this_stations, .ref a_this_links, .ref a_this_messages, .ref a_this_copies, .ref a_this_log, .ref a_this_ways, .ref a_this_frames, .int c_stationCount, .int c_linkCount, .int c_messageCount, .int c_time, .int c_life, .int c_tries, .int c_x])), (a_this_stations, .inr (4, [.int (8 : Int32), .int (10 : Int32), .ref a_this_stations_cells])), (a_this_stations_cells, .inl (k 0, 80, .inl c_stations)), (a_this_links, .inr (4, [.int (16 : Int32), .int (9 : Int32), .ref a_this_links_cells])), (a_this_links_cells, .inl (k 0, 144, .inl c_links))] rfl rfl rfl rfl ⟨rfl, rfl, rn_Bw (wr := [(a_this, .inr (2, [.ref a_this_stations, .ref a_this_links, .ref a_this_messages, .ref a_this_copies, .ref a_this_log, .ref a_this_ways, .ref a_this_frames, .int c_stationCount, .int c_linkCount, .int c_messageCount, .int c_time, .int c_life, .int c_tries, .int c_x])), (a_this_stations, .inr (4, [.int (8 : Int32), .int (10 : Int32), .ref a_this_stations_cells])), (a_this_stations_cells, .inl (k 0, 80, .inl c_stations))]) rfl rfl, rfl, rfl⟩ (rn_r hR rfl) rn_cs hl.1 rfl (Nat.le_of_ble_eq_true rfl) dX2_linkNumber_29 (fun hn2 H locs hW => ?_)
    cases hf
    exact hE _ _ _ _ hW rfl dX2_linkNumber_32
  · replace hf := rn_t hf hc1
    refine lv_aload_n hx hb dX2_linkNumber_5 rfl (lv_at hl 0 rfl) ?_
    refine lv_iload_n hx hb dX2_linkNumber_6 rfl (lv_at hl 1 rfl) ?_
    refine lv_aload_n hx hb dX2_linkNumber_7 rfl (lv_at hl 0 rfl) ?_
    obtain ⟨t3, ht3, hf⟩ := rn_bind hf
    refine rr_callI (As := []) (rest := [.int i1, .ref a_this]) X hW (kX2_hourOfDay l D k z a_this a_this_stations a_this_links a_this_messages a_this_copies a_this_log a_this_ways a_this_frames c_stationCount c_linkCount c_messageCount c_time c_life c_tries c_x ht3) gm_X2_hourOfDay gl_X2_118 [0] [1, 2, 3, 4] [(a_this, .inr (2, [.ref a_this_stations, .ref a_this_links, .ref a_this_messages, .ref a_this_copies, .ref a_this_log, .ref a_this_ways, .ref a_this_frames, .int c_stationCount, .int c_linkCount, .int c_messageCount, .int c_time, .int c_life, .int c_tries, .int c_x])), (a_this_stations, .inr (4, [.int (8 : Int32), .int (10 : Int32), .ref a_this_stations_cells])), (a_this_stations_cells, .inl (k 0, 80, .inl c_stations)), (a_this_links, .inr (4, [.int (16 : Int32), .int (9 : Int32), .ref a_this_links_cells])), (a_this_links_cells, .inl (k 0, 144, .inl c_links))] rfl rfl rfl rfl ⟨rfl, rfl, rn_Bw (wr := [(a_this_stations, .inr (4, [.int (8 : Int32), .int (10 : Int32), .ref a_this_stations_cells])), (a_this_stations_cells, .inl (k 0, 80, .inl c_stations)), (a_this_links, .inr (4, [.int (16 : Int32), .int (9 : Int32), .ref a_this_links_cells])), (a_this_links_cells, .inl (k 0, 144, .inl c_links))]) rfl rfl, rfl, rfl⟩ (rn_r hR rfl) rn_cs hl.1 rfl (Nat.le_of_ble_eq_true rfl) dX2_linkNumber_8 (fun hn3 H locs hW => ?_)
    obtain ⟨t4, ht4, hf⟩ := rn_bind hf
    refine rr_callI (As := [.int i1, .int t3]) (rest := []) X hW (kX2_isOpen l D k z a_this a_this_stations a_this_links a_this_messages a_this_copies a_this_log a_this_ways a_this_frames a_this_stations_cells a_this_links_cells c_stationCount c_linkCount c_messageCount c_time c_life c_tries c_x c_stations c_links i1 t3 ht4) gm_X2_isOpen gl_X2_111 [0, 1, 2, 3, 4] [] [(a_this, .inr (2, [.ref a_this_stations, .ref a_this_links, .ref a_this_messages, .ref a_this_copies, .ref a_this_log, .ref a_this_ways, .ref a_this_frames, .int c_stationCount, .int c_linkCount, .int c_messageCount, .int c_time, .int c_life, .int c_tries, .int c_x])), (a_this_stations, .inr (4, [.int (8 : Int32), .int (10 : Int32), .ref a_this_stations_cells])), (a_this_stations_cells, .inl (k 0, 80, .inl c_stations)), (a_this_links, .inr (4, [.int (16 : Int32), .int (9 : Int32), .ref a_this_links_cells])), (a_this_links_cells, .inl (k 0, 144, .inl c_links))] rfl rfl rfl rfl ⟨rfl, rfl, rfl, rfl, rfl⟩ (rn_r hR rfl) rn_cs hl.1 rfl (Nat.le_of_ble_eq_true rfl) dX2_linkNumber_11 (fun hn4 H locs hW => ?_)
    refine lv_if_eq (tgt := 21) hx hb dX2_linkNumber_14 (by decide) (fun hc5 => ?_) (fun hc5 => ?_)
    · replace hf := rn_t hf hc5
      refine lv_iconst (v := 0) hx hb dX2_linkNumber_21 (by decide) ?_
      cases hf
      exact hE _ _ _ _ hW rfl dX2_linkNumber_22
    · replace hf := rn_f hf hc5
      refine lv_iconst (v := 1) hx hb dX2_linkNumber_17 (by decide) ?_
      refine lv_goto (tgt := 22) hx hb dX2_linkNumber_18 (by decide) ?_
      cases hf
      exact hE _ _ _ _ hW rfl dX2_linkNumber_22
def fX2_messageState (N : Nat) (c_stationCount : Int32) (c_messages : Nat → Int32) (c_copies : Nat → Int32) (i1 : Int32) : Option (Int32) :=
  (fX4_get (24 : Int32) (12 : Int32) 288 c_messages i1 (5 : Int32)).bind fun t1 =>
  if t1 = (-1 : Int32) then
    (fX2_copiesThatWait N c_copies i1 (i1 + (1 : Int32)) (0 : Int32) c_stationCount).bind fun t3 =>
    if t3 ≤ 0 then
      some (2 : Int32)
    else
    some (0 : Int32)
  else
  some (1 : Int32)
set_option maxHeartbeats 4000000 in
set_option maxRecDepth 20000 in
theorem kX2_messageState (l : Launch) (D : va_G) (k : Nat → ClassId) (z : (Nat → Nat) × (Nat → Nat)) (N : Nat) (a_this : Nat) (a_this_stations : Nat) (a_this_links : Nat) (a_this_messages : Nat) (a_this_copies : Nat) (a_this_log : Nat) (a_this_ways : Nat) (a_this_frames : Nat) (a_this_messages_cells : Nat) (a_this_copies_cells : Nat) (c_stationCount : Int32) (c_linkCount : Int32) (c_messageCount : Int32) (c_time : Int32) (c_life : Int32) (c_tries : Int32) (c_x : Int32) (c_messages : Nat → Int32) (c_copies : Nat → Int32) (i1 : Int32) {u : Int32} (hf : fX2_messageState N c_stationCount c_messages c_copies i1 = some u) : rn_KI l D k z yX2_messageState cX2_messageState 2 .int 3 72 [.ref a_this, .int i1] [(a_this, .inr (2, [.ref a_this_stations, .ref a_this_links, .ref a_this_messages, .ref a_this_copies, .ref a_this_log, .ref a_this_ways, .ref a_this_frames, .int c_stationCount, .int c_linkCount, .int c_messageCount, .int c_time, .int c_life, .int c_tries, .int c_x])), (a_this_messages, .inr (4, [.int (24 : Int32), .int (12 : Int32), .ref a_this_messages_cells])), (a_this_messages_cells, .inl (k 0, 288, .inl c_messages)), (a_this_copies, .inr (4, [.int (192 : Int32), .int (5 : Int32), .ref a_this_copies_cells])), (a_this_copies_cells, .inl (k 0, 960, .inl c_copies))] [(a_this, .inr (2, [.ref a_this_stations, .ref a_this_links, .ref a_this_messages, .ref a_this_copies, .ref a_this_log, .ref a_this_ways, .ref a_this_frames, .int c_stationCount, .int c_linkCount, .int c_messageCount, .int c_time, .int c_life, .int c_tries, .int c_x])), (a_this_messages, .inr (4, [.int (24 : Int32), .int (12 : Int32), .ref a_this_messages_cells])), (a_this_messages_cells, .inl (k 0, 288, .inl c_messages)), (a_this_copies, .inr (4, [.int (192 : Int32), .int (5 : Int32), .ref a_this_copies_cells])), (a_this_copies_cells, .inl (k 0, 960, .inl c_copies))] u := by
  refine rn_KI.go (LOC := [(0, .ref a_this), (1, .int i1)]) rfl (by decide) (Nat.le_of_ble_eq_true rfl) rfl ?_
  intro p e s m args below meth c A ls R Q X hR hE hW hl
  have hx := X.1.1
  have hb := X.1.2.1
  unfold fX2_messageState at hf
  refine lv_aload_n hx hb dX2_messageState_0 rfl (lv_at hl 0 rfl) ?_
  refine rr_get X hW 0 2 gf_X2_23 rfl rfl dX2_messageState_1 ?_
  refine lv_iload_n hx hb dX2_messageState_4 rfl (lv_at hl 1 rfl) ?_
  refine lv_iconst (v := 5) hx hb dX2_messageState_5 (by decide) ?_
  obtain ⟨t1, ht1, hf⟩ := rn_bind hf
  refine rr_callI (As := [.int i1, .int (5 : Int32)]) (rest := []) X hW (kX4_get l D k z a_this_messages a_this_messages_cells (24 : Int32) (12 : Int32) 288 c_messages i1 (5 : Int32) ht1) gm_X4_get gl_X2_105 [1, 2] [0, 3, 4] [(a_this, .inr (2, [.ref a_this_stations, .ref a_this_links, .ref a_this_messages, .ref a_this_copies, .ref a_this_log, .ref a_this_ways, .ref a_this_frames, .int c_stationCount, .int c_linkCount, .int c_messageCount, .int c_time, .int c_life, .int c_tries, .int c_x])), (a_this_messages, .inr (4, [.int (24 : Int32), .int (12 : Int32), .ref a_this_messages_cells])), (a_this_messages_cells, .inl (k 0, 288, .inl c_messages)), (a_this_copies, .inr (4, [.int (192 : Int32), .int (5 : Int32), .ref a_this_copies_cells])), (a_this_copies_cells, .inl (k 0, 960, .inl c_copies))] rfl rfl rfl rfl ⟨rfl, rfl, rn_Bw (wr := [(a_this, .inr (2, [.ref a_this_stations, .ref a_this_links, .ref a_this_messages, .ref a_this_copies, .ref a_this_log, .ref a_this_ways, .ref a_this_frames, .int c_stationCount, .int c_linkCount, .int c_messageCount, .int c_time, .int c_life, .int c_tries, .int c_x])), (a_this_copies, .inr (4, [.int (192 : Int32), .int (5 : Int32), .ref a_this_copies_cells])), (a_this_copies_cells, .inl (k 0, 960, .inl c_copies))]) rfl rfl, rfl, rfl⟩ (rn_r hR rfl) rn_cs hl.1 rfl (Nat.le_of_ble_eq_true rfl) dX2_messageState_6 (fun hn1 H locs hW => ?_)
  refine lv_iconst (v := -1) hx hb dX2_messageState_9 (by decide) ?_
  refine lv_icmp_eq (tgt := 15) hx hb dX2_messageState_10 (by decide) (fun hc2 => ?_) (fun hc2 => ?_)
  · replace hf := rn_t hf hc2
    refine lv_aload_n hx hb dX2_messageState_15 rfl (lv_at hl 0 rfl) ?_
    refine lv_iload_n hx hb dX2_messageState_16 rfl (lv_at hl 1 rfl) ?_
    refine lv_iload_n hx hb dX2_messageState_17 rfl (lv_at hl 1 rfl) ?_
    refine lv_iconst (v := 1) hx hb dX2_messageState_18 (by decide) ?_
    refine lv_iadd hx hb dX2_messageState_19 ?_
    refine lv_iconst (v := 0) hx hb dX2_messageState_20 (by decide) ?_
    refine lv_aload_n hx hb dX2_messageState_21 rfl (lv_at hl 0 rfl) ?_
    refine rr_get X hW 0 7 gf_X2_46 rfl rfl dX2_messageState_22 ?_
    obtain ⟨t3, ht3, hf⟩ := rn_bind hf
    refine rr_callI (As := [.int i1, .int (i1 + (1 : Int32)), .int (0 : Int32), .int c_stationCount]) (rest := []) X hW (kX2_copiesThatWait l D k z N a_this a_this_stations a_this_links a_this_messages a_this_copies a_this_log a_this_ways a_this_frames a_this_copies_cells c_stationCount c_linkCount c_messageCount c_time c_life c_tries c_x c_copies i1 (i1 + (1 : Int32)) (0 : Int32) c_stationCount ht3) gm_X2_copiesThatWait gl_X2_124 [0, 3, 4] [1, 2] [(a_this, .inr (2, [.ref a_this_stations, .ref a_this_links, .ref a_this_messages, .ref a_this_copies, .ref a_this_log, .ref a_this_ways, .ref a_this_frames, .int c_stationCount, .int c_linkCount, .int c_messageCount, .int c_time, .int c_life, .int c_tries, .int c_x])), (a_this_messages, .inr (4, [.int (24 : Int32), .int (12 : Int32), .ref a_this_messages_cells])), (a_this_messages_cells, .inl (k 0, 288, .inl c_messages)), (a_this_copies, .inr (4, [.int (192 : Int32), .int (5 : Int32), .ref a_this_copies_cells])), (a_this_copies_cells, .inl (k 0, 960, .inl c_copies))] rfl rfl rfl rfl ⟨rfl, rfl, rn_Bw (wr := [(a_this_messages, .inr (4, [.int (24 : Int32), .int (12 : Int32), .ref a_this_messages_cells])), (a_this_messages_cells, .inl (k 0, 288, .inl c_messages))]) rfl rfl, rfl, rfl⟩ (rn_r hR rfl) rn_cs hl.1 rfl (Nat.le_of_ble_eq_true rfl) dX2_messageState_25 (fun hn3 H locs hW => ?_)
    refine lv_if_le (tgt := 35) hx hb dX2_messageState_28 (by decide) (fun hc4 => ?_) (fun hc4 => ?_)
    · replace hf := rn_t hf hc4
      refine lv_iconst (v := 2) hx hb dX2_messageState_35 (by decide) ?_
      cases hf
      exact hE _ _ _ _ hW rfl dX2_messageState_36
    · replace hf := rn_f hf hc4
      refine lv_iconst (v := 0) hx hb dX2_messageState_31 (by decide) ?_
      refine lv_goto (tgt := 36) hx hb dX2_messageState_32 (by decide) ?_
      cases hf
      exact hE _ _ _ _ hW rfl dX2_messageState_36
  · replace hf := rn_f hf hc2
    refine lv_iconst (v := 1) hx hb dX2_messageState_13 (by decide) ?_
    cases hf
    exact hE _ _ _ _ hW rfl dX2_messageState_14
def lX2_messagesInState_4 (N : Nat) (c_stationCount : Int32) (c_messageCount : Int32) (c_messages : Nat → Int32) (c_copies : Nat → Int32) (i1 : Int32) : Nat → Int32 → Int32 → Option (Int32)
  | 0, _, _ => none
  | n+1, x2_4, x3_4 =>
    if c_messageCount ≤ x3_4 then
      some x2_4
    else
    (fX2_messageState N c_stationCount c_messages c_copies x3_4).bind fun t3 =>
    if t3 = i1 then
      lX2_messagesInState_4 N c_stationCount c_messageCount c_messages c_copies i1 n (x2_4 + (1 : Int32)) (x3_4 + (1 : Int32))
    else
    lX2_messagesInState_4 N c_stationCount c_messageCount c_messages c_copies i1 n x2_4 (x3_4 + (1 : Int32))
def fX2_messagesInState (N : Nat) (c_stationCount : Int32) (c_messageCount : Int32) (c_messages : Nat → Int32) (c_copies : Nat → Int32) (i1 : Int32) : Option (Int32) :=
  (lX2_messagesInState_4 N c_stationCount c_messageCount c_messages c_copies i1 N (0 : Int32) (0 : Int32)).bind fun t1 =>
  some t1
set_option maxHeartbeats 4000000 in
set_option maxRecDepth 20000 in
theorem kX2_messagesInState (l : Launch) (D : va_G) (k : Nat → ClassId) (z : (Nat → Nat) × (Nat → Nat)) (N : Nat) (a_this : Nat) (a_this_stations : Nat) (a_this_links : Nat) (a_this_messages : Nat) (a_this_copies : Nat) (a_this_log : Nat) (a_this_ways : Nat) (a_this_frames : Nat) (a_this_messages_cells : Nat) (a_this_copies_cells : Nat) (c_stationCount : Int32) (c_linkCount : Int32) (c_messageCount : Int32) (c_time : Int32) (c_life : Int32) (c_tries : Int32) (c_x : Int32) (c_messages : Nat → Int32) (c_copies : Nat → Int32) (i1 : Int32) {u : Int32} (hf : fX2_messagesInState N c_stationCount c_messageCount c_messages c_copies i1 = some u) : rn_KI l D k z yX2_messagesInState cX2_messagesInState 4 .int 4 93 [.ref a_this, .int i1] [(a_this, .inr (2, [.ref a_this_stations, .ref a_this_links, .ref a_this_messages, .ref a_this_copies, .ref a_this_log, .ref a_this_ways, .ref a_this_frames, .int c_stationCount, .int c_linkCount, .int c_messageCount, .int c_time, .int c_life, .int c_tries, .int c_x])), (a_this_messages, .inr (4, [.int (24 : Int32), .int (12 : Int32), .ref a_this_messages_cells])), (a_this_messages_cells, .inl (k 0, 288, .inl c_messages)), (a_this_copies, .inr (4, [.int (192 : Int32), .int (5 : Int32), .ref a_this_copies_cells])), (a_this_copies_cells, .inl (k 0, 960, .inl c_copies))] [(a_this, .inr (2, [.ref a_this_stations, .ref a_this_links, .ref a_this_messages, .ref a_this_copies, .ref a_this_log, .ref a_this_ways, .ref a_this_frames, .int c_stationCount, .int c_linkCount, .int c_messageCount, .int c_time, .int c_life, .int c_tries, .int c_x])), (a_this_messages, .inr (4, [.int (24 : Int32), .int (12 : Int32), .ref a_this_messages_cells])), (a_this_messages_cells, .inl (k 0, 288, .inl c_messages)), (a_this_copies, .inr (4, [.int (192 : Int32), .int (5 : Int32), .ref a_this_copies_cells])), (a_this_copies_cells, .inl (k 0, 960, .inl c_copies))] u := by
  refine rn_KI.go (LOC := [(0, .ref a_this), (1, .int i1)]) rfl (by decide) (Nat.le_of_ble_eq_true rfl) rfl ?_
  intro p e s m args below meth c A ls R Q X hR hE hW hl
  have hx := X.1.1
  have hb := X.1.2.1
  unfold fX2_messagesInState at hf
  refine lv_iconst (v := 0) hx hb dX2_messagesInState_0 (by decide) ?_
  refine lv_istore_n (lv' := [(2, .int (0 : Int32)), (0, .ref a_this), (1, .int i1)]) hx hb dX2_messagesInState_1 rfl hl (Nat.le_of_ble_eq_true rfl) rfl (fun ls hl => ?_)
  refine lv_iconst (v := 0) hx hb dX2_messagesInState_2 (by decide) ?_
  refine lv_istore_n (lv' := [(3, .int (0 : Int32)), (2, .int (0 : Int32)), (0, .ref a_this), (1, .int i1)]) hx hb dX2_messagesInState_3 rfl hl (Nat.le_of_ble_eq_true rfl) rfl (fun ls hl => ?_)
  obtain ⟨t1, ht1, hf⟩ := rn_bind hf
  have kk_4 : ∀ (H : Heap) (locs : List Loc) (ls : Array Slot), rn_W D A s [(a_this, .inr (2, [.ref a_this_stations, .ref a_this_links, .ref a_this_messages, .ref a_this_copies, .ref a_this_log, .ref a_this_ways, .ref a_this_frames, .int c_stationCount, .int c_linkCount, .int c_messageCount, .int c_time, .int c_life, .int c_tries, .int c_x])), (a_this_messages, .inr (4, [.int (24 : Int32), .int (12 : Int32), .ref a_this_messages_cells])), (a_this_messages_cells, .inl (k 0, 288, .inl c_messages)), (a_this_copies, .inr (4, [.int (192 : Int32), .int (5 : Int32), .ref a_this_copies_cells])), (a_this_copies_cells, .inl (k 0, 960, .inl c_copies))] H locs → lv_has ls 4 [(2, .int t1)] → W p l e R s m args below meth c H locs 0 0 Q (F0 m 30 ls []) := by
    intro H locs ls hW hl
    refine lv_iload_n hx hb dX2_messagesInState_30 rfl (lv_at hl 0 rfl) ?_
    cases hf
    exact hE _ _ _ _ hW rfl dX2_messagesInState_31
  clear hf
  have lp_4 : ∀ (n : Nat) (x2_4 : Int32) (x3_4 : Int32) (H : Heap) (locs : List Loc) (ls : Array Slot), lX2_messagesInState_4 N c_stationCount c_messageCount c_messages c_copies i1 n x2_4 x3_4 = some t1 → rn_W D A s [(a_this, .inr (2, [.ref a_this_stations, .ref a_this_links, .ref a_this_messages, .ref a_this_copies, .ref a_this_log, .ref a_this_ways, .ref a_this_frames, .int c_stationCount, .int c_linkCount, .int c_messageCount, .int c_time, .int c_life, .int c_tries, .int c_x])), (a_this_messages, .inr (4, [.int (24 : Int32), .int (12 : Int32), .ref a_this_messages_cells])), (a_this_messages_cells, .inl (k 0, 288, .inl c_messages)), (a_this_copies, .inr (4, [.int (192 : Int32), .int (5 : Int32), .ref a_this_copies_cells])), (a_this_copies_cells, .inl (k 0, 960, .inl c_copies))] H locs → lv_has ls 4 [(0, .ref a_this), (1, .int i1), (2, .int x2_4), (3, .int x3_4)] → W p l e R s m args below meth c H locs 0 0 Q (F0 m 4 ls []) := by
    intro n
    induction n with
    | zero => intro x2_4 x3_4 H locs ls hf; exact absurd hf (by rw [lX2_messagesInState_4]; exact fun h => nomatch h)
    | succ n ih_4 =>
      intro x2_4 x3_4 H locs ls hf hW hl
      rw [lX2_messagesInState_4] at hf
      refine lv_iload_n hx hb dX2_messagesInState_4 rfl (lv_at hl 3 rfl) ?_
      refine lv_aload_n hx hb dX2_messagesInState_5 rfl (lv_at hl 0 rfl) ?_
      refine rr_get X hW 0 9 gf_X2_53 rfl rfl dX2_messagesInState_6 ?_
      refine lv_icmp_ge (tgt := 30) hx hb dX2_messagesInState_9 (by decide) (fun hc2 => ?_) (fun hc2 => ?_)
      · replace hf := rn_t hf hc2
        cases hf
        exact kk_4 _ _ _ hW (lv_sub hl [2] rfl)
      · replace hf := rn_f hf hc2
        refine lv_aload_n hx hb dX2_messagesInState_12 rfl (lv_at hl 0 rfl) ?_
        refine lv_iload_n hx hb dX2_messagesInState_13 rfl (lv_at hl 3 rfl) ?_
        obtain ⟨t3, ht3, hf⟩ := rn_bind hf
        refine rr_callI (As := [.int x3_4]) (rest := []) X hW (kX2_messageState l D k z N a_this a_this_stations a_this_links a_this_messages a_this_copies a_this_log a_this_ways a_this_frames a_this_messages_cells a_this_copies_cells c_stationCount c_linkCount c_messageCount c_time c_life c_tries c_x c_messages c_copies x3_4 ht3) gm_X2_messageState gl_X2_158 [0, 1, 2, 3, 4] [] [(a_this, .inr (2, [.ref a_this_stations, .ref a_this_links, .ref a_this_messages, .ref a_this_copies, .ref a_this_log, .ref a_this_ways, .ref a_this_frames, .int c_stationCount, .int c_linkCount, .int c_messageCount, .int c_time, .int c_life, .int c_tries, .int c_x])), (a_this_messages, .inr (4, [.int (24 : Int32), .int (12 : Int32), .ref a_this_messages_cells])), (a_this_messages_cells, .inl (k 0, 288, .inl c_messages)), (a_this_copies, .inr (4, [.int (192 : Int32), .int (5 : Int32), .ref a_this_copies_cells])), (a_this_copies_cells, .inl (k 0, 960, .inl c_copies))] rfl rfl rfl rfl ⟨rfl, rfl, rfl, rfl, rfl⟩ (rn_r hR rfl) rn_cs hl.1 rfl (Nat.le_of_ble_eq_true rfl) dX2_messagesInState_14 (fun hn3 H locs hW => ?_)
        refine lv_iload_n hx hb dX2_messagesInState_17 rfl (lv_at hl 1 rfl) ?_
        refine lv_icmp_ne (tgt := 24) hx hb dX2_messagesInState_18 (by decide) (fun hc4 => ?_) (fun hc4 => ?_)
        · replace hf := rn_f hf hc4
          refine lv_iinc (v := (x3_4 + (1 : Int32))) (lv' := [(3, .int (x3_4 + (1 : Int32))), (0, .ref a_this), (1, .int i1), (2, .int x2_4)]) hx hb dX2_messagesInState_24 hl (k := 3) rfl (congrArg (fun q => _ + q) (by decide)) (Nat.le_of_ble_eq_true rfl) rfl (fun ls hl => ?_)
          refine lv_goto (tgt := 4) hx hb dX2_messagesInState_27 (by decide) ?_
          exact ih_4 x2_4 (x3_4 + (1 : Int32)) _ _ _ hf hW (lv_sub hl [1, 2, 3, 0] rfl)
        · replace hf := rn_t hf hc4
          refine lv_iinc (v := (x2_4 + (1 : Int32))) (lv' := [(2, .int (x2_4 + (1 : Int32))), (0, .ref a_this), (1, .int i1), (3, .int x3_4)]) hx hb dX2_messagesInState_21 hl (k := 2) rfl (congrArg (fun q => _ + q) (by decide)) (Nat.le_of_ble_eq_true rfl) rfl (fun ls hl => ?_)
          refine lv_iinc (v := (x3_4 + (1 : Int32))) (lv' := [(3, .int (x3_4 + (1 : Int32))), (2, .int (x2_4 + (1 : Int32))), (0, .ref a_this), (1, .int i1)]) hx hb dX2_messagesInState_24 hl (k := 3) rfl (congrArg (fun q => _ + q) (by decide)) (Nat.le_of_ble_eq_true rfl) rfl (fun ls hl => ?_)
          refine lv_goto (tgt := 4) hx hb dX2_messagesInState_27 (by decide) ?_
          exact ih_4 (x2_4 + (1 : Int32)) (x3_4 + (1 : Int32)) _ _ _ hf hW (lv_sub hl [2, 3, 1, 0] rfl)
  exact lp_4 N (0 : Int32) (0 : Int32) _ _ _ ht1 hW (lv_sub hl [2, 3, 1, 0] rfl)
def fX2_framesSent (N : Nat) (c_links : Nat → Int32) : Option (Int32) :=
  (fX4_sum N (16 : Int32) (9 : Int32) 144 c_links (6 : Int32)).bind fun t1 =>
  some t1
set_option maxHeartbeats 4000000 in
set_option maxRecDepth 20000 in
theorem kX2_framesSent (l : Launch) (D : va_G) (k : Nat → ClassId) (z : (Nat → Nat) × (Nat → Nat)) (N : Nat) (a_this : Nat) (a_this_stations : Nat) (a_this_links : Nat) (a_this_messages : Nat) (a_this_copies : Nat) (a_this_log : Nat) (a_this_ways : Nat) (a_this_frames : Nat) (a_this_links_cells : Nat) (c_stationCount : Int32) (c_linkCount : Int32) (c_messageCount : Int32) (c_time : Int32) (c_life : Int32) (c_tries : Int32) (c_x : Int32) (c_links : Nat → Int32) {u : Int32} (hf : fX2_framesSent N c_links = some u) : rn_KI l D k z yX2_framesSent cX2_framesSent 1 .int 2 46 [.ref a_this] [(a_this, .inr (2, [.ref a_this_stations, .ref a_this_links, .ref a_this_messages, .ref a_this_copies, .ref a_this_log, .ref a_this_ways, .ref a_this_frames, .int c_stationCount, .int c_linkCount, .int c_messageCount, .int c_time, .int c_life, .int c_tries, .int c_x])), (a_this_links, .inr (4, [.int (16 : Int32), .int (9 : Int32), .ref a_this_links_cells])), (a_this_links_cells, .inl (k 0, 144, .inl c_links))] [(a_this, .inr (2, [.ref a_this_stations, .ref a_this_links, .ref a_this_messages, .ref a_this_copies, .ref a_this_log, .ref a_this_ways, .ref a_this_frames, .int c_stationCount, .int c_linkCount, .int c_messageCount, .int c_time, .int c_life, .int c_tries, .int c_x])), (a_this_links, .inr (4, [.int (16 : Int32), .int (9 : Int32), .ref a_this_links_cells])), (a_this_links_cells, .inl (k 0, 144, .inl c_links))] u := by
  refine rn_KI.go (LOC := [(0, .ref a_this)]) rfl (by decide) (Nat.le_of_ble_eq_true rfl) rfl ?_
  intro p e s m args below meth c A ls R Q X hR hE hW hl
  have hx := X.1.1
  have hb := X.1.2.1
  unfold fX2_framesSent at hf
  refine lv_aload_n hx hb dX2_framesSent_0 rfl (lv_at hl 0 rfl) ?_
  refine rr_get X hW 0 1 gf_X2_20 rfl rfl dX2_framesSent_1 ?_
  refine lv_bipush (v := 6) hx hb dX2_framesSent_4 (by decide) ?_
  obtain ⟨t1, ht1, hf⟩ := rn_bind hf
  refine rr_callI (As := [.int (6 : Int32)]) (rest := []) X hW (kX4_sum l D k z N a_this_links a_this_links_cells (16 : Int32) (9 : Int32) 144 c_links (6 : Int32) ht1) gm_X4_sum gl_X2_138 [1, 2] [0] [(a_this, .inr (2, [.ref a_this_stations, .ref a_this_links, .ref a_this_messages, .ref a_this_copies, .ref a_this_log, .ref a_this_ways, .ref a_this_frames, .int c_stationCount, .int c_linkCount, .int c_messageCount, .int c_time, .int c_life, .int c_tries, .int c_x])), (a_this_links, .inr (4, [.int (16 : Int32), .int (9 : Int32), .ref a_this_links_cells])), (a_this_links_cells, .inl (k 0, 144, .inl c_links))] rfl rfl rfl rfl ⟨rfl, rfl, rn_Bw (wr := [(a_this, .inr (2, [.ref a_this_stations, .ref a_this_links, .ref a_this_messages, .ref a_this_copies, .ref a_this_log, .ref a_this_ways, .ref a_this_frames, .int c_stationCount, .int c_linkCount, .int c_messageCount, .int c_time, .int c_life, .int c_tries, .int c_x]))]) rfl rfl, rfl, rfl⟩ (rn_r hR rfl) rn_cs hl.1 rfl (Nat.le_of_ble_eq_true rfl) dX2_framesSent_6 (fun hn1 H locs hW => ?_)
  cases hf
  exact hE _ _ _ _ hW rfl dX2_framesSent_9
def fX2_countNumber (N : Nat) (c_stationCount : Int32) (c_linkCount : Int32) (c_messageCount : Int32) (c_time : Int32) (c_life : Int32) (c_tries : Int32) (c_x : Int32) (c_stations : Nat → Int32) (c_links : Nat → Int32) (c_messages : Nat → Int32) (c_copies : Nat → Int32) (c_log_size : Int32) (i1 : Int32) : Option (Int32) :=
  if i1 = (0 : Int32) then
    some c_stationCount
  else
  if i1 = (1 : Int32) then
    some c_linkCount
  else
  if i1 = (2 : Int32) then
    some c_messageCount
  else
  if i1 = (3 : Int32) then
    some c_time
  else
  if i1 = (4 : Int32) then
    some c_life
  else
  if i1 = (5 : Int32) then
    some c_tries
  else
  if i1 = (6 : Int32) then
    some c_x
  else
  if i1 = (7 : Int32) then
    (fX2_messagesInState N c_stationCount c_messageCount c_messages c_copies (0 : Int32)).bind fun t9 =>
    some t9
  else
  if i1 = (8 : Int32) then
    (fX2_messagesInState N c_stationCount c_messageCount c_messages c_copies (1 : Int32)).bind fun t11 =>
    some t11
  else
  if i1 = (9 : Int32) then
    (fX2_messagesInState N c_stationCount c_messageCount c_messages c_copies (2 : Int32)).bind fun t13 =>
    some t13
  else
  if i1 = (10 : Int32) then
    (fX2_copiesThatWait N c_copies (0 : Int32) c_messageCount (0 : Int32) c_stationCount).bind fun t15 =>
    some t15
  else
  if i1 = (11 : Int32) then
    (fX2_framesSent N c_links).bind fun t17 =>
    some t17
  else
  if i1 = (12 : Int32) then
    (fX4_sum N (8 : Int32) (10 : Int32) 80 c_stations (7 : Int32)).bind fun t19 =>
    some t19
  else
  if i1 = (13 : Int32) then
    (fX0_size c_log_size).bind fun t21 =>
    some t21
  else
  some (-1 : Int32)
set_option maxHeartbeats 4000000 in
set_option maxRecDepth 20000 in
theorem kX2_countNumber (l : Launch) (D : va_G) (k : Nat → ClassId) (z : (Nat → Nat) × (Nat → Nat)) (N : Nat) (a_this : Nat) (a_this_stations : Nat) (a_this_links : Nat) (a_this_messages : Nat) (a_this_copies : Nat) (a_this_log : Nat) (a_this_ways : Nat) (a_this_frames : Nat) (a_this_stations_cells : Nat) (a_this_links_cells : Nat) (a_this_messages_cells : Nat) (a_this_copies_cells : Nat) (a_this_log_events : Nat) (c_stationCount : Int32) (c_linkCount : Int32) (c_messageCount : Int32) (c_time : Int32) (c_life : Int32) (c_tries : Int32) (c_x : Int32) (c_stations : Nat → Int32) (c_links : Nat → Int32) (c_messages : Nat → Int32) (c_copies : Nat → Int32) (c_log_first : Int32) (c_log_size : Int32) (i1 : Int32) {u : Int32} (hf : fX2_countNumber N c_stationCount c_linkCount c_messageCount c_time c_life c_tries c_x c_stations c_links c_messages c_copies c_log_size i1 = some u) : rn_KI l D k z yX2_countNumber cX2_countNumber 2 .int 5 116 [.ref a_this, .int i1] [(a_this, .inr (2, [.ref a_this_stations, .ref a_this_links, .ref a_this_messages, .ref a_this_copies, .ref a_this_log, .ref a_this_ways, .ref a_this_frames, .int c_stationCount, .int c_linkCount, .int c_messageCount, .int c_time, .int c_life, .int c_tries, .int c_x])), (a_this_stations, .inr (4, [.int (8 : Int32), .int (10 : Int32), .ref a_this_stations_cells])), (a_this_stations_cells, .inl (k 0, 80, .inl c_stations)), (a_this_links, .inr (4, [.int (16 : Int32), .int (9 : Int32), .ref a_this_links_cells])), (a_this_links_cells, .inl (k 0, 144, .inl c_links)), (a_this_messages, .inr (4, [.int (24 : Int32), .int (12 : Int32), .ref a_this_messages_cells])), (a_this_messages_cells, .inl (k 0, 288, .inl c_messages)), (a_this_copies, .inr (4, [.int (192 : Int32), .int (5 : Int32), .ref a_this_copies_cells])), (a_this_copies_cells, .inl (k 0, 960, .inl c_copies)), (a_this_log, .inr (0, [.ref a_this_log_events, .int c_log_first, .int c_log_size]))] [(a_this, .inr (2, [.ref a_this_stations, .ref a_this_links, .ref a_this_messages, .ref a_this_copies, .ref a_this_log, .ref a_this_ways, .ref a_this_frames, .int c_stationCount, .int c_linkCount, .int c_messageCount, .int c_time, .int c_life, .int c_tries, .int c_x])), (a_this_stations, .inr (4, [.int (8 : Int32), .int (10 : Int32), .ref a_this_stations_cells])), (a_this_stations_cells, .inl (k 0, 80, .inl c_stations)), (a_this_links, .inr (4, [.int (16 : Int32), .int (9 : Int32), .ref a_this_links_cells])), (a_this_links_cells, .inl (k 0, 144, .inl c_links)), (a_this_messages, .inr (4, [.int (24 : Int32), .int (12 : Int32), .ref a_this_messages_cells])), (a_this_messages_cells, .inl (k 0, 288, .inl c_messages)), (a_this_copies, .inr (4, [.int (192 : Int32), .int (5 : Int32), .ref a_this_copies_cells])), (a_this_copies_cells, .inl (k 0, 960, .inl c_copies)), (a_this_log, .inr (0, [.ref a_this_log_events, .int c_log_first, .int c_log_size]))] u := by
  refine rn_KI.go (LOC := [(0, .ref a_this), (1, .int i1)]) rfl (by decide) (Nat.le_of_ble_eq_true rfl) rfl ?_
  intro p e s m args below meth c A ls R Q X hR hE hW hl
  have hx := X.1.1
  have hb := X.1.2.1
  unfold fX2_countNumber at hf
  refine lv_iload_n hx hb dX2_countNumber_0 rfl (lv_at hl 1 rfl) ?_
  by_cases hc1 : i1 = (0 : Int32)
  · replace hf := rn_t hf hc1
    refine lv_tableIn (off := 71) (tgt := 72) hx hb dX2_countNumber_1 (by rw [hc1]; decide) (by rw [hc1]; decide) (by rw [hc1]; rfl) (by decide) ?_
    refine lv_aload_n hx hb dX2_countNumber_72 rfl (lv_at hl 0 rfl) ?_
    refine rr_get X hW 0 7 gf_X2_46 rfl rfl dX2_countNumber_73 ?_
    cases hf
    exact hE _ _ _ _ hW rfl dX2_countNumber_76
  · replace hf := rn_f hf hc1
    by_cases hc2 : i1 = (1 : Int32)
    · replace hf := rn_t hf hc2
      refine lv_tableIn (off := 76) (tgt := 77) hx hb dX2_countNumber_1 (by rw [hc2]; decide) (by rw [hc2]; decide) (by rw [hc2]; rfl) (by decide) ?_
      refine lv_aload_n hx hb dX2_countNumber_77 rfl (lv_at hl 0 rfl) ?_
      refine rr_get X hW 0 8 gf_X2_50 rfl rfl dX2_countNumber_78 ?_
      cases hf
      exact hE _ _ _ _ hW rfl dX2_countNumber_81
    · replace hf := rn_f hf hc2
      by_cases hc3 : i1 = (2 : Int32)
      · replace hf := rn_t hf hc3
        refine lv_tableIn (off := 81) (tgt := 82) hx hb dX2_countNumber_1 (by rw [hc3]; decide) (by rw [hc3]; decide) (by rw [hc3]; rfl) (by decide) ?_
        refine lv_aload_n hx hb dX2_countNumber_82 rfl (lv_at hl 0 rfl) ?_
        refine rr_get X hW 0 9 gf_X2_53 rfl rfl dX2_countNumber_83 ?_
        cases hf
        exact hE _ _ _ _ hW rfl dX2_countNumber_86
      · replace hf := rn_f hf hc3
        by_cases hc4 : i1 = (3 : Int32)
        · replace hf := rn_t hf hc4
          refine lv_tableIn (off := 86) (tgt := 87) hx hb dX2_countNumber_1 (by rw [hc4]; decide) (by rw [hc4]; decide) (by rw [hc4]; rfl) (by decide) ?_
          refine lv_aload_n hx hb dX2_countNumber_87 rfl (lv_at hl 0 rfl) ?_
          refine rr_get X hW 0 10 gf_X2_56 rfl rfl dX2_countNumber_88 ?_
          cases hf
          exact hE _ _ _ _ hW rfl dX2_countNumber_91
        · replace hf := rn_f hf hc4
          by_cases hc5 : i1 = (4 : Int32)
          · replace hf := rn_t hf hc5
            refine lv_tableIn (off := 91) (tgt := 92) hx hb dX2_countNumber_1 (by rw [hc5]; decide) (by rw [hc5]; decide) (by rw [hc5]; rfl) (by decide) ?_
            refine lv_aload_n hx hb dX2_countNumber_92 rfl (lv_at hl 0 rfl) ?_
            refine rr_get X hW 0 11 gf_X2_59 rfl rfl dX2_countNumber_93 ?_
            cases hf
            exact hE _ _ _ _ hW rfl dX2_countNumber_96
          · replace hf := rn_f hf hc5
            by_cases hc6 : i1 = (5 : Int32)
            · replace hf := rn_t hf hc6
              refine lv_tableIn (off := 96) (tgt := 97) hx hb dX2_countNumber_1 (by rw [hc6]; decide) (by rw [hc6]; decide) (by rw [hc6]; rfl) (by decide) ?_
              refine lv_aload_n hx hb dX2_countNumber_97 rfl (lv_at hl 0 rfl) ?_
              refine rr_get X hW 0 12 gf_X2_62 rfl rfl dX2_countNumber_98 ?_
              cases hf
              exact hE _ _ _ _ hW rfl dX2_countNumber_101
            · replace hf := rn_f hf hc6
              by_cases hc7 : i1 = (6 : Int32)
              · replace hf := rn_t hf hc7
                refine lv_tableIn (off := 101) (tgt := 102) hx hb dX2_countNumber_1 (by rw [hc7]; decide) (by rw [hc7]; decide) (by rw [hc7]; rfl) (by decide) ?_
                refine lv_aload_n hx hb dX2_countNumber_102 rfl (lv_at hl 0 rfl) ?_
                refine rr_get X hW 0 13 gf_X2_65 rfl rfl dX2_countNumber_103 ?_
                cases hf
                exact hE _ _ _ _ hW rfl dX2_countNumber_106
              · replace hf := rn_f hf hc7
                by_cases hc8 : i1 = (7 : Int32)
                · replace hf := rn_t hf hc8
                  refine lv_tableIn (off := 106) (tgt := 107) hx hb dX2_countNumber_1 (by rw [hc8]; decide) (by rw [hc8]; decide) (by rw [hc8]; rfl) (by decide) ?_
                  refine lv_aload_n hx hb dX2_countNumber_107 rfl (lv_at hl 0 rfl) ?_
                  refine lv_iconst (v := 0) hx hb dX2_countNumber_108 (by decide) ?_
                  obtain ⟨t9, ht9, hf⟩ := rn_bind hf
                  refine rr_callI (As := [.int (0 : Int32)]) (rest := []) X hW (kX2_messagesInState l D k z N a_this a_this_stations a_this_links a_this_messages a_this_copies a_this_log a_this_ways a_this_frames a_this_messages_cells a_this_copies_cells c_stationCount c_linkCount c_messageCount c_time c_life c_tries c_x c_messages c_copies (0 : Int32) ht9) gm_X2_messagesInState gl_X2_132 [0, 5, 6, 7, 8] [1, 2, 3, 4, 9] [(a_this, .inr (2, [.ref a_this_stations, .ref a_this_links, .ref a_this_messages, .ref a_this_copies, .ref a_this_log, .ref a_this_ways, .ref a_this_frames, .int c_stationCount, .int c_linkCount, .int c_messageCount, .int c_time, .int c_life, .int c_tries, .int c_x])), (a_this_stations, .inr (4, [.int (8 : Int32), .int (10 : Int32), .ref a_this_stations_cells])), (a_this_stations_cells, .inl (k 0, 80, .inl c_stations)), (a_this_links, .inr (4, [.int (16 : Int32), .int (9 : Int32), .ref a_this_links_cells])), (a_this_links_cells, .inl (k 0, 144, .inl c_links)), (a_this_messages, .inr (4, [.int (24 : Int32), .int (12 : Int32), .ref a_this_messages_cells])), (a_this_messages_cells, .inl (k 0, 288, .inl c_messages)), (a_this_copies, .inr (4, [.int (192 : Int32), .int (5 : Int32), .ref a_this_copies_cells])), (a_this_copies_cells, .inl (k 0, 960, .inl c_copies)), (a_this_log, .inr (0, [.ref a_this_log_events, .int c_log_first, .int c_log_size]))] rfl rfl rfl rfl ⟨rfl, rfl, rn_Bw (wr := [(a_this_stations, .inr (4, [.int (8 : Int32), .int (10 : Int32), .ref a_this_stations_cells])), (a_this_stations_cells, .inl (k 0, 80, .inl c_stations)), (a_this_links, .inr (4, [.int (16 : Int32), .int (9 : Int32), .ref a_this_links_cells])), (a_this_links_cells, .inl (k 0, 144, .inl c_links)), (a_this_log, .inr (0, [.ref a_this_log_events, .int c_log_first, .int c_log_size]))]) rfl rfl, rfl, rfl⟩ (rn_r hR rfl) rn_cs hl.1 rfl (Nat.le_of_ble_eq_true rfl) dX2_countNumber_109 (fun hn9 H locs hW => ?_)
                  cases hf
                  exact hE _ _ _ _ hW rfl dX2_countNumber_112
                · replace hf := rn_f hf hc8
                  by_cases hc10 : i1 = (8 : Int32)
                  · replace hf := rn_t hf hc10
                    refine lv_tableIn (off := 112) (tgt := 113) hx hb dX2_countNumber_1 (by rw [hc10]; decide) (by rw [hc10]; decide) (by rw [hc10]; rfl) (by decide) ?_
                    refine lv_aload_n hx hb dX2_countNumber_113 rfl (lv_at hl 0 rfl) ?_
                    refine lv_iconst (v := 1) hx hb dX2_countNumber_114 (by decide) ?_
                    obtain ⟨t11, ht11, hf⟩ := rn_bind hf
                    refine rr_callI (As := [.int (1 : Int32)]) (rest := []) X hW (kX2_messagesInState l D k z N a_this a_this_stations a_this_links a_this_messages a_this_copies a_this_log a_this_ways a_this_frames a_this_messages_cells a_this_copies_cells c_stationCount c_linkCount c_messageCount c_time c_life c_tries c_x c_messages c_copies (1 : Int32) ht11) gm_X2_messagesInState gl_X2_132 [0, 5, 6, 7, 8] [1, 2, 3, 4, 9] [(a_this, .inr (2, [.ref a_this_stations, .ref a_this_links, .ref a_this_messages, .ref a_this_copies, .ref a_this_log, .ref a_this_ways, .ref a_this_frames, .int c_stationCount, .int c_linkCount, .int c_messageCount, .int c_time, .int c_life, .int c_tries, .int c_x])), (a_this_stations, .inr (4, [.int (8 : Int32), .int (10 : Int32), .ref a_this_stations_cells])), (a_this_stations_cells, .inl (k 0, 80, .inl c_stations)), (a_this_links, .inr (4, [.int (16 : Int32), .int (9 : Int32), .ref a_this_links_cells])), (a_this_links_cells, .inl (k 0, 144, .inl c_links)), (a_this_messages, .inr (4, [.int (24 : Int32), .int (12 : Int32), .ref a_this_messages_cells])), (a_this_messages_cells, .inl (k 0, 288, .inl c_messages)), (a_this_copies, .inr (4, [.int (192 : Int32), .int (5 : Int32), .ref a_this_copies_cells])), (a_this_copies_cells, .inl (k 0, 960, .inl c_copies)), (a_this_log, .inr (0, [.ref a_this_log_events, .int c_log_first, .int c_log_size]))] rfl rfl rfl rfl ⟨rfl, rfl, rn_Bw (wr := [(a_this_stations, .inr (4, [.int (8 : Int32), .int (10 : Int32), .ref a_this_stations_cells])), (a_this_stations_cells, .inl (k 0, 80, .inl c_stations)), (a_this_links, .inr (4, [.int (16 : Int32), .int (9 : Int32), .ref a_this_links_cells])), (a_this_links_cells, .inl (k 0, 144, .inl c_links)), (a_this_log, .inr (0, [.ref a_this_log_events, .int c_log_first, .int c_log_size]))]) rfl rfl, rfl, rfl⟩ (rn_r hR rfl) rn_cs hl.1 rfl (Nat.le_of_ble_eq_true rfl) dX2_countNumber_115 (fun hn11 H locs hW => ?_)
                    cases hf
                    exact hE _ _ _ _ hW rfl dX2_countNumber_118
                  · replace hf := rn_f hf hc10
                    by_cases hc12 : i1 = (9 : Int32)
                    · replace hf := rn_t hf hc12
                      refine lv_tableIn (off := 118) (tgt := 119) hx hb dX2_countNumber_1 (by rw [hc12]; decide) (by rw [hc12]; decide) (by rw [hc12]; rfl) (by decide) ?_
                      refine lv_aload_n hx hb dX2_countNumber_119 rfl (lv_at hl 0 rfl) ?_
                      refine lv_iconst (v := 2) hx hb dX2_countNumber_120 (by decide) ?_
                      obtain ⟨t13, ht13, hf⟩ := rn_bind hf
                      refine rr_callI (As := [.int (2 : Int32)]) (rest := []) X hW (kX2_messagesInState l D k z N a_this a_this_stations a_this_links a_this_messages a_this_copies a_this_log a_this_ways a_this_frames a_this_messages_cells a_this_copies_cells c_stationCount c_linkCount c_messageCount c_time c_life c_tries c_x c_messages c_copies (2 : Int32) ht13) gm_X2_messagesInState gl_X2_132 [0, 5, 6, 7, 8] [1, 2, 3, 4, 9] [(a_this, .inr (2, [.ref a_this_stations, .ref a_this_links, .ref a_this_messages, .ref a_this_copies, .ref a_this_log, .ref a_this_ways, .ref a_this_frames, .int c_stationCount, .int c_linkCount, .int c_messageCount, .int c_time, .int c_life, .int c_tries, .int c_x])), (a_this_stations, .inr (4, [.int (8 : Int32), .int (10 : Int32), .ref a_this_stations_cells])), (a_this_stations_cells, .inl (k 0, 80, .inl c_stations)), (a_this_links, .inr (4, [.int (16 : Int32), .int (9 : Int32), .ref a_this_links_cells])), (a_this_links_cells, .inl (k 0, 144, .inl c_links)), (a_this_messages, .inr (4, [.int (24 : Int32), .int (12 : Int32), .ref a_this_messages_cells])), (a_this_messages_cells, .inl (k 0, 288, .inl c_messages)), (a_this_copies, .inr (4, [.int (192 : Int32), .int (5 : Int32), .ref a_this_copies_cells])), (a_this_copies_cells, .inl (k 0, 960, .inl c_copies)), (a_this_log, .inr (0, [.ref a_this_log_events, .int c_log_first, .int c_log_size]))] rfl rfl rfl rfl ⟨rfl, rfl, rn_Bw (wr := [(a_this_stations, .inr (4, [.int (8 : Int32), .int (10 : Int32), .ref a_this_stations_cells])), (a_this_stations_cells, .inl (k 0, 80, .inl c_stations)), (a_this_links, .inr (4, [.int (16 : Int32), .int (9 : Int32), .ref a_this_links_cells])), (a_this_links_cells, .inl (k 0, 144, .inl c_links)), (a_this_log, .inr (0, [.ref a_this_log_events, .int c_log_first, .int c_log_size]))]) rfl rfl, rfl, rfl⟩ (rn_r hR rfl) rn_cs hl.1 rfl (Nat.le_of_ble_eq_true rfl) dX2_countNumber_121 (fun hn13 H locs hW => ?_)
                      cases hf
                      exact hE _ _ _ _ hW rfl dX2_countNumber_124
                    · replace hf := rn_f hf hc12
                      by_cases hc14 : i1 = (10 : Int32)
                      · replace hf := rn_t hf hc14
                        refine lv_tableIn (off := 124) (tgt := 125) hx hb dX2_countNumber_1 (by rw [hc14]; decide) (by rw [hc14]; decide) (by rw [hc14]; rfl) (by decide) ?_
                        refine lv_aload_n hx hb dX2_countNumber_125 rfl (lv_at hl 0 rfl) ?_
                        refine lv_iconst (v := 0) hx hb dX2_countNumber_126 (by decide) ?_
                        refine lv_aload_n hx hb dX2_countNumber_127 rfl (lv_at hl 0 rfl) ?_
                        refine rr_get X hW 0 9 gf_X2_53 rfl rfl dX2_countNumber_128 ?_
                        refine lv_iconst (v := 0) hx hb dX2_countNumber_131 (by decide) ?_
                        refine lv_aload_n hx hb dX2_countNumber_132 rfl (lv_at hl 0 rfl) ?_
                        refine rr_get X hW 0 7 gf_X2_46 rfl rfl dX2_countNumber_133 ?_
                        obtain ⟨t15, ht15, hf⟩ := rn_bind hf
                        refine rr_callI (As := [.int (0 : Int32), .int c_messageCount, .int (0 : Int32), .int c_stationCount]) (rest := []) X hW (kX2_copiesThatWait l D k z N a_this a_this_stations a_this_links a_this_messages a_this_copies a_this_log a_this_ways a_this_frames a_this_copies_cells c_stationCount c_linkCount c_messageCount c_time c_life c_tries c_x c_copies (0 : Int32) c_messageCount (0 : Int32) c_stationCount ht15) gm_X2_copiesThatWait gl_X2_124 [0, 7, 8] [1, 2, 3, 4, 5, 6, 9] [(a_this, .inr (2, [.ref a_this_stations, .ref a_this_links, .ref a_this_messages, .ref a_this_copies, .ref a_this_log, .ref a_this_ways, .ref a_this_frames, .int c_stationCount, .int c_linkCount, .int c_messageCount, .int c_time, .int c_life, .int c_tries, .int c_x])), (a_this_stations, .inr (4, [.int (8 : Int32), .int (10 : Int32), .ref a_this_stations_cells])), (a_this_stations_cells, .inl (k 0, 80, .inl c_stations)), (a_this_links, .inr (4, [.int (16 : Int32), .int (9 : Int32), .ref a_this_links_cells])), (a_this_links_cells, .inl (k 0, 144, .inl c_links)), (a_this_messages, .inr (4, [.int (24 : Int32), .int (12 : Int32), .ref a_this_messages_cells])), (a_this_messages_cells, .inl (k 0, 288, .inl c_messages)), (a_this_copies, .inr (4, [.int (192 : Int32), .int (5 : Int32), .ref a_this_copies_cells])), (a_this_copies_cells, .inl (k 0, 960, .inl c_copies)), (a_this_log, .inr (0, [.ref a_this_log_events, .int c_log_first, .int c_log_size]))] rfl rfl rfl rfl ⟨rfl, rfl, rn_Bw (wr := [(a_this_stations, .inr (4, [.int (8 : Int32), .int (10 : Int32), .ref a_this_stations_cells])), (a_this_stations_cells, .inl (k 0, 80, .inl c_stations)), (a_this_links, .inr (4, [.int (16 : Int32), .int (9 : Int32), .ref a_this_links_cells])), (a_this_links_cells, .inl (k 0, 144, .inl c_links)), (a_this_messages, .inr (4, [.int (24 : Int32), .int (12 : Int32), .ref a_this_messages_cells])), (a_this_messages_cells, .inl (k 0, 288, .inl c_messages)), (a_this_log, .inr (0, [.ref a_this_log_events, .int c_log_first, .int c_log_size]))]) rfl rfl, rfl, rfl⟩ (rn_r hR rfl) rn_cs hl.1 rfl (Nat.le_of_ble_eq_true rfl) dX2_countNumber_136 (fun hn15 H locs hW => ?_)
                        cases hf
                        exact hE _ _ _ _ hW rfl dX2_countNumber_139
                      · replace hf := rn_f hf hc14
                        by_cases hc16 : i1 = (11 : Int32)
                        · replace hf := rn_t hf hc16
                          refine lv_tableIn (off := 139) (tgt := 140) hx hb dX2_countNumber_1 (by rw [hc16]; decide) (by rw [hc16]; decide) (by rw [hc16]; rfl) (by decide) ?_
                          refine lv_aload_n hx hb dX2_countNumber_140 rfl (lv_at hl 0 rfl) ?_
                          obtain ⟨t17, ht17, hf⟩ := rn_bind hf
                          refine rr_callI (As := []) (rest := []) X hW (kX2_framesSent l D k z N a_this a_this_stations a_this_links a_this_messages a_this_copies a_this_log a_this_ways a_this_frames a_this_links_cells c_stationCount c_linkCount c_messageCount c_time c_life c_tries c_x c_links ht17) gm_X2_framesSent gl_X2_135 [0, 3, 4] [1, 2, 5, 6, 7, 8, 9] [(a_this, .inr (2, [.ref a_this_stations, .ref a_this_links, .ref a_this_messages, .ref a_this_copies, .ref a_this_log, .ref a_this_ways, .ref a_this_frames, .int c_stationCount, .int c_linkCount, .int c_messageCount, .int c_time, .int c_life, .int c_tries, .int c_x])), (a_this_stations, .inr (4, [.int (8 : Int32), .int (10 : Int32), .ref a_this_stations_cells])), (a_this_stations_cells, .inl (k 0, 80, .inl c_stations)), (a_this_links, .inr (4, [.int (16 : Int32), .int (9 : Int32), .ref a_this_links_cells])), (a_this_links_cells, .inl (k 0, 144, .inl c_links)), (a_this_messages, .inr (4, [.int (24 : Int32), .int (12 : Int32), .ref a_this_messages_cells])), (a_this_messages_cells, .inl (k 0, 288, .inl c_messages)), (a_this_copies, .inr (4, [.int (192 : Int32), .int (5 : Int32), .ref a_this_copies_cells])), (a_this_copies_cells, .inl (k 0, 960, .inl c_copies)), (a_this_log, .inr (0, [.ref a_this_log_events, .int c_log_first, .int c_log_size]))] rfl rfl rfl rfl ⟨rfl, rfl, rn_Bw (wr := [(a_this_stations, .inr (4, [.int (8 : Int32), .int (10 : Int32), .ref a_this_stations_cells])), (a_this_stations_cells, .inl (k 0, 80, .inl c_stations)), (a_this_messages, .inr (4, [.int (24 : Int32), .int (12 : Int32), .ref a_this_messages_cells])), (a_this_messages_cells, .inl (k 0, 288, .inl c_messages)), (a_this_copies, .inr (4, [.int (192 : Int32), .int (5 : Int32), .ref a_this_copies_cells])), (a_this_copies_cells, .inl (k 0, 960, .inl c_copies)), (a_this_log, .inr (0, [.ref a_this_log_events, .int c_log_first, .int c_log_size]))]) rfl rfl, rfl, rfl⟩ (rn_r hR rfl) rn_cs hl.1 rfl (Nat.le_of_ble_eq_true rfl) dX2_countNumber_141 (fun hn17 H locs hW => ?_)
                          cases hf
                          exact hE _ _ _ _ hW rfl dX2_countNumber_144
                        · replace hf := rn_f hf hc16
                          by_cases hc18 : i1 = (12 : Int32)
                          · replace hf := rn_t hf hc18
                            refine lv_tableIn (off := 144) (tgt := 145) hx hb dX2_countNumber_1 (by rw [hc18]; decide) (by rw [hc18]; decide) (by rw [hc18]; rfl) (by decide) ?_
                            refine lv_aload_n hx hb dX2_countNumber_145 rfl (lv_at hl 0 rfl) ?_
                            refine rr_get X hW 0 0 gf_X2_14 rfl rfl dX2_countNumber_146 ?_
                            refine lv_bipush (v := 7) hx hb dX2_countNumber_149 (by decide) ?_
                            obtain ⟨t19, ht19, hf⟩ := rn_bind hf
                            refine rr_callI (As := [.int (7 : Int32)]) (rest := []) X hW (kX4_sum l D k z N a_this_stations a_this_stations_cells (8 : Int32) (10 : Int32) 80 c_stations (7 : Int32) ht19) gm_X4_sum gl_X2_138 [1, 2] [0, 3, 4, 5, 6, 7, 8, 9] [(a_this, .inr (2, [.ref a_this_stations, .ref a_this_links, .ref a_this_messages, .ref a_this_copies, .ref a_this_log, .ref a_this_ways, .ref a_this_frames, .int c_stationCount, .int c_linkCount, .int c_messageCount, .int c_time, .int c_life, .int c_tries, .int c_x])), (a_this_stations, .inr (4, [.int (8 : Int32), .int (10 : Int32), .ref a_this_stations_cells])), (a_this_stations_cells, .inl (k 0, 80, .inl c_stations)), (a_this_links, .inr (4, [.int (16 : Int32), .int (9 : Int32), .ref a_this_links_cells])), (a_this_links_cells, .inl (k 0, 144, .inl c_links)), (a_this_messages, .inr (4, [.int (24 : Int32), .int (12 : Int32), .ref a_this_messages_cells])), (a_this_messages_cells, .inl (k 0, 288, .inl c_messages)), (a_this_copies, .inr (4, [.int (192 : Int32), .int (5 : Int32), .ref a_this_copies_cells])), (a_this_copies_cells, .inl (k 0, 960, .inl c_copies)), (a_this_log, .inr (0, [.ref a_this_log_events, .int c_log_first, .int c_log_size]))] rfl rfl rfl rfl ⟨rfl, rfl, rn_Bw (wr := [(a_this, .inr (2, [.ref a_this_stations, .ref a_this_links, .ref a_this_messages, .ref a_this_copies, .ref a_this_log, .ref a_this_ways, .ref a_this_frames, .int c_stationCount, .int c_linkCount, .int c_messageCount, .int c_time, .int c_life, .int c_tries, .int c_x])), (a_this_links, .inr (4, [.int (16 : Int32), .int (9 : Int32), .ref a_this_links_cells])), (a_this_links_cells, .inl (k 0, 144, .inl c_links)), (a_this_messages, .inr (4, [.int (24 : Int32), .int (12 : Int32), .ref a_this_messages_cells])), (a_this_messages_cells, .inl (k 0, 288, .inl c_messages)), (a_this_copies, .inr (4, [.int (192 : Int32), .int (5 : Int32), .ref a_this_copies_cells])), (a_this_copies_cells, .inl (k 0, 960, .inl c_copies)), (a_this_log, .inr (0, [.ref a_this_log_events, .int c_log_first, .int c_log_size]))]) rfl rfl, rfl, rfl⟩ (rn_r hR rfl) rn_cs hl.1 rfl (Nat.le_of_ble_eq_true rfl) dX2_countNumber_151 (fun hn19 H locs hW => ?_)
                            cases hf
                            exact hE _ _ _ _ hW rfl dX2_countNumber_154
                          · replace hf := rn_f hf hc18
                            by_cases hc20 : i1 = (13 : Int32)
                            · replace hf := rn_t hf hc20
                              refine lv_tableIn (off := 154) (tgt := 155) hx hb dX2_countNumber_1 (by rw [hc20]; decide) (by rw [hc20]; decide) (by rw [hc20]; rfl) (by decide) ?_
                              refine lv_aload_n hx hb dX2_countNumber_155 rfl (lv_at hl 0 rfl) ?_
                              refine rr_get X hW 0 4 gf_X2_32 rfl rfl dX2_countNumber_156 ?_
                              obtain ⟨t21, ht21, hf⟩ := rn_bind hf
                              refine rr_callI (As := []) (rest := []) X hW (kX0_size l D k z a_this_log a_this_log_events c_log_first c_log_size ht21) gm_X0_size gl_X2_83 [9] [0, 1, 2, 3, 4, 5, 6, 7, 8] [(a_this, .inr (2, [.ref a_this_stations, .ref a_this_links, .ref a_this_messages, .ref a_this_copies, .ref a_this_log, .ref a_this_ways, .ref a_this_frames, .int c_stationCount, .int c_linkCount, .int c_messageCount, .int c_time, .int c_life, .int c_tries, .int c_x])), (a_this_stations, .inr (4, [.int (8 : Int32), .int (10 : Int32), .ref a_this_stations_cells])), (a_this_stations_cells, .inl (k 0, 80, .inl c_stations)), (a_this_links, .inr (4, [.int (16 : Int32), .int (9 : Int32), .ref a_this_links_cells])), (a_this_links_cells, .inl (k 0, 144, .inl c_links)), (a_this_messages, .inr (4, [.int (24 : Int32), .int (12 : Int32), .ref a_this_messages_cells])), (a_this_messages_cells, .inl (k 0, 288, .inl c_messages)), (a_this_copies, .inr (4, [.int (192 : Int32), .int (5 : Int32), .ref a_this_copies_cells])), (a_this_copies_cells, .inl (k 0, 960, .inl c_copies)), (a_this_log, .inr (0, [.ref a_this_log_events, .int c_log_first, .int c_log_size]))] rfl rfl rfl rfl ⟨rfl, rfl, rn_Bw (wr := [(a_this, .inr (2, [.ref a_this_stations, .ref a_this_links, .ref a_this_messages, .ref a_this_copies, .ref a_this_log, .ref a_this_ways, .ref a_this_frames, .int c_stationCount, .int c_linkCount, .int c_messageCount, .int c_time, .int c_life, .int c_tries, .int c_x])), (a_this_stations, .inr (4, [.int (8 : Int32), .int (10 : Int32), .ref a_this_stations_cells])), (a_this_stations_cells, .inl (k 0, 80, .inl c_stations)), (a_this_links, .inr (4, [.int (16 : Int32), .int (9 : Int32), .ref a_this_links_cells])), (a_this_links_cells, .inl (k 0, 144, .inl c_links)), (a_this_messages, .inr (4, [.int (24 : Int32), .int (12 : Int32), .ref a_this_messages_cells])), (a_this_messages_cells, .inl (k 0, 288, .inl c_messages)), (a_this_copies, .inr (4, [.int (192 : Int32), .int (5 : Int32), .ref a_this_copies_cells])), (a_this_copies_cells, .inl (k 0, 960, .inl c_copies))]) rfl rfl, rfl, rfl⟩ (rn_r hR rfl) rn_cs hl.1 rfl (Nat.le_of_ble_eq_true rfl) dX2_countNumber_159 (fun hn21 H locs hW => ?_)
                              cases hf
                              exact hE _ _ _ _ hW rfl dX2_countNumber_162
                            · replace hf := rn_f hf hc20
                              refine lv_tableOut (tgt := 163) hx hb dX2_countNumber_1 (by have n0 := lv_neT hc1 (a := 0) (by decide); have n1 := lv_neT hc2 (a := 1) (by decide); have n2 := lv_neT hc3 (a := 2) (by decide); have n3 := lv_neT hc4 (a := 3) (by decide); have n4 := lv_neT hc5 (a := 4) (by decide); have n5 := lv_neT hc6 (a := 5) (by decide); have n6 := lv_neT hc7 (a := 6) (by decide); have n7 := lv_neT hc8 (a := 7) (by decide); have n8 := lv_neT hc10 (a := 8) (by decide); have n9 := lv_neT hc12 (a := 9) (by decide); have n10 := lv_neT hc14 (a := 10) (by decide); have n11 := lv_neT hc16 (a := 11) (by decide); have n12 := lv_neT hc18 (a := 12) (by decide); have n13 := lv_neT hc20 (a := 13) (by decide); omega) (by decide) ?_
                              refine lv_iconst (v := -1) hx hb dX2_countNumber_163 (by decide) ?_
                              cases hf
                              exact hE _ _ _ _ hW rfl dX2_countNumber_164
def fX2_wayNumber (N : Nat) (c_ways_arrival : Int32) (c_ways_fewest : Int32) (c_ways_next : Int32) (c_ways_heard : Nat → Int64) (i1 : Int32) (i2 : Int32) (i3 : Int32) (i4 : Int32) : Option (Int32 × Int32 × Int32 × Int32) :=
  (fX5_find N c_ways_arrival c_ways_fewest c_ways_next c_ways_heard i1 i2 i3 (0 : Int32)).bind fun t1 =>
  if t1.1 = 0 then
    some ((-1 : Int32), t1.2.1, t1.2.2.1, t1.2.2.2)
  else
  if i4 = (0 : Int32) then
    (fX5_arrival t1.2.1).bind fun t4 =>
    some (t4, t1.2.1, t1.2.2.1, t1.2.2.2)
  else
  if i4 = (1 : Int32) then
    (fX5_fewest t1.2.2.1).bind fun t6 =>
    some (t6, t1.2.1, t1.2.2.1, t1.2.2.2)
  else
  (fX5_next t1.2.2.2).bind fun t7 =>
  some (t7, t1.2.1, t1.2.2.1, t1.2.2.2)
set_option maxHeartbeats 4000000 in
set_option maxRecDepth 20000 in
theorem kX2_wayNumber (l : Launch) (D : va_G) (k : Nat → ClassId) (z : (Nat → Nat) × (Nat → Nat)) (N : Nat) (a_this : Nat) (a_this_stations : Nat) (a_this_links : Nat) (a_this_messages : Nat) (a_this_copies : Nat) (a_this_log : Nat) (a_this_ways : Nat) (a_this_frames : Nat) (a_this_ways_heard : Nat) (c_stationCount : Int32) (c_linkCount : Int32) (c_messageCount : Int32) (c_time : Int32) (c_life : Int32) (c_tries : Int32) (c_x : Int32) (c_ways_arrival : Int32) (c_ways_fewest : Int32) (c_ways_next : Int32) (c_ways_heard : Nat → Int64) (i1 : Int32) (i2 : Int32) (i3 : Int32) (i4 : Int32) {u : Int32 × Int32 × Int32 × Int32} (hf : fX2_wayNumber N c_ways_arrival c_ways_fewest c_ways_next c_ways_heard i1 i2 i3 i4 = some u) : rn_KI l D k z yX2_wayNumber cX2_wayNumber 5 .int 3 86 [.ref a_this, .int i1, .int i2, .int i3, .int i4] [(a_this, .inr (2, [.ref a_this_stations, .ref a_this_links, .ref a_this_messages, .ref a_this_copies, .ref a_this_log, .ref a_this_ways, .ref a_this_frames, .int c_stationCount, .int c_linkCount, .int c_messageCount, .int c_time, .int c_life, .int c_tries, .int c_x])), (a_this_ways, .inr (5, [.ref a_this_ways_heard, .int c_ways_arrival, .int c_ways_fewest, .int c_ways_next])), (a_this_ways_heard, .inl (k 1, 24, .inr (.inl c_ways_heard)))] [(a_this, .inr (2, [.ref a_this_stations, .ref a_this_links, .ref a_this_messages, .ref a_this_copies, .ref a_this_log, .ref a_this_ways, .ref a_this_frames, .int c_stationCount, .int c_linkCount, .int c_messageCount, .int c_time, .int c_life, .int c_tries, .int c_x])), (a_this_ways, .inr (5, [.ref a_this_ways_heard, .int u.2.1, .int u.2.2.1, .int u.2.2.2])), (a_this_ways_heard, .inl (k 1, 24, .inr (.inl c_ways_heard)))] u.1 := by
  refine rn_KI.go (LOC := [(0, .ref a_this), (1, .int i1), (2, .int i2), (3, .int i3), (4, .int i4)]) rfl (by decide) (Nat.le_of_ble_eq_true rfl) rfl ?_
  intro p e s m args below meth c A ls R Q X hR hE hW hl
  have hx := X.1.1
  have hb := X.1.2.1
  unfold fX2_wayNumber at hf
  refine lv_aload_n hx hb dX2_wayNumber_0 rfl (lv_at hl 0 rfl) ?_
  refine rr_get X hW 0 5 gf_X2_39 rfl rfl dX2_wayNumber_1 ?_
  refine lv_iload_n hx hb dX2_wayNumber_4 rfl (lv_at hl 1 rfl) ?_
  refine lv_iload_n hx hb dX2_wayNumber_5 rfl (lv_at hl 2 rfl) ?_
  refine lv_iload_n hx hb dX2_wayNumber_6 rfl (lv_at hl 3 rfl) ?_
  refine lv_iconst (v := 0) hx hb dX2_wayNumber_7 (by decide) ?_
  obtain ⟨t1, ht1, hf⟩ := rn_bind hf
  refine rr_callI (As := [.int i1, .int i2, .int i3, .int (0 : Int32)]) (rest := []) X hW (kX5_find l D k z N a_this_ways a_this_ways_heard c_ways_arrival c_ways_fewest c_ways_next c_ways_heard i1 i2 i3 (0 : Int32) ht1) gm_X5_find gl_X2_141 [1, 2] [0] [(a_this, .inr (2, [.ref a_this_stations, .ref a_this_links, .ref a_this_messages, .ref a_this_copies, .ref a_this_log, .ref a_this_ways, .ref a_this_frames, .int c_stationCount, .int c_linkCount, .int c_messageCount, .int c_time, .int c_life, .int c_tries, .int c_x])), (a_this_ways, .inr (5, [.ref a_this_ways_heard, .int t1.2.1, .int t1.2.2.1, .int t1.2.2.2])), (a_this_ways_heard, .inl (k 1, 24, .inr (.inl c_ways_heard)))] rfl rfl rfl rfl ⟨rfl, rfl, rn_Bw (wr := [(a_this, .inr (2, [.ref a_this_stations, .ref a_this_links, .ref a_this_messages, .ref a_this_copies, .ref a_this_log, .ref a_this_ways, .ref a_this_frames, .int c_stationCount, .int c_linkCount, .int c_messageCount, .int c_time, .int c_life, .int c_tries, .int c_x]))]) rfl rfl, rfl, rfl⟩ (rn_r hR rfl) rn_cs hl.1 rfl (Nat.le_of_ble_eq_true rfl) dX2_wayNumber_8 (fun hn1 H locs hW => ?_)
  refine lv_if_ne (tgt := 16) hx hb dX2_wayNumber_11 (by decide) (fun hc2 => ?_) (fun hc2 => ?_)
  · replace hf := rn_f hf hc2
    refine lv_iload hx hb dX2_wayNumber_16 (lv_at hl 4 rfl) ?_
    by_cases hc3 : i4 = (0 : Int32)
    · replace hf := rn_t hf hc3
      refine lv_lookup (off := 26) (tgt := 44) hx hb dX2_wayNumber_18 (by decide) (by rw [hc3]; rfl) (by decide) ?_
      refine lv_aload_n hx hb dX2_wayNumber_44 rfl (lv_at hl 0 rfl) ?_
      refine rr_get X hW 0 5 gf_X2_39 rfl rfl dX2_wayNumber_45 ?_
      obtain ⟨t4, ht4, hf⟩ := rn_bind hf
      refine rr_callI (As := []) (rest := []) X hW (kX5_arrival l D k z a_this_ways a_this_ways_heard t1.2.1 t1.2.2.1 t1.2.2.2 ht4) gm_X5_arrival gl_X2_145 [1] [0, 2] [(a_this, .inr (2, [.ref a_this_stations, .ref a_this_links, .ref a_this_messages, .ref a_this_copies, .ref a_this_log, .ref a_this_ways, .ref a_this_frames, .int c_stationCount, .int c_linkCount, .int c_messageCount, .int c_time, .int c_life, .int c_tries, .int c_x])), (a_this_ways, .inr (5, [.ref a_this_ways_heard, .int t1.2.1, .int t1.2.2.1, .int t1.2.2.2])), (a_this_ways_heard, .inl (k 1, 24, .inr (.inl c_ways_heard)))] rfl rfl rfl rfl ⟨rfl, rfl, rn_Bw (wr := [(a_this, .inr (2, [.ref a_this_stations, .ref a_this_links, .ref a_this_messages, .ref a_this_copies, .ref a_this_log, .ref a_this_ways, .ref a_this_frames, .int c_stationCount, .int c_linkCount, .int c_messageCount, .int c_time, .int c_life, .int c_tries, .int c_x])), (a_this_ways_heard, .inl (k 1, 24, .inr (.inl c_ways_heard)))]) rfl rfl, rfl, rfl⟩ (rn_r hR rfl) rn_cs hl.1 rfl (Nat.le_of_ble_eq_true rfl) dX2_wayNumber_48 (fun hn4 H locs hW => ?_)
      cases hf
      exact hE _ _ _ _ hW rfl dX2_wayNumber_51
    · replace hf := rn_f hf hc3
      by_cases hc5 : i4 = (1 : Int32)
      · replace hf := rn_t hf hc5
        refine lv_lookup (off := 34) (tgt := 52) hx hb dX2_wayNumber_18 (by decide) (by rw [hc5]; rfl) (by decide) ?_
        refine lv_aload_n hx hb dX2_wayNumber_52 rfl (lv_at hl 0 rfl) ?_
        refine rr_get X hW 0 5 gf_X2_39 rfl rfl dX2_wayNumber_53 ?_
        obtain ⟨t6, ht6, hf⟩ := rn_bind hf
        refine rr_callI (As := []) (rest := []) X hW (kX5_fewest l D k z a_this_ways a_this_ways_heard t1.2.1 t1.2.2.1 t1.2.2.2 ht6) gm_X5_fewest gl_X2_148 [1] [0, 2] [(a_this, .inr (2, [.ref a_this_stations, .ref a_this_links, .ref a_this_messages, .ref a_this_copies, .ref a_this_log, .ref a_this_ways, .ref a_this_frames, .int c_stationCount, .int c_linkCount, .int c_messageCount, .int c_time, .int c_life, .int c_tries, .int c_x])), (a_this_ways, .inr (5, [.ref a_this_ways_heard, .int t1.2.1, .int t1.2.2.1, .int t1.2.2.2])), (a_this_ways_heard, .inl (k 1, 24, .inr (.inl c_ways_heard)))] rfl rfl rfl rfl ⟨rfl, rfl, rn_Bw (wr := [(a_this, .inr (2, [.ref a_this_stations, .ref a_this_links, .ref a_this_messages, .ref a_this_copies, .ref a_this_log, .ref a_this_ways, .ref a_this_frames, .int c_stationCount, .int c_linkCount, .int c_messageCount, .int c_time, .int c_life, .int c_tries, .int c_x])), (a_this_ways_heard, .inl (k 1, 24, .inr (.inl c_ways_heard)))]) rfl rfl, rfl, rfl⟩ (rn_r hR rfl) rn_cs hl.1 rfl (Nat.le_of_ble_eq_true rfl) dX2_wayNumber_56 (fun hn6 H locs hW => ?_)
        cases hf
        exact hE _ _ _ _ hW rfl dX2_wayNumber_59
      · replace hf := rn_f hf hc5
        refine lv_lookup (off := 42) (tgt := 60) hx hb dX2_wayNumber_18 (by decide) (by simp only [Array.toList]; rw [lv_osw hc3 (by decide)]; rw [lv_osw hc5 (by decide)]; rfl) (by decide) ?_
        refine lv_aload_n hx hb dX2_wayNumber_60 rfl (lv_at hl 0 rfl) ?_
        refine rr_get X hW 0 5 gf_X2_39 rfl rfl dX2_wayNumber_61 ?_
        obtain ⟨t7, ht7, hf⟩ := rn_bind hf
        refine rr_callI (As := []) (rest := []) X hW (kX5_next l D k z a_this_ways a_this_ways_heard t1.2.1 t1.2.2.1 t1.2.2.2 ht7) gm_X5_next gl_X2_151 [1] [0, 2] [(a_this, .inr (2, [.ref a_this_stations, .ref a_this_links, .ref a_this_messages, .ref a_this_copies, .ref a_this_log, .ref a_this_ways, .ref a_this_frames, .int c_stationCount, .int c_linkCount, .int c_messageCount, .int c_time, .int c_life, .int c_tries, .int c_x])), (a_this_ways, .inr (5, [.ref a_this_ways_heard, .int t1.2.1, .int t1.2.2.1, .int t1.2.2.2])), (a_this_ways_heard, .inl (k 1, 24, .inr (.inl c_ways_heard)))] rfl rfl rfl rfl ⟨rfl, rfl, rn_Bw (wr := [(a_this, .inr (2, [.ref a_this_stations, .ref a_this_links, .ref a_this_messages, .ref a_this_copies, .ref a_this_log, .ref a_this_ways, .ref a_this_frames, .int c_stationCount, .int c_linkCount, .int c_messageCount, .int c_time, .int c_life, .int c_tries, .int c_x])), (a_this_ways_heard, .inl (k 1, 24, .inr (.inl c_ways_heard)))]) rfl rfl, rfl, rfl⟩ (rn_r hR rfl) rn_cs hl.1 rfl (Nat.le_of_ble_eq_true rfl) dX2_wayNumber_64 (fun hn7 H locs hW => ?_)
        cases hf
        exact hE _ _ _ _ hW rfl dX2_wayNumber_67
  · replace hf := rn_t hf hc2
    refine lv_iconst (v := -1) hx hb dX2_wayNumber_14 (by decide) ?_
    cases hf
    exact hE _ _ _ _ hW rfl dX2_wayNumber_15
def lX2_reachablePairs_4 (N : Nat) (c_stationCount : Int32) (c_time : Int32) (c_ways_heard : Nat → Int64) (i1 : Int32) : Nat → Int32 → Int32 → Option (Int32)
  | 0, _, _ => none
  | n+1, x2_4, x3_4 =>
    if c_stationCount ≤ x3_4 then
      some x2_4
    else
    if ((i1 >>> (x3_4 &&& (31 : Int32))) &&& (1 : Int32)) = 0 then
      (fX5_reached N c_ways_heard x3_4 c_time i1).bind fun t4 =>
      lX2_reachablePairs_4 N c_stationCount c_time c_ways_heard i1 n (x2_4 + t4) (x3_4 + (1 : Int32))
    else
    lX2_reachablePairs_4 N c_stationCount c_time c_ways_heard i1 n x2_4 (x3_4 + (1 : Int32))
def fX2_reachablePairs (N : Nat) (c_stationCount : Int32) (c_time : Int32) (c_ways_heard : Nat → Int64) (i1 : Int32) : Option (Int32) :=
  (lX2_reachablePairs_4 N c_stationCount c_time c_ways_heard i1 N (0 : Int32) (0 : Int32)).bind fun t1 =>
  some t1
set_option maxHeartbeats 4000000 in
set_option maxRecDepth 20000 in
theorem kX2_reachablePairs (l : Launch) (D : va_G) (k : Nat → ClassId) (z : (Nat → Nat) × (Nat → Nat)) (N : Nat) (a_this : Nat) (a_this_stations : Nat) (a_this_links : Nat) (a_this_messages : Nat) (a_this_copies : Nat) (a_this_log : Nat) (a_this_ways : Nat) (a_this_frames : Nat) (a_this_ways_heard : Nat) (c_stationCount : Int32) (c_linkCount : Int32) (c_messageCount : Int32) (c_time : Int32) (c_life : Int32) (c_tries : Int32) (c_x : Int32) (c_ways_arrival : Int32) (c_ways_fewest : Int32) (c_ways_next : Int32) (c_ways_heard : Nat → Int64) (i1 : Int32) {u : Int32} (hf : fX2_reachablePairs N c_stationCount c_time c_ways_heard i1 = some u) : rn_KI l D k z yX2_reachablePairs cX2_reachablePairs 4 .int 2 50 [.ref a_this, .int i1] [(a_this, .inr (2, [.ref a_this_stations, .ref a_this_links, .ref a_this_messages, .ref a_this_copies, .ref a_this_log, .ref a_this_ways, .ref a_this_frames, .int c_stationCount, .int c_linkCount, .int c_messageCount, .int c_time, .int c_life, .int c_tries, .int c_x])), (a_this_ways, .inr (5, [.ref a_this_ways_heard, .int c_ways_arrival, .int c_ways_fewest, .int c_ways_next])), (a_this_ways_heard, .inl (k 1, 24, .inr (.inl c_ways_heard)))] [(a_this, .inr (2, [.ref a_this_stations, .ref a_this_links, .ref a_this_messages, .ref a_this_copies, .ref a_this_log, .ref a_this_ways, .ref a_this_frames, .int c_stationCount, .int c_linkCount, .int c_messageCount, .int c_time, .int c_life, .int c_tries, .int c_x])), (a_this_ways, .inr (5, [.ref a_this_ways_heard, .int c_ways_arrival, .int c_ways_fewest, .int c_ways_next])), (a_this_ways_heard, .inl (k 1, 24, .inr (.inl c_ways_heard)))] u := by
  refine rn_KI.go (LOC := [(0, .ref a_this), (1, .int i1)]) rfl (by decide) (Nat.le_of_ble_eq_true rfl) rfl ?_
  intro p e s m args below meth c A ls R Q X hR hE hW hl
  have hx := X.1.1
  have hb := X.1.2.1
  unfold fX2_reachablePairs at hf
  refine lv_iconst (v := 0) hx hb dX2_reachablePairs_0 (by decide) ?_
  refine lv_istore_n (lv' := [(2, .int (0 : Int32)), (0, .ref a_this), (1, .int i1)]) hx hb dX2_reachablePairs_1 rfl hl (Nat.le_of_ble_eq_true rfl) rfl (fun ls hl => ?_)
  refine lv_iconst (v := 0) hx hb dX2_reachablePairs_2 (by decide) ?_
  refine lv_istore_n (lv' := [(3, .int (0 : Int32)), (2, .int (0 : Int32)), (0, .ref a_this), (1, .int i1)]) hx hb dX2_reachablePairs_3 rfl hl (Nat.le_of_ble_eq_true rfl) rfl (fun ls hl => ?_)
  obtain ⟨t1, ht1, hf⟩ := rn_bind hf
  have kk_4 : ∀ (H : Heap) (locs : List Loc) (ls : Array Slot), rn_W D A s [(a_this, .inr (2, [.ref a_this_stations, .ref a_this_links, .ref a_this_messages, .ref a_this_copies, .ref a_this_log, .ref a_this_ways, .ref a_this_frames, .int c_stationCount, .int c_linkCount, .int c_messageCount, .int c_time, .int c_life, .int c_tries, .int c_x])), (a_this_ways, .inr (5, [.ref a_this_ways_heard, .int c_ways_arrival, .int c_ways_fewest, .int c_ways_next])), (a_this_ways_heard, .inl (k 1, 24, .inr (.inl c_ways_heard)))] H locs → lv_has ls 4 [(2, .int t1)] → W p l e R s m args below meth c H locs 0 0 Q (F0 m 42 ls []) := by
    intro H locs ls hW hl
    refine lv_iload_n hx hb dX2_reachablePairs_42 rfl (lv_at hl 0 rfl) ?_
    cases hf
    exact hE _ _ _ _ hW rfl dX2_reachablePairs_43
  clear hf
  have lp_4 : ∀ (n : Nat) (x2_4 : Int32) (x3_4 : Int32) (H : Heap) (locs : List Loc) (ls : Array Slot), lX2_reachablePairs_4 N c_stationCount c_time c_ways_heard i1 n x2_4 x3_4 = some t1 → rn_W D A s [(a_this, .inr (2, [.ref a_this_stations, .ref a_this_links, .ref a_this_messages, .ref a_this_copies, .ref a_this_log, .ref a_this_ways, .ref a_this_frames, .int c_stationCount, .int c_linkCount, .int c_messageCount, .int c_time, .int c_life, .int c_tries, .int c_x])), (a_this_ways, .inr (5, [.ref a_this_ways_heard, .int c_ways_arrival, .int c_ways_fewest, .int c_ways_next])), (a_this_ways_heard, .inl (k 1, 24, .inr (.inl c_ways_heard)))] H locs → lv_has ls 4 [(0, .ref a_this), (1, .int i1), (2, .int x2_4), (3, .int x3_4)] → W p l e R s m args below meth c H locs 0 0 Q (F0 m 4 ls []) := by
    intro n
    induction n with
    | zero => intro x2_4 x3_4 H locs ls hf; exact absurd hf (by rw [lX2_reachablePairs_4]; exact fun h => nomatch h)
    | succ n ih_4 =>
      intro x2_4 x3_4 H locs ls hf hW hl
      rw [lX2_reachablePairs_4] at hf
      refine lv_iload_n hx hb dX2_reachablePairs_4 rfl (lv_at hl 3 rfl) ?_
      refine lv_aload_n hx hb dX2_reachablePairs_5 rfl (lv_at hl 0 rfl) ?_
      refine rr_get X hW 0 7 gf_X2_46 rfl rfl dX2_reachablePairs_6 ?_
      refine lv_icmp_ge (tgt := 42) hx hb dX2_reachablePairs_9 (by decide) (fun hc2 => ?_) (fun hc2 => ?_)
      · replace hf := rn_t hf hc2
        cases hf
        exact kk_4 _ _ _ hW (lv_sub hl [2] rfl)
      · replace hf := rn_f hf hc2
        refine lv_iload_n hx hb dX2_reachablePairs_12 rfl (lv_at hl 1 rfl) ?_
        refine lv_iload_n hx hb dX2_reachablePairs_13 rfl (lv_at hl 3 rfl) ?_
        refine lv_ishr hx hb dX2_reachablePairs_14 ?_
        refine lv_iconst (v := 1) hx hb dX2_reachablePairs_15 (by decide) ?_
        refine lv_iand hx hb dX2_reachablePairs_16 ?_
        refine lv_if_ne (tgt := 36) hx hb dX2_reachablePairs_17 (by decide) (fun hc3 => ?_) (fun hc3 => ?_)
        · replace hf := rn_f hf hc3
          refine lv_iinc (v := (x3_4 + (1 : Int32))) (lv' := [(3, .int (x3_4 + (1 : Int32))), (0, .ref a_this), (1, .int i1), (2, .int x2_4)]) hx hb dX2_reachablePairs_36 hl (k := 3) rfl (congrArg (fun q => _ + q) (by decide)) (Nat.le_of_ble_eq_true rfl) rfl (fun ls hl => ?_)
          refine lv_goto (tgt := 4) hx hb dX2_reachablePairs_39 (by decide) ?_
          exact ih_4 x2_4 (x3_4 + (1 : Int32)) _ _ _ hf hW (lv_sub hl [1, 2, 3, 0] rfl)
        · replace hf := rn_t hf hc3
          refine lv_iload_n hx hb dX2_reachablePairs_20 rfl (lv_at hl 2 rfl) ?_
          refine lv_aload_n hx hb dX2_reachablePairs_21 rfl (lv_at hl 0 rfl) ?_
          refine rr_get X hW 0 5 gf_X2_39 rfl rfl dX2_reachablePairs_22 ?_
          refine lv_iload_n hx hb dX2_reachablePairs_25 rfl (lv_at hl 3 rfl) ?_
          refine lv_aload_n hx hb dX2_reachablePairs_26 rfl (lv_at hl 0 rfl) ?_
          refine rr_get X hW 0 10 gf_X2_56 rfl rfl dX2_reachablePairs_27 ?_
          refine lv_iload_n hx hb dX2_reachablePairs_30 rfl (lv_at hl 1 rfl) ?_
          obtain ⟨t4, ht4, hf⟩ := rn_bind hf
          refine rr_callI (As := [.int x3_4, .int c_time, .int i1]) (rest := [.int x2_4]) X hW (kX5_reached l D k z N a_this_ways a_this_ways_heard c_ways_arrival c_ways_fewest c_ways_next c_ways_heard x3_4 c_time i1 ht4) gm_X5_reached gl_X2_154 [1, 2] [0] [(a_this, .inr (2, [.ref a_this_stations, .ref a_this_links, .ref a_this_messages, .ref a_this_copies, .ref a_this_log, .ref a_this_ways, .ref a_this_frames, .int c_stationCount, .int c_linkCount, .int c_messageCount, .int c_time, .int c_life, .int c_tries, .int c_x])), (a_this_ways, .inr (5, [.ref a_this_ways_heard, .int c_ways_arrival, .int c_ways_fewest, .int c_ways_next])), (a_this_ways_heard, .inl (k 1, 24, .inr (.inl c_ways_heard)))] rfl rfl rfl rfl ⟨rfl, rfl, rn_Bw (wr := [(a_this, .inr (2, [.ref a_this_stations, .ref a_this_links, .ref a_this_messages, .ref a_this_copies, .ref a_this_log, .ref a_this_ways, .ref a_this_frames, .int c_stationCount, .int c_linkCount, .int c_messageCount, .int c_time, .int c_life, .int c_tries, .int c_x]))]) rfl rfl, rfl, rfl⟩ (rn_r hR rfl) rn_cs hl.1 rfl (Nat.le_of_ble_eq_true rfl) dX2_reachablePairs_31 (fun hn4 H locs hW => ?_)
          refine lv_iadd hx hb dX2_reachablePairs_34 ?_
          refine lv_istore_n (lv' := [(2, .int (x2_4 + t4)), (0, .ref a_this), (1, .int i1), (3, .int x3_4)]) hx hb dX2_reachablePairs_35 rfl hl (Nat.le_of_ble_eq_true rfl) rfl (fun ls hl => ?_)
          refine lv_iinc (v := (x3_4 + (1 : Int32))) (lv' := [(3, .int (x3_4 + (1 : Int32))), (2, .int (x2_4 + t4)), (0, .ref a_this), (1, .int i1)]) hx hb dX2_reachablePairs_36 hl (k := 3) rfl (congrArg (fun q => _ + q) (by decide)) (Nat.le_of_ble_eq_true rfl) rfl (fun ls hl => ?_)
          refine lv_goto (tgt := 4) hx hb dX2_reachablePairs_39 (by decide) ?_
          exact ih_4 (x2_4 + t4) (x3_4 + (1 : Int32)) _ _ _ hf hW (lv_sub hl [2, 3, 1, 0] rfl)
  exact lp_4 N (0 : Int32) (0 : Int32) _ _ _ ht1 hW (lv_sub hl [2, 3, 1, 0] rfl)
def fX2_messageNumber (N : Nat) (c_stationCount : Int32) (c_messages : Nat → Int32) (c_copies : Nat → Int32) (i1 : Int32) (i2 : Int32) : Option (Int32) :=
  if i2 = (4 : Int32) then
    (fX2_messageState N c_stationCount c_messages c_copies i1).bind fun t2 =>
    some t2
  else
  if i2 = (9 : Int32) then
    (fX2_copiesThatWait N c_copies i1 (i1 + (1 : Int32)) (0 : Int32) c_stationCount).bind fun t4 =>
    some t4
  else
  (fX4_get (24 : Int32) (12 : Int32) 288 c_messages i1 i2).bind fun t5 =>
  some t5
set_option maxHeartbeats 4000000 in
set_option maxRecDepth 20000 in
theorem kX2_messageNumber (l : Launch) (D : va_G) (k : Nat → ClassId) (z : (Nat → Nat) × (Nat → Nat)) (N : Nat) (a_this : Nat) (a_this_stations : Nat) (a_this_links : Nat) (a_this_messages : Nat) (a_this_copies : Nat) (a_this_log : Nat) (a_this_ways : Nat) (a_this_frames : Nat) (a_this_messages_cells : Nat) (a_this_copies_cells : Nat) (c_stationCount : Int32) (c_linkCount : Int32) (c_messageCount : Int32) (c_time : Int32) (c_life : Int32) (c_tries : Int32) (c_x : Int32) (c_messages : Nat → Int32) (c_copies : Nat → Int32) (i1 : Int32) (i2 : Int32) {u : Int32} (hf : fX2_messageNumber N c_stationCount c_messages c_copies i1 i2 = some u) : rn_KI l D k z yX2_messageNumber cX2_messageNumber 3 .int 4 93 [.ref a_this, .int i1, .int i2] [(a_this, .inr (2, [.ref a_this_stations, .ref a_this_links, .ref a_this_messages, .ref a_this_copies, .ref a_this_log, .ref a_this_ways, .ref a_this_frames, .int c_stationCount, .int c_linkCount, .int c_messageCount, .int c_time, .int c_life, .int c_tries, .int c_x])), (a_this_messages, .inr (4, [.int (24 : Int32), .int (12 : Int32), .ref a_this_messages_cells])), (a_this_messages_cells, .inl (k 0, 288, .inl c_messages)), (a_this_copies, .inr (4, [.int (192 : Int32), .int (5 : Int32), .ref a_this_copies_cells])), (a_this_copies_cells, .inl (k 0, 960, .inl c_copies))] [(a_this, .inr (2, [.ref a_this_stations, .ref a_this_links, .ref a_this_messages, .ref a_this_copies, .ref a_this_log, .ref a_this_ways, .ref a_this_frames, .int c_stationCount, .int c_linkCount, .int c_messageCount, .int c_time, .int c_life, .int c_tries, .int c_x])), (a_this_messages, .inr (4, [.int (24 : Int32), .int (12 : Int32), .ref a_this_messages_cells])), (a_this_messages_cells, .inl (k 0, 288, .inl c_messages)), (a_this_copies, .inr (4, [.int (192 : Int32), .int (5 : Int32), .ref a_this_copies_cells])), (a_this_copies_cells, .inl (k 0, 960, .inl c_copies))] u := by
  refine rn_KI.go (LOC := [(0, .ref a_this), (1, .int i1), (2, .int i2)]) rfl (by decide) (Nat.le_of_ble_eq_true rfl) rfl ?_
  intro p e s m args below meth c A ls R Q X hR hE hW hl
  have hx := X.1.1
  have hb := X.1.2.1
  unfold fX2_messageNumber at hf
  refine lv_iload_n hx hb dX2_messageNumber_0 rfl (lv_at hl 2 rfl) ?_
  by_cases hc1 : i2 = (4 : Int32)
  · replace hf := rn_t hf hc1
    refine lv_lookup (off := 27) (tgt := 28) hx hb dX2_messageNumber_1 (by decide) (by rw [hc1]; rfl) (by decide) ?_
    refine lv_aload_n hx hb dX2_messageNumber_28 rfl (lv_at hl 0 rfl) ?_
    refine lv_iload_n hx hb dX2_messageNumber_29 rfl (lv_at hl 1 rfl) ?_
    obtain ⟨t2, ht2, hf⟩ := rn_bind hf
    refine rr_callI (As := [.int i1]) (rest := []) X hW (kX2_messageState l D k z N a_this a_this_stations a_this_links a_this_messages a_this_copies a_this_log a_this_ways a_this_frames a_this_messages_cells a_this_copies_cells c_stationCount c_linkCount c_messageCount c_time c_life c_tries c_x c_messages c_copies i1 ht2) gm_X2_messageState gl_X2_158 [0, 1, 2, 3, 4] [] [(a_this, .inr (2, [.ref a_this_stations, .ref a_this_links, .ref a_this_messages, .ref a_this_copies, .ref a_this_log, .ref a_this_ways, .ref a_this_frames, .int c_stationCount, .int c_linkCount, .int c_messageCount, .int c_time, .int c_life, .int c_tries, .int c_x])), (a_this_messages, .inr (4, [.int (24 : Int32), .int (12 : Int32), .ref a_this_messages_cells])), (a_this_messages_cells, .inl (k 0, 288, .inl c_messages)), (a_this_copies, .inr (4, [.int (192 : Int32), .int (5 : Int32), .ref a_this_copies_cells])), (a_this_copies_cells, .inl (k 0, 960, .inl c_copies))] rfl rfl rfl rfl ⟨rfl, rfl, rfl, rfl, rfl⟩ (rn_r hR rfl) rn_cs hl.1 rfl (Nat.le_of_ble_eq_true rfl) dX2_messageNumber_30 (fun hn2 H locs hW => ?_)
    cases hf
    exact hE _ _ _ _ hW rfl dX2_messageNumber_33
  · replace hf := rn_f hf hc1
    by_cases hc3 : i2 = (9 : Int32)
    · replace hf := rn_t hf hc3
      refine lv_lookup (off := 33) (tgt := 34) hx hb dX2_messageNumber_1 (by decide) (by rw [hc3]; rfl) (by decide) ?_
      refine lv_aload_n hx hb dX2_messageNumber_34 rfl (lv_at hl 0 rfl) ?_
      refine lv_iload_n hx hb dX2_messageNumber_35 rfl (lv_at hl 1 rfl) ?_
      refine lv_iload_n hx hb dX2_messageNumber_36 rfl (lv_at hl 1 rfl) ?_
      refine lv_iconst (v := 1) hx hb dX2_messageNumber_37 (by decide) ?_
      refine lv_iadd hx hb dX2_messageNumber_38 ?_
      refine lv_iconst (v := 0) hx hb dX2_messageNumber_39 (by decide) ?_
      refine lv_aload_n hx hb dX2_messageNumber_40 rfl (lv_at hl 0 rfl) ?_
      refine rr_get X hW 0 7 gf_X2_46 rfl rfl dX2_messageNumber_41 ?_
      obtain ⟨t4, ht4, hf⟩ := rn_bind hf
      refine rr_callI (As := [.int i1, .int (i1 + (1 : Int32)), .int (0 : Int32), .int c_stationCount]) (rest := []) X hW (kX2_copiesThatWait l D k z N a_this a_this_stations a_this_links a_this_messages a_this_copies a_this_log a_this_ways a_this_frames a_this_copies_cells c_stationCount c_linkCount c_messageCount c_time c_life c_tries c_x c_copies i1 (i1 + (1 : Int32)) (0 : Int32) c_stationCount ht4) gm_X2_copiesThatWait gl_X2_124 [0, 3, 4] [1, 2] [(a_this, .inr (2, [.ref a_this_stations, .ref a_this_links, .ref a_this_messages, .ref a_this_copies, .ref a_this_log, .ref a_this_ways, .ref a_this_frames, .int c_stationCount, .int c_linkCount, .int c_messageCount, .int c_time, .int c_life, .int c_tries, .int c_x])), (a_this_messages, .inr (4, [.int (24 : Int32), .int (12 : Int32), .ref a_this_messages_cells])), (a_this_messages_cells, .inl (k 0, 288, .inl c_messages)), (a_this_copies, .inr (4, [.int (192 : Int32), .int (5 : Int32), .ref a_this_copies_cells])), (a_this_copies_cells, .inl (k 0, 960, .inl c_copies))] rfl rfl rfl rfl ⟨rfl, rfl, rn_Bw (wr := [(a_this_messages, .inr (4, [.int (24 : Int32), .int (12 : Int32), .ref a_this_messages_cells])), (a_this_messages_cells, .inl (k 0, 288, .inl c_messages))]) rfl rfl, rfl, rfl⟩ (rn_r hR rfl) rn_cs hl.1 rfl (Nat.le_of_ble_eq_true rfl) dX2_messageNumber_44 (fun hn4 H locs hW => ?_)
      cases hf
      exact hE _ _ _ _ hW rfl dX2_messageNumber_47
    · replace hf := rn_f hf hc3
      refine lv_lookup (off := 47) (tgt := 48) hx hb dX2_messageNumber_1 (by decide) (by simp only [Array.toList]; rw [lv_osw hc1 (by decide)]; rw [lv_osw hc3 (by decide)]; rfl) (by decide) ?_
      refine lv_aload_n hx hb dX2_messageNumber_48 rfl (lv_at hl 0 rfl) ?_
      refine rr_get X hW 0 2 gf_X2_23 rfl rfl dX2_messageNumber_49 ?_
      refine lv_iload_n hx hb dX2_messageNumber_52 rfl (lv_at hl 1 rfl) ?_
      refine lv_iload_n hx hb dX2_messageNumber_53 rfl (lv_at hl 2 rfl) ?_
      obtain ⟨t5, ht5, hf⟩ := rn_bind hf
      refine rr_callI (As := [.int i1, .int i2]) (rest := []) X hW (kX4_get l D k z a_this_messages a_this_messages_cells (24 : Int32) (12 : Int32) 288 c_messages i1 i2 ht5) gm_X4_get gl_X2_105 [1, 2] [0, 3, 4] [(a_this, .inr (2, [.ref a_this_stations, .ref a_this_links, .ref a_this_messages, .ref a_this_copies, .ref a_this_log, .ref a_this_ways, .ref a_this_frames, .int c_stationCount, .int c_linkCount, .int c_messageCount, .int c_time, .int c_life, .int c_tries, .int c_x])), (a_this_messages, .inr (4, [.int (24 : Int32), .int (12 : Int32), .ref a_this_messages_cells])), (a_this_messages_cells, .inl (k 0, 288, .inl c_messages)), (a_this_copies, .inr (4, [.int (192 : Int32), .int (5 : Int32), .ref a_this_copies_cells])), (a_this_copies_cells, .inl (k 0, 960, .inl c_copies))] rfl rfl rfl rfl ⟨rfl, rfl, rn_Bw (wr := [(a_this, .inr (2, [.ref a_this_stations, .ref a_this_links, .ref a_this_messages, .ref a_this_copies, .ref a_this_log, .ref a_this_ways, .ref a_this_frames, .int c_stationCount, .int c_linkCount, .int c_messageCount, .int c_time, .int c_life, .int c_tries, .int c_x])), (a_this_copies, .inr (4, [.int (192 : Int32), .int (5 : Int32), .ref a_this_copies_cells])), (a_this_copies_cells, .inl (k 0, 960, .inl c_copies))]) rfl rfl, rfl, rfl⟩ (rn_r hR rfl) rn_cs hl.1 rfl (Nat.le_of_ble_eq_true rfl) dX2_messageNumber_54 (fun hn5 H locs hW => ?_)
      cases hf
      exact hE _ _ _ _ hW rfl dX2_messageNumber_57
def lX2_pathStations_26 (t1 : Int32) (t2 : Int32) : Nat → Int32 → Int32 → Option (Int32)
  | 0, _, _ => none
  | n+1, x4_26, x5_26 =>
    if t2 ≤ x5_26 then
      some x4_26
    else
    rn_let (x4_26 ||| ((1 : Int32) <<< (((t1 >>> ((x5_26 * (3 : Int32)) &&& (31 : Int32))) &&& (7 : Int32)) &&& (31 : Int32)))) fun v5 =>
    lX2_pathStations_26 t1 t2 n v5 (x5_26 + (1 : Int32))
def fX2_pathStations (N : Nat) (c_copies : Nat → Int32) (i1 : Int32) : Option (Int32) :=
  (fX4_get (192 : Int32) (5 : Int32) 960 c_copies i1 (4 : Int32)).bind fun t1 =>
  (fX4_get (192 : Int32) (5 : Int32) 960 c_copies i1 (3 : Int32)).bind fun t2 =>
  (lX2_pathStations_26 t1 t2 N (0 : Int32) (0 : Int32)).bind fun t3 =>
  some t3
set_option maxHeartbeats 4000000 in
set_option maxRecDepth 20000 in
theorem kX2_pathStations (l : Launch) (D : va_G) (k : Nat → ClassId) (z : (Nat → Nat) × (Nat → Nat)) (N : Nat) (a_this : Nat) (a_this_stations : Nat) (a_this_links : Nat) (a_this_messages : Nat) (a_this_copies : Nat) (a_this_log : Nat) (a_this_ways : Nat) (a_this_frames : Nat) (a_this_copies_cells : Nat) (c_stationCount : Int32) (c_linkCount : Int32) (c_messageCount : Int32) (c_time : Int32) (c_life : Int32) (c_tries : Int32) (c_x : Int32) (c_copies : Nat → Int32) (i1 : Int32) {u : Int32} (hf : fX2_pathStations N c_copies i1 = some u) : rn_KI l D k z yX2_pathStations cX2_pathStations 6 .int 1 23 [.ref a_this, .int i1] [(a_this, .inr (2, [.ref a_this_stations, .ref a_this_links, .ref a_this_messages, .ref a_this_copies, .ref a_this_log, .ref a_this_ways, .ref a_this_frames, .int c_stationCount, .int c_linkCount, .int c_messageCount, .int c_time, .int c_life, .int c_tries, .int c_x])), (a_this_copies, .inr (4, [.int (192 : Int32), .int (5 : Int32), .ref a_this_copies_cells])), (a_this_copies_cells, .inl (k 0, 960, .inl c_copies))] [(a_this, .inr (2, [.ref a_this_stations, .ref a_this_links, .ref a_this_messages, .ref a_this_copies, .ref a_this_log, .ref a_this_ways, .ref a_this_frames, .int c_stationCount, .int c_linkCount, .int c_messageCount, .int c_time, .int c_life, .int c_tries, .int c_x])), (a_this_copies, .inr (4, [.int (192 : Int32), .int (5 : Int32), .ref a_this_copies_cells])), (a_this_copies_cells, .inl (k 0, 960, .inl c_copies))] u := by
  refine rn_KI.go (LOC := [(0, .ref a_this), (1, .int i1)]) rfl (by decide) (Nat.le_of_ble_eq_true rfl) rfl ?_
  intro p e s m args below meth c A ls R Q X hR hE hW hl
  have hx := X.1.1
  have hb := X.1.2.1
  unfold fX2_pathStations at hf
  refine lv_aload_n hx hb dX2_pathStations_0 rfl (lv_at hl 0 rfl) ?_
  refine rr_get X hW 0 3 gf_X2_26 rfl rfl dX2_pathStations_1 ?_
  refine lv_iload_n hx hb dX2_pathStations_4 rfl (lv_at hl 1 rfl) ?_
  refine lv_iconst (v := 4) hx hb dX2_pathStations_5 (by decide) ?_
  obtain ⟨t1, ht1, hf⟩ := rn_bind hf
  refine rr_callI (As := [.int i1, .int (4 : Int32)]) (rest := []) X hW (kX4_get l D k z a_this_copies a_this_copies_cells (192 : Int32) (5 : Int32) 960 c_copies i1 (4 : Int32) ht1) gm_X4_get gl_X2_105 [1, 2] [0] [(a_this, .inr (2, [.ref a_this_stations, .ref a_this_links, .ref a_this_messages, .ref a_this_copies, .ref a_this_log, .ref a_this_ways, .ref a_this_frames, .int c_stationCount, .int c_linkCount, .int c_messageCount, .int c_time, .int c_life, .int c_tries, .int c_x])), (a_this_copies, .inr (4, [.int (192 : Int32), .int (5 : Int32), .ref a_this_copies_cells])), (a_this_copies_cells, .inl (k 0, 960, .inl c_copies))] rfl rfl rfl rfl ⟨rfl, rfl, rn_Bw (wr := [(a_this, .inr (2, [.ref a_this_stations, .ref a_this_links, .ref a_this_messages, .ref a_this_copies, .ref a_this_log, .ref a_this_ways, .ref a_this_frames, .int c_stationCount, .int c_linkCount, .int c_messageCount, .int c_time, .int c_life, .int c_tries, .int c_x]))]) rfl rfl, rfl, rfl⟩ (rn_r hR rfl) rn_cs hl.1 rfl (Nat.le_of_ble_eq_true rfl) dX2_pathStations_6 (fun hn1 H locs hW => ?_)
  refine lv_istore_n (lv' := [(2, .int t1), (0, .ref a_this), (1, .int i1)]) hx hb dX2_pathStations_9 rfl hl (Nat.le_of_ble_eq_true rfl) rfl (fun ls hl => ?_)
  refine lv_aload_n hx hb dX2_pathStations_10 rfl (lv_at hl 1 rfl) ?_
  refine rr_get X hW 0 3 gf_X2_26 rfl rfl dX2_pathStations_11 ?_
  refine lv_iload_n hx hb dX2_pathStations_14 rfl (lv_at hl 2 rfl) ?_
  refine lv_iconst (v := 3) hx hb dX2_pathStations_15 (by decide) ?_
  obtain ⟨t2, ht2, hf⟩ := rn_bind hf
  refine rr_callI (As := [.int i1, .int (3 : Int32)]) (rest := []) X hW (kX4_get l D k z a_this_copies a_this_copies_cells (192 : Int32) (5 : Int32) 960 c_copies i1 (3 : Int32) ht2) gm_X4_get gl_X2_105 [1, 2] [0] [(a_this, .inr (2, [.ref a_this_stations, .ref a_this_links, .ref a_this_messages, .ref a_this_copies, .ref a_this_log, .ref a_this_ways, .ref a_this_frames, .int c_stationCount, .int c_linkCount, .int c_messageCount, .int c_time, .int c_life, .int c_tries, .int c_x])), (a_this_copies, .inr (4, [.int (192 : Int32), .int (5 : Int32), .ref a_this_copies_cells])), (a_this_copies_cells, .inl (k 0, 960, .inl c_copies))] rfl rfl rfl rfl ⟨rfl, rfl, rn_Bw (wr := [(a_this, .inr (2, [.ref a_this_stations, .ref a_this_links, .ref a_this_messages, .ref a_this_copies, .ref a_this_log, .ref a_this_ways, .ref a_this_frames, .int c_stationCount, .int c_linkCount, .int c_messageCount, .int c_time, .int c_life, .int c_tries, .int c_x]))]) rfl rfl, rfl, rfl⟩ (rn_r hR rfl) rn_cs hl.1 rfl (Nat.le_of_ble_eq_true rfl) dX2_pathStations_16 (fun hn2 H locs hW => ?_)
  refine lv_istore_n (lv' := [(3, .int t2), (2, .int t1), (0, .ref a_this), (1, .int i1)]) hx hb dX2_pathStations_19 rfl hl (Nat.le_of_ble_eq_true rfl) rfl (fun ls hl => ?_)
  refine lv_iconst (v := 0) hx hb dX2_pathStations_20 (by decide) ?_
  refine lv_istore (lv' := [(4, .int (0 : Int32)), (3, .int t2), (2, .int t1), (0, .ref a_this), (1, .int i1)]) hx hb dX2_pathStations_21 hl (Nat.le_of_ble_eq_true rfl) rfl (fun ls hl => ?_)
  refine lv_iconst (v := 0) hx hb dX2_pathStations_23 (by decide) ?_
  refine lv_istore (lv' := [(5, .int (0 : Int32)), (4, .int (0 : Int32)), (3, .int t2), (2, .int t1), (0, .ref a_this), (1, .int i1)]) hx hb dX2_pathStations_24 hl (Nat.le_of_ble_eq_true rfl) rfl (fun ls hl => ?_)
  obtain ⟨t3, ht3, hf⟩ := rn_bind hf
  have kk_26 : ∀ (H : Heap) (locs : List Loc) (ls : Array Slot), rn_W D A s [(a_this, .inr (2, [.ref a_this_stations, .ref a_this_links, .ref a_this_messages, .ref a_this_copies, .ref a_this_log, .ref a_this_ways, .ref a_this_frames, .int c_stationCount, .int c_linkCount, .int c_messageCount, .int c_time, .int c_life, .int c_tries, .int c_x])), (a_this_copies, .inr (4, [.int (192 : Int32), .int (5 : Int32), .ref a_this_copies_cells])), (a_this_copies_cells, .inl (k 0, 960, .inl c_copies))] H locs → lv_has ls 6 [(4, .int t3)] → W p l e R s m args below meth c H locs 0 0 Q (F0 m 54 ls []) := by
    intro H locs ls hW hl
    refine lv_iload hx hb dX2_pathStations_54 (lv_at hl 0 rfl) ?_
    cases hf
    exact hE _ _ _ _ hW rfl dX2_pathStations_56
  clear hf
  have lp_26 : ∀ (n : Nat) (x4_26 : Int32) (x5_26 : Int32) (H : Heap) (locs : List Loc) (ls : Array Slot), lX2_pathStations_26 t1 t2 n x4_26 x5_26 = some t3 → rn_W D A s [(a_this, .inr (2, [.ref a_this_stations, .ref a_this_links, .ref a_this_messages, .ref a_this_copies, .ref a_this_log, .ref a_this_ways, .ref a_this_frames, .int c_stationCount, .int c_linkCount, .int c_messageCount, .int c_time, .int c_life, .int c_tries, .int c_x])), (a_this_copies, .inr (4, [.int (192 : Int32), .int (5 : Int32), .ref a_this_copies_cells])), (a_this_copies_cells, .inl (k 0, 960, .inl c_copies))] H locs → lv_has ls 6 [(2, .int t1), (3, .int t2), (4, .int x4_26), (5, .int x5_26)] → W p l e R s m args below meth c H locs 0 0 Q (F0 m 26 ls []) := by
    intro n
    induction n with
    | zero => intro x4_26 x5_26 H locs ls hf; exact absurd hf (by rw [lX2_pathStations_26]; exact fun h => nomatch h)
    | succ n ih_26 =>
      intro x4_26 x5_26 H locs ls hf hW hl
      rw [lX2_pathStations_26] at hf
      refine lv_iload hx hb dX2_pathStations_26 (lv_at hl 3 rfl) ?_
      refine lv_iload_n hx hb dX2_pathStations_28 rfl (lv_at hl 1 rfl) ?_
      refine lv_icmp_ge (tgt := 54) hx hb dX2_pathStations_29 (by decide) (fun hc4 => ?_) (fun hc4 => ?_)
      · replace hf := rn_t hf hc4
        cases hf
        exact kk_26 _ _ _ hW (lv_sub hl [2] rfl)
      · replace hf := rn_f hf hc4
        refine lv_iload hx hb dX2_pathStations_32 (lv_at hl 2 rfl) ?_
        refine lv_iconst (v := 1) hx hb dX2_pathStations_34 (by decide) ?_
        refine lv_iload_n hx hb dX2_pathStations_35 rfl (lv_at hl 0 rfl) ?_
        refine lv_iload hx hb dX2_pathStations_36 (lv_at hl 3 rfl) ?_
        refine lv_iconst (v := 3) hx hb dX2_pathStations_38 (by decide) ?_
        refine lv_imul hx hb dX2_pathStations_39 ?_
        refine lv_ishr hx hb dX2_pathStations_40 ?_
        refine lv_bipush (v := 7) hx hb dX2_pathStations_41 (by decide) ?_
        refine lv_iand hx hb dX2_pathStations_43 ?_
        refine lv_ishl hx hb dX2_pathStations_44 ?_
        refine lv_ior hx hb dX2_pathStations_45 ?_
        obtain ⟨v5, hv5, hf⟩ := rn_let_s hf
        refine rn_topi hv5 ?_
        refine lv_istore (lv' := [(4, .int v5), (2, .int t1), (3, .int t2), (5, .int x5_26)]) hx hb dX2_pathStations_46 hl (Nat.le_of_ble_eq_true rfl) rfl (fun ls hl => ?_)
        refine lv_iinc (v := (x5_26 + (1 : Int32))) (lv' := [(5, .int (x5_26 + (1 : Int32))), (4, .int v5), (2, .int t1), (3, .int t2)]) hx hb dX2_pathStations_48 hl (k := 3) rfl (congrArg (fun q => _ + q) (by decide)) (Nat.le_of_ble_eq_true rfl) rfl (fun ls hl => ?_)
        refine lv_goto (tgt := 26) hx hb dX2_pathStations_51 (by decide) ?_
        exact ih_26 v5 (x5_26 + (1 : Int32)) _ _ _ hf hW (lv_sub hl [2, 3, 1, 0] rfl)
  exact lp_26 N (0 : Int32) (0 : Int32) _ _ _ ht3 hW (lv_sub hl [3, 2, 1, 0] rfl)
def fX2_nextOf (N : Nat) (c_time : Int32) (c_messages : Nat → Int32) (c_copies : Nat → Int32) (c_ways_arrival : Int32) (c_ways_fewest : Int32) (c_ways_next : Int32) (c_ways_heard : Nat → Int64) (i1 : Int32) (i2 : Int32) : Option (Int32 × Int32 × Int32 × Int32) :=
  (fX2_copyRow i1 i2).bind fun t1 =>
  (fX4_get (192 : Int32) (5 : Int32) 960 c_copies t1 (0 : Int32)).bind fun t2 =>
  if t2 = (1 : Int32) then
    (fX4_get (192 : Int32) (5 : Int32) 960 c_copies t1 (2 : Int32)).bind fun t4 =>
    if t4 ≤ c_time then
      (fX2_pathStations N c_copies t1).bind fun t6 =>
      (fX5_goesFrom c_ways_heard i2 c_time t6).bind fun t7 =>
      if t7 = 0 then
        some ((-1 : Int32), c_ways_arrival, c_ways_fewest, c_ways_next)
      else
      (fX4_get (24 : Int32) (12 : Int32) 288 c_messages i1 (1 : Int32)).bind fun t9 =>
      (fX5_find N c_ways_arrival c_ways_fewest c_ways_next c_ways_heard i2 t9 c_time t6).bind fun t10 =>
      if t10.1 = 0 then
        some ((-1 : Int32), t10.2.1, t10.2.2.1, t10.2.2.2)
      else
      (fX5_next t10.2.2.2).bind fun t12 =>
      some (t12, t10.2.1, t10.2.2.1, t10.2.2.2)
    else
    some ((-1 : Int32), c_ways_arrival, c_ways_fewest, c_ways_next)
  else
  some ((-1 : Int32), c_ways_arrival, c_ways_fewest, c_ways_next)
set_option maxHeartbeats 4000000 in
set_option maxRecDepth 20000 in
theorem kX2_nextOf (l : Launch) (D : va_G) (k : Nat → ClassId) (z : (Nat → Nat) × (Nat → Nat)) (N : Nat) (a_this : Nat) (a_this_stations : Nat) (a_this_links : Nat) (a_this_messages : Nat) (a_this_copies : Nat) (a_this_log : Nat) (a_this_ways : Nat) (a_this_frames : Nat) (a_this_messages_cells : Nat) (a_this_copies_cells : Nat) (a_this_ways_heard : Nat) (c_stationCount : Int32) (c_linkCount : Int32) (c_messageCount : Int32) (c_time : Int32) (c_life : Int32) (c_tries : Int32) (c_x : Int32) (c_messages : Nat → Int32) (c_copies : Nat → Int32) (c_ways_arrival : Int32) (c_ways_fewest : Int32) (c_ways_next : Int32) (c_ways_heard : Nat → Int64) (i1 : Int32) (i2 : Int32) {u : Int32 × Int32 × Int32 × Int32} (hf : fX2_nextOf N c_time c_messages c_copies c_ways_arrival c_ways_fewest c_ways_next c_ways_heard i1 i2 = some u) : rn_KI l D k z yX2_nextOf cX2_nextOf 5 .int 3 86 [.ref a_this, .int i1, .int i2] [(a_this, .inr (2, [.ref a_this_stations, .ref a_this_links, .ref a_this_messages, .ref a_this_copies, .ref a_this_log, .ref a_this_ways, .ref a_this_frames, .int c_stationCount, .int c_linkCount, .int c_messageCount, .int c_time, .int c_life, .int c_tries, .int c_x])), (a_this_messages, .inr (4, [.int (24 : Int32), .int (12 : Int32), .ref a_this_messages_cells])), (a_this_messages_cells, .inl (k 0, 288, .inl c_messages)), (a_this_copies, .inr (4, [.int (192 : Int32), .int (5 : Int32), .ref a_this_copies_cells])), (a_this_copies_cells, .inl (k 0, 960, .inl c_copies)), (a_this_ways, .inr (5, [.ref a_this_ways_heard, .int c_ways_arrival, .int c_ways_fewest, .int c_ways_next])), (a_this_ways_heard, .inl (k 1, 24, .inr (.inl c_ways_heard)))] [(a_this, .inr (2, [.ref a_this_stations, .ref a_this_links, .ref a_this_messages, .ref a_this_copies, .ref a_this_log, .ref a_this_ways, .ref a_this_frames, .int c_stationCount, .int c_linkCount, .int c_messageCount, .int c_time, .int c_life, .int c_tries, .int c_x])), (a_this_messages, .inr (4, [.int (24 : Int32), .int (12 : Int32), .ref a_this_messages_cells])), (a_this_messages_cells, .inl (k 0, 288, .inl c_messages)), (a_this_copies, .inr (4, [.int (192 : Int32), .int (5 : Int32), .ref a_this_copies_cells])), (a_this_copies_cells, .inl (k 0, 960, .inl c_copies)), (a_this_ways, .inr (5, [.ref a_this_ways_heard, .int u.2.1, .int u.2.2.1, .int u.2.2.2])), (a_this_ways_heard, .inl (k 1, 24, .inr (.inl c_ways_heard)))] u.1 := by
  refine rn_KI.go (LOC := [(0, .ref a_this), (1, .int i1), (2, .int i2)]) rfl (by decide) (Nat.le_of_ble_eq_true rfl) rfl ?_
  intro p e s m args below meth c A ls R Q X hR hE hW hl
  have hx := X.1.1
  have hb := X.1.2.1
  unfold fX2_nextOf at hf
  refine lv_iload_n hx hb dX2_nextOf_0 rfl (lv_at hl 1 rfl) ?_
  refine lv_iload_n hx hb dX2_nextOf_1 rfl (lv_at hl 2 rfl) ?_
  obtain ⟨t1, ht1, hf⟩ := rn_bind hf
  refine rr_scalI (As := [.int i1, .int i2]) (rest := []) X hW (kX2_copyRow l D k z i1 i2 ht1) gm_X2_copyRow gl_X2_98 [] [0, 1, 2, 3, 4, 5, 6] [(a_this, .inr (2, [.ref a_this_stations, .ref a_this_links, .ref a_this_messages, .ref a_this_copies, .ref a_this_log, .ref a_this_ways, .ref a_this_frames, .int c_stationCount, .int c_linkCount, .int c_messageCount, .int c_time, .int c_life, .int c_tries, .int c_x])), (a_this_messages, .inr (4, [.int (24 : Int32), .int (12 : Int32), .ref a_this_messages_cells])), (a_this_messages_cells, .inl (k 0, 288, .inl c_messages)), (a_this_copies, .inr (4, [.int (192 : Int32), .int (5 : Int32), .ref a_this_copies_cells])), (a_this_copies_cells, .inl (k 0, 960, .inl c_copies)), (a_this_ways, .inr (5, [.ref a_this_ways_heard, .int c_ways_arrival, .int c_ways_fewest, .int c_ways_next])), (a_this_ways_heard, .inl (k 1, 24, .inr (.inl c_ways_heard)))] rfl rfl ⟨rfl, rfl, rn_Bw (wr := [(a_this, .inr (2, [.ref a_this_stations, .ref a_this_links, .ref a_this_messages, .ref a_this_copies, .ref a_this_log, .ref a_this_ways, .ref a_this_frames, .int c_stationCount, .int c_linkCount, .int c_messageCount, .int c_time, .int c_life, .int c_tries, .int c_x])), (a_this_messages, .inr (4, [.int (24 : Int32), .int (12 : Int32), .ref a_this_messages_cells])), (a_this_messages_cells, .inl (k 0, 288, .inl c_messages)), (a_this_copies, .inr (4, [.int (192 : Int32), .int (5 : Int32), .ref a_this_copies_cells])), (a_this_copies_cells, .inl (k 0, 960, .inl c_copies)), (a_this_ways, .inr (5, [.ref a_this_ways_heard, .int c_ways_arrival, .int c_ways_fewest, .int c_ways_next])), (a_this_ways_heard, .inl (k 1, 24, .inr (.inl c_ways_heard)))]) rfl rfl, rfl, rfl⟩ (rn_r hR rfl) rn_cs hl.1 rfl (Nat.le_of_ble_eq_true rfl) dX2_nextOf_2 (fun hn1 H locs hW => ?_)
  refine lv_istore_n (lv' := [(3, .int t1), (0, .ref a_this), (1, .int i1), (2, .int i2)]) hx hb dX2_nextOf_5 rfl hl (Nat.le_of_ble_eq_true rfl) rfl (fun ls hl => ?_)
  refine lv_aload_n hx hb dX2_nextOf_6 rfl (lv_at hl 1 rfl) ?_
  refine rr_get X hW 0 3 gf_X2_26 rfl rfl dX2_nextOf_7 ?_
  refine lv_iload_n hx hb dX2_nextOf_10 rfl (lv_at hl 0 rfl) ?_
  refine lv_iconst (v := 0) hx hb dX2_nextOf_11 (by decide) ?_
  obtain ⟨t2, ht2, hf⟩ := rn_bind hf
  refine rr_callI (As := [.int t1, .int (0 : Int32)]) (rest := []) X hW (kX4_get l D k z a_this_copies a_this_copies_cells (192 : Int32) (5 : Int32) 960 c_copies t1 (0 : Int32) ht2) gm_X4_get gl_X2_105 [3, 4] [0, 1, 2, 5, 6] [(a_this, .inr (2, [.ref a_this_stations, .ref a_this_links, .ref a_this_messages, .ref a_this_copies, .ref a_this_log, .ref a_this_ways, .ref a_this_frames, .int c_stationCount, .int c_linkCount, .int c_messageCount, .int c_time, .int c_life, .int c_tries, .int c_x])), (a_this_messages, .inr (4, [.int (24 : Int32), .int (12 : Int32), .ref a_this_messages_cells])), (a_this_messages_cells, .inl (k 0, 288, .inl c_messages)), (a_this_copies, .inr (4, [.int (192 : Int32), .int (5 : Int32), .ref a_this_copies_cells])), (a_this_copies_cells, .inl (k 0, 960, .inl c_copies)), (a_this_ways, .inr (5, [.ref a_this_ways_heard, .int c_ways_arrival, .int c_ways_fewest, .int c_ways_next])), (a_this_ways_heard, .inl (k 1, 24, .inr (.inl c_ways_heard)))] rfl rfl rfl rfl ⟨rfl, rfl, rn_Bw (wr := [(a_this, .inr (2, [.ref a_this_stations, .ref a_this_links, .ref a_this_messages, .ref a_this_copies, .ref a_this_log, .ref a_this_ways, .ref a_this_frames, .int c_stationCount, .int c_linkCount, .int c_messageCount, .int c_time, .int c_life, .int c_tries, .int c_x])), (a_this_messages, .inr (4, [.int (24 : Int32), .int (12 : Int32), .ref a_this_messages_cells])), (a_this_messages_cells, .inl (k 0, 288, .inl c_messages)), (a_this_ways, .inr (5, [.ref a_this_ways_heard, .int c_ways_arrival, .int c_ways_fewest, .int c_ways_next])), (a_this_ways_heard, .inl (k 1, 24, .inr (.inl c_ways_heard)))]) rfl rfl, rfl, rfl⟩ (rn_r hR rfl) rn_cs hl.1 rfl (Nat.le_of_ble_eq_true rfl) dX2_nextOf_12 (fun hn2 H locs hW => ?_)
  refine lv_iconst (v := 1) hx hb dX2_nextOf_15 (by decide) ?_
  refine lv_icmp_ne (tgt := 35) hx hb dX2_nextOf_16 (by decide) (fun hc3 => ?_) (fun hc3 => ?_)
  · replace hf := rn_f hf hc3
    refine lv_iconst (v := -1) hx hb dX2_nextOf_35 (by decide) ?_
    cases hf
    exact hE _ _ _ _ hW rfl dX2_nextOf_36
  · replace hf := rn_t hf hc3
    refine lv_aload_n hx hb dX2_nextOf_19 rfl (lv_at hl 1 rfl) ?_
    refine rr_get X hW 0 3 gf_X2_26 rfl rfl dX2_nextOf_20 ?_
    refine lv_iload_n hx hb dX2_nextOf_23 rfl (lv_at hl 0 rfl) ?_
    refine lv_iconst (v := 2) hx hb dX2_nextOf_24 (by decide) ?_
    obtain ⟨t4, ht4, hf⟩ := rn_bind hf
    refine rr_callI (As := [.int t1, .int (2 : Int32)]) (rest := []) X hW (kX4_get l D k z a_this_copies a_this_copies_cells (192 : Int32) (5 : Int32) 960 c_copies t1 (2 : Int32) ht4) gm_X4_get gl_X2_105 [3, 4] [0, 1, 2, 5, 6] [(a_this, .inr (2, [.ref a_this_stations, .ref a_this_links, .ref a_this_messages, .ref a_this_copies, .ref a_this_log, .ref a_this_ways, .ref a_this_frames, .int c_stationCount, .int c_linkCount, .int c_messageCount, .int c_time, .int c_life, .int c_tries, .int c_x])), (a_this_messages, .inr (4, [.int (24 : Int32), .int (12 : Int32), .ref a_this_messages_cells])), (a_this_messages_cells, .inl (k 0, 288, .inl c_messages)), (a_this_copies, .inr (4, [.int (192 : Int32), .int (5 : Int32), .ref a_this_copies_cells])), (a_this_copies_cells, .inl (k 0, 960, .inl c_copies)), (a_this_ways, .inr (5, [.ref a_this_ways_heard, .int c_ways_arrival, .int c_ways_fewest, .int c_ways_next])), (a_this_ways_heard, .inl (k 1, 24, .inr (.inl c_ways_heard)))] rfl rfl rfl rfl ⟨rfl, rfl, rn_Bw (wr := [(a_this, .inr (2, [.ref a_this_stations, .ref a_this_links, .ref a_this_messages, .ref a_this_copies, .ref a_this_log, .ref a_this_ways, .ref a_this_frames, .int c_stationCount, .int c_linkCount, .int c_messageCount, .int c_time, .int c_life, .int c_tries, .int c_x])), (a_this_messages, .inr (4, [.int (24 : Int32), .int (12 : Int32), .ref a_this_messages_cells])), (a_this_messages_cells, .inl (k 0, 288, .inl c_messages)), (a_this_ways, .inr (5, [.ref a_this_ways_heard, .int c_ways_arrival, .int c_ways_fewest, .int c_ways_next])), (a_this_ways_heard, .inl (k 1, 24, .inr (.inl c_ways_heard)))]) rfl rfl, rfl, rfl⟩ (rn_r hR rfl) rn_cs hl.1 rfl (Nat.le_of_ble_eq_true rfl) dX2_nextOf_25 (fun hn4 H locs hW => ?_)
    refine lv_aload_n hx hb dX2_nextOf_28 rfl (lv_at hl 1 rfl) ?_
    refine rr_get X hW 0 10 gf_X2_56 rfl rfl dX2_nextOf_29 ?_
    refine lv_icmp_le (tgt := 37) hx hb dX2_nextOf_32 (by decide) (fun hc5 => ?_) (fun hc5 => ?_)
    · replace hf := rn_t hf hc5
      refine lv_aload_n hx hb dX2_nextOf_37 rfl (lv_at hl 1 rfl) ?_
      refine lv_iload_n hx hb dX2_nextOf_38 rfl (lv_at hl 0 rfl) ?_
      obtain ⟨t6, ht6, hf⟩ := rn_bind hf
      refine rr_callI (As := [.int t1]) (rest := []) X hW (kX2_pathStations l D k z N a_this a_this_stations a_this_links a_this_messages a_this_copies a_this_log a_this_ways a_this_frames a_this_copies_cells c_stationCount c_linkCount c_messageCount c_time c_life c_tries c_x c_copies t1 ht6) gm_X2_pathStations gl_X2_179 [0, 3, 4] [1, 2, 5, 6] [(a_this, .inr (2, [.ref a_this_stations, .ref a_this_links, .ref a_this_messages, .ref a_this_copies, .ref a_this_log, .ref a_this_ways, .ref a_this_frames, .int c_stationCount, .int c_linkCount, .int c_messageCount, .int c_time, .int c_life, .int c_tries, .int c_x])), (a_this_messages, .inr (4, [.int (24 : Int32), .int (12 : Int32), .ref a_this_messages_cells])), (a_this_messages_cells, .inl (k 0, 288, .inl c_messages)), (a_this_copies, .inr (4, [.int (192 : Int32), .int (5 : Int32), .ref a_this_copies_cells])), (a_this_copies_cells, .inl (k 0, 960, .inl c_copies)), (a_this_ways, .inr (5, [.ref a_this_ways_heard, .int c_ways_arrival, .int c_ways_fewest, .int c_ways_next])), (a_this_ways_heard, .inl (k 1, 24, .inr (.inl c_ways_heard)))] rfl rfl rfl rfl ⟨rfl, rfl, rn_Bw (wr := [(a_this_messages, .inr (4, [.int (24 : Int32), .int (12 : Int32), .ref a_this_messages_cells])), (a_this_messages_cells, .inl (k 0, 288, .inl c_messages)), (a_this_ways, .inr (5, [.ref a_this_ways_heard, .int c_ways_arrival, .int c_ways_fewest, .int c_ways_next])), (a_this_ways_heard, .inl (k 1, 24, .inr (.inl c_ways_heard)))]) rfl rfl, rfl, rfl⟩ (rn_r hR rfl) rn_cs hl.1 rfl (Nat.le_of_ble_eq_true rfl) dX2_nextOf_39 (fun hn6 H locs hW => ?_)
      refine lv_istore (lv' := [(4, .int t6), (3, .int t1), (0, .ref a_this), (1, .int i1), (2, .int i2)]) hx hb dX2_nextOf_42 hl (Nat.le_of_ble_eq_true rfl) rfl (fun ls hl => ?_)
      refine lv_aload_n hx hb dX2_nextOf_44 rfl (lv_at hl 2 rfl) ?_
      refine rr_get X hW 0 5 gf_X2_39 rfl rfl dX2_nextOf_45 ?_
      refine lv_iload_n hx hb dX2_nextOf_48 rfl (lv_at hl 4 rfl) ?_
      refine lv_aload_n hx hb dX2_nextOf_49 rfl (lv_at hl 2 rfl) ?_
      refine rr_get X hW 0 10 gf_X2_56 rfl rfl dX2_nextOf_50 ?_
      refine lv_iload hx hb dX2_nextOf_53 (lv_at hl 0 rfl) ?_
      obtain ⟨t7, ht7, hf⟩ := rn_bind hf
      refine rr_callI (As := [.int i2, .int c_time, .int t6]) (rest := []) X hW (kX5_goesFrom l D k z a_this_ways a_this_ways_heard c_ways_arrival c_ways_fewest c_ways_next c_ways_heard i2 c_time t6 ht7) gm_X5_goesFrom gl_X2_182 [5, 6] [0, 1, 2, 3, 4] [(a_this, .inr (2, [.ref a_this_stations, .ref a_this_links, .ref a_this_messages, .ref a_this_copies, .ref a_this_log, .ref a_this_ways, .ref a_this_frames, .int c_stationCount, .int c_linkCount, .int c_messageCount, .int c_time, .int c_life, .int c_tries, .int c_x])), (a_this_messages, .inr (4, [.int (24 : Int32), .int (12 : Int32), .ref a_this_messages_cells])), (a_this_messages_cells, .inl (k 0, 288, .inl c_messages)), (a_this_copies, .inr (4, [.int (192 : Int32), .int (5 : Int32), .ref a_this_copies_cells])), (a_this_copies_cells, .inl (k 0, 960, .inl c_copies)), (a_this_ways, .inr (5, [.ref a_this_ways_heard, .int c_ways_arrival, .int c_ways_fewest, .int c_ways_next])), (a_this_ways_heard, .inl (k 1, 24, .inr (.inl c_ways_heard)))] rfl rfl rfl rfl ⟨rfl, rfl, rn_Bw (wr := [(a_this, .inr (2, [.ref a_this_stations, .ref a_this_links, .ref a_this_messages, .ref a_this_copies, .ref a_this_log, .ref a_this_ways, .ref a_this_frames, .int c_stationCount, .int c_linkCount, .int c_messageCount, .int c_time, .int c_life, .int c_tries, .int c_x])), (a_this_messages, .inr (4, [.int (24 : Int32), .int (12 : Int32), .ref a_this_messages_cells])), (a_this_messages_cells, .inl (k 0, 288, .inl c_messages)), (a_this_copies, .inr (4, [.int (192 : Int32), .int (5 : Int32), .ref a_this_copies_cells])), (a_this_copies_cells, .inl (k 0, 960, .inl c_copies))]) rfl rfl, rfl, rfl⟩ (rn_r hR rfl) rn_cs hl.1 rfl (Nat.le_of_ble_eq_true rfl) dX2_nextOf_55 (fun hn7 H locs hW => ?_)
      refine lv_if_ne (tgt := 63) hx hb dX2_nextOf_58 (by decide) (fun hc8 => ?_) (fun hc8 => ?_)
      · replace hf := rn_f hf hc8
        refine lv_aload_n hx hb dX2_nextOf_63 rfl (lv_at hl 2 rfl) ?_
        refine rr_get X hW 0 5 gf_X2_39 rfl rfl dX2_nextOf_64 ?_
        refine lv_iload_n hx hb dX2_nextOf_67 rfl (lv_at hl 4 rfl) ?_
        refine lv_aload_n hx hb dX2_nextOf_68 rfl (lv_at hl 2 rfl) ?_
        refine rr_get X hW 0 2 gf_X2_23 rfl rfl dX2_nextOf_69 ?_
        refine lv_iload_n hx hb dX2_nextOf_72 rfl (lv_at hl 3 rfl) ?_
        refine lv_iconst (v := 1) hx hb dX2_nextOf_73 (by decide) ?_
        obtain ⟨t9, ht9, hf⟩ := rn_bind hf
        refine rr_callI (As := [.int i1, .int (1 : Int32)]) (rest := [.int i2, .ref a_this_ways]) X hW (kX4_get l D k z a_this_messages a_this_messages_cells (24 : Int32) (12 : Int32) 288 c_messages i1 (1 : Int32) ht9) gm_X4_get gl_X2_105 [1, 2] [0, 3, 4, 5, 6] [(a_this, .inr (2, [.ref a_this_stations, .ref a_this_links, .ref a_this_messages, .ref a_this_copies, .ref a_this_log, .ref a_this_ways, .ref a_this_frames, .int c_stationCount, .int c_linkCount, .int c_messageCount, .int c_time, .int c_life, .int c_tries, .int c_x])), (a_this_messages, .inr (4, [.int (24 : Int32), .int (12 : Int32), .ref a_this_messages_cells])), (a_this_messages_cells, .inl (k 0, 288, .inl c_messages)), (a_this_copies, .inr (4, [.int (192 : Int32), .int (5 : Int32), .ref a_this_copies_cells])), (a_this_copies_cells, .inl (k 0, 960, .inl c_copies)), (a_this_ways, .inr (5, [.ref a_this_ways_heard, .int c_ways_arrival, .int c_ways_fewest, .int c_ways_next])), (a_this_ways_heard, .inl (k 1, 24, .inr (.inl c_ways_heard)))] rfl rfl rfl rfl ⟨rfl, rfl, rn_Bw (wr := [(a_this, .inr (2, [.ref a_this_stations, .ref a_this_links, .ref a_this_messages, .ref a_this_copies, .ref a_this_log, .ref a_this_ways, .ref a_this_frames, .int c_stationCount, .int c_linkCount, .int c_messageCount, .int c_time, .int c_life, .int c_tries, .int c_x])), (a_this_copies, .inr (4, [.int (192 : Int32), .int (5 : Int32), .ref a_this_copies_cells])), (a_this_copies_cells, .inl (k 0, 960, .inl c_copies)), (a_this_ways, .inr (5, [.ref a_this_ways_heard, .int c_ways_arrival, .int c_ways_fewest, .int c_ways_next])), (a_this_ways_heard, .inl (k 1, 24, .inr (.inl c_ways_heard)))]) rfl rfl, rfl, rfl⟩ (rn_r hR rfl) rn_cs hl.1 rfl (Nat.le_of_ble_eq_true rfl) dX2_nextOf_74 (fun hn9 H locs hW => ?_)
        refine lv_aload_n hx hb dX2_nextOf_77 rfl (lv_at hl 2 rfl) ?_
        refine rr_get X hW 0 10 gf_X2_56 rfl rfl dX2_nextOf_78 ?_
        refine lv_iload hx hb dX2_nextOf_81 (lv_at hl 0 rfl) ?_
        obtain ⟨t10, ht10, hf⟩ := rn_bind hf
        refine rr_callI (As := [.int i2, .int t9, .int c_time, .int t6]) (rest := []) X hW (kX5_find l D k z N a_this_ways a_this_ways_heard c_ways_arrival c_ways_fewest c_ways_next c_ways_heard i2 t9 c_time t6 ht10) gm_X5_find gl_X2_141 [5, 6] [0, 1, 2, 3, 4] [(a_this, .inr (2, [.ref a_this_stations, .ref a_this_links, .ref a_this_messages, .ref a_this_copies, .ref a_this_log, .ref a_this_ways, .ref a_this_frames, .int c_stationCount, .int c_linkCount, .int c_messageCount, .int c_time, .int c_life, .int c_tries, .int c_x])), (a_this_messages, .inr (4, [.int (24 : Int32), .int (12 : Int32), .ref a_this_messages_cells])), (a_this_messages_cells, .inl (k 0, 288, .inl c_messages)), (a_this_copies, .inr (4, [.int (192 : Int32), .int (5 : Int32), .ref a_this_copies_cells])), (a_this_copies_cells, .inl (k 0, 960, .inl c_copies)), (a_this_ways, .inr (5, [.ref a_this_ways_heard, .int t10.2.1, .int t10.2.2.1, .int t10.2.2.2])), (a_this_ways_heard, .inl (k 1, 24, .inr (.inl c_ways_heard)))] rfl rfl rfl rfl ⟨rfl, rfl, rn_Bw (wr := [(a_this, .inr (2, [.ref a_this_stations, .ref a_this_links, .ref a_this_messages, .ref a_this_copies, .ref a_this_log, .ref a_this_ways, .ref a_this_frames, .int c_stationCount, .int c_linkCount, .int c_messageCount, .int c_time, .int c_life, .int c_tries, .int c_x])), (a_this_messages, .inr (4, [.int (24 : Int32), .int (12 : Int32), .ref a_this_messages_cells])), (a_this_messages_cells, .inl (k 0, 288, .inl c_messages)), (a_this_copies, .inr (4, [.int (192 : Int32), .int (5 : Int32), .ref a_this_copies_cells])), (a_this_copies_cells, .inl (k 0, 960, .inl c_copies))]) rfl rfl, rfl, rfl⟩ (rn_r hR rfl) rn_cs hl.1 rfl (Nat.le_of_ble_eq_true rfl) dX2_nextOf_83 (fun hn10 H locs hW => ?_)
        refine lv_if_eq (tgt := 99) hx hb dX2_nextOf_86 (by decide) (fun hc11 => ?_) (fun hc11 => ?_)
        · replace hf := rn_t hf hc11
          refine lv_iconst (v := -1) hx hb dX2_nextOf_99 (by decide) ?_
          cases hf
          exact hE _ _ _ _ hW rfl dX2_nextOf_100
        · replace hf := rn_f hf hc11
          refine lv_aload_n hx hb dX2_nextOf_89 rfl (lv_at hl 2 rfl) ?_
          refine rr_get X hW 0 5 gf_X2_39 rfl rfl dX2_nextOf_90 ?_
          obtain ⟨t12, ht12, hf⟩ := rn_bind hf
          refine rr_callI (As := []) (rest := []) X hW (kX5_next l D k z a_this_ways a_this_ways_heard t10.2.1 t10.2.2.1 t10.2.2.2 ht12) gm_X5_next gl_X2_151 [5] [0, 1, 2, 3, 4, 6] [(a_this, .inr (2, [.ref a_this_stations, .ref a_this_links, .ref a_this_messages, .ref a_this_copies, .ref a_this_log, .ref a_this_ways, .ref a_this_frames, .int c_stationCount, .int c_linkCount, .int c_messageCount, .int c_time, .int c_life, .int c_tries, .int c_x])), (a_this_messages, .inr (4, [.int (24 : Int32), .int (12 : Int32), .ref a_this_messages_cells])), (a_this_messages_cells, .inl (k 0, 288, .inl c_messages)), (a_this_copies, .inr (4, [.int (192 : Int32), .int (5 : Int32), .ref a_this_copies_cells])), (a_this_copies_cells, .inl (k 0, 960, .inl c_copies)), (a_this_ways, .inr (5, [.ref a_this_ways_heard, .int t10.2.1, .int t10.2.2.1, .int t10.2.2.2])), (a_this_ways_heard, .inl (k 1, 24, .inr (.inl c_ways_heard)))] rfl rfl rfl rfl ⟨rfl, rfl, rn_Bw (wr := [(a_this, .inr (2, [.ref a_this_stations, .ref a_this_links, .ref a_this_messages, .ref a_this_copies, .ref a_this_log, .ref a_this_ways, .ref a_this_frames, .int c_stationCount, .int c_linkCount, .int c_messageCount, .int c_time, .int c_life, .int c_tries, .int c_x])), (a_this_messages, .inr (4, [.int (24 : Int32), .int (12 : Int32), .ref a_this_messages_cells])), (a_this_messages_cells, .inl (k 0, 288, .inl c_messages)), (a_this_copies, .inr (4, [.int (192 : Int32), .int (5 : Int32), .ref a_this_copies_cells])), (a_this_copies_cells, .inl (k 0, 960, .inl c_copies)), (a_this_ways_heard, .inl (k 1, 24, .inr (.inl c_ways_heard)))]) rfl rfl, rfl, rfl⟩ (rn_r hR rfl) rn_cs hl.1 rfl (Nat.le_of_ble_eq_true rfl) dX2_nextOf_93 (fun hn12 H locs hW => ?_)
          refine lv_goto (tgt := 100) hx hb dX2_nextOf_96 (by decide) ?_
          cases hf
          exact hE _ _ _ _ hW rfl dX2_nextOf_100
      · replace hf := rn_t hf hc8
        refine lv_iconst (v := -1) hx hb dX2_nextOf_61 (by decide) ?_
        cases hf
        exact hE _ _ _ _ hW rfl dX2_nextOf_62
    · replace hf := rn_f hf hc5
      refine lv_iconst (v := -1) hx hb dX2_nextOf_35 (by decide) ?_
      cases hf
      exact hE _ _ _ _ hW rfl dX2_nextOf_36
def fX2_copyNumber (N : Nat) (c_time : Int32) (c_messages : Nat → Int32) (c_copies : Nat → Int32) (c_ways_arrival : Int32) (c_ways_fewest : Int32) (c_ways_next : Int32) (c_ways_heard : Nat → Int64) (i1 : Int32) (i2 : Int32) (i3 : Int32) : Option (Int32 × Int32 × Int32 × Int32) :=
  (fX2_copyRow i1 i2).bind fun t1 =>
  if i3 = 0 then
    if i3 = (4 : Int32) then
      (fX2_nextOf N c_time c_messages c_copies c_ways_arrival c_ways_fewest c_ways_next c_ways_heard i1 i2).bind fun t5 =>
      some (t5.1, t5.2.1, t5.2.2.1, t5.2.2.2)
    else
    (fX4_get (192 : Int32) (5 : Int32) 960 c_copies t1 i3).bind fun t4 =>
    some (t4, c_ways_arrival, c_ways_fewest, c_ways_next)
  else
  (fX4_get (192 : Int32) (5 : Int32) 960 c_copies t1 (0 : Int32)).bind fun t6 =>
  if t6 = 0 then
    some ((-1 : Int32), c_ways_arrival, c_ways_fewest, c_ways_next)
  else
  if i3 = (4 : Int32) then
    (fX2_nextOf N c_time c_messages c_copies c_ways_arrival c_ways_fewest c_ways_next c_ways_heard i1 i2).bind fun t10 =>
    some (t10.1, t10.2.1, t10.2.2.1, t10.2.2.2)
  else
  (fX4_get (192 : Int32) (5 : Int32) 960 c_copies t1 i3).bind fun t9 =>
  some (t9, c_ways_arrival, c_ways_fewest, c_ways_next)
set_option maxHeartbeats 4000000 in
set_option maxRecDepth 20000 in
theorem kX2_copyNumber (l : Launch) (D : va_G) (k : Nat → ClassId) (z : (Nat → Nat) × (Nat → Nat)) (N : Nat) (a_this : Nat) (a_this_stations : Nat) (a_this_links : Nat) (a_this_messages : Nat) (a_this_copies : Nat) (a_this_log : Nat) (a_this_ways : Nat) (a_this_frames : Nat) (a_this_messages_cells : Nat) (a_this_copies_cells : Nat) (a_this_ways_heard : Nat) (c_stationCount : Int32) (c_linkCount : Int32) (c_messageCount : Int32) (c_time : Int32) (c_life : Int32) (c_tries : Int32) (c_x : Int32) (c_messages : Nat → Int32) (c_copies : Nat → Int32) (c_ways_arrival : Int32) (c_ways_fewest : Int32) (c_ways_next : Int32) (c_ways_heard : Nat → Int64) (i1 : Int32) (i2 : Int32) (i3 : Int32) {u : Int32 × Int32 × Int32 × Int32} (hf : fX2_copyNumber N c_time c_messages c_copies c_ways_arrival c_ways_fewest c_ways_next c_ways_heard i1 i2 i3 = some u) : rn_KI l D k z yX2_copyNumber cX2_copyNumber 5 .int 4 110 [.ref a_this, .int i1, .int i2, .int i3] [(a_this, .inr (2, [.ref a_this_stations, .ref a_this_links, .ref a_this_messages, .ref a_this_copies, .ref a_this_log, .ref a_this_ways, .ref a_this_frames, .int c_stationCount, .int c_linkCount, .int c_messageCount, .int c_time, .int c_life, .int c_tries, .int c_x])), (a_this_messages, .inr (4, [.int (24 : Int32), .int (12 : Int32), .ref a_this_messages_cells])), (a_this_messages_cells, .inl (k 0, 288, .inl c_messages)), (a_this_copies, .inr (4, [.int (192 : Int32), .int (5 : Int32), .ref a_this_copies_cells])), (a_this_copies_cells, .inl (k 0, 960, .inl c_copies)), (a_this_ways, .inr (5, [.ref a_this_ways_heard, .int c_ways_arrival, .int c_ways_fewest, .int c_ways_next])), (a_this_ways_heard, .inl (k 1, 24, .inr (.inl c_ways_heard)))] [(a_this, .inr (2, [.ref a_this_stations, .ref a_this_links, .ref a_this_messages, .ref a_this_copies, .ref a_this_log, .ref a_this_ways, .ref a_this_frames, .int c_stationCount, .int c_linkCount, .int c_messageCount, .int c_time, .int c_life, .int c_tries, .int c_x])), (a_this_messages, .inr (4, [.int (24 : Int32), .int (12 : Int32), .ref a_this_messages_cells])), (a_this_messages_cells, .inl (k 0, 288, .inl c_messages)), (a_this_copies, .inr (4, [.int (192 : Int32), .int (5 : Int32), .ref a_this_copies_cells])), (a_this_copies_cells, .inl (k 0, 960, .inl c_copies)), (a_this_ways, .inr (5, [.ref a_this_ways_heard, .int u.2.1, .int u.2.2.1, .int u.2.2.2])), (a_this_ways_heard, .inl (k 1, 24, .inr (.inl c_ways_heard)))] u.1 := by
  refine rn_KI.go (LOC := [(0, .ref a_this), (1, .int i1), (2, .int i2), (3, .int i3)]) rfl (by decide) (Nat.le_of_ble_eq_true rfl) rfl ?_
  intro p e s m args below meth c A ls R Q X hR hE hW hl
  have hx := X.1.1
  have hb := X.1.2.1
  unfold fX2_copyNumber at hf
  refine lv_iload_n hx hb dX2_copyNumber_0 rfl (lv_at hl 1 rfl) ?_
  refine lv_iload_n hx hb dX2_copyNumber_1 rfl (lv_at hl 2 rfl) ?_
  obtain ⟨t1, ht1, hf⟩ := rn_bind hf
  refine rr_scalI (As := [.int i1, .int i2]) (rest := []) X hW (kX2_copyRow l D k z i1 i2 ht1) gm_X2_copyRow gl_X2_98 [] [0, 1, 2, 3, 4, 5, 6] [(a_this, .inr (2, [.ref a_this_stations, .ref a_this_links, .ref a_this_messages, .ref a_this_copies, .ref a_this_log, .ref a_this_ways, .ref a_this_frames, .int c_stationCount, .int c_linkCount, .int c_messageCount, .int c_time, .int c_life, .int c_tries, .int c_x])), (a_this_messages, .inr (4, [.int (24 : Int32), .int (12 : Int32), .ref a_this_messages_cells])), (a_this_messages_cells, .inl (k 0, 288, .inl c_messages)), (a_this_copies, .inr (4, [.int (192 : Int32), .int (5 : Int32), .ref a_this_copies_cells])), (a_this_copies_cells, .inl (k 0, 960, .inl c_copies)), (a_this_ways, .inr (5, [.ref a_this_ways_heard, .int c_ways_arrival, .int c_ways_fewest, .int c_ways_next])), (a_this_ways_heard, .inl (k 1, 24, .inr (.inl c_ways_heard)))] rfl rfl ⟨rfl, rfl, rn_Bw (wr := [(a_this, .inr (2, [.ref a_this_stations, .ref a_this_links, .ref a_this_messages, .ref a_this_copies, .ref a_this_log, .ref a_this_ways, .ref a_this_frames, .int c_stationCount, .int c_linkCount, .int c_messageCount, .int c_time, .int c_life, .int c_tries, .int c_x])), (a_this_messages, .inr (4, [.int (24 : Int32), .int (12 : Int32), .ref a_this_messages_cells])), (a_this_messages_cells, .inl (k 0, 288, .inl c_messages)), (a_this_copies, .inr (4, [.int (192 : Int32), .int (5 : Int32), .ref a_this_copies_cells])), (a_this_copies_cells, .inl (k 0, 960, .inl c_copies)), (a_this_ways, .inr (5, [.ref a_this_ways_heard, .int c_ways_arrival, .int c_ways_fewest, .int c_ways_next])), (a_this_ways_heard, .inl (k 1, 24, .inr (.inl c_ways_heard)))]) rfl rfl, rfl, rfl⟩ (rn_r hR rfl) rn_cs hl.1 rfl (Nat.le_of_ble_eq_true rfl) dX2_copyNumber_2 (fun hn1 H locs hW => ?_)
  refine lv_istore (lv' := [(4, .int t1), (0, .ref a_this), (1, .int i1), (2, .int i2), (3, .int i3)]) hx hb dX2_copyNumber_5 hl (Nat.le_of_ble_eq_true rfl) rfl (fun ls hl => ?_)
  refine lv_iload_n hx hb dX2_copyNumber_7 rfl (lv_at hl 4 rfl) ?_
  refine lv_if_eq (tgt := 26) hx hb dX2_copyNumber_8 (by decide) (fun hc2 => ?_) (fun hc2 => ?_)
  · replace hf := rn_t hf hc2
    refine lv_iload_n hx hb dX2_copyNumber_26 rfl (lv_at hl 4 rfl) ?_
    refine lv_iconst (v := 4) hx hb dX2_copyNumber_27 (by decide) ?_
    refine lv_icmp_ne (tgt := 40) hx hb dX2_copyNumber_28 (by decide) (fun hc3 => ?_) (fun hc3 => ?_)
    · replace hf := rn_f hf hc3
      refine lv_aload_n hx hb dX2_copyNumber_40 rfl (lv_at hl 1 rfl) ?_
      refine rr_get X hW 0 3 gf_X2_26 rfl rfl dX2_copyNumber_41 ?_
      refine lv_iload hx hb dX2_copyNumber_44 (lv_at hl 0 rfl) ?_
      refine lv_iload_n hx hb dX2_copyNumber_46 rfl (lv_at hl 4 rfl) ?_
      obtain ⟨t4, ht4, hf⟩ := rn_bind hf
      refine rr_callI (As := [.int t1, .int i3]) (rest := []) X hW (kX4_get l D k z a_this_copies a_this_copies_cells (192 : Int32) (5 : Int32) 960 c_copies t1 i3 ht4) gm_X4_get gl_X2_105 [3, 4] [0, 1, 2, 5, 6] [(a_this, .inr (2, [.ref a_this_stations, .ref a_this_links, .ref a_this_messages, .ref a_this_copies, .ref a_this_log, .ref a_this_ways, .ref a_this_frames, .int c_stationCount, .int c_linkCount, .int c_messageCount, .int c_time, .int c_life, .int c_tries, .int c_x])), (a_this_messages, .inr (4, [.int (24 : Int32), .int (12 : Int32), .ref a_this_messages_cells])), (a_this_messages_cells, .inl (k 0, 288, .inl c_messages)), (a_this_copies, .inr (4, [.int (192 : Int32), .int (5 : Int32), .ref a_this_copies_cells])), (a_this_copies_cells, .inl (k 0, 960, .inl c_copies)), (a_this_ways, .inr (5, [.ref a_this_ways_heard, .int c_ways_arrival, .int c_ways_fewest, .int c_ways_next])), (a_this_ways_heard, .inl (k 1, 24, .inr (.inl c_ways_heard)))] rfl rfl rfl rfl ⟨rfl, rfl, rn_Bw (wr := [(a_this, .inr (2, [.ref a_this_stations, .ref a_this_links, .ref a_this_messages, .ref a_this_copies, .ref a_this_log, .ref a_this_ways, .ref a_this_frames, .int c_stationCount, .int c_linkCount, .int c_messageCount, .int c_time, .int c_life, .int c_tries, .int c_x])), (a_this_messages, .inr (4, [.int (24 : Int32), .int (12 : Int32), .ref a_this_messages_cells])), (a_this_messages_cells, .inl (k 0, 288, .inl c_messages)), (a_this_ways, .inr (5, [.ref a_this_ways_heard, .int c_ways_arrival, .int c_ways_fewest, .int c_ways_next])), (a_this_ways_heard, .inl (k 1, 24, .inr (.inl c_ways_heard)))]) rfl rfl, rfl, rfl⟩ (rn_r hR rfl) rn_cs hl.1 rfl (Nat.le_of_ble_eq_true rfl) dX2_copyNumber_47 (fun hn4 H locs hW => ?_)
      cases hf
      exact hE _ _ _ _ hW rfl dX2_copyNumber_50
    · replace hf := rn_t hf hc3
      refine lv_aload_n hx hb dX2_copyNumber_31 rfl (lv_at hl 1 rfl) ?_
      refine lv_iload_n hx hb dX2_copyNumber_32 rfl (lv_at hl 2 rfl) ?_
      refine lv_iload_n hx hb dX2_copyNumber_33 rfl (lv_at hl 3 rfl) ?_
      obtain ⟨t5, ht5, hf⟩ := rn_bind hf
      refine rr_callI (As := [.int i1, .int i2]) (rest := []) X hW (kX2_nextOf l D k z N a_this a_this_stations a_this_links a_this_messages a_this_copies a_this_log a_this_ways a_this_frames a_this_messages_cells a_this_copies_cells a_this_ways_heard c_stationCount c_linkCount c_messageCount c_time c_life c_tries c_x c_messages c_copies c_ways_arrival c_ways_fewest c_ways_next c_ways_heard i1 i2 ht5) gm_X2_nextOf gl_X2_161 [0, 1, 2, 3, 4, 5, 6] [] [(a_this, .inr (2, [.ref a_this_stations, .ref a_this_links, .ref a_this_messages, .ref a_this_copies, .ref a_this_log, .ref a_this_ways, .ref a_this_frames, .int c_stationCount, .int c_linkCount, .int c_messageCount, .int c_time, .int c_life, .int c_tries, .int c_x])), (a_this_messages, .inr (4, [.int (24 : Int32), .int (12 : Int32), .ref a_this_messages_cells])), (a_this_messages_cells, .inl (k 0, 288, .inl c_messages)), (a_this_copies, .inr (4, [.int (192 : Int32), .int (5 : Int32), .ref a_this_copies_cells])), (a_this_copies_cells, .inl (k 0, 960, .inl c_copies)), (a_this_ways, .inr (5, [.ref a_this_ways_heard, .int t5.2.1, .int t5.2.2.1, .int t5.2.2.2])), (a_this_ways_heard, .inl (k 1, 24, .inr (.inl c_ways_heard)))] rfl rfl rfl rfl ⟨rfl, rfl, rfl, rfl, rfl⟩ (rn_r hR rfl) rn_cs hl.1 rfl (Nat.le_of_ble_eq_true rfl) dX2_copyNumber_34 (fun hn5 H locs hW => ?_)
      refine lv_goto (tgt := 50) hx hb dX2_copyNumber_37 (by decide) ?_
      cases hf
      exact hE _ _ _ _ hW rfl dX2_copyNumber_50
  · replace hf := rn_f hf hc2
    refine lv_aload_n hx hb dX2_copyNumber_11 rfl (lv_at hl 1 rfl) ?_
    refine rr_get X hW 0 3 gf_X2_26 rfl rfl dX2_copyNumber_12 ?_
    refine lv_iload hx hb dX2_copyNumber_15 (lv_at hl 0 rfl) ?_
    refine lv_iconst (v := 0) hx hb dX2_copyNumber_17 (by decide) ?_
    obtain ⟨t6, ht6, hf⟩ := rn_bind hf
    refine rr_callI (As := [.int t1, .int (0 : Int32)]) (rest := []) X hW (kX4_get l D k z a_this_copies a_this_copies_cells (192 : Int32) (5 : Int32) 960 c_copies t1 (0 : Int32) ht6) gm_X4_get gl_X2_105 [3, 4] [0, 1, 2, 5, 6] [(a_this, .inr (2, [.ref a_this_stations, .ref a_this_links, .ref a_this_messages, .ref a_this_copies, .ref a_this_log, .ref a_this_ways, .ref a_this_frames, .int c_stationCount, .int c_linkCount, .int c_messageCount, .int c_time, .int c_life, .int c_tries, .int c_x])), (a_this_messages, .inr (4, [.int (24 : Int32), .int (12 : Int32), .ref a_this_messages_cells])), (a_this_messages_cells, .inl (k 0, 288, .inl c_messages)), (a_this_copies, .inr (4, [.int (192 : Int32), .int (5 : Int32), .ref a_this_copies_cells])), (a_this_copies_cells, .inl (k 0, 960, .inl c_copies)), (a_this_ways, .inr (5, [.ref a_this_ways_heard, .int c_ways_arrival, .int c_ways_fewest, .int c_ways_next])), (a_this_ways_heard, .inl (k 1, 24, .inr (.inl c_ways_heard)))] rfl rfl rfl rfl ⟨rfl, rfl, rn_Bw (wr := [(a_this, .inr (2, [.ref a_this_stations, .ref a_this_links, .ref a_this_messages, .ref a_this_copies, .ref a_this_log, .ref a_this_ways, .ref a_this_frames, .int c_stationCount, .int c_linkCount, .int c_messageCount, .int c_time, .int c_life, .int c_tries, .int c_x])), (a_this_messages, .inr (4, [.int (24 : Int32), .int (12 : Int32), .ref a_this_messages_cells])), (a_this_messages_cells, .inl (k 0, 288, .inl c_messages)), (a_this_ways, .inr (5, [.ref a_this_ways_heard, .int c_ways_arrival, .int c_ways_fewest, .int c_ways_next])), (a_this_ways_heard, .inl (k 1, 24, .inr (.inl c_ways_heard)))]) rfl rfl, rfl, rfl⟩ (rn_r hR rfl) rn_cs hl.1 rfl (Nat.le_of_ble_eq_true rfl) dX2_copyNumber_18 (fun hn6 H locs hW => ?_)
    refine lv_if_ne (tgt := 26) hx hb dX2_copyNumber_21 (by decide) (fun hc7 => ?_) (fun hc7 => ?_)
    · replace hf := rn_f hf hc7
      refine lv_iload_n hx hb dX2_copyNumber_26 rfl (lv_at hl 4 rfl) ?_
      refine lv_iconst (v := 4) hx hb dX2_copyNumber_27 (by decide) ?_
      refine lv_icmp_ne (tgt := 40) hx hb dX2_copyNumber_28 (by decide) (fun hc8 => ?_) (fun hc8 => ?_)
      · replace hf := rn_f hf hc8
        refine lv_aload_n hx hb dX2_copyNumber_40 rfl (lv_at hl 1 rfl) ?_
        refine rr_get X hW 0 3 gf_X2_26 rfl rfl dX2_copyNumber_41 ?_
        refine lv_iload hx hb dX2_copyNumber_44 (lv_at hl 0 rfl) ?_
        refine lv_iload_n hx hb dX2_copyNumber_46 rfl (lv_at hl 4 rfl) ?_
        obtain ⟨t9, ht9, hf⟩ := rn_bind hf
        refine rr_callI (As := [.int t1, .int i3]) (rest := []) X hW (kX4_get l D k z a_this_copies a_this_copies_cells (192 : Int32) (5 : Int32) 960 c_copies t1 i3 ht9) gm_X4_get gl_X2_105 [3, 4] [0, 1, 2, 5, 6] [(a_this, .inr (2, [.ref a_this_stations, .ref a_this_links, .ref a_this_messages, .ref a_this_copies, .ref a_this_log, .ref a_this_ways, .ref a_this_frames, .int c_stationCount, .int c_linkCount, .int c_messageCount, .int c_time, .int c_life, .int c_tries, .int c_x])), (a_this_messages, .inr (4, [.int (24 : Int32), .int (12 : Int32), .ref a_this_messages_cells])), (a_this_messages_cells, .inl (k 0, 288, .inl c_messages)), (a_this_copies, .inr (4, [.int (192 : Int32), .int (5 : Int32), .ref a_this_copies_cells])), (a_this_copies_cells, .inl (k 0, 960, .inl c_copies)), (a_this_ways, .inr (5, [.ref a_this_ways_heard, .int c_ways_arrival, .int c_ways_fewest, .int c_ways_next])), (a_this_ways_heard, .inl (k 1, 24, .inr (.inl c_ways_heard)))] rfl rfl rfl rfl ⟨rfl, rfl, rn_Bw (wr := [(a_this, .inr (2, [.ref a_this_stations, .ref a_this_links, .ref a_this_messages, .ref a_this_copies, .ref a_this_log, .ref a_this_ways, .ref a_this_frames, .int c_stationCount, .int c_linkCount, .int c_messageCount, .int c_time, .int c_life, .int c_tries, .int c_x])), (a_this_messages, .inr (4, [.int (24 : Int32), .int (12 : Int32), .ref a_this_messages_cells])), (a_this_messages_cells, .inl (k 0, 288, .inl c_messages)), (a_this_ways, .inr (5, [.ref a_this_ways_heard, .int c_ways_arrival, .int c_ways_fewest, .int c_ways_next])), (a_this_ways_heard, .inl (k 1, 24, .inr (.inl c_ways_heard)))]) rfl rfl, rfl, rfl⟩ (rn_r hR rfl) rn_cs hl.1 rfl (Nat.le_of_ble_eq_true rfl) dX2_copyNumber_47 (fun hn9 H locs hW => ?_)
        cases hf
        exact hE _ _ _ _ hW rfl dX2_copyNumber_50
      · replace hf := rn_t hf hc8
        refine lv_aload_n hx hb dX2_copyNumber_31 rfl (lv_at hl 1 rfl) ?_
        refine lv_iload_n hx hb dX2_copyNumber_32 rfl (lv_at hl 2 rfl) ?_
        refine lv_iload_n hx hb dX2_copyNumber_33 rfl (lv_at hl 3 rfl) ?_
        obtain ⟨t10, ht10, hf⟩ := rn_bind hf
        refine rr_callI (As := [.int i1, .int i2]) (rest := []) X hW (kX2_nextOf l D k z N a_this a_this_stations a_this_links a_this_messages a_this_copies a_this_log a_this_ways a_this_frames a_this_messages_cells a_this_copies_cells a_this_ways_heard c_stationCount c_linkCount c_messageCount c_time c_life c_tries c_x c_messages c_copies c_ways_arrival c_ways_fewest c_ways_next c_ways_heard i1 i2 ht10) gm_X2_nextOf gl_X2_161 [0, 1, 2, 3, 4, 5, 6] [] [(a_this, .inr (2, [.ref a_this_stations, .ref a_this_links, .ref a_this_messages, .ref a_this_copies, .ref a_this_log, .ref a_this_ways, .ref a_this_frames, .int c_stationCount, .int c_linkCount, .int c_messageCount, .int c_time, .int c_life, .int c_tries, .int c_x])), (a_this_messages, .inr (4, [.int (24 : Int32), .int (12 : Int32), .ref a_this_messages_cells])), (a_this_messages_cells, .inl (k 0, 288, .inl c_messages)), (a_this_copies, .inr (4, [.int (192 : Int32), .int (5 : Int32), .ref a_this_copies_cells])), (a_this_copies_cells, .inl (k 0, 960, .inl c_copies)), (a_this_ways, .inr (5, [.ref a_this_ways_heard, .int t10.2.1, .int t10.2.2.1, .int t10.2.2.2])), (a_this_ways_heard, .inl (k 1, 24, .inr (.inl c_ways_heard)))] rfl rfl rfl rfl ⟨rfl, rfl, rfl, rfl, rfl⟩ (rn_r hR rfl) rn_cs hl.1 rfl (Nat.le_of_ble_eq_true rfl) dX2_copyNumber_34 (fun hn10 H locs hW => ?_)
        refine lv_goto (tgt := 50) hx hb dX2_copyNumber_37 (by decide) ?_
        cases hf
        exact hE _ _ _ _ hW rfl dX2_copyNumber_50
    · replace hf := rn_t hf hc7
      refine lv_iconst (v := -1) hx hb dX2_copyNumber_24 (by decide) ?_
      cases hf
      exact hE _ _ _ _ hW rfl dX2_copyNumber_25
def fX2_pathStation (c_copies : Nat → Int32) (i1 : Int32) (i2 : Int32) (i3 : Int32) : Option (Int32) :=
  (fX2_copyRow i1 i2).bind fun t1 =>
  (fX4_get (192 : Int32) (5 : Int32) 960 c_copies t1 (0 : Int32)).bind fun t2 =>
  if t2 = 0 then
    some (-1 : Int32)
  else
  if i3 < 0 then
    some (-1 : Int32)
  else
  (fX4_get (192 : Int32) (5 : Int32) 960 c_copies t1 (3 : Int32)).bind fun t5 =>
  if i3 < t5 then
    (fX4_get (192 : Int32) (5 : Int32) 960 c_copies t1 (4 : Int32)).bind fun t7 =>
    some ((t7 >>> ((i3 * (3 : Int32)) &&& (31 : Int32))) &&& (7 : Int32))
  else
  some (-1 : Int32)
set_option maxHeartbeats 4000000 in
set_option maxRecDepth 20000 in
theorem kX2_pathStation (l : Launch) (D : va_G) (k : Nat → ClassId) (z : (Nat → Nat) × (Nat → Nat)) (a_this : Nat) (a_this_stations : Nat) (a_this_links : Nat) (a_this_messages : Nat) (a_this_copies : Nat) (a_this_log : Nat) (a_this_ways : Nat) (a_this_frames : Nat) (a_this_copies_cells : Nat) (c_stationCount : Int32) (c_linkCount : Int32) (c_messageCount : Int32) (c_time : Int32) (c_life : Int32) (c_tries : Int32) (c_x : Int32) (c_copies : Nat → Int32) (i1 : Int32) (i2 : Int32) (i3 : Int32) {u : Int32} (hf : fX2_pathStation c_copies i1 i2 i3 = some u) : rn_KI l D k z yX2_pathStation cX2_pathStation 5 .int 1 23 [.ref a_this, .int i1, .int i2, .int i3] [(a_this, .inr (2, [.ref a_this_stations, .ref a_this_links, .ref a_this_messages, .ref a_this_copies, .ref a_this_log, .ref a_this_ways, .ref a_this_frames, .int c_stationCount, .int c_linkCount, .int c_messageCount, .int c_time, .int c_life, .int c_tries, .int c_x])), (a_this_copies, .inr (4, [.int (192 : Int32), .int (5 : Int32), .ref a_this_copies_cells])), (a_this_copies_cells, .inl (k 0, 960, .inl c_copies))] [(a_this, .inr (2, [.ref a_this_stations, .ref a_this_links, .ref a_this_messages, .ref a_this_copies, .ref a_this_log, .ref a_this_ways, .ref a_this_frames, .int c_stationCount, .int c_linkCount, .int c_messageCount, .int c_time, .int c_life, .int c_tries, .int c_x])), (a_this_copies, .inr (4, [.int (192 : Int32), .int (5 : Int32), .ref a_this_copies_cells])), (a_this_copies_cells, .inl (k 0, 960, .inl c_copies))] u := by
  refine rn_KI.go (LOC := [(0, .ref a_this), (1, .int i1), (2, .int i2), (3, .int i3)]) rfl (by decide) (Nat.le_of_ble_eq_true rfl) rfl ?_
  intro p e s m args below meth c A ls R Q X hR hE hW hl
  have hx := X.1.1
  have hb := X.1.2.1
  unfold fX2_pathStation at hf
  refine lv_iload_n hx hb dX2_pathStation_0 rfl (lv_at hl 1 rfl) ?_
  refine lv_iload_n hx hb dX2_pathStation_1 rfl (lv_at hl 2 rfl) ?_
  obtain ⟨t1, ht1, hf⟩ := rn_bind hf
  refine rr_scalI (As := [.int i1, .int i2]) (rest := []) X hW (kX2_copyRow l D k z i1 i2 ht1) gm_X2_copyRow gl_X2_98 [] [0, 1, 2] [(a_this, .inr (2, [.ref a_this_stations, .ref a_this_links, .ref a_this_messages, .ref a_this_copies, .ref a_this_log, .ref a_this_ways, .ref a_this_frames, .int c_stationCount, .int c_linkCount, .int c_messageCount, .int c_time, .int c_life, .int c_tries, .int c_x])), (a_this_copies, .inr (4, [.int (192 : Int32), .int (5 : Int32), .ref a_this_copies_cells])), (a_this_copies_cells, .inl (k 0, 960, .inl c_copies))] rfl rfl ⟨rfl, rfl, rn_Bw (wr := [(a_this, .inr (2, [.ref a_this_stations, .ref a_this_links, .ref a_this_messages, .ref a_this_copies, .ref a_this_log, .ref a_this_ways, .ref a_this_frames, .int c_stationCount, .int c_linkCount, .int c_messageCount, .int c_time, .int c_life, .int c_tries, .int c_x])), (a_this_copies, .inr (4, [.int (192 : Int32), .int (5 : Int32), .ref a_this_copies_cells])), (a_this_copies_cells, .inl (k 0, 960, .inl c_copies))]) rfl rfl, rfl, rfl⟩ (rn_r hR rfl) rn_cs hl.1 rfl (Nat.le_of_ble_eq_true rfl) dX2_pathStation_2 (fun hn1 H locs hW => ?_)
  refine lv_istore (lv' := [(4, .int t1), (0, .ref a_this), (1, .int i1), (2, .int i2), (3, .int i3)]) hx hb dX2_pathStation_5 hl (Nat.le_of_ble_eq_true rfl) rfl (fun ls hl => ?_)
  refine lv_aload_n hx hb dX2_pathStation_7 rfl (lv_at hl 1 rfl) ?_
  refine rr_get X hW 0 3 gf_X2_26 rfl rfl dX2_pathStation_8 ?_
  refine lv_iload hx hb dX2_pathStation_11 (lv_at hl 0 rfl) ?_
  refine lv_iconst (v := 0) hx hb dX2_pathStation_13 (by decide) ?_
  obtain ⟨t2, ht2, hf⟩ := rn_bind hf
  refine rr_callI (As := [.int t1, .int (0 : Int32)]) (rest := []) X hW (kX4_get l D k z a_this_copies a_this_copies_cells (192 : Int32) (5 : Int32) 960 c_copies t1 (0 : Int32) ht2) gm_X4_get gl_X2_105 [1, 2] [0] [(a_this, .inr (2, [.ref a_this_stations, .ref a_this_links, .ref a_this_messages, .ref a_this_copies, .ref a_this_log, .ref a_this_ways, .ref a_this_frames, .int c_stationCount, .int c_linkCount, .int c_messageCount, .int c_time, .int c_life, .int c_tries, .int c_x])), (a_this_copies, .inr (4, [.int (192 : Int32), .int (5 : Int32), .ref a_this_copies_cells])), (a_this_copies_cells, .inl (k 0, 960, .inl c_copies))] rfl rfl rfl rfl ⟨rfl, rfl, rn_Bw (wr := [(a_this, .inr (2, [.ref a_this_stations, .ref a_this_links, .ref a_this_messages, .ref a_this_copies, .ref a_this_log, .ref a_this_ways, .ref a_this_frames, .int c_stationCount, .int c_linkCount, .int c_messageCount, .int c_time, .int c_life, .int c_tries, .int c_x]))]) rfl rfl, rfl, rfl⟩ (rn_r hR rfl) rn_cs hl.1 rfl (Nat.le_of_ble_eq_true rfl) dX2_pathStation_14 (fun hn2 H locs hW => ?_)
  refine lv_if_eq (tgt := 38) hx hb dX2_pathStation_17 (by decide) (fun hc3 => ?_) (fun hc3 => ?_)
  · replace hf := rn_t hf hc3
    refine lv_iconst (v := -1) hx hb dX2_pathStation_38 (by decide) ?_
    cases hf
    exact hE _ _ _ _ hW rfl dX2_pathStation_39
  · replace hf := rn_f hf hc3
    refine lv_iload_n hx hb dX2_pathStation_20 rfl (lv_at hl 4 rfl) ?_
    refine lv_if_lt (tgt := 38) hx hb dX2_pathStation_21 (by decide) (fun hc4 => ?_) (fun hc4 => ?_)
    · replace hf := rn_t hf hc4
      refine lv_iconst (v := -1) hx hb dX2_pathStation_38 (by decide) ?_
      cases hf
      exact hE _ _ _ _ hW rfl dX2_pathStation_39
    · replace hf := rn_f hf hc4
      refine lv_iload_n hx hb dX2_pathStation_24 rfl (lv_at hl 4 rfl) ?_
      refine lv_aload_n hx hb dX2_pathStation_25 rfl (lv_at hl 1 rfl) ?_
      refine rr_get X hW 0 3 gf_X2_26 rfl rfl dX2_pathStation_26 ?_
      refine lv_iload hx hb dX2_pathStation_29 (lv_at hl 0 rfl) ?_
      refine lv_iconst (v := 3) hx hb dX2_pathStation_31 (by decide) ?_
      obtain ⟨t5, ht5, hf⟩ := rn_bind hf
      refine rr_callI (As := [.int t1, .int (3 : Int32)]) (rest := [.int i3]) X hW (kX4_get l D k z a_this_copies a_this_copies_cells (192 : Int32) (5 : Int32) 960 c_copies t1 (3 : Int32) ht5) gm_X4_get gl_X2_105 [1, 2] [0] [(a_this, .inr (2, [.ref a_this_stations, .ref a_this_links, .ref a_this_messages, .ref a_this_copies, .ref a_this_log, .ref a_this_ways, .ref a_this_frames, .int c_stationCount, .int c_linkCount, .int c_messageCount, .int c_time, .int c_life, .int c_tries, .int c_x])), (a_this_copies, .inr (4, [.int (192 : Int32), .int (5 : Int32), .ref a_this_copies_cells])), (a_this_copies_cells, .inl (k 0, 960, .inl c_copies))] rfl rfl rfl rfl ⟨rfl, rfl, rn_Bw (wr := [(a_this, .inr (2, [.ref a_this_stations, .ref a_this_links, .ref a_this_messages, .ref a_this_copies, .ref a_this_log, .ref a_this_ways, .ref a_this_frames, .int c_stationCount, .int c_linkCount, .int c_messageCount, .int c_time, .int c_life, .int c_tries, .int c_x]))]) rfl rfl, rfl, rfl⟩ (rn_r hR rfl) rn_cs hl.1 rfl (Nat.le_of_ble_eq_true rfl) dX2_pathStation_32 (fun hn5 H locs hW => ?_)
      refine lv_icmp_lt (tgt := 40) hx hb dX2_pathStation_35 (by decide) (fun hc6 => ?_) (fun hc6 => ?_)
      · replace hf := rn_t hf hc6
        refine lv_aload_n hx hb dX2_pathStation_40 rfl (lv_at hl 1 rfl) ?_
        refine rr_get X hW 0 3 gf_X2_26 rfl rfl dX2_pathStation_41 ?_
        refine lv_iload hx hb dX2_pathStation_44 (lv_at hl 0 rfl) ?_
        refine lv_iconst (v := 4) hx hb dX2_pathStation_46 (by decide) ?_
        obtain ⟨t7, ht7, hf⟩ := rn_bind hf
        refine rr_callI (As := [.int t1, .int (4 : Int32)]) (rest := []) X hW (kX4_get l D k z a_this_copies a_this_copies_cells (192 : Int32) (5 : Int32) 960 c_copies t1 (4 : Int32) ht7) gm_X4_get gl_X2_105 [1, 2] [0] [(a_this, .inr (2, [.ref a_this_stations, .ref a_this_links, .ref a_this_messages, .ref a_this_copies, .ref a_this_log, .ref a_this_ways, .ref a_this_frames, .int c_stationCount, .int c_linkCount, .int c_messageCount, .int c_time, .int c_life, .int c_tries, .int c_x])), (a_this_copies, .inr (4, [.int (192 : Int32), .int (5 : Int32), .ref a_this_copies_cells])), (a_this_copies_cells, .inl (k 0, 960, .inl c_copies))] rfl rfl rfl rfl ⟨rfl, rfl, rn_Bw (wr := [(a_this, .inr (2, [.ref a_this_stations, .ref a_this_links, .ref a_this_messages, .ref a_this_copies, .ref a_this_log, .ref a_this_ways, .ref a_this_frames, .int c_stationCount, .int c_linkCount, .int c_messageCount, .int c_time, .int c_life, .int c_tries, .int c_x]))]) rfl rfl, rfl, rfl⟩ (rn_r hR rfl) rn_cs hl.1 rfl (Nat.le_of_ble_eq_true rfl) dX2_pathStation_47 (fun hn7 H locs hW => ?_)
        refine lv_iload_n hx hb dX2_pathStation_50 rfl (lv_at hl 4 rfl) ?_
        refine lv_iconst (v := 3) hx hb dX2_pathStation_51 (by decide) ?_
        refine lv_imul hx hb dX2_pathStation_52 ?_
        refine lv_ishr hx hb dX2_pathStation_53 ?_
        refine lv_bipush (v := 7) hx hb dX2_pathStation_54 (by decide) ?_
        refine lv_iand hx hb dX2_pathStation_56 ?_
        cases hf
        exact hE _ _ _ _ hW rfl dX2_pathStation_57
      · replace hf := rn_f hf hc6
        refine lv_iconst (v := -1) hx hb dX2_pathStation_38 (by decide) ?_
        cases hf
        exact hE _ _ _ _ hW rfl dX2_pathStation_39
def lX2_lineUp_37 (N : Nat) (c_messageCount : Int32) (c_time : Int32) (c_messages : Nat → Int32) (c_copies : Nat → Int32) (c_ways_heard : Nat → Int64) (i1 : Int32) (t4 : Int32) (x4_29 : Int32) : Nat → Int32 → Int32 → Int32 → Int32 → Int32 → (Nat → Int32) → Option (Int32 × Int32 × Int32 × Int32 × (Nat → Int32))
  | 0, _, _, _, _, _, _ => none
  | n+1, x3_37, x5_37, y_ways_arrival_37, y_ways_fewest_37, y_ways_next_37, y_frames_37 =>
    if c_messageCount ≤ x5_37 then
      some (x3_37, y_ways_arrival_37, y_ways_fewest_37, y_ways_next_37, y_frames_37)
    else
    if t4 ≤ x3_37 then
      some (x3_37, y_ways_arrival_37, y_ways_fewest_37, y_ways_next_37, y_frames_37)
    else
    (fX4_get (24 : Int32) (12 : Int32) 288 c_messages x5_37 (2 : Int32)).bind fun t10 =>
    Option.bind (
      if t10 = x4_29 then
        (fX2_nextOf N c_time c_messages c_copies y_ways_arrival_37 y_ways_fewest_37 y_ways_next_37 c_ways_heard x5_37 i1).bind fun t13 =>
        some (t13.1, t13.2.1, t13.2.2.1, t13.2.2.2)
      else
      some ((-1 : Int32), y_ways_arrival_37, y_ways_fewest_37, y_ways_next_37)
      ) fun t11 =>
    if t11.1 = (-1 : Int32) then
      lX2_lineUp_37 N c_messageCount c_time c_messages c_copies c_ways_heard i1 t4 x4_29 n x3_37 (x5_37 + (1 : Int32)) t11.2.1 t11.2.2.1 t11.2.2.2 y_frames_37
    else
    (fX4_set (9 : Int32) (2 : Int32) 18 y_frames_37 x3_37 (0 : Int32) x5_37).bind fun t15 =>
    (fX4_set (9 : Int32) (2 : Int32) 18 t15 x3_37 (1 : Int32) t11.1).bind fun t16 =>
    lX2_lineUp_37 N c_messageCount c_time c_messages c_copies c_ways_heard i1 t4 x4_29 n (x3_37 + (1 : Int32)) (x5_37 + (1 : Int32)) t11.2.1 t11.2.2.1 t11.2.2.2 t16
def lX2_lineUp_29 (N : Nat) (c_messageCount : Int32) (c_time : Int32) (c_messages : Nat → Int32) (c_copies : Nat → Int32) (c_ways_heard : Nat → Int64) (i1 : Int32) (t4 : Int32) : Nat → Int32 → Int32 → Int32 → Int32 → Int32 → (Nat → Int32) → Option (Int32 × Int32 × Int32 × Int32 × (Nat → Int32))
  | 0, _, _, _, _, _, _ => none
  | n+1, x3_29, x4_29, y_ways_arrival_29, y_ways_fewest_29, y_ways_next_29, y_frames_29 =>
    if x4_29 < 0 then
      some (x3_29, y_ways_arrival_29, y_ways_fewest_29, y_ways_next_29, y_frames_29)
    else
    (lX2_lineUp_37 N c_messageCount c_time c_messages c_copies c_ways_heard i1 t4 x4_29 N x3_29 (0 : Int32) y_ways_arrival_29 y_ways_fewest_29 y_ways_next_29 y_frames_29).bind fun t7 =>
    lX2_lineUp_29 N c_messageCount c_time c_messages c_copies c_ways_heard i1 t4 n t7.1 (x4_29 + (-1 : Int32)) t7.2.1 t7.2.2.1 t7.2.2.2.1 t7.2.2.2.2
def fX2_lineUp (N : Nat) (c_messageCount : Int32) (c_time : Int32) (c_stations : Nat → Int32) (c_messages : Nat → Int32) (c_copies : Nat → Int32) (c_ways_arrival : Int32) (c_ways_fewest : Int32) (c_ways_next : Int32) (c_ways_heard : Nat → Int64) (c_frames : Nat → Int32) (i1 : Int32) : Option (Int32 × Int32 × Int32 × Int32 × (Nat → Int32)) :=
  (fX2_hourOfDay c_time).bind fun t1 =>
  (fX2_isOnAir c_stations i1 t1).bind fun t2 =>
  if t2 = 0 then
    some ((0 : Int32), c_ways_arrival, c_ways_fewest, c_ways_next, c_frames)
  else
  (fX4_get (8 : Int32) (10 : Int32) 80 c_stations i1 (2 : Int32)).bind fun t4 =>
  (lX2_lineUp_29 N c_messageCount c_time c_messages c_copies c_ways_heard i1 t4 N (0 : Int32) (3 : Int32) c_ways_arrival c_ways_fewest c_ways_next c_frames).bind fun t5 =>
  some (t5.1, t5.2.1, t5.2.2.1, t5.2.2.2.1, t5.2.2.2.2)
set_option maxHeartbeats 4000000 in
set_option maxRecDepth 20000 in
theorem kX2_lineUp (l : Launch) (D : va_G) (k : Nat → ClassId) (z : (Nat → Nat) × (Nat → Nat)) (N : Nat) (a_this : Nat) (a_this_stations : Nat) (a_this_links : Nat) (a_this_messages : Nat) (a_this_copies : Nat) (a_this_log : Nat) (a_this_ways : Nat) (a_this_frames : Nat) (a_this_stations_cells : Nat) (a_this_messages_cells : Nat) (a_this_copies_cells : Nat) (a_this_ways_heard : Nat) (a_this_frames_cells : Nat) (c_stationCount : Int32) (c_linkCount : Int32) (c_messageCount : Int32) (c_time : Int32) (c_life : Int32) (c_tries : Int32) (c_x : Int32) (c_stations : Nat → Int32) (c_messages : Nat → Int32) (c_copies : Nat → Int32) (c_ways_arrival : Int32) (c_ways_fewest : Int32) (c_ways_next : Int32) (c_ways_heard : Nat → Int64) (c_frames : Nat → Int32) (i1 : Int32) {u : Int32 × Int32 × Int32 × Int32 × (Nat → Int32)} (hf : fX2_lineUp N c_messageCount c_time c_stations c_messages c_copies c_ways_arrival c_ways_fewest c_ways_next c_ways_heard c_frames i1 = some u) : rn_KI l D k z yX2_lineUp cX2_lineUp 7 .int 4 110 [.ref a_this, .int i1] [(a_this, .inr (2, [.ref a_this_stations, .ref a_this_links, .ref a_this_messages, .ref a_this_copies, .ref a_this_log, .ref a_this_ways, .ref a_this_frames, .int c_stationCount, .int c_linkCount, .int c_messageCount, .int c_time, .int c_life, .int c_tries, .int c_x])), (a_this_stations, .inr (4, [.int (8 : Int32), .int (10 : Int32), .ref a_this_stations_cells])), (a_this_stations_cells, .inl (k 0, 80, .inl c_stations)), (a_this_messages, .inr (4, [.int (24 : Int32), .int (12 : Int32), .ref a_this_messages_cells])), (a_this_messages_cells, .inl (k 0, 288, .inl c_messages)), (a_this_copies, .inr (4, [.int (192 : Int32), .int (5 : Int32), .ref a_this_copies_cells])), (a_this_copies_cells, .inl (k 0, 960, .inl c_copies)), (a_this_ways, .inr (5, [.ref a_this_ways_heard, .int c_ways_arrival, .int c_ways_fewest, .int c_ways_next])), (a_this_ways_heard, .inl (k 1, 24, .inr (.inl c_ways_heard))), (a_this_frames, .inr (4, [.int (9 : Int32), .int (2 : Int32), .ref a_this_frames_cells])), (a_this_frames_cells, .inl (k 0, 18, .inl c_frames))] [(a_this, .inr (2, [.ref a_this_stations, .ref a_this_links, .ref a_this_messages, .ref a_this_copies, .ref a_this_log, .ref a_this_ways, .ref a_this_frames, .int c_stationCount, .int c_linkCount, .int c_messageCount, .int c_time, .int c_life, .int c_tries, .int c_x])), (a_this_stations, .inr (4, [.int (8 : Int32), .int (10 : Int32), .ref a_this_stations_cells])), (a_this_stations_cells, .inl (k 0, 80, .inl c_stations)), (a_this_messages, .inr (4, [.int (24 : Int32), .int (12 : Int32), .ref a_this_messages_cells])), (a_this_messages_cells, .inl (k 0, 288, .inl c_messages)), (a_this_copies, .inr (4, [.int (192 : Int32), .int (5 : Int32), .ref a_this_copies_cells])), (a_this_copies_cells, .inl (k 0, 960, .inl c_copies)), (a_this_ways, .inr (5, [.ref a_this_ways_heard, .int u.2.1, .int u.2.2.1, .int u.2.2.2.1])), (a_this_ways_heard, .inl (k 1, 24, .inr (.inl c_ways_heard))), (a_this_frames, .inr (4, [.int (9 : Int32), .int (2 : Int32), .ref a_this_frames_cells])), (a_this_frames_cells, .inl (k 0, 18, .inl u.2.2.2.2))] u.1 := by
  refine rn_KI.go (LOC := [(0, .ref a_this), (1, .int i1)]) rfl (by decide) (Nat.le_of_ble_eq_true rfl) rfl ?_
  intro p e s m args below meth c A ls R Q X hR hE hW hl
  have hx := X.1.1
  have hb := X.1.2.1
  unfold fX2_lineUp at hf
  refine lv_aload_n hx hb dX2_lineUp_0 rfl (lv_at hl 0 rfl) ?_
  refine lv_iload_n hx hb dX2_lineUp_1 rfl (lv_at hl 1 rfl) ?_
  refine lv_aload_n hx hb dX2_lineUp_2 rfl (lv_at hl 0 rfl) ?_
  obtain ⟨t1, ht1, hf⟩ := rn_bind hf
  refine rr_callI (As := []) (rest := [.int i1, .ref a_this]) X hW (kX2_hourOfDay l D k z a_this a_this_stations a_this_links a_this_messages a_this_copies a_this_log a_this_ways a_this_frames c_stationCount c_linkCount c_messageCount c_time c_life c_tries c_x ht1) gm_X2_hourOfDay gl_X2_118 [0] [1, 2, 3, 4, 5, 6, 7, 8, 9, 10] [(a_this, .inr (2, [.ref a_this_stations, .ref a_this_links, .ref a_this_messages, .ref a_this_copies, .ref a_this_log, .ref a_this_ways, .ref a_this_frames, .int c_stationCount, .int c_linkCount, .int c_messageCount, .int c_time, .int c_life, .int c_tries, .int c_x])), (a_this_stations, .inr (4, [.int (8 : Int32), .int (10 : Int32), .ref a_this_stations_cells])), (a_this_stations_cells, .inl (k 0, 80, .inl c_stations)), (a_this_messages, .inr (4, [.int (24 : Int32), .int (12 : Int32), .ref a_this_messages_cells])), (a_this_messages_cells, .inl (k 0, 288, .inl c_messages)), (a_this_copies, .inr (4, [.int (192 : Int32), .int (5 : Int32), .ref a_this_copies_cells])), (a_this_copies_cells, .inl (k 0, 960, .inl c_copies)), (a_this_ways, .inr (5, [.ref a_this_ways_heard, .int c_ways_arrival, .int c_ways_fewest, .int c_ways_next])), (a_this_ways_heard, .inl (k 1, 24, .inr (.inl c_ways_heard))), (a_this_frames, .inr (4, [.int (9 : Int32), .int (2 : Int32), .ref a_this_frames_cells])), (a_this_frames_cells, .inl (k 0, 18, .inl c_frames))] rfl rfl rfl rfl ⟨rfl, rfl, rn_Bw (wr := [(a_this_stations, .inr (4, [.int (8 : Int32), .int (10 : Int32), .ref a_this_stations_cells])), (a_this_stations_cells, .inl (k 0, 80, .inl c_stations)), (a_this_messages, .inr (4, [.int (24 : Int32), .int (12 : Int32), .ref a_this_messages_cells])), (a_this_messages_cells, .inl (k 0, 288, .inl c_messages)), (a_this_copies, .inr (4, [.int (192 : Int32), .int (5 : Int32), .ref a_this_copies_cells])), (a_this_copies_cells, .inl (k 0, 960, .inl c_copies)), (a_this_ways, .inr (5, [.ref a_this_ways_heard, .int c_ways_arrival, .int c_ways_fewest, .int c_ways_next])), (a_this_ways_heard, .inl (k 1, 24, .inr (.inl c_ways_heard))), (a_this_frames, .inr (4, [.int (9 : Int32), .int (2 : Int32), .ref a_this_frames_cells])), (a_this_frames_cells, .inl (k 0, 18, .inl c_frames))]) rfl rfl, rfl, rfl⟩ (rn_r hR rfl) rn_cs hl.1 rfl (Nat.le_of_ble_eq_true rfl) dX2_lineUp_3 (fun hn1 H locs hW => ?_)
  obtain ⟨t2, ht2, hf⟩ := rn_bind hf
  refine rr_callI (As := [.int i1, .int t1]) (rest := []) X hW (kX2_isOnAir l D k z a_this a_this_stations a_this_links a_this_messages a_this_copies a_this_log a_this_ways a_this_frames a_this_stations_cells c_stationCount c_linkCount c_messageCount c_time c_life c_tries c_x c_stations i1 t1 ht2) gm_X2_isOnAir gl_X2_121 [0, 1, 2] [3, 4, 5, 6, 7, 8, 9, 10] [(a_this, .inr (2, [.ref a_this_stations, .ref a_this_links, .ref a_this_messages, .ref a_this_copies, .ref a_this_log, .ref a_this_ways, .ref a_this_frames, .int c_stationCount, .int c_linkCount, .int c_messageCount, .int c_time, .int c_life, .int c_tries, .int c_x])), (a_this_stations, .inr (4, [.int (8 : Int32), .int (10 : Int32), .ref a_this_stations_cells])), (a_this_stations_cells, .inl (k 0, 80, .inl c_stations)), (a_this_messages, .inr (4, [.int (24 : Int32), .int (12 : Int32), .ref a_this_messages_cells])), (a_this_messages_cells, .inl (k 0, 288, .inl c_messages)), (a_this_copies, .inr (4, [.int (192 : Int32), .int (5 : Int32), .ref a_this_copies_cells])), (a_this_copies_cells, .inl (k 0, 960, .inl c_copies)), (a_this_ways, .inr (5, [.ref a_this_ways_heard, .int c_ways_arrival, .int c_ways_fewest, .int c_ways_next])), (a_this_ways_heard, .inl (k 1, 24, .inr (.inl c_ways_heard))), (a_this_frames, .inr (4, [.int (9 : Int32), .int (2 : Int32), .ref a_this_frames_cells])), (a_this_frames_cells, .inl (k 0, 18, .inl c_frames))] rfl rfl rfl rfl ⟨rfl, rfl, rn_Bw (wr := [(a_this_messages, .inr (4, [.int (24 : Int32), .int (12 : Int32), .ref a_this_messages_cells])), (a_this_messages_cells, .inl (k 0, 288, .inl c_messages)), (a_this_copies, .inr (4, [.int (192 : Int32), .int (5 : Int32), .ref a_this_copies_cells])), (a_this_copies_cells, .inl (k 0, 960, .inl c_copies)), (a_this_ways, .inr (5, [.ref a_this_ways_heard, .int c_ways_arrival, .int c_ways_fewest, .int c_ways_next])), (a_this_ways_heard, .inl (k 1, 24, .inr (.inl c_ways_heard))), (a_this_frames, .inr (4, [.int (9 : Int32), .int (2 : Int32), .ref a_this_frames_cells])), (a_this_frames_cells, .inl (k 0, 18, .inl c_frames))]) rfl rfl, rfl, rfl⟩ (rn_r hR rfl) rn_cs hl.1 rfl (Nat.le_of_ble_eq_true rfl) dX2_lineUp_6 (fun hn2 H locs hW => ?_)
  refine lv_if_ne (tgt := 14) hx hb dX2_lineUp_9 (by decide) (fun hc3 => ?_) (fun hc3 => ?_)
  · replace hf := rn_f hf hc3
    refine lv_aload_n hx hb dX2_lineUp_14 rfl (lv_at hl 0 rfl) ?_
    refine rr_get X hW 0 0 gf_X2_14 rfl rfl dX2_lineUp_15 ?_
    refine lv_iload_n hx hb dX2_lineUp_18 rfl (lv_at hl 1 rfl) ?_
    refine lv_iconst (v := 2) hx hb dX2_lineUp_19 (by decide) ?_
    obtain ⟨t4, ht4, hf⟩ := rn_bind hf
    refine rr_callI (As := [.int i1, .int (2 : Int32)]) (rest := []) X hW (kX4_get l D k z a_this_stations a_this_stations_cells (8 : Int32) (10 : Int32) 80 c_stations i1 (2 : Int32) ht4) gm_X4_get gl_X2_105 [1, 2] [0, 3, 4, 5, 6, 7, 8, 9, 10] [(a_this, .inr (2, [.ref a_this_stations, .ref a_this_links, .ref a_this_messages, .ref a_this_copies, .ref a_this_log, .ref a_this_ways, .ref a_this_frames, .int c_stationCount, .int c_linkCount, .int c_messageCount, .int c_time, .int c_life, .int c_tries, .int c_x])), (a_this_stations, .inr (4, [.int (8 : Int32), .int (10 : Int32), .ref a_this_stations_cells])), (a_this_stations_cells, .inl (k 0, 80, .inl c_stations)), (a_this_messages, .inr (4, [.int (24 : Int32), .int (12 : Int32), .ref a_this_messages_cells])), (a_this_messages_cells, .inl (k 0, 288, .inl c_messages)), (a_this_copies, .inr (4, [.int (192 : Int32), .int (5 : Int32), .ref a_this_copies_cells])), (a_this_copies_cells, .inl (k 0, 960, .inl c_copies)), (a_this_ways, .inr (5, [.ref a_this_ways_heard, .int c_ways_arrival, .int c_ways_fewest, .int c_ways_next])), (a_this_ways_heard, .inl (k 1, 24, .inr (.inl c_ways_heard))), (a_this_frames, .inr (4, [.int (9 : Int32), .int (2 : Int32), .ref a_this_frames_cells])), (a_this_frames_cells, .inl (k 0, 18, .inl c_frames))] rfl rfl rfl rfl ⟨rfl, rfl, rn_Bw (wr := [(a_this, .inr (2, [.ref a_this_stations, .ref a_this_links, .ref a_this_messages, .ref a_this_copies, .ref a_this_log, .ref a_this_ways, .ref a_this_frames, .int c_stationCount, .int c_linkCount, .int c_messageCount, .int c_time, .int c_life, .int c_tries, .int c_x])), (a_this_messages, .inr (4, [.int (24 : Int32), .int (12 : Int32), .ref a_this_messages_cells])), (a_this_messages_cells, .inl (k 0, 288, .inl c_messages)), (a_this_copies, .inr (4, [.int (192 : Int32), .int (5 : Int32), .ref a_this_copies_cells])), (a_this_copies_cells, .inl (k 0, 960, .inl c_copies)), (a_this_ways, .inr (5, [.ref a_this_ways_heard, .int c_ways_arrival, .int c_ways_fewest, .int c_ways_next])), (a_this_ways_heard, .inl (k 1, 24, .inr (.inl c_ways_heard))), (a_this_frames, .inr (4, [.int (9 : Int32), .int (2 : Int32), .ref a_this_frames_cells])), (a_this_frames_cells, .inl (k 0, 18, .inl c_frames))]) rfl rfl, rfl, rfl⟩ (rn_r hR rfl) rn_cs hl.1 rfl (Nat.le_of_ble_eq_true rfl) dX2_lineUp_20 (fun hn4 H locs hW => ?_)
    refine lv_istore_n (lv' := [(2, .int t4), (0, .ref a_this), (1, .int i1)]) hx hb dX2_lineUp_23 rfl hl (Nat.le_of_ble_eq_true rfl) rfl (fun ls hl => ?_)
    refine lv_iconst (v := 0) hx hb dX2_lineUp_24 (by decide) ?_
    refine lv_istore_n (lv' := [(3, .int (0 : Int32)), (2, .int t4), (0, .ref a_this), (1, .int i1)]) hx hb dX2_lineUp_25 rfl hl (Nat.le_of_ble_eq_true rfl) rfl (fun ls hl => ?_)
    refine lv_iconst (v := 3) hx hb dX2_lineUp_26 (by decide) ?_
    refine lv_istore (lv' := [(4, .int (3 : Int32)), (3, .int (0 : Int32)), (2, .int t4), (0, .ref a_this), (1, .int i1)]) hx hb dX2_lineUp_27 hl (Nat.le_of_ble_eq_true rfl) rfl (fun ls hl => ?_)
    obtain ⟨t5, ht5, hf⟩ := rn_bind hf
    have kk_29 : ∀ (H : Heap) (locs : List Loc) (ls : Array Slot), rn_W D A s [(a_this, .inr (2, [.ref a_this_stations, .ref a_this_links, .ref a_this_messages, .ref a_this_copies, .ref a_this_log, .ref a_this_ways, .ref a_this_frames, .int c_stationCount, .int c_linkCount, .int c_messageCount, .int c_time, .int c_life, .int c_tries, .int c_x])), (a_this_stations, .inr (4, [.int (8 : Int32), .int (10 : Int32), .ref a_this_stations_cells])), (a_this_stations_cells, .inl (k 0, 80, .inl c_stations)), (a_this_messages, .inr (4, [.int (24 : Int32), .int (12 : Int32), .ref a_this_messages_cells])), (a_this_messages_cells, .inl (k 0, 288, .inl c_messages)), (a_this_copies, .inr (4, [.int (192 : Int32), .int (5 : Int32), .ref a_this_copies_cells])), (a_this_copies_cells, .inl (k 0, 960, .inl c_copies)), (a_this_ways, .inr (5, [.ref a_this_ways_heard, .int t5.2.1, .int t5.2.2.1, .int t5.2.2.2.1])), (a_this_ways_heard, .inl (k 1, 24, .inr (.inl c_ways_heard))), (a_this_frames, .inr (4, [.int (9 : Int32), .int (2 : Int32), .ref a_this_frames_cells])), (a_this_frames_cells, .inl (k 0, 18, .inl t5.2.2.2.2))] H locs → lv_has ls 7 [(3, .int t5.1)] → W p l e R s m args below meth c H locs 0 0 Q (F0 m 122 ls []) := by
      intro H locs ls hW hl
      refine lv_iload_n hx hb dX2_lineUp_122 rfl (lv_at hl 0 rfl) ?_
      cases hf
      exact hE _ _ _ _ hW rfl dX2_lineUp_123
    clear hf
    have lp_29 : ∀ (n : Nat) (x3_29 : Int32) (x4_29 : Int32) (y_ways_arrival_29 : Int32) (y_ways_fewest_29 : Int32) (y_ways_next_29 : Int32) (y_frames_29 : Nat → Int32) (H : Heap) (locs : List Loc) (ls : Array Slot), lX2_lineUp_29 N c_messageCount c_time c_messages c_copies c_ways_heard i1 t4 n x3_29 x4_29 y_ways_arrival_29 y_ways_fewest_29 y_ways_next_29 y_frames_29 = some t5 → rn_W D A s [(a_this, .inr (2, [.ref a_this_stations, .ref a_this_links, .ref a_this_messages, .ref a_this_copies, .ref a_this_log, .ref a_this_ways, .ref a_this_frames, .int c_stationCount, .int c_linkCount, .int c_messageCount, .int c_time, .int c_life, .int c_tries, .int c_x])), (a_this_stations, .inr (4, [.int (8 : Int32), .int (10 : Int32), .ref a_this_stations_cells])), (a_this_stations_cells, .inl (k 0, 80, .inl c_stations)), (a_this_messages, .inr (4, [.int (24 : Int32), .int (12 : Int32), .ref a_this_messages_cells])), (a_this_messages_cells, .inl (k 0, 288, .inl c_messages)), (a_this_copies, .inr (4, [.int (192 : Int32), .int (5 : Int32), .ref a_this_copies_cells])), (a_this_copies_cells, .inl (k 0, 960, .inl c_copies)), (a_this_ways, .inr (5, [.ref a_this_ways_heard, .int y_ways_arrival_29, .int y_ways_fewest_29, .int y_ways_next_29])), (a_this_ways_heard, .inl (k 1, 24, .inr (.inl c_ways_heard))), (a_this_frames, .inr (4, [.int (9 : Int32), .int (2 : Int32), .ref a_this_frames_cells])), (a_this_frames_cells, .inl (k 0, 18, .inl y_frames_29))] H locs → lv_has ls 7 [(0, .ref a_this), (1, .int i1), (2, .int t4), (3, .int x3_29), (4, .int x4_29)] → W p l e R s m args below meth c H locs 0 0 Q (F0 m 29 ls []) := by
      intro n
      induction n with
      | zero => intro x3_29 x4_29 y_ways_arrival_29 y_ways_fewest_29 y_ways_next_29 y_frames_29 H locs ls hf; exact absurd hf (by rw [lX2_lineUp_29]; exact fun h => nomatch h)
      | succ n ih_29 =>
        intro x3_29 x4_29 y_ways_arrival_29 y_ways_fewest_29 y_ways_next_29 y_frames_29 H locs ls hf hW hl
        rw [lX2_lineUp_29] at hf
        refine lv_iload hx hb dX2_lineUp_29 (lv_at hl 4 rfl) ?_
        refine lv_if_lt (tgt := 122) hx hb dX2_lineUp_31 (by decide) (fun hc6 => ?_) (fun hc6 => ?_)
        · replace hf := rn_t hf hc6
          cases hf
          exact kk_29 _ _ _ hW (lv_sub hl [3] rfl)
        · replace hf := rn_f hf hc6
          refine lv_iconst (v := 0) hx hb dX2_lineUp_34 (by decide) ?_
          refine lv_istore (lv' := [(5, .int (0 : Int32)), (0, .ref a_this), (1, .int i1), (2, .int t4), (3, .int x3_29), (4, .int x4_29)]) hx hb dX2_lineUp_35 hl (Nat.le_of_ble_eq_true rfl) rfl (fun ls hl => ?_)
          obtain ⟨t7, ht7, hf⟩ := rn_bind hf
          have kk_37 : ∀ (H : Heap) (locs : List Loc) (ls : Array Slot), rn_W D A s [(a_this, .inr (2, [.ref a_this_stations, .ref a_this_links, .ref a_this_messages, .ref a_this_copies, .ref a_this_log, .ref a_this_ways, .ref a_this_frames, .int c_stationCount, .int c_linkCount, .int c_messageCount, .int c_time, .int c_life, .int c_tries, .int c_x])), (a_this_stations, .inr (4, [.int (8 : Int32), .int (10 : Int32), .ref a_this_stations_cells])), (a_this_stations_cells, .inl (k 0, 80, .inl c_stations)), (a_this_messages, .inr (4, [.int (24 : Int32), .int (12 : Int32), .ref a_this_messages_cells])), (a_this_messages_cells, .inl (k 0, 288, .inl c_messages)), (a_this_copies, .inr (4, [.int (192 : Int32), .int (5 : Int32), .ref a_this_copies_cells])), (a_this_copies_cells, .inl (k 0, 960, .inl c_copies)), (a_this_ways, .inr (5, [.ref a_this_ways_heard, .int t7.2.1, .int t7.2.2.1, .int t7.2.2.2.1])), (a_this_ways_heard, .inl (k 1, 24, .inr (.inl c_ways_heard))), (a_this_frames, .inr (4, [.int (9 : Int32), .int (2 : Int32), .ref a_this_frames_cells])), (a_this_frames_cells, .inl (k 0, 18, .inl t7.2.2.2.2))] H locs → lv_has ls 7 [(0, .ref a_this), (1, .int i1), (2, .int t4), (3, .int t7.1), (4, .int x4_29)] → W p l e R s m args below meth c H locs 0 0 Q (F0 m 116 ls []) := by
            intro H locs ls hW hl
            refine lv_iinc (v := (x4_29 + (-1 : Int32))) (lv' := [(4, .int (x4_29 + (-1 : Int32))), (0, .ref a_this), (1, .int i1), (2, .int t4), (3, .int t7.1)]) hx hb dX2_lineUp_116 hl (k := 4) rfl (congrArg (fun q => _ + q) (by decide)) (Nat.le_of_ble_eq_true rfl) rfl (fun ls hl => ?_)
            refine lv_goto (tgt := 29) hx hb dX2_lineUp_119 (by decide) ?_
            exact ih_29 t7.1 (x4_29 + (-1 : Int32)) t7.2.1 t7.2.2.1 t7.2.2.2.1 t7.2.2.2.2 _ _ _ hf hW (lv_sub hl [1, 2, 3, 4, 0] rfl)
          clear hf
          have lp_37 : ∀ (n : Nat) (x3_37 : Int32) (x5_37 : Int32) (y_ways_arrival_37 : Int32) (y_ways_fewest_37 : Int32) (y_ways_next_37 : Int32) (y_frames_37 : Nat → Int32) (H : Heap) (locs : List Loc) (ls : Array Slot), lX2_lineUp_37 N c_messageCount c_time c_messages c_copies c_ways_heard i1 t4 x4_29 n x3_37 x5_37 y_ways_arrival_37 y_ways_fewest_37 y_ways_next_37 y_frames_37 = some t7 → rn_W D A s [(a_this, .inr (2, [.ref a_this_stations, .ref a_this_links, .ref a_this_messages, .ref a_this_copies, .ref a_this_log, .ref a_this_ways, .ref a_this_frames, .int c_stationCount, .int c_linkCount, .int c_messageCount, .int c_time, .int c_life, .int c_tries, .int c_x])), (a_this_stations, .inr (4, [.int (8 : Int32), .int (10 : Int32), .ref a_this_stations_cells])), (a_this_stations_cells, .inl (k 0, 80, .inl c_stations)), (a_this_messages, .inr (4, [.int (24 : Int32), .int (12 : Int32), .ref a_this_messages_cells])), (a_this_messages_cells, .inl (k 0, 288, .inl c_messages)), (a_this_copies, .inr (4, [.int (192 : Int32), .int (5 : Int32), .ref a_this_copies_cells])), (a_this_copies_cells, .inl (k 0, 960, .inl c_copies)), (a_this_ways, .inr (5, [.ref a_this_ways_heard, .int y_ways_arrival_37, .int y_ways_fewest_37, .int y_ways_next_37])), (a_this_ways_heard, .inl (k 1, 24, .inr (.inl c_ways_heard))), (a_this_frames, .inr (4, [.int (9 : Int32), .int (2 : Int32), .ref a_this_frames_cells])), (a_this_frames_cells, .inl (k 0, 18, .inl y_frames_37))] H locs → lv_has ls 7 [(0, .ref a_this), (1, .int i1), (2, .int t4), (3, .int x3_37), (4, .int x4_29), (5, .int x5_37)] → W p l e R s m args below meth c H locs 0 0 Q (F0 m 37 ls []) := by
            intro n
            induction n with
            | zero => intro x3_37 x5_37 y_ways_arrival_37 y_ways_fewest_37 y_ways_next_37 y_frames_37 H locs ls hf; exact absurd hf (by rw [lX2_lineUp_37]; exact fun h => nomatch h)
            | succ n ih_37 =>
              intro x3_37 x5_37 y_ways_arrival_37 y_ways_fewest_37 y_ways_next_37 y_frames_37 H locs ls hf hW hl
              rw [lX2_lineUp_37] at hf
              refine lv_iload hx hb dX2_lineUp_37 (lv_at hl 5 rfl) ?_
              refine lv_aload_n hx hb dX2_lineUp_39 rfl (lv_at hl 0 rfl) ?_
              refine rr_get X hW 0 9 gf_X2_53 rfl rfl dX2_lineUp_40 ?_
              refine lv_icmp_ge (tgt := 116) hx hb dX2_lineUp_43 (by decide) (fun hc8 => ?_) (fun hc8 => ?_)
              · replace hf := rn_t hf hc8
                cases hf
                exact kk_37 _ _ _ hW (lv_sub hl [0, 1, 2, 3, 4] rfl)
              · replace hf := rn_f hf hc8
                refine lv_iload_n hx hb dX2_lineUp_46 rfl (lv_at hl 3 rfl) ?_
                refine lv_iload_n hx hb dX2_lineUp_47 rfl (lv_at hl 2 rfl) ?_
                refine lv_icmp_ge (tgt := 116) hx hb dX2_lineUp_48 (by decide) (fun hc9 => ?_) (fun hc9 => ?_)
                · replace hf := rn_t hf hc9
                  cases hf
                  exact kk_37 _ _ _ hW (lv_sub hl [0, 1, 2, 3, 4] rfl)
                · replace hf := rn_f hf hc9
                  refine lv_aload_n hx hb dX2_lineUp_51 rfl (lv_at hl 0 rfl) ?_
                  refine rr_get X hW 0 2 gf_X2_23 rfl rfl dX2_lineUp_52 ?_
                  refine lv_iload hx hb dX2_lineUp_55 (lv_at hl 5 rfl) ?_
                  refine lv_iconst (v := 2) hx hb dX2_lineUp_57 (by decide) ?_
                  obtain ⟨t10, ht10, hf⟩ := rn_bind hf
                  refine rr_callI (As := [.int x5_37, .int (2 : Int32)]) (rest := []) X hW (kX4_get l D k z a_this_messages a_this_messages_cells (24 : Int32) (12 : Int32) 288 c_messages x5_37 (2 : Int32) ht10) gm_X4_get gl_X2_105 [3, 4] [0, 1, 2, 5, 6, 7, 8, 9, 10] [(a_this, .inr (2, [.ref a_this_stations, .ref a_this_links, .ref a_this_messages, .ref a_this_copies, .ref a_this_log, .ref a_this_ways, .ref a_this_frames, .int c_stationCount, .int c_linkCount, .int c_messageCount, .int c_time, .int c_life, .int c_tries, .int c_x])), (a_this_stations, .inr (4, [.int (8 : Int32), .int (10 : Int32), .ref a_this_stations_cells])), (a_this_stations_cells, .inl (k 0, 80, .inl c_stations)), (a_this_messages, .inr (4, [.int (24 : Int32), .int (12 : Int32), .ref a_this_messages_cells])), (a_this_messages_cells, .inl (k 0, 288, .inl c_messages)), (a_this_copies, .inr (4, [.int (192 : Int32), .int (5 : Int32), .ref a_this_copies_cells])), (a_this_copies_cells, .inl (k 0, 960, .inl c_copies)), (a_this_ways, .inr (5, [.ref a_this_ways_heard, .int y_ways_arrival_37, .int y_ways_fewest_37, .int y_ways_next_37])), (a_this_ways_heard, .inl (k 1, 24, .inr (.inl c_ways_heard))), (a_this_frames, .inr (4, [.int (9 : Int32), .int (2 : Int32), .ref a_this_frames_cells])), (a_this_frames_cells, .inl (k 0, 18, .inl y_frames_37))] rfl rfl rfl rfl ⟨rfl, rfl, rn_Bw (wr := [(a_this, .inr (2, [.ref a_this_stations, .ref a_this_links, .ref a_this_messages, .ref a_this_copies, .ref a_this_log, .ref a_this_ways, .ref a_this_frames, .int c_stationCount, .int c_linkCount, .int c_messageCount, .int c_time, .int c_life, .int c_tries, .int c_x])), (a_this_stations, .inr (4, [.int (8 : Int32), .int (10 : Int32), .ref a_this_stations_cells])), (a_this_stations_cells, .inl (k 0, 80, .inl c_stations)), (a_this_copies, .inr (4, [.int (192 : Int32), .int (5 : Int32), .ref a_this_copies_cells])), (a_this_copies_cells, .inl (k 0, 960, .inl c_copies)), (a_this_ways, .inr (5, [.ref a_this_ways_heard, .int y_ways_arrival_37, .int y_ways_fewest_37, .int y_ways_next_37])), (a_this_ways_heard, .inl (k 1, 24, .inr (.inl c_ways_heard))), (a_this_frames, .inr (4, [.int (9 : Int32), .int (2 : Int32), .ref a_this_frames_cells])), (a_this_frames_cells, .inl (k 0, 18, .inl y_frames_37))]) rfl rfl, rfl, rfl⟩ (rn_r hR rfl) rn_cs hl.1 rfl (Nat.le_of_ble_eq_true rfl) dX2_lineUp_58 (fun hn10 H locs hW => ?_)
                  refine lv_iload hx hb dX2_lineUp_61 (lv_at hl 4 rfl) ?_
                  obtain ⟨t11, ht11, hf⟩ := rn_bind hf
                  have jnt11 : ∀ (H : Heap) (locs : List Loc) (ls : Array Slot), rn_W D A s [(a_this, .inr (2, [.ref a_this_stations, .ref a_this_links, .ref a_this_messages, .ref a_this_copies, .ref a_this_log, .ref a_this_ways, .ref a_this_frames, .int c_stationCount, .int c_linkCount, .int c_messageCount, .int c_time, .int c_life, .int c_tries, .int c_x])), (a_this_stations, .inr (4, [.int (8 : Int32), .int (10 : Int32), .ref a_this_stations_cells])), (a_this_stations_cells, .inl (k 0, 80, .inl c_stations)), (a_this_messages, .inr (4, [.int (24 : Int32), .int (12 : Int32), .ref a_this_messages_cells])), (a_this_messages_cells, .inl (k 0, 288, .inl c_messages)), (a_this_copies, .inr (4, [.int (192 : Int32), .int (5 : Int32), .ref a_this_copies_cells])), (a_this_copies_cells, .inl (k 0, 960, .inl c_copies)), (a_this_ways, .inr (5, [.ref a_this_ways_heard, .int t11.2.1, .int t11.2.2.1, .int t11.2.2.2])), (a_this_ways_heard, .inl (k 1, 24, .inr (.inl c_ways_heard))), (a_this_frames, .inr (4, [.int (9 : Int32), .int (2 : Int32), .ref a_this_frames_cells])), (a_this_frames_cells, .inl (k 0, 18, .inl y_frames_37))] H locs → lv_has ls 7 [(0, .ref a_this), (1, .int i1), (2, .int t4), (3, .int x3_37), (4, .int x4_29), (5, .int x5_37)] → W p l e R s m args below meth c H locs 0 0 Q (F0 m 77 ls [.int t11.1]) := by
                    intro H locs ls hW hl
                    refine lv_istore (lv' := [(6, .int t11.1), (0, .ref a_this), (1, .int i1), (2, .int t4), (3, .int x3_37), (4, .int x4_29), (5, .int x5_37)]) hx hb dX2_lineUp_77 hl (Nat.le_of_ble_eq_true rfl) rfl (fun ls hl => ?_)
                    refine lv_iload hx hb dX2_lineUp_79 (lv_at hl 0 rfl) ?_
                    refine lv_iconst (v := -1) hx hb dX2_lineUp_81 (by decide) ?_
                    refine lv_icmp_eq (tgt := 110) hx hb dX2_lineUp_82 (by decide) (fun hc14 => ?_) (fun hc14 => ?_)
                    · replace hf := rn_t hf hc14
                      refine lv_iinc (v := (x5_37 + (1 : Int32))) (lv' := [(5, .int (x5_37 + (1 : Int32))), (6, .int t11.1), (0, .ref a_this), (1, .int i1), (2, .int t4), (3, .int x3_37), (4, .int x4_29)]) hx hb dX2_lineUp_110 hl (k := 6) rfl (congrArg (fun q => _ + q) (by decide)) (Nat.le_of_ble_eq_true rfl) rfl (fun ls hl => ?_)
                      refine lv_goto (tgt := 37) hx hb dX2_lineUp_113 (by decide) ?_
                      exact ih_37 x3_37 (x5_37 + (1 : Int32)) t11.2.1 t11.2.2.1 t11.2.2.2 y_frames_37 _ _ _ hf hW (lv_sub hl [2, 3, 4, 5, 6, 0] rfl)
                    · replace hf := rn_f hf hc14
                      refine lv_aload_n hx hb dX2_lineUp_85 rfl (lv_at hl 1 rfl) ?_
                      refine rr_get X hW 0 6 gf_X2_43 rfl rfl dX2_lineUp_86 ?_
                      refine lv_iload_n hx hb dX2_lineUp_89 rfl (lv_at hl 4 rfl) ?_
                      refine lv_iconst (v := 0) hx hb dX2_lineUp_90 (by decide) ?_
                      refine lv_iload hx hb dX2_lineUp_91 (lv_at hl 6 rfl) ?_
                      obtain ⟨t15, ht15, hf⟩ := rn_bind hf
                      refine rr_callV (As := [.int x3_37, .int (0 : Int32), .int x5_37]) (rest := []) X hW (kX4_set l D k z a_this_frames a_this_frames_cells (9 : Int32) (2 : Int32) 18 y_frames_37 x3_37 (0 : Int32) x5_37 ht15) gm_X4_set gl_X2_91 [9, 10] [0, 1, 2, 3, 4, 5, 6, 7, 8] [(a_this, .inr (2, [.ref a_this_stations, .ref a_this_links, .ref a_this_messages, .ref a_this_copies, .ref a_this_log, .ref a_this_ways, .ref a_this_frames, .int c_stationCount, .int c_linkCount, .int c_messageCount, .int c_time, .int c_life, .int c_tries, .int c_x])), (a_this_stations, .inr (4, [.int (8 : Int32), .int (10 : Int32), .ref a_this_stations_cells])), (a_this_stations_cells, .inl (k 0, 80, .inl c_stations)), (a_this_messages, .inr (4, [.int (24 : Int32), .int (12 : Int32), .ref a_this_messages_cells])), (a_this_messages_cells, .inl (k 0, 288, .inl c_messages)), (a_this_copies, .inr (4, [.int (192 : Int32), .int (5 : Int32), .ref a_this_copies_cells])), (a_this_copies_cells, .inl (k 0, 960, .inl c_copies)), (a_this_ways, .inr (5, [.ref a_this_ways_heard, .int t11.2.1, .int t11.2.2.1, .int t11.2.2.2])), (a_this_ways_heard, .inl (k 1, 24, .inr (.inl c_ways_heard))), (a_this_frames, .inr (4, [.int (9 : Int32), .int (2 : Int32), .ref a_this_frames_cells])), (a_this_frames_cells, .inl (k 0, 18, .inl t15))] rfl rfl rfl rfl ⟨rfl, rfl, rn_Bw (wr := [(a_this, .inr (2, [.ref a_this_stations, .ref a_this_links, .ref a_this_messages, .ref a_this_copies, .ref a_this_log, .ref a_this_ways, .ref a_this_frames, .int c_stationCount, .int c_linkCount, .int c_messageCount, .int c_time, .int c_life, .int c_tries, .int c_x])), (a_this_stations, .inr (4, [.int (8 : Int32), .int (10 : Int32), .ref a_this_stations_cells])), (a_this_stations_cells, .inl (k 0, 80, .inl c_stations)), (a_this_messages, .inr (4, [.int (24 : Int32), .int (12 : Int32), .ref a_this_messages_cells])), (a_this_messages_cells, .inl (k 0, 288, .inl c_messages)), (a_this_copies, .inr (4, [.int (192 : Int32), .int (5 : Int32), .ref a_this_copies_cells])), (a_this_copies_cells, .inl (k 0, 960, .inl c_copies)), (a_this_ways, .inr (5, [.ref a_this_ways_heard, .int t11.2.1, .int t11.2.2.1, .int t11.2.2.2])), (a_this_ways_heard, .inl (k 1, 24, .inr (.inl c_ways_heard)))]) rfl rfl, rfl, rfl⟩ (rn_r hR rfl) rn_cs hl.1 rfl (Nat.le_of_ble_eq_true rfl) dX2_lineUp_93 (fun H locs hW => ?_)
                      refine lv_aload_n hx hb dX2_lineUp_96 rfl (lv_at hl 1 rfl) ?_
                      refine rr_get X hW 0 6 gf_X2_43 rfl rfl dX2_lineUp_97 ?_
                      refine lv_iload_n hx hb dX2_lineUp_100 rfl (lv_at hl 4 rfl) ?_
                      refine lv_iconst (v := 1) hx hb dX2_lineUp_101 (by decide) ?_
                      refine lv_iload hx hb dX2_lineUp_102 (lv_at hl 0 rfl) ?_
                      obtain ⟨t16, ht16, hf⟩ := rn_bind hf
                      refine rr_callV (As := [.int x3_37, .int (1 : Int32), .int t11.1]) (rest := []) X hW (kX4_set l D k z a_this_frames a_this_frames_cells (9 : Int32) (2 : Int32) 18 t15 x3_37 (1 : Int32) t11.1 ht16) gm_X4_set gl_X2_91 [9, 10] [0, 1, 2, 3, 4, 5, 6, 7, 8] [(a_this, .inr (2, [.ref a_this_stations, .ref a_this_links, .ref a_this_messages, .ref a_this_copies, .ref a_this_log, .ref a_this_ways, .ref a_this_frames, .int c_stationCount, .int c_linkCount, .int c_messageCount, .int c_time, .int c_life, .int c_tries, .int c_x])), (a_this_stations, .inr (4, [.int (8 : Int32), .int (10 : Int32), .ref a_this_stations_cells])), (a_this_stations_cells, .inl (k 0, 80, .inl c_stations)), (a_this_messages, .inr (4, [.int (24 : Int32), .int (12 : Int32), .ref a_this_messages_cells])), (a_this_messages_cells, .inl (k 0, 288, .inl c_messages)), (a_this_copies, .inr (4, [.int (192 : Int32), .int (5 : Int32), .ref a_this_copies_cells])), (a_this_copies_cells, .inl (k 0, 960, .inl c_copies)), (a_this_ways, .inr (5, [.ref a_this_ways_heard, .int t11.2.1, .int t11.2.2.1, .int t11.2.2.2])), (a_this_ways_heard, .inl (k 1, 24, .inr (.inl c_ways_heard))), (a_this_frames, .inr (4, [.int (9 : Int32), .int (2 : Int32), .ref a_this_frames_cells])), (a_this_frames_cells, .inl (k 0, 18, .inl t16))] rfl rfl rfl rfl ⟨rfl, rfl, rn_Bw (wr := [(a_this, .inr (2, [.ref a_this_stations, .ref a_this_links, .ref a_this_messages, .ref a_this_copies, .ref a_this_log, .ref a_this_ways, .ref a_this_frames, .int c_stationCount, .int c_linkCount, .int c_messageCount, .int c_time, .int c_life, .int c_tries, .int c_x])), (a_this_stations, .inr (4, [.int (8 : Int32), .int (10 : Int32), .ref a_this_stations_cells])), (a_this_stations_cells, .inl (k 0, 80, .inl c_stations)), (a_this_messages, .inr (4, [.int (24 : Int32), .int (12 : Int32), .ref a_this_messages_cells])), (a_this_messages_cells, .inl (k 0, 288, .inl c_messages)), (a_this_copies, .inr (4, [.int (192 : Int32), .int (5 : Int32), .ref a_this_copies_cells])), (a_this_copies_cells, .inl (k 0, 960, .inl c_copies)), (a_this_ways, .inr (5, [.ref a_this_ways_heard, .int t11.2.1, .int t11.2.2.1, .int t11.2.2.2])), (a_this_ways_heard, .inl (k 1, 24, .inr (.inl c_ways_heard)))]) rfl rfl, rfl, rfl⟩ (rn_r hR rfl) rn_cs hl.1 rfl (Nat.le_of_ble_eq_true rfl) dX2_lineUp_104 (fun H locs hW => ?_)
                      refine lv_iinc (v := (x3_37 + (1 : Int32))) (lv' := [(3, .int (x3_37 + (1 : Int32))), (6, .int t11.1), (0, .ref a_this), (1, .int i1), (2, .int t4), (4, .int x4_29), (5, .int x5_37)]) hx hb dX2_lineUp_107 hl (k := 4) rfl (congrArg (fun q => _ + q) (by decide)) (Nat.le_of_ble_eq_true rfl) rfl (fun ls hl => ?_)
                      refine lv_iinc (v := (x5_37 + (1 : Int32))) (lv' := [(5, .int (x5_37 + (1 : Int32))), (3, .int (x3_37 + (1 : Int32))), (6, .int t11.1), (0, .ref a_this), (1, .int i1), (2, .int t4), (4, .int x4_29)]) hx hb dX2_lineUp_110 hl (k := 6) rfl (congrArg (fun q => _ + q) (by decide)) (Nat.le_of_ble_eq_true rfl) rfl (fun ls hl => ?_)
                      refine lv_goto (tgt := 37) hx hb dX2_lineUp_113 (by decide) ?_
                      exact ih_37 (x3_37 + (1 : Int32)) (x5_37 + (1 : Int32)) t11.2.1 t11.2.2.1 t11.2.2.2 t16 _ _ _ hf hW (lv_sub hl [3, 4, 5, 1, 6, 0] rfl)
                  replace hf := ht11
                  clear ht11
                  refine lv_icmp_ne (tgt := 76) hx hb dX2_lineUp_63 (by decide) (fun hc12 => ?_) (fun hc12 => ?_)
                  · replace hf := rn_f hf hc12
                    refine lv_iconst (v := -1) hx hb dX2_lineUp_76 (by decide) ?_
                    cases hf
                    exact jnt11 _ _ _ hW (lv_sub hl [0, 1, 2, 3, 4, 5] rfl)
                  · replace hf := rn_t hf hc12
                    refine lv_aload_n hx hb dX2_lineUp_66 rfl (lv_at hl 0 rfl) ?_
                    refine lv_iload hx hb dX2_lineUp_67 (lv_at hl 5 rfl) ?_
                    refine lv_iload_n hx hb dX2_lineUp_69 rfl (lv_at hl 1 rfl) ?_
                    obtain ⟨t13, ht13, hf⟩ := rn_bind hf
                    refine rr_callI (As := [.int x5_37, .int i1]) (rest := []) X hW (kX2_nextOf l D k z N a_this a_this_stations a_this_links a_this_messages a_this_copies a_this_log a_this_ways a_this_frames a_this_messages_cells a_this_copies_cells a_this_ways_heard c_stationCount c_linkCount c_messageCount c_time c_life c_tries c_x c_messages c_copies y_ways_arrival_37 y_ways_fewest_37 y_ways_next_37 c_ways_heard x5_37 i1 ht13) gm_X2_nextOf gl_X2_161 [0, 3, 4, 5, 6, 7, 8] [1, 2, 9, 10] [(a_this, .inr (2, [.ref a_this_stations, .ref a_this_links, .ref a_this_messages, .ref a_this_copies, .ref a_this_log, .ref a_this_ways, .ref a_this_frames, .int c_stationCount, .int c_linkCount, .int c_messageCount, .int c_time, .int c_life, .int c_tries, .int c_x])), (a_this_stations, .inr (4, [.int (8 : Int32), .int (10 : Int32), .ref a_this_stations_cells])), (a_this_stations_cells, .inl (k 0, 80, .inl c_stations)), (a_this_messages, .inr (4, [.int (24 : Int32), .int (12 : Int32), .ref a_this_messages_cells])), (a_this_messages_cells, .inl (k 0, 288, .inl c_messages)), (a_this_copies, .inr (4, [.int (192 : Int32), .int (5 : Int32), .ref a_this_copies_cells])), (a_this_copies_cells, .inl (k 0, 960, .inl c_copies)), (a_this_ways, .inr (5, [.ref a_this_ways_heard, .int t13.2.1, .int t13.2.2.1, .int t13.2.2.2])), (a_this_ways_heard, .inl (k 1, 24, .inr (.inl c_ways_heard))), (a_this_frames, .inr (4, [.int (9 : Int32), .int (2 : Int32), .ref a_this_frames_cells])), (a_this_frames_cells, .inl (k 0, 18, .inl y_frames_37))] rfl rfl rfl rfl ⟨rfl, rfl, rn_Bw (wr := [(a_this_stations, .inr (4, [.int (8 : Int32), .int (10 : Int32), .ref a_this_stations_cells])), (a_this_stations_cells, .inl (k 0, 80, .inl c_stations)), (a_this_frames, .inr (4, [.int (9 : Int32), .int (2 : Int32), .ref a_this_frames_cells])), (a_this_frames_cells, .inl (k 0, 18, .inl y_frames_37))]) rfl rfl, rfl, rfl⟩ (rn_r hR rfl) rn_cs hl.1 rfl (Nat.le_of_ble_eq_true rfl) dX2_lineUp_70 (fun hn13 H locs hW => ?_)
                    refine lv_goto (tgt := 77) hx hb dX2_lineUp_73 (by decide) ?_
                    cases hf
                    exact jnt11 _ _ _ hW (lv_sub hl [0, 1, 2, 3, 4, 5] rfl)
          exact lp_37 N x3_29 (0 : Int32) y_ways_arrival_29 y_ways_fewest_29 y_ways_next_29 y_frames_29 _ _ _ ht7 hW (lv_sub hl [1, 2, 3, 4, 5, 0] rfl)
    exact lp_29 N (0 : Int32) (3 : Int32) c_ways_arrival c_ways_fewest c_ways_next c_frames _ _ _ ht5 hW (lv_sub hl [3, 4, 2, 1, 0] rfl)
  · replace hf := rn_t hf hc3
    refine lv_iconst (v := 0) hx hb dX2_lineUp_12 (by decide) ?_
    cases hf
    exact hE _ _ _ _ hW rfl dX2_lineUp_13
def fX2_messageToSend (N : Nat) (c_messageCount : Int32) (c_time : Int32) (c_stations : Nat → Int32) (c_messages : Nat → Int32) (c_copies : Nat → Int32) (c_ways_arrival : Int32) (c_ways_fewest : Int32) (c_ways_next : Int32) (c_ways_heard : Nat → Int64) (c_frames : Nat → Int32) (i1 : Int32) (i2 : Int32) : Option (Int32 × Int32 × Int32 × Int32 × (Nat → Int32)) :=
  (fX2_lineUp N c_messageCount c_time c_stations c_messages c_copies c_ways_arrival c_ways_fewest c_ways_next c_ways_heard c_frames i1).bind fun t1 =>
  if t1.1 ≤ i2 then
    some ((-1 : Int32), t1.2.1, t1.2.2.1, t1.2.2.2.1, t1.2.2.2.2)
  else
  (fX4_get (9 : Int32) (2 : Int32) 18 t1.2.2.2.2 i2 (0 : Int32)).bind fun t3 =>
  some (t3, t1.2.1, t1.2.2.1, t1.2.2.2.1, t1.2.2.2.2)
set_option maxHeartbeats 4000000 in
set_option maxRecDepth 20000 in
theorem kX2_messageToSend (l : Launch) (D : va_G) (k : Nat → ClassId) (z : (Nat → Nat) × (Nat → Nat)) (N : Nat) (a_this : Nat) (a_this_stations : Nat) (a_this_links : Nat) (a_this_messages : Nat) (a_this_copies : Nat) (a_this_log : Nat) (a_this_ways : Nat) (a_this_frames : Nat) (a_this_stations_cells : Nat) (a_this_messages_cells : Nat) (a_this_copies_cells : Nat) (a_this_ways_heard : Nat) (a_this_frames_cells : Nat) (c_stationCount : Int32) (c_linkCount : Int32) (c_messageCount : Int32) (c_time : Int32) (c_life : Int32) (c_tries : Int32) (c_x : Int32) (c_stations : Nat → Int32) (c_messages : Nat → Int32) (c_copies : Nat → Int32) (c_ways_arrival : Int32) (c_ways_fewest : Int32) (c_ways_next : Int32) (c_ways_heard : Nat → Int64) (c_frames : Nat → Int32) (i1 : Int32) (i2 : Int32) {u : Int32 × Int32 × Int32 × Int32 × (Nat → Int32)} (hf : fX2_messageToSend N c_messageCount c_time c_stations c_messages c_copies c_ways_arrival c_ways_fewest c_ways_next c_ways_heard c_frames i1 i2 = some u) : rn_KI l D k z yX2_messageToSend cX2_messageToSend 3 .int 5 136 [.ref a_this, .int i1, .int i2] [(a_this, .inr (2, [.ref a_this_stations, .ref a_this_links, .ref a_this_messages, .ref a_this_copies, .ref a_this_log, .ref a_this_ways, .ref a_this_frames, .int c_stationCount, .int c_linkCount, .int c_messageCount, .int c_time, .int c_life, .int c_tries, .int c_x])), (a_this_stations, .inr (4, [.int (8 : Int32), .int (10 : Int32), .ref a_this_stations_cells])), (a_this_stations_cells, .inl (k 0, 80, .inl c_stations)), (a_this_messages, .inr (4, [.int (24 : Int32), .int (12 : Int32), .ref a_this_messages_cells])), (a_this_messages_cells, .inl (k 0, 288, .inl c_messages)), (a_this_copies, .inr (4, [.int (192 : Int32), .int (5 : Int32), .ref a_this_copies_cells])), (a_this_copies_cells, .inl (k 0, 960, .inl c_copies)), (a_this_ways, .inr (5, [.ref a_this_ways_heard, .int c_ways_arrival, .int c_ways_fewest, .int c_ways_next])), (a_this_ways_heard, .inl (k 1, 24, .inr (.inl c_ways_heard))), (a_this_frames, .inr (4, [.int (9 : Int32), .int (2 : Int32), .ref a_this_frames_cells])), (a_this_frames_cells, .inl (k 0, 18, .inl c_frames))] [(a_this, .inr (2, [.ref a_this_stations, .ref a_this_links, .ref a_this_messages, .ref a_this_copies, .ref a_this_log, .ref a_this_ways, .ref a_this_frames, .int c_stationCount, .int c_linkCount, .int c_messageCount, .int c_time, .int c_life, .int c_tries, .int c_x])), (a_this_stations, .inr (4, [.int (8 : Int32), .int (10 : Int32), .ref a_this_stations_cells])), (a_this_stations_cells, .inl (k 0, 80, .inl c_stations)), (a_this_messages, .inr (4, [.int (24 : Int32), .int (12 : Int32), .ref a_this_messages_cells])), (a_this_messages_cells, .inl (k 0, 288, .inl c_messages)), (a_this_copies, .inr (4, [.int (192 : Int32), .int (5 : Int32), .ref a_this_copies_cells])), (a_this_copies_cells, .inl (k 0, 960, .inl c_copies)), (a_this_ways, .inr (5, [.ref a_this_ways_heard, .int u.2.1, .int u.2.2.1, .int u.2.2.2.1])), (a_this_ways_heard, .inl (k 1, 24, .inr (.inl c_ways_heard))), (a_this_frames, .inr (4, [.int (9 : Int32), .int (2 : Int32), .ref a_this_frames_cells])), (a_this_frames_cells, .inl (k 0, 18, .inl u.2.2.2.2))] u.1 := by
  refine rn_KI.go (LOC := [(0, .ref a_this), (1, .int i1), (2, .int i2)]) rfl (by decide) (Nat.le_of_ble_eq_true rfl) rfl ?_
  intro p e s m args below meth c A ls R Q X hR hE hW hl
  have hx := X.1.1
  have hb := X.1.2.1
  unfold fX2_messageToSend at hf
  refine lv_iload_n hx hb dX2_messageToSend_0 rfl (lv_at hl 2 rfl) ?_
  refine lv_aload_n hx hb dX2_messageToSend_1 rfl (lv_at hl 0 rfl) ?_
  refine lv_iload_n hx hb dX2_messageToSend_2 rfl (lv_at hl 1 rfl) ?_
  obtain ⟨t1, ht1, hf⟩ := rn_bind hf
  refine rr_callI (As := [.int i1]) (rest := [.int i2]) X hW (kX2_lineUp l D k z N a_this a_this_stations a_this_links a_this_messages a_this_copies a_this_log a_this_ways a_this_frames a_this_stations_cells a_this_messages_cells a_this_copies_cells a_this_ways_heard a_this_frames_cells c_stationCount c_linkCount c_messageCount c_time c_life c_tries c_x c_stations c_messages c_copies c_ways_arrival c_ways_fewest c_ways_next c_ways_heard c_frames i1 ht1) gm_X2_lineUp gl_X2_164 [0, 1, 2, 3, 4, 5, 6, 7, 8, 9, 10] [] [(a_this, .inr (2, [.ref a_this_stations, .ref a_this_links, .ref a_this_messages, .ref a_this_copies, .ref a_this_log, .ref a_this_ways, .ref a_this_frames, .int c_stationCount, .int c_linkCount, .int c_messageCount, .int c_time, .int c_life, .int c_tries, .int c_x])), (a_this_stations, .inr (4, [.int (8 : Int32), .int (10 : Int32), .ref a_this_stations_cells])), (a_this_stations_cells, .inl (k 0, 80, .inl c_stations)), (a_this_messages, .inr (4, [.int (24 : Int32), .int (12 : Int32), .ref a_this_messages_cells])), (a_this_messages_cells, .inl (k 0, 288, .inl c_messages)), (a_this_copies, .inr (4, [.int (192 : Int32), .int (5 : Int32), .ref a_this_copies_cells])), (a_this_copies_cells, .inl (k 0, 960, .inl c_copies)), (a_this_ways, .inr (5, [.ref a_this_ways_heard, .int t1.2.1, .int t1.2.2.1, .int t1.2.2.2.1])), (a_this_ways_heard, .inl (k 1, 24, .inr (.inl c_ways_heard))), (a_this_frames, .inr (4, [.int (9 : Int32), .int (2 : Int32), .ref a_this_frames_cells])), (a_this_frames_cells, .inl (k 0, 18, .inl t1.2.2.2.2))] rfl rfl rfl rfl ⟨rfl, rfl, rfl, rfl, rfl⟩ (rn_r hR rfl) rn_cs hl.1 rfl (Nat.le_of_ble_eq_true rfl) dX2_messageToSend_3 (fun hn1 H locs hW => ?_)
  refine lv_icmp_ge (tgt := 21) hx hb dX2_messageToSend_6 (by decide) (fun hc2 => ?_) (fun hc2 => ?_)
  · replace hf := rn_t hf hc2
    refine lv_iconst (v := -1) hx hb dX2_messageToSend_21 (by decide) ?_
    cases hf
    exact hE _ _ _ _ hW rfl dX2_messageToSend_22
  · replace hf := rn_f hf hc2
    refine lv_aload_n hx hb dX2_messageToSend_9 rfl (lv_at hl 0 rfl) ?_
    refine rr_get X hW 0 6 gf_X2_43 rfl rfl dX2_messageToSend_10 ?_
    refine lv_iload_n hx hb dX2_messageToSend_13 rfl (lv_at hl 2 rfl) ?_
    refine lv_iconst (v := 0) hx hb dX2_messageToSend_14 (by decide) ?_
    obtain ⟨t3, ht3, hf⟩ := rn_bind hf
    refine rr_callI (As := [.int i2, .int (0 : Int32)]) (rest := []) X hW (kX4_get l D k z a_this_frames a_this_frames_cells (9 : Int32) (2 : Int32) 18 t1.2.2.2.2 i2 (0 : Int32) ht3) gm_X4_get gl_X2_105 [9, 10] [0, 1, 2, 3, 4, 5, 6, 7, 8] [(a_this, .inr (2, [.ref a_this_stations, .ref a_this_links, .ref a_this_messages, .ref a_this_copies, .ref a_this_log, .ref a_this_ways, .ref a_this_frames, .int c_stationCount, .int c_linkCount, .int c_messageCount, .int c_time, .int c_life, .int c_tries, .int c_x])), (a_this_stations, .inr (4, [.int (8 : Int32), .int (10 : Int32), .ref a_this_stations_cells])), (a_this_stations_cells, .inl (k 0, 80, .inl c_stations)), (a_this_messages, .inr (4, [.int (24 : Int32), .int (12 : Int32), .ref a_this_messages_cells])), (a_this_messages_cells, .inl (k 0, 288, .inl c_messages)), (a_this_copies, .inr (4, [.int (192 : Int32), .int (5 : Int32), .ref a_this_copies_cells])), (a_this_copies_cells, .inl (k 0, 960, .inl c_copies)), (a_this_ways, .inr (5, [.ref a_this_ways_heard, .int t1.2.1, .int t1.2.2.1, .int t1.2.2.2.1])), (a_this_ways_heard, .inl (k 1, 24, .inr (.inl c_ways_heard))), (a_this_frames, .inr (4, [.int (9 : Int32), .int (2 : Int32), .ref a_this_frames_cells])), (a_this_frames_cells, .inl (k 0, 18, .inl t1.2.2.2.2))] rfl rfl rfl rfl ⟨rfl, rfl, rn_Bw (wr := [(a_this, .inr (2, [.ref a_this_stations, .ref a_this_links, .ref a_this_messages, .ref a_this_copies, .ref a_this_log, .ref a_this_ways, .ref a_this_frames, .int c_stationCount, .int c_linkCount, .int c_messageCount, .int c_time, .int c_life, .int c_tries, .int c_x])), (a_this_stations, .inr (4, [.int (8 : Int32), .int (10 : Int32), .ref a_this_stations_cells])), (a_this_stations_cells, .inl (k 0, 80, .inl c_stations)), (a_this_messages, .inr (4, [.int (24 : Int32), .int (12 : Int32), .ref a_this_messages_cells])), (a_this_messages_cells, .inl (k 0, 288, .inl c_messages)), (a_this_copies, .inr (4, [.int (192 : Int32), .int (5 : Int32), .ref a_this_copies_cells])), (a_this_copies_cells, .inl (k 0, 960, .inl c_copies)), (a_this_ways, .inr (5, [.ref a_this_ways_heard, .int t1.2.1, .int t1.2.2.1, .int t1.2.2.2.1])), (a_this_ways_heard, .inl (k 1, 24, .inr (.inl c_ways_heard)))]) rfl rfl, rfl, rfl⟩ (rn_r hR rfl) rn_cs hl.1 rfl (Nat.le_of_ble_eq_true rfl) dX2_messageToSend_15 (fun hn3 H locs hW => ?_)
    refine lv_goto (tgt := 22) hx hb dX2_messageToSend_18 (by decide) ?_
    cases hf
    exact hE _ _ _ _ hW rfl dX2_messageToSend_22
def fX2_endCopy (c_time : Int32) (c_messages : Nat → Int32) (c_copies : Nat → Int32) (c_log_first : Int32) (c_log_size : Int32) (c_log_events : Nat → Int32) (i1 : Int32) (i2 : Int32) (i3 : Int32) (i4 : Int32) (i5 : Int32) : Option ((Nat → Int32) × (Nat → Int32) × Int32 × Int32 × (Nat → Int32)) :=
  (fX2_copyRow i1 i2).bind fun t1 =>
  (fX4_set (192 : Int32) (5 : Int32) 960 c_copies t1 (0 : Int32) i4).bind fun t2 =>
  (fX2_noteEnd c_messages i1 i2 i3).bind fun t3 =>
  (fX0_add c_log_first c_log_size c_log_events c_time i5 i1 i2 i3).bind fun t4 =>
  some (t3, t2, t4.1, t4.2.1, t4.2.2)
set_option maxHeartbeats 4000000 in
set_option maxRecDepth 20000 in
theorem kX2_endCopy (l : Launch) (D : va_G) (k : Nat → ClassId) (z : (Nat → Nat) × (Nat → Nat)) (a_this : Nat) (a_this_stations : Nat) (a_this_links : Nat) (a_this_messages : Nat) (a_this_copies : Nat) (a_this_log : Nat) (a_this_ways : Nat) (a_this_frames : Nat) (a_this_messages_cells : Nat) (a_this_copies_cells : Nat) (a_this_log_events : Nat) (a_this_log_events_cells : Nat) (c_stationCount : Int32) (c_linkCount : Int32) (c_messageCount : Int32) (c_time : Int32) (c_life : Int32) (c_tries : Int32) (c_x : Int32) (c_messages : Nat → Int32) (c_copies : Nat → Int32) (c_log_first : Int32) (c_log_size : Int32) (c_log_events : Nat → Int32) (i1 : Int32) (i2 : Int32) (i3 : Int32) (i4 : Int32) (i5 : Int32) {u : (Nat → Int32) × (Nat → Int32) × Int32 × Int32 × (Nat → Int32)} (hf : fX2_endCopy c_time c_messages c_copies c_log_first c_log_size c_log_events i1 i2 i3 i4 i5 = some u) : rn_KV l D k z yX2_endCopy cX2_endCopy 6 2 50 [.ref a_this, .int i1, .int i2, .int i3, .int i4, .int i5] [(a_this, .inr (2, [.ref a_this_stations, .ref a_this_links, .ref a_this_messages, .ref a_this_copies, .ref a_this_log, .ref a_this_ways, .ref a_this_frames, .int c_stationCount, .int c_linkCount, .int c_messageCount, .int c_time, .int c_life, .int c_tries, .int c_x])), (a_this_messages, .inr (4, [.int (24 : Int32), .int (12 : Int32), .ref a_this_messages_cells])), (a_this_messages_cells, .inl (k 0, 288, .inl c_messages)), (a_this_copies, .inr (4, [.int (192 : Int32), .int (5 : Int32), .ref a_this_copies_cells])), (a_this_copies_cells, .inl (k 0, 960, .inl c_copies)), (a_this_log, .inr (0, [.ref a_this_log_events, .int c_log_first, .int c_log_size])), (a_this_log_events, .inr (4, [.int (40 : Int32), .int (5 : Int32), .ref a_this_log_events_cells])), (a_this_log_events_cells, .inl (k 0, 200, .inl c_log_events))] [(a_this, .inr (2, [.ref a_this_stations, .ref a_this_links, .ref a_this_messages, .ref a_this_copies, .ref a_this_log, .ref a_this_ways, .ref a_this_frames, .int c_stationCount, .int c_linkCount, .int c_messageCount, .int c_time, .int c_life, .int c_tries, .int c_x])), (a_this_messages, .inr (4, [.int (24 : Int32), .int (12 : Int32), .ref a_this_messages_cells])), (a_this_messages_cells, .inl (k 0, 288, .inl u.1)), (a_this_copies, .inr (4, [.int (192 : Int32), .int (5 : Int32), .ref a_this_copies_cells])), (a_this_copies_cells, .inl (k 0, 960, .inl u.2.1)), (a_this_log, .inr (0, [.ref a_this_log_events, .int u.2.2.1, .int u.2.2.2.1])), (a_this_log_events, .inr (4, [.int (40 : Int32), .int (5 : Int32), .ref a_this_log_events_cells])), (a_this_log_events_cells, .inl (k 0, 200, .inl u.2.2.2.2))] := by
  refine rn_KV.go (LOC := [(0, .ref a_this), (1, .int i1), (2, .int i2), (3, .int i3), (4, .int i4), (5, .int i5)]) rfl (by decide) (Nat.le_of_ble_eq_true rfl) rfl ?_
  intro p e s m args below meth c A ls R Q X hR hE hW hl
  have hx := X.1.1
  have hb := X.1.2.1
  unfold fX2_endCopy at hf
  refine lv_aload_n hx hb dX2_endCopy_0 rfl (lv_at hl 0 rfl) ?_
  refine rr_get X hW 0 3 gf_X2_26 rfl rfl dX2_endCopy_1 ?_
  refine lv_iload_n hx hb dX2_endCopy_4 rfl (lv_at hl 1 rfl) ?_
  refine lv_iload_n hx hb dX2_endCopy_5 rfl (lv_at hl 2 rfl) ?_
  obtain ⟨t1, ht1, hf⟩ := rn_bind hf
  refine rr_scalI (As := [.int i1, .int i2]) (rest := [.ref a_this_copies]) X hW (kX2_copyRow l D k z i1 i2 ht1) gm_X2_copyRow gl_X2_98 [] [0, 1, 2, 3, 4, 5, 6, 7] [(a_this, .inr (2, [.ref a_this_stations, .ref a_this_links, .ref a_this_messages, .ref a_this_copies, .ref a_this_log, .ref a_this_ways, .ref a_this_frames, .int c_stationCount, .int c_linkCount, .int c_messageCount, .int c_time, .int c_life, .int c_tries, .int c_x])), (a_this_messages, .inr (4, [.int (24 : Int32), .int (12 : Int32), .ref a_this_messages_cells])), (a_this_messages_cells, .inl (k 0, 288, .inl c_messages)), (a_this_copies, .inr (4, [.int (192 : Int32), .int (5 : Int32), .ref a_this_copies_cells])), (a_this_copies_cells, .inl (k 0, 960, .inl c_copies)), (a_this_log, .inr (0, [.ref a_this_log_events, .int c_log_first, .int c_log_size])), (a_this_log_events, .inr (4, [.int (40 : Int32), .int (5 : Int32), .ref a_this_log_events_cells])), (a_this_log_events_cells, .inl (k 0, 200, .inl c_log_events))] rfl rfl ⟨rfl, rfl, rn_Bw (wr := [(a_this, .inr (2, [.ref a_this_stations, .ref a_this_links, .ref a_this_messages, .ref a_this_copies, .ref a_this_log, .ref a_this_ways, .ref a_this_frames, .int c_stationCount, .int c_linkCount, .int c_messageCount, .int c_time, .int c_life, .int c_tries, .int c_x])), (a_this_messages, .inr (4, [.int (24 : Int32), .int (12 : Int32), .ref a_this_messages_cells])), (a_this_messages_cells, .inl (k 0, 288, .inl c_messages)), (a_this_copies, .inr (4, [.int (192 : Int32), .int (5 : Int32), .ref a_this_copies_cells])), (a_this_copies_cells, .inl (k 0, 960, .inl c_copies)), (a_this_log, .inr (0, [.ref a_this_log_events, .int c_log_first, .int c_log_size])), (a_this_log_events, .inr (4, [.int (40 : Int32), .int (5 : Int32), .ref a_this_log_events_cells])), (a_this_log_events_cells, .inl (k 0, 200, .inl c_log_events))]) rfl rfl, rfl, rfl⟩ (rn_r hR rfl) rn_cs hl.1 rfl (Nat.le_of_ble_eq_true rfl) dX2_endCopy_6 (fun hn1 H locs hW => ?_)
  refine lv_iconst (v := 0) hx hb dX2_endCopy_9 (by decide) ?_
  refine lv_iload hx hb dX2_endCopy_10 (lv_at hl 4 rfl) ?_
  obtain ⟨t2, ht2, hf⟩ := rn_bind hf
  refine rr_callV (As := [.int t1, .int (0 : Int32), .int i4]) (rest := []) X hW (kX4_set l D k z a_this_copies a_this_copies_cells (192 : Int32) (5 : Int32) 960 c_copies t1 (0 : Int32) i4 ht2) gm_X4_set gl_X2_91 [3, 4] [0, 1, 2, 5, 6, 7] [(a_this, .inr (2, [.ref a_this_stations, .ref a_this_links, .ref a_this_messages, .ref a_this_copies, .ref a_this_log, .ref a_this_ways, .ref a_this_frames, .int c_stationCount, .int c_linkCount, .int c_messageCount, .int c_time, .int c_life, .int c_tries, .int c_x])), (a_this_messages, .inr (4, [.int (24 : Int32), .int (12 : Int32), .ref a_this_messages_cells])), (a_this_messages_cells, .inl (k 0, 288, .inl c_messages)), (a_this_copies, .inr (4, [.int (192 : Int32), .int (5 : Int32), .ref a_this_copies_cells])), (a_this_copies_cells, .inl (k 0, 960, .inl t2)), (a_this_log, .inr (0, [.ref a_this_log_events, .int c_log_first, .int c_log_size])), (a_this_log_events, .inr (4, [.int (40 : Int32), .int (5 : Int32), .ref a_this_log_events_cells])), (a_this_log_events_cells, .inl (k 0, 200, .inl c_log_events))] rfl rfl rfl rfl ⟨rfl, rfl, rn_Bw (wr := [(a_this, .inr (2, [.ref a_this_stations, .ref a_this_links, .ref a_this_messages, .ref a_this_copies, .ref a_this_log, .ref a_this_ways, .ref a_this_frames, .int c_stationCount, .int c_linkCount, .int c_messageCount, .int c_time, .int c_life, .int c_tries, .int c_x])), (a_this_messages, .inr (4, [.int (24 : Int32), .int (12 : Int32), .ref a_this_messages_cells])), (a_this_messages_cells, .inl (k 0, 288, .inl c_messages)), (a_this_log, .inr (0, [.ref a_this_log_events, .int c_log_first, .int c_log_size])), (a_this_log_events, .inr (4, [.int (40 : Int32), .int (5 : Int32), .ref a_this_log_events_cells])), (a_this_log_events_cells, .inl (k 0, 200, .inl c_log_events))]) rfl rfl, rfl, rfl⟩ (rn_r hR rfl) rn_cs hl.1 rfl (Nat.le_of_ble_eq_true rfl) dX2_endCopy_12 (fun H locs hW => ?_)
  refine lv_aload_n hx hb dX2_endCopy_15 rfl (lv_at hl 0 rfl) ?_
  refine lv_iload_n hx hb dX2_endCopy_16 rfl (lv_at hl 1 rfl) ?_
  refine lv_iload_n hx hb dX2_endCopy_17 rfl (lv_at hl 2 rfl) ?_
  refine lv_iload_n hx hb dX2_endCopy_18 rfl (lv_at hl 3 rfl) ?_
  obtain ⟨t3, ht3, hf⟩ := rn_bind hf
  refine rr_callV (As := [.int i1, .int i2, .int i3]) (rest := []) X hW (kX2_noteEnd l D k z a_this a_this_stations a_this_links a_this_messages a_this_copies a_this_log a_this_ways a_this_frames a_this_messages_cells c_stationCount c_linkCount c_messageCount c_time c_life c_tries c_x c_messages i1 i2 i3 ht3) gm_X2_noteEnd gl_X2_95 [0, 1, 2] [3, 4, 5, 6, 7] [(a_this, .inr (2, [.ref a_this_stations, .ref a_this_links, .ref a_this_messages, .ref a_this_copies, .ref a_this_log, .ref a_this_ways, .ref a_this_frames, .int c_stationCount, .int c_linkCount, .int c_messageCount, .int c_time, .int c_life, .int c_tries, .int c_x])), (a_this_messages, .inr (4, [.int (24 : Int32), .int (12 : Int32), .ref a_this_messages_cells])), (a_this_messages_cells, .inl (k 0, 288, .inl t3)), (a_this_copies, .inr (4, [.int (192 : Int32), .int (5 : Int32), .ref a_this_copies_cells])), (a_this_copies_cells, .inl (k 0, 960, .inl t2)), (a_this_log, .inr (0, [.ref a_this_log_events, .int c_log_first, .int c_log_size])), (a_this_log_events, .inr (4, [.int (40 : Int32), .int (5 : Int32), .ref a_this_log_events_cells])), (a_this_log_events_cells, .inl (k 0, 200, .inl c_log_events))] rfl rfl rfl rfl ⟨rfl, rfl, rn_Bw (wr := [(a_this_copies, .inr (4, [.int (192 : Int32), .int (5 : Int32), .ref a_this_copies_cells])), (a_this_copies_cells, .inl (k 0, 960, .inl t2)), (a_this_log, .inr (0, [.ref a_this_log_events, .int c_log_first, .int c_log_size])), (a_this_log_events, .inr (4, [.int (40 : Int32), .int (5 : Int32), .ref a_this_log_events_cells])), (a_this_log_events_cells, .inl (k 0, 200, .inl c_log_events))]) rfl rfl, rfl, rfl⟩ (rn_r hR rfl) rn_cs hl.1 rfl (Nat.le_of_ble_eq_true rfl) dX2_endCopy_19 (fun H locs hW => ?_)
  refine lv_aload_n hx hb dX2_endCopy_22 rfl (lv_at hl 0 rfl) ?_
  refine rr_get X hW 0 4 gf_X2_32 rfl rfl dX2_endCopy_23 ?_
  refine lv_aload_n hx hb dX2_endCopy_26 rfl (lv_at hl 0 rfl) ?_
  refine rr_get X hW 0 10 gf_X2_56 rfl rfl dX2_endCopy_27 ?_
  refine lv_iload hx hb dX2_endCopy_30 (lv_at hl 5 rfl) ?_
  refine lv_iload_n hx hb dX2_endCopy_32 rfl (lv_at hl 1 rfl) ?_
  refine lv_iload_n hx hb dX2_endCopy_33 rfl (lv_at hl 2 rfl) ?_
  refine lv_iload_n hx hb dX2_endCopy_34 rfl (lv_at hl 3 rfl) ?_
  obtain ⟨t4, ht4, hf⟩ := rn_bind hf
  refine rr_callV (As := [.int c_time, .int i5, .int i1, .int i2, .int i3]) (rest := []) X hW (kX0_add l D k z a_this_log a_this_log_events a_this_log_events_cells c_log_first c_log_size c_log_events c_time i5 i1 i2 i3 ht4) gm_X0_add gl_X2_101 [5, 6, 7] [0, 1, 2, 3, 4] [(a_this, .inr (2, [.ref a_this_stations, .ref a_this_links, .ref a_this_messages, .ref a_this_copies, .ref a_this_log, .ref a_this_ways, .ref a_this_frames, .int c_stationCount, .int c_linkCount, .int c_messageCount, .int c_time, .int c_life, .int c_tries, .int c_x])), (a_this_messages, .inr (4, [.int (24 : Int32), .int (12 : Int32), .ref a_this_messages_cells])), (a_this_messages_cells, .inl (k 0, 288, .inl t3)), (a_this_copies, .inr (4, [.int (192 : Int32), .int (5 : Int32), .ref a_this_copies_cells])), (a_this_copies_cells, .inl (k 0, 960, .inl t2)), (a_this_log, .inr (0, [.ref a_this_log_events, .int t4.1, .int t4.2.1])), (a_this_log_events, .inr (4, [.int (40 : Int32), .int (5 : Int32), .ref a_this_log_events_cells])), (a_this_log_events_cells, .inl (k 0, 200, .inl t4.2.2))] rfl rfl rfl rfl ⟨rfl, rfl, rn_Bw (wr := [(a_this, .inr (2, [.ref a_this_stations, .ref a_this_links, .ref a_this_messages, .ref a_this_copies, .ref a_this_log, .ref a_this_ways, .ref a_this_frames, .int c_stationCount, .int c_linkCount, .int c_messageCount, .int c_time, .int c_life, .int c_tries, .int c_x])), (a_this_messages, .inr (4, [.int (24 : Int32), .int (12 : Int32), .ref a_this_messages_cells])), (a_this_messages_cells, .inl (k 0, 288, .inl t3)), (a_this_copies, .inr (4, [.int (192 : Int32), .int (5 : Int32), .ref a_this_copies_cells])), (a_this_copies_cells, .inl (k 0, 960, .inl t2))]) rfl rfl, rfl, rfl⟩ (rn_r hR rfl) rn_cs hl.1 rfl (Nat.le_of_ble_eq_true rfl) dX2_endCopy_35 (fun H locs hW => ?_)
  cases hf
  exact hE _ _ _ _ hW dX2_endCopy_38
def lX2_takeCopiesBack_4 (c_stationCount : Int32) (c_time : Int32) (i1 : Int32) : Nat → Int32 → Int32 → (Nat → Int32) → (Nat → Int32) → Int32 → Int32 → (Nat → Int32) → Option (Int32 × (Nat → Int32) × (Nat → Int32) × Int32 × Int32 × (Nat → Int32))
  | 0, _, _, _, _, _, _, _ => none
  | n+1, x2_4, x3_4, y_messages_4, y_copies_4, y_log_first_4, y_log_size_4, y_log_events_4 =>
    if c_stationCount ≤ x3_4 then
      some (x2_4, y_messages_4, y_copies_4, y_log_first_4, y_log_size_4, y_log_events_4)
    else
    (fX2_waits y_copies_4 i1 x3_4).bind fun t3 =>
    if t3 = 0 then
      lX2_takeCopiesBack_4 c_stationCount c_time i1 n x2_4 (x3_4 + (1 : Int32)) y_messages_4 y_copies_4 y_log_first_4 y_log_size_4 y_log_events_4
    else
    (fX2_endCopy c_time y_messages_4 y_copies_4 y_log_first_4 y_log_size_4 y_log_events_4 i1 x3_4 (-1 : Int32) (3 : Int32) (8 : Int32)).bind fun t5 =>
    lX2_takeCopiesBack_4 c_stationCount c_time i1 n (x2_4 + (1 : Int32)) (x3_4 + (1 : Int32)) t5.1 t5.2.1 t5.2.2.1 t5.2.2.2.1 t5.2.2.2.2
def fX2_takeCopiesBack (N : Nat) (c_stationCount : Int32) (c_time : Int32) (c_messages : Nat → Int32) (c_copies : Nat → Int32) (c_log_first : Int32) (c_log_size : Int32) (c_log_events : Nat → Int32) (i1 : Int32) : Option (Int32 × (Nat → Int32) × (Nat → Int32) × Int32 × Int32 × (Nat → Int32)) :=
  (lX2_takeCopiesBack_4 c_stationCount c_time i1 N (0 : Int32) (0 : Int32) c_messages c_copies c_log_first c_log_size c_log_events).bind fun t1 =>
  some (t1.1, t1.2.1, t1.2.2.1, t1.2.2.2.1, t1.2.2.2.2.1, t1.2.2.2.2.2)
set_option maxHeartbeats 4000000 in
set_option maxRecDepth 20000 in
theorem kX2_takeCopiesBack (l : Launch) (D : va_G) (k : Nat → ClassId) (z : (Nat → Nat) × (Nat → Nat)) (N : Nat) (a_this : Nat) (a_this_stations : Nat) (a_this_links : Nat) (a_this_messages : Nat) (a_this_copies : Nat) (a_this_log : Nat) (a_this_ways : Nat) (a_this_frames : Nat) (a_this_messages_cells : Nat) (a_this_copies_cells : Nat) (a_this_log_events : Nat) (a_this_log_events_cells : Nat) (c_stationCount : Int32) (c_linkCount : Int32) (c_messageCount : Int32) (c_time : Int32) (c_life : Int32) (c_tries : Int32) (c_x : Int32) (c_messages : Nat → Int32) (c_copies : Nat → Int32) (c_log_first : Int32) (c_log_size : Int32) (c_log_events : Nat → Int32) (i1 : Int32) {u : Int32 × (Nat → Int32) × (Nat → Int32) × Int32 × Int32 × (Nat → Int32)} (hf : fX2_takeCopiesBack N c_stationCount c_time c_messages c_copies c_log_first c_log_size c_log_events i1 = some u) : rn_KI l D k z yX2_takeCopiesBack cX2_takeCopiesBack 4 .int 3 75 [.ref a_this, .int i1] [(a_this, .inr (2, [.ref a_this_stations, .ref a_this_links, .ref a_this_messages, .ref a_this_copies, .ref a_this_log, .ref a_this_ways, .ref a_this_frames, .int c_stationCount, .int c_linkCount, .int c_messageCount, .int c_time, .int c_life, .int c_tries, .int c_x])), (a_this_messages, .inr (4, [.int (24 : Int32), .int (12 : Int32), .ref a_this_messages_cells])), (a_this_messages_cells, .inl (k 0, 288, .inl c_messages)), (a_this_copies, .inr (4, [.int (192 : Int32), .int (5 : Int32), .ref a_this_copies_cells])), (a_this_copies_cells, .inl (k 0, 960, .inl c_copies)), (a_this_log, .inr (0, [.ref a_this_log_events, .int c_log_first, .int c_log_size])), (a_this_log_events, .inr (4, [.int (40 : Int32), .int (5 : Int32), .ref a_this_log_events_cells])), (a_this_log_events_cells, .inl (k 0, 200, .inl c_log_events))] [(a_this, .inr (2, [.ref a_this_stations, .ref a_this_links, .ref a_this_messages, .ref a_this_copies, .ref a_this_log, .ref a_this_ways, .ref a_this_frames, .int c_stationCount, .int c_linkCount, .int c_messageCount, .int c_time, .int c_life, .int c_tries, .int c_x])), (a_this_messages, .inr (4, [.int (24 : Int32), .int (12 : Int32), .ref a_this_messages_cells])), (a_this_messages_cells, .inl (k 0, 288, .inl u.2.1)), (a_this_copies, .inr (4, [.int (192 : Int32), .int (5 : Int32), .ref a_this_copies_cells])), (a_this_copies_cells, .inl (k 0, 960, .inl u.2.2.1)), (a_this_log, .inr (0, [.ref a_this_log_events, .int u.2.2.2.1, .int u.2.2.2.2.1])), (a_this_log_events, .inr (4, [.int (40 : Int32), .int (5 : Int32), .ref a_this_log_events_cells])), (a_this_log_events_cells, .inl (k 0, 200, .inl u.2.2.2.2.2))] u.1 := by
  refine rn_KI.go (LOC := [(0, .ref a_this), (1, .int i1)]) rfl (by decide) (Nat.le_of_ble_eq_true rfl) rfl ?_
  intro p e s m args below meth c A ls R Q X hR hE hW hl
  have hx := X.1.1
  have hb := X.1.2.1
  unfold fX2_takeCopiesBack at hf
  obtain ⟨u0, u1, u2, u3, u4, u5⟩ := u
  dsimp only at hE
  refine lv_iconst (v := 0) hx hb dX2_takeCopiesBack_0 (by decide) ?_
  refine lv_istore_n (lv' := [(2, .int (0 : Int32)), (0, .ref a_this), (1, .int i1)]) hx hb dX2_takeCopiesBack_1 rfl hl (Nat.le_of_ble_eq_true rfl) rfl (fun ls hl => ?_)
  refine lv_iconst (v := 0) hx hb dX2_takeCopiesBack_2 (by decide) ?_
  refine lv_istore_n (lv' := [(3, .int (0 : Int32)), (2, .int (0 : Int32)), (0, .ref a_this), (1, .int i1)]) hx hb dX2_takeCopiesBack_3 rfl hl (Nat.le_of_ble_eq_true rfl) rfl (fun ls hl => ?_)
  obtain ⟨t1, ht1, hf⟩ := rn_bind hf
  have kk_4 : ∀ (H : Heap) (locs : List Loc) (ls : Array Slot), rn_W D A s [(a_this, .inr (2, [.ref a_this_stations, .ref a_this_links, .ref a_this_messages, .ref a_this_copies, .ref a_this_log, .ref a_this_ways, .ref a_this_frames, .int c_stationCount, .int c_linkCount, .int c_messageCount, .int c_time, .int c_life, .int c_tries, .int c_x])), (a_this_messages, .inr (4, [.int (24 : Int32), .int (12 : Int32), .ref a_this_messages_cells])), (a_this_messages_cells, .inl (k 0, 288, .inl t1.2.1)), (a_this_copies, .inr (4, [.int (192 : Int32), .int (5 : Int32), .ref a_this_copies_cells])), (a_this_copies_cells, .inl (k 0, 960, .inl t1.2.2.1)), (a_this_log, .inr (0, [.ref a_this_log_events, .int t1.2.2.2.1, .int t1.2.2.2.2.1])), (a_this_log_events, .inr (4, [.int (40 : Int32), .int (5 : Int32), .ref a_this_log_events_cells])), (a_this_log_events_cells, .inl (k 0, 200, .inl t1.2.2.2.2.2))] H locs → lv_has ls 4 [(2, .int t1.1)] → W p l e R s m args below meth c H locs 0 0 Q (F0 m 40 ls []) := by
    intro H locs ls hW hl
    refine lv_iload_n hx hb dX2_takeCopiesBack_40 rfl (lv_at hl 0 rfl) ?_
    cases hf
    exact hE _ _ _ _ hW rfl dX2_takeCopiesBack_41
  clear hf
  have lp_4 : ∀ (n : Nat) (x2_4 : Int32) (x3_4 : Int32) (y_messages_4 : Nat → Int32) (y_copies_4 : Nat → Int32) (y_log_first_4 : Int32) (y_log_size_4 : Int32) (y_log_events_4 : Nat → Int32) (H : Heap) (locs : List Loc) (ls : Array Slot), lX2_takeCopiesBack_4 c_stationCount c_time i1 n x2_4 x3_4 y_messages_4 y_copies_4 y_log_first_4 y_log_size_4 y_log_events_4 = some t1 → rn_W D A s [(a_this, .inr (2, [.ref a_this_stations, .ref a_this_links, .ref a_this_messages, .ref a_this_copies, .ref a_this_log, .ref a_this_ways, .ref a_this_frames, .int c_stationCount, .int c_linkCount, .int c_messageCount, .int c_time, .int c_life, .int c_tries, .int c_x])), (a_this_messages, .inr (4, [.int (24 : Int32), .int (12 : Int32), .ref a_this_messages_cells])), (a_this_messages_cells, .inl (k 0, 288, .inl y_messages_4)), (a_this_copies, .inr (4, [.int (192 : Int32), .int (5 : Int32), .ref a_this_copies_cells])), (a_this_copies_cells, .inl (k 0, 960, .inl y_copies_4)), (a_this_log, .inr (0, [.ref a_this_log_events, .int y_log_first_4, .int y_log_size_4])), (a_this_log_events, .inr (4, [.int (40 : Int32), .int (5 : Int32), .ref a_this_log_events_cells])), (a_this_log_events_cells, .inl (k 0, 200, .inl y_log_events_4))] H locs → lv_has ls 4 [(0, .ref a_this), (1, .int i1), (2, .int x2_4), (3, .int x3_4)] → W p l e R s m args below meth c H locs 0 0 Q (F0 m 4 ls []) := by
    intro n
    induction n with
    | zero => intro x2_4 x3_4 y_messages_4 y_copies_4 y_log_first_4 y_log_size_4 y_log_events_4 H locs ls hf; exact absurd hf (by rw [lX2_takeCopiesBack_4]; exact fun h => nomatch h)
    | succ n ih_4 =>
      intro x2_4 x3_4 y_messages_4 y_copies_4 y_log_first_4 y_log_size_4 y_log_events_4 H locs ls hf hW hl
      rw [lX2_takeCopiesBack_4] at hf
      refine lv_iload_n hx hb dX2_takeCopiesBack_4 rfl (lv_at hl 3 rfl) ?_
      refine lv_aload_n hx hb dX2_takeCopiesBack_5 rfl (lv_at hl 0 rfl) ?_
      refine rr_get X hW 0 7 gf_X2_46 rfl rfl dX2_takeCopiesBack_6 ?_
      refine lv_icmp_ge (tgt := 40) hx hb dX2_takeCopiesBack_9 (by decide) (fun hc2 => ?_) (fun hc2 => ?_)
      · replace hf := rn_t hf hc2
        cases hf
        exact kk_4 _ _ _ hW (lv_sub hl [2] rfl)
      · replace hf := rn_f hf hc2
        refine lv_aload_n hx hb dX2_takeCopiesBack_12 rfl (lv_at hl 0 rfl) ?_
        refine lv_iload_n hx hb dX2_takeCopiesBack_13 rfl (lv_at hl 1 rfl) ?_
        refine lv_iload_n hx hb dX2_takeCopiesBack_14 rfl (lv_at hl 3 rfl) ?_
        obtain ⟨t3, ht3, hf⟩ := rn_bind hf
        refine rr_callI (As := [.int i1, .int x3_4]) (rest := []) X hW (kX2_waits l D k z a_this a_this_stations a_this_links a_this_messages a_this_copies a_this_log a_this_ways a_this_frames a_this_copies_cells c_stationCount c_linkCount c_messageCount c_time c_life c_tries c_x y_copies_4 i1 x3_4 ht3) gm_X2_waits gl_X2_167 [0, 3, 4] [1, 2, 5, 6, 7] [(a_this, .inr (2, [.ref a_this_stations, .ref a_this_links, .ref a_this_messages, .ref a_this_copies, .ref a_this_log, .ref a_this_ways, .ref a_this_frames, .int c_stationCount, .int c_linkCount, .int c_messageCount, .int c_time, .int c_life, .int c_tries, .int c_x])), (a_this_messages, .inr (4, [.int (24 : Int32), .int (12 : Int32), .ref a_this_messages_cells])), (a_this_messages_cells, .inl (k 0, 288, .inl y_messages_4)), (a_this_copies, .inr (4, [.int (192 : Int32), .int (5 : Int32), .ref a_this_copies_cells])), (a_this_copies_cells, .inl (k 0, 960, .inl y_copies_4)), (a_this_log, .inr (0, [.ref a_this_log_events, .int y_log_first_4, .int y_log_size_4])), (a_this_log_events, .inr (4, [.int (40 : Int32), .int (5 : Int32), .ref a_this_log_events_cells])), (a_this_log_events_cells, .inl (k 0, 200, .inl y_log_events_4))] rfl rfl rfl rfl ⟨rfl, rfl, rn_Bw (wr := [(a_this_messages, .inr (4, [.int (24 : Int32), .int (12 : Int32), .ref a_this_messages_cells])), (a_this_messages_cells, .inl (k 0, 288, .inl y_messages_4)), (a_this_log, .inr (0, [.ref a_this_log_events, .int y_log_first_4, .int y_log_size_4])), (a_this_log_events, .inr (4, [.int (40 : Int32), .int (5 : Int32), .ref a_this_log_events_cells])), (a_this_log_events_cells, .inl (k 0, 200, .inl y_log_events_4))]) rfl rfl, rfl, rfl⟩ (rn_r hR rfl) rn_cs hl.1 rfl (Nat.le_of_ble_eq_true rfl) dX2_takeCopiesBack_15 (fun hn3 H locs hW => ?_)
        refine lv_if_eq (tgt := 34) hx hb dX2_takeCopiesBack_18 (by decide) (fun hc4 => ?_) (fun hc4 => ?_)
        · replace hf := rn_t hf hc4
          refine lv_iinc (v := (x3_4 + (1 : Int32))) (lv' := [(3, .int (x3_4 + (1 : Int32))), (0, .ref a_this), (1, .int i1), (2, .int x2_4)]) hx hb dX2_takeCopiesBack_34 hl (k := 3) rfl (congrArg (fun q => _ + q) (by decide)) (Nat.le_of_ble_eq_true rfl) rfl (fun ls hl => ?_)
          refine lv_goto (tgt := 4) hx hb dX2_takeCopiesBack_37 (by decide) ?_
          exact ih_4 x2_4 (x3_4 + (1 : Int32)) y_messages_4 y_copies_4 y_log_first_4 y_log_size_4 y_log_events_4 _ _ _ hf hW (lv_sub hl [1, 2, 3, 0] rfl)
        · replace hf := rn_f hf hc4
          refine lv_aload_n hx hb dX2_takeCopiesBack_21 rfl (lv_at hl 0 rfl) ?_
          refine lv_iload_n hx hb dX2_takeCopiesBack_22 rfl (lv_at hl 1 rfl) ?_
          refine lv_iload_n hx hb dX2_takeCopiesBack_23 rfl (lv_at hl 3 rfl) ?_
          refine lv_iconst (v := -1) hx hb dX2_takeCopiesBack_24 (by decide) ?_
          refine lv_iconst (v := 3) hx hb dX2_takeCopiesBack_25 (by decide) ?_
          refine lv_bipush (v := 8) hx hb dX2_takeCopiesBack_26 (by decide) ?_
          obtain ⟨t5, ht5, hf⟩ := rn_bind hf
          refine rr_callV (As := [.int i1, .int x3_4, .int (-1 : Int32), .int (3 : Int32), .int (8 : Int32)]) (rest := []) X hW (kX2_endCopy l D k z a_this a_this_stations a_this_links a_this_messages a_this_copies a_this_log a_this_ways a_this_frames a_this_messages_cells a_this_copies_cells a_this_log_events a_this_log_events_cells c_stationCount c_linkCount c_messageCount c_time c_life c_tries c_x y_messages_4 y_copies_4 y_log_first_4 y_log_size_4 y_log_events_4 i1 x3_4 (-1 : Int32) (3 : Int32) (8 : Int32) ht5) gm_X2_endCopy gl_X2_170 [0, 1, 2, 3, 4, 5, 6, 7] [] [(a_this, .inr (2, [.ref a_this_stations, .ref a_this_links, .ref a_this_messages, .ref a_this_copies, .ref a_this_log, .ref a_this_ways, .ref a_this_frames, .int c_stationCount, .int c_linkCount, .int c_messageCount, .int c_time, .int c_life, .int c_tries, .int c_x])), (a_this_messages, .inr (4, [.int (24 : Int32), .int (12 : Int32), .ref a_this_messages_cells])), (a_this_messages_cells, .inl (k 0, 288, .inl t5.1)), (a_this_copies, .inr (4, [.int (192 : Int32), .int (5 : Int32), .ref a_this_copies_cells])), (a_this_copies_cells, .inl (k 0, 960, .inl t5.2.1)), (a_this_log, .inr (0, [.ref a_this_log_events, .int t5.2.2.1, .int t5.2.2.2.1])), (a_this_log_events, .inr (4, [.int (40 : Int32), .int (5 : Int32), .ref a_this_log_events_cells])), (a_this_log_events_cells, .inl (k 0, 200, .inl t5.2.2.2.2))] rfl rfl rfl rfl ⟨rfl, rfl, rfl, rfl, rfl⟩ (rn_r hR rfl) rn_cs hl.1 rfl (Nat.le_of_ble_eq_true rfl) dX2_takeCopiesBack_28 (fun H locs hW => ?_)
          refine lv_iinc (v := (x2_4 + (1 : Int32))) (lv' := [(2, .int (x2_4 + (1 : Int32))), (0, .ref a_this), (1, .int i1), (3, .int x3_4)]) hx hb dX2_takeCopiesBack_31 hl (k := 2) rfl (congrArg (fun q => _ + q) (by decide)) (Nat.le_of_ble_eq_true rfl) rfl (fun ls hl => ?_)
          refine lv_iinc (v := (x3_4 + (1 : Int32))) (lv' := [(3, .int (x3_4 + (1 : Int32))), (2, .int (x2_4 + (1 : Int32))), (0, .ref a_this), (1, .int i1)]) hx hb dX2_takeCopiesBack_34 hl (k := 3) rfl (congrArg (fun q => _ + q) (by decide)) (Nat.le_of_ble_eq_true rfl) rfl (fun ls hl => ?_)
          refine lv_goto (tgt := 4) hx hb dX2_takeCopiesBack_37 (by decide) ?_
          exact ih_4 (x2_4 + (1 : Int32)) (x3_4 + (1 : Int32)) t5.1 t5.2.1 t5.2.2.1 t5.2.2.2.1 t5.2.2.2.2 _ _ _ hf hW (lv_sub hl [2, 3, 1, 0] rfl)
  exact lp_4 N (0 : Int32) (0 : Int32) c_messages c_copies c_log_first c_log_size c_log_events _ _ _ ht1 hW (lv_sub hl [2, 3, 1, 0] rfl)
def fX2_framesOrAnswersLost (N : Nat) (c_links : Nat → Int32) : Option (Int32) :=
  (fX4_sum N (16 : Int32) (9 : Int32) 144 c_links (7 : Int32)).bind fun t1 =>
  (fX4_sum N (16 : Int32) (9 : Int32) 144 c_links (8 : Int32)).bind fun t2 =>
  some (t1 + t2)
set_option maxHeartbeats 4000000 in
set_option maxRecDepth 20000 in
theorem kX2_framesOrAnswersLost (l : Launch) (D : va_G) (k : Nat → ClassId) (z : (Nat → Nat) × (Nat → Nat)) (N : Nat) (a_this : Nat) (a_this_stations : Nat) (a_this_links : Nat) (a_this_messages : Nat) (a_this_copies : Nat) (a_this_log : Nat) (a_this_ways : Nat) (a_this_frames : Nat) (a_this_links_cells : Nat) (c_stationCount : Int32) (c_linkCount : Int32) (c_messageCount : Int32) (c_time : Int32) (c_life : Int32) (c_tries : Int32) (c_x : Int32) (c_links : Nat → Int32) {u : Int32} (hf : fX2_framesOrAnswersLost N c_links = some u) : rn_KI l D k z yX2_framesOrAnswersLost cX2_framesOrAnswersLost 1 .int 2 46 [.ref a_this] [(a_this, .inr (2, [.ref a_this_stations, .ref a_this_links, .ref a_this_messages, .ref a_this_copies, .ref a_this_log, .ref a_this_ways, .ref a_this_frames, .int c_stationCount, .int c_linkCount, .int c_messageCount, .int c_time, .int c_life, .int c_tries, .int c_x])), (a_this_links, .inr (4, [.int (16 : Int32), .int (9 : Int32), .ref a_this_links_cells])), (a_this_links_cells, .inl (k 0, 144, .inl c_links))] [(a_this, .inr (2, [.ref a_this_stations, .ref a_this_links, .ref a_this_messages, .ref a_this_copies, .ref a_this_log, .ref a_this_ways, .ref a_this_frames, .int c_stationCount, .int c_linkCount, .int c_messageCount, .int c_time, .int c_life, .int c_tries, .int c_x])), (a_this_links, .inr (4, [.int (16 : Int32), .int (9 : Int32), .ref a_this_links_cells])), (a_this_links_cells, .inl (k 0, 144, .inl c_links))] u := by
  refine rn_KI.go (LOC := [(0, .ref a_this)]) rfl (by decide) (Nat.le_of_ble_eq_true rfl) rfl ?_
  intro p e s m args below meth c A ls R Q X hR hE hW hl
  have hx := X.1.1
  have hb := X.1.2.1
  unfold fX2_framesOrAnswersLost at hf
  refine lv_aload_n hx hb dX2_framesOrAnswersLost_0 rfl (lv_at hl 0 rfl) ?_
  refine rr_get X hW 0 1 gf_X2_20 rfl rfl dX2_framesOrAnswersLost_1 ?_
  refine lv_bipush (v := 7) hx hb dX2_framesOrAnswersLost_4 (by decide) ?_
  obtain ⟨t1, ht1, hf⟩ := rn_bind hf
  refine rr_callI (As := [.int (7 : Int32)]) (rest := []) X hW (kX4_sum l D k z N a_this_links a_this_links_cells (16 : Int32) (9 : Int32) 144 c_links (7 : Int32) ht1) gm_X4_sum gl_X2_138 [1, 2] [0] [(a_this, .inr (2, [.ref a_this_stations, .ref a_this_links, .ref a_this_messages, .ref a_this_copies, .ref a_this_log, .ref a_this_ways, .ref a_this_frames, .int c_stationCount, .int c_linkCount, .int c_messageCount, .int c_time, .int c_life, .int c_tries, .int c_x])), (a_this_links, .inr (4, [.int (16 : Int32), .int (9 : Int32), .ref a_this_links_cells])), (a_this_links_cells, .inl (k 0, 144, .inl c_links))] rfl rfl rfl rfl ⟨rfl, rfl, rn_Bw (wr := [(a_this, .inr (2, [.ref a_this_stations, .ref a_this_links, .ref a_this_messages, .ref a_this_copies, .ref a_this_log, .ref a_this_ways, .ref a_this_frames, .int c_stationCount, .int c_linkCount, .int c_messageCount, .int c_time, .int c_life, .int c_tries, .int c_x]))]) rfl rfl, rfl, rfl⟩ (rn_r hR rfl) rn_cs hl.1 rfl (Nat.le_of_ble_eq_true rfl) dX2_framesOrAnswersLost_6 (fun hn1 H locs hW => ?_)
  refine lv_aload_n hx hb dX2_framesOrAnswersLost_9 rfl (lv_at hl 0 rfl) ?_
  refine rr_get X hW 0 1 gf_X2_20 rfl rfl dX2_framesOrAnswersLost_10 ?_
  refine lv_bipush (v := 8) hx hb dX2_framesOrAnswersLost_13 (by decide) ?_
  obtain ⟨t2, ht2, hf⟩ := rn_bind hf
  refine rr_callI (As := [.int (8 : Int32)]) (rest := [.int t1]) X hW (kX4_sum l D k z N a_this_links a_this_links_cells (16 : Int32) (9 : Int32) 144 c_links (8 : Int32) ht2) gm_X4_sum gl_X2_138 [1, 2] [0] [(a_this, .inr (2, [.ref a_this_stations, .ref a_this_links, .ref a_this_messages, .ref a_this_copies, .ref a_this_log, .ref a_this_ways, .ref a_this_frames, .int c_stationCount, .int c_linkCount, .int c_messageCount, .int c_time, .int c_life, .int c_tries, .int c_x])), (a_this_links, .inr (4, [.int (16 : Int32), .int (9 : Int32), .ref a_this_links_cells])), (a_this_links_cells, .inl (k 0, 144, .inl c_links))] rfl rfl rfl rfl ⟨rfl, rfl, rn_Bw (wr := [(a_this, .inr (2, [.ref a_this_stations, .ref a_this_links, .ref a_this_messages, .ref a_this_copies, .ref a_this_log, .ref a_this_ways, .ref a_this_frames, .int c_stationCount, .int c_linkCount, .int c_messageCount, .int c_time, .int c_life, .int c_tries, .int c_x]))]) rfl rfl, rfl, rfl⟩ (rn_r hR rfl) rn_cs hl.1 rfl (Nat.le_of_ble_eq_true rfl) dX2_framesOrAnswersLost_15 (fun hn2 H locs hW => ?_)
  refine lv_iadd hx hb dX2_framesOrAnswersLost_18 ?_
  cases hf
  exact hE _ _ _ _ hW rfl dX2_framesOrAnswersLost_19
def lX2_expireCopies_33 (c_stationCount : Int32) (c_time : Int32) (x1_2 : Int32) : Nat → Int32 → (Nat → Int32) → (Nat → Int32) → Int32 → Int32 → (Nat → Int32) → Option ((Nat → Int32) × (Nat → Int32) × Int32 × Int32 × (Nat → Int32))
  | 0, _, _, _, _, _, _ => none
  | n+1, x2_33, y_messages_33, y_copies_33, y_log_first_33, y_log_size_33, y_log_events_33 =>
    if c_stationCount ≤ x2_33 then
      some (y_messages_33, y_copies_33, y_log_first_33, y_log_size_33, y_log_events_33)
    else
    (fX2_waits y_copies_33 x1_2 x2_33).bind fun t7 =>
    if t7 = 0 then
      lX2_expireCopies_33 c_stationCount c_time x1_2 n (x2_33 + (1 : Int32)) y_messages_33 y_copies_33 y_log_first_33 y_log_size_33 y_log_events_33
    else
    (fX2_endCopy c_time y_messages_33 y_copies_33 y_log_first_33 y_log_size_33 y_log_events_33 x1_2 x2_33 (-1 : Int32) (4 : Int32) (7 : Int32)).bind fun t9 =>
    lX2_expireCopies_33 c_stationCount c_time x1_2 n (x2_33 + (1 : Int32)) t9.1 t9.2.1 t9.2.2.1 t9.2.2.2.1 t9.2.2.2.2
def lX2_expireCopies_2 (N : Nat) (c_stationCount : Int32) (c_messageCount : Int32) (c_time : Int32) (c_life : Int32) : Nat → Int32 → (Nat → Int32) → (Nat → Int32) → Int32 → Int32 → (Nat → Int32) → Option ((Nat → Int32) × (Nat → Int32) × Int32 × Int32 × (Nat → Int32))
  | 0, _, _, _, _, _, _ => none
  | n+1, x1_2, y_messages_2, y_copies_2, y_log_first_2, y_log_size_2, y_log_events_2 =>
    if c_messageCount ≤ x1_2 then
      some (y_messages_2, y_copies_2, y_log_first_2, y_log_size_2, y_log_events_2)
    else
    (fX4_get (24 : Int32) (12 : Int32) 288 y_messages_2 x1_2 (3 : Int32)).bind fun t3 =>
    if (c_time - t3) < c_life then
      lX2_expireCopies_2 N c_stationCount c_messageCount c_time c_life n (x1_2 + (1 : Int32)) y_messages_2 y_copies_2 y_log_first_2 y_log_size_2 y_log_events_2
    else
    (lX2_expireCopies_33 c_stationCount c_time x1_2 N (0 : Int32) y_messages_2 y_copies_2 y_log_first_2 y_log_size_2 y_log_events_2).bind fun t5 =>
    lX2_expireCopies_2 N c_stationCount c_messageCount c_time c_life n (x1_2 + (1 : Int32)) t5.1 t5.2.1 t5.2.2.1 t5.2.2.2.1 t5.2.2.2.2
def fX2_expireCopies (N : Nat) (c_stationCount : Int32) (c_messageCount : Int32) (c_time : Int32) (c_life : Int32) (c_messages : Nat → Int32) (c_copies : Nat → Int32) (c_log_first : Int32) (c_log_size : Int32) (c_log_events : Nat → Int32) : Option ((Nat → Int32) × (Nat → Int32) × Int32 × Int32 × (Nat → Int32)) :=
  (lX2_expireCopies_2 N c_stationCount c_messageCount c_time c_life N (0 : Int32) c_messages c_copies c_log_first c_log_size c_log_events).bind fun t1 =>
  some (t1.1, t1.2.1, t1.2.2.1, t1.2.2.2.1, t1.2.2.2.2)
set_option maxHeartbeats 4000000 in
set_option maxRecDepth 20000 in
theorem kX2_expireCopies (l : Launch) (D : va_G) (k : Nat → ClassId) (z : (Nat → Nat) × (Nat → Nat)) (N : Nat) (a_this : Nat) (a_this_stations : Nat) (a_this_links : Nat) (a_this_messages : Nat) (a_this_copies : Nat) (a_this_log : Nat) (a_this_ways : Nat) (a_this_frames : Nat) (a_this_messages_cells : Nat) (a_this_copies_cells : Nat) (a_this_log_events : Nat) (a_this_log_events_cells : Nat) (c_stationCount : Int32) (c_linkCount : Int32) (c_messageCount : Int32) (c_time : Int32) (c_life : Int32) (c_tries : Int32) (c_x : Int32) (c_messages : Nat → Int32) (c_copies : Nat → Int32) (c_log_first : Int32) (c_log_size : Int32) (c_log_events : Nat → Int32) {u : (Nat → Int32) × (Nat → Int32) × Int32 × Int32 × (Nat → Int32)} (hf : fX2_expireCopies N c_stationCount c_messageCount c_time c_life c_messages c_copies c_log_first c_log_size c_log_events = some u) : rn_KV l D k z yX2_expireCopies cX2_expireCopies 3 3 75 [.ref a_this] [(a_this, .inr (2, [.ref a_this_stations, .ref a_this_links, .ref a_this_messages, .ref a_this_copies, .ref a_this_log, .ref a_this_ways, .ref a_this_frames, .int c_stationCount, .int c_linkCount, .int c_messageCount, .int c_time, .int c_life, .int c_tries, .int c_x])), (a_this_messages, .inr (4, [.int (24 : Int32), .int (12 : Int32), .ref a_this_messages_cells])), (a_this_messages_cells, .inl (k 0, 288, .inl c_messages)), (a_this_copies, .inr (4, [.int (192 : Int32), .int (5 : Int32), .ref a_this_copies_cells])), (a_this_copies_cells, .inl (k 0, 960, .inl c_copies)), (a_this_log, .inr (0, [.ref a_this_log_events, .int c_log_first, .int c_log_size])), (a_this_log_events, .inr (4, [.int (40 : Int32), .int (5 : Int32), .ref a_this_log_events_cells])), (a_this_log_events_cells, .inl (k 0, 200, .inl c_log_events))] [(a_this, .inr (2, [.ref a_this_stations, .ref a_this_links, .ref a_this_messages, .ref a_this_copies, .ref a_this_log, .ref a_this_ways, .ref a_this_frames, .int c_stationCount, .int c_linkCount, .int c_messageCount, .int c_time, .int c_life, .int c_tries, .int c_x])), (a_this_messages, .inr (4, [.int (24 : Int32), .int (12 : Int32), .ref a_this_messages_cells])), (a_this_messages_cells, .inl (k 0, 288, .inl u.1)), (a_this_copies, .inr (4, [.int (192 : Int32), .int (5 : Int32), .ref a_this_copies_cells])), (a_this_copies_cells, .inl (k 0, 960, .inl u.2.1)), (a_this_log, .inr (0, [.ref a_this_log_events, .int u.2.2.1, .int u.2.2.2.1])), (a_this_log_events, .inr (4, [.int (40 : Int32), .int (5 : Int32), .ref a_this_log_events_cells])), (a_this_log_events_cells, .inl (k 0, 200, .inl u.2.2.2.2))] := by
  refine rn_KV.go (LOC := [(0, .ref a_this)]) rfl (by decide) (Nat.le_of_ble_eq_true rfl) rfl ?_
  intro p e s m args below meth c A ls R Q X hR hE hW hl
  have hx := X.1.1
  have hb := X.1.2.1
  unfold fX2_expireCopies at hf
  refine lv_iconst (v := 0) hx hb dX2_expireCopies_0 (by decide) ?_
  refine lv_istore_n (lv' := [(1, .int (0 : Int32)), (0, .ref a_this)]) hx hb dX2_expireCopies_1 rfl hl (Nat.le_of_ble_eq_true rfl) rfl (fun ls hl => ?_)
  obtain ⟨t1, ht1, hf⟩ := rn_bind hf
  have kk_2 : ∀ (H : Heap) (locs : List Loc) (ls : Array Slot), rn_W D A s [(a_this, .inr (2, [.ref a_this_stations, .ref a_this_links, .ref a_this_messages, .ref a_this_copies, .ref a_this_log, .ref a_this_ways, .ref a_this_frames, .int c_stationCount, .int c_linkCount, .int c_messageCount, .int c_time, .int c_life, .int c_tries, .int c_x])), (a_this_messages, .inr (4, [.int (24 : Int32), .int (12 : Int32), .ref a_this_messages_cells])), (a_this_messages_cells, .inl (k 0, 288, .inl t1.1)), (a_this_copies, .inr (4, [.int (192 : Int32), .int (5 : Int32), .ref a_this_copies_cells])), (a_this_copies_cells, .inl (k 0, 960, .inl t1.2.1)), (a_this_log, .inr (0, [.ref a_this_log_events, .int t1.2.2.1, .int t1.2.2.2.1])), (a_this_log_events, .inr (4, [.int (40 : Int32), .int (5 : Int32), .ref a_this_log_events_cells])), (a_this_log_events_cells, .inl (k 0, 200, .inl t1.2.2.2.2))] H locs → lv_has ls 3 [] → W p l e R s m args below meth c H locs 0 0 Q (F0 m 72 ls []) := by
    intro H locs ls hW hl
    cases hf
    exact hE _ _ _ _ hW dX2_expireCopies_72
  clear hf
  have lp_2 : ∀ (n : Nat) (x1_2 : Int32) (y_messages_2 : Nat → Int32) (y_copies_2 : Nat → Int32) (y_log_first_2 : Int32) (y_log_size_2 : Int32) (y_log_events_2 : Nat → Int32) (H : Heap) (locs : List Loc) (ls : Array Slot), lX2_expireCopies_2 N c_stationCount c_messageCount c_time c_life n x1_2 y_messages_2 y_copies_2 y_log_first_2 y_log_size_2 y_log_events_2 = some t1 → rn_W D A s [(a_this, .inr (2, [.ref a_this_stations, .ref a_this_links, .ref a_this_messages, .ref a_this_copies, .ref a_this_log, .ref a_this_ways, .ref a_this_frames, .int c_stationCount, .int c_linkCount, .int c_messageCount, .int c_time, .int c_life, .int c_tries, .int c_x])), (a_this_messages, .inr (4, [.int (24 : Int32), .int (12 : Int32), .ref a_this_messages_cells])), (a_this_messages_cells, .inl (k 0, 288, .inl y_messages_2)), (a_this_copies, .inr (4, [.int (192 : Int32), .int (5 : Int32), .ref a_this_copies_cells])), (a_this_copies_cells, .inl (k 0, 960, .inl y_copies_2)), (a_this_log, .inr (0, [.ref a_this_log_events, .int y_log_first_2, .int y_log_size_2])), (a_this_log_events, .inr (4, [.int (40 : Int32), .int (5 : Int32), .ref a_this_log_events_cells])), (a_this_log_events_cells, .inl (k 0, 200, .inl y_log_events_2))] H locs → lv_has ls 3 [(0, .ref a_this), (1, .int x1_2)] → W p l e R s m args below meth c H locs 0 0 Q (F0 m 2 ls []) := by
    intro n
    induction n with
    | zero => intro x1_2 y_messages_2 y_copies_2 y_log_first_2 y_log_size_2 y_log_events_2 H locs ls hf; exact absurd hf (by rw [lX2_expireCopies_2]; exact fun h => nomatch h)
    | succ n ih_2 =>
      intro x1_2 y_messages_2 y_copies_2 y_log_first_2 y_log_size_2 y_log_events_2 H locs ls hf hW hl
      rw [lX2_expireCopies_2] at hf
      refine lv_iload_n hx hb dX2_expireCopies_2 rfl (lv_at hl 1 rfl) ?_
      refine lv_aload_n hx hb dX2_expireCopies_3 rfl (lv_at hl 0 rfl) ?_
      refine rr_get X hW 0 9 gf_X2_53 rfl rfl dX2_expireCopies_4 ?_
      refine lv_icmp_ge (tgt := 72) hx hb dX2_expireCopies_7 (by decide) (fun hc2 => ?_) (fun hc2 => ?_)
      · replace hf := rn_t hf hc2
        cases hf
        exact kk_2 _ _ _ hW (lv_sub hl [] rfl)
      · replace hf := rn_f hf hc2
        refine lv_aload_n hx hb dX2_expireCopies_10 rfl (lv_at hl 0 rfl) ?_
        refine rr_get X hW 0 10 gf_X2_56 rfl rfl dX2_expireCopies_11 ?_
        refine lv_aload_n hx hb dX2_expireCopies_14 rfl (lv_at hl 0 rfl) ?_
        refine rr_get X hW 0 2 gf_X2_23 rfl rfl dX2_expireCopies_15 ?_
        refine lv_iload_n hx hb dX2_expireCopies_18 rfl (lv_at hl 1 rfl) ?_
        refine lv_iconst (v := 3) hx hb dX2_expireCopies_19 (by decide) ?_
        obtain ⟨t3, ht3, hf⟩ := rn_bind hf
        refine rr_callI (As := [.int x1_2, .int (3 : Int32)]) (rest := [.int c_time]) X hW (kX4_get l D k z a_this_messages a_this_messages_cells (24 : Int32) (12 : Int32) 288 y_messages_2 x1_2 (3 : Int32) ht3) gm_X4_get gl_X2_105 [1, 2] [0, 3, 4, 5, 6, 7] [(a_this, .inr (2, [.ref a_this_stations, .ref a_this_links, .ref a_this_messages, .ref a_this_copies, .ref a_this_log, .ref a_this_ways, .ref a_this_frames, .int c_stationCount, .int c_linkCount, .int c_messageCount, .int c_time, .int c_life, .int c_tries, .int c_x])), (a_this_messages, .inr (4, [.int (24 : Int32), .int (12 : Int32), .ref a_this_messages_cells])), (a_this_messages_cells, .inl (k 0, 288, .inl y_messages_2)), (a_this_copies, .inr (4, [.int (192 : Int32), .int (5 : Int32), .ref a_this_copies_cells])), (a_this_copies_cells, .inl (k 0, 960, .inl y_copies_2)), (a_this_log, .inr (0, [.ref a_this_log_events, .int y_log_first_2, .int y_log_size_2])), (a_this_log_events, .inr (4, [.int (40 : Int32), .int (5 : Int32), .ref a_this_log_events_cells])), (a_this_log_events_cells, .inl (k 0, 200, .inl y_log_events_2))] rfl rfl rfl rfl ⟨rfl, rfl, rn_Bw (wr := [(a_this, .inr (2, [.ref a_this_stations, .ref a_this_links, .ref a_this_messages, .ref a_this_copies, .ref a_this_log, .ref a_this_ways, .ref a_this_frames, .int c_stationCount, .int c_linkCount, .int c_messageCount, .int c_time, .int c_life, .int c_tries, .int c_x])), (a_this_copies, .inr (4, [.int (192 : Int32), .int (5 : Int32), .ref a_this_copies_cells])), (a_this_copies_cells, .inl (k 0, 960, .inl y_copies_2)), (a_this_log, .inr (0, [.ref a_this_log_events, .int y_log_first_2, .int y_log_size_2])), (a_this_log_events, .inr (4, [.int (40 : Int32), .int (5 : Int32), .ref a_this_log_events_cells])), (a_this_log_events_cells, .inl (k 0, 200, .inl y_log_events_2))]) rfl rfl, rfl, rfl⟩ (rn_r hR rfl) rn_cs hl.1 rfl (Nat.le_of_ble_eq_true rfl) dX2_expireCopies_20 (fun hn3 H locs hW => ?_)
        refine lv_isub hx hb dX2_expireCopies_23 ?_
        refine lv_aload_n hx hb dX2_expireCopies_24 rfl (lv_at hl 0 rfl) ?_
        refine rr_get X hW 0 11 gf_X2_59 rfl rfl dX2_expireCopies_25 ?_
        refine lv_icmp_lt (tgt := 66) hx hb dX2_expireCopies_28 (by decide) (fun hc4 => ?_) (fun hc4 => ?_)
        · replace hf := rn_t hf hc4
          refine lv_iinc (v := (x1_2 + (1 : Int32))) (lv' := [(1, .int (x1_2 + (1 : Int32))), (0, .ref a_this)]) hx hb dX2_expireCopies_66 hl (k := 1) rfl (congrArg (fun q => _ + q) (by decide)) (Nat.le_of_ble_eq_true rfl) rfl (fun ls hl => ?_)
          refine lv_goto (tgt := 2) hx hb dX2_expireCopies_69 (by decide) ?_
          exact ih_2 (x1_2 + (1 : Int32)) y_messages_2 y_copies_2 y_log_first_2 y_log_size_2 y_log_events_2 _ _ _ hf hW (lv_sub hl [1, 0] rfl)
        · replace hf := rn_f hf hc4
          refine lv_iconst (v := 0) hx hb dX2_expireCopies_31 (by decide) ?_
          refine lv_istore_n (lv' := [(2, .int (0 : Int32)), (0, .ref a_this), (1, .int x1_2)]) hx hb dX2_expireCopies_32 rfl hl (Nat.le_of_ble_eq_true rfl) rfl (fun ls hl => ?_)
          obtain ⟨t5, ht5, hf⟩ := rn_bind hf
          have kk_33 : ∀ (H : Heap) (locs : List Loc) (ls : Array Slot), rn_W D A s [(a_this, .inr (2, [.ref a_this_stations, .ref a_this_links, .ref a_this_messages, .ref a_this_copies, .ref a_this_log, .ref a_this_ways, .ref a_this_frames, .int c_stationCount, .int c_linkCount, .int c_messageCount, .int c_time, .int c_life, .int c_tries, .int c_x])), (a_this_messages, .inr (4, [.int (24 : Int32), .int (12 : Int32), .ref a_this_messages_cells])), (a_this_messages_cells, .inl (k 0, 288, .inl t5.1)), (a_this_copies, .inr (4, [.int (192 : Int32), .int (5 : Int32), .ref a_this_copies_cells])), (a_this_copies_cells, .inl (k 0, 960, .inl t5.2.1)), (a_this_log, .inr (0, [.ref a_this_log_events, .int t5.2.2.1, .int t5.2.2.2.1])), (a_this_log_events, .inr (4, [.int (40 : Int32), .int (5 : Int32), .ref a_this_log_events_cells])), (a_this_log_events_cells, .inl (k 0, 200, .inl t5.2.2.2.2))] H locs → lv_has ls 3 [(0, .ref a_this), (1, .int x1_2)] → W p l e R s m args below meth c H locs 0 0 Q (F0 m 66 ls []) := by
            intro H locs ls hW hl
            refine lv_iinc (v := (x1_2 + (1 : Int32))) (lv' := [(1, .int (x1_2 + (1 : Int32))), (0, .ref a_this)]) hx hb dX2_expireCopies_66 hl (k := 1) rfl (congrArg (fun q => _ + q) (by decide)) (Nat.le_of_ble_eq_true rfl) rfl (fun ls hl => ?_)
            refine lv_goto (tgt := 2) hx hb dX2_expireCopies_69 (by decide) ?_
            exact ih_2 (x1_2 + (1 : Int32)) t5.1 t5.2.1 t5.2.2.1 t5.2.2.2.1 t5.2.2.2.2 _ _ _ hf hW (lv_sub hl [1, 0] rfl)
          clear hf
          have lp_33 : ∀ (n : Nat) (x2_33 : Int32) (y_messages_33 : Nat → Int32) (y_copies_33 : Nat → Int32) (y_log_first_33 : Int32) (y_log_size_33 : Int32) (y_log_events_33 : Nat → Int32) (H : Heap) (locs : List Loc) (ls : Array Slot), lX2_expireCopies_33 c_stationCount c_time x1_2 n x2_33 y_messages_33 y_copies_33 y_log_first_33 y_log_size_33 y_log_events_33 = some t5 → rn_W D A s [(a_this, .inr (2, [.ref a_this_stations, .ref a_this_links, .ref a_this_messages, .ref a_this_copies, .ref a_this_log, .ref a_this_ways, .ref a_this_frames, .int c_stationCount, .int c_linkCount, .int c_messageCount, .int c_time, .int c_life, .int c_tries, .int c_x])), (a_this_messages, .inr (4, [.int (24 : Int32), .int (12 : Int32), .ref a_this_messages_cells])), (a_this_messages_cells, .inl (k 0, 288, .inl y_messages_33)), (a_this_copies, .inr (4, [.int (192 : Int32), .int (5 : Int32), .ref a_this_copies_cells])), (a_this_copies_cells, .inl (k 0, 960, .inl y_copies_33)), (a_this_log, .inr (0, [.ref a_this_log_events, .int y_log_first_33, .int y_log_size_33])), (a_this_log_events, .inr (4, [.int (40 : Int32), .int (5 : Int32), .ref a_this_log_events_cells])), (a_this_log_events_cells, .inl (k 0, 200, .inl y_log_events_33))] H locs → lv_has ls 3 [(0, .ref a_this), (1, .int x1_2), (2, .int x2_33)] → W p l e R s m args below meth c H locs 0 0 Q (F0 m 33 ls []) := by
            intro n
            induction n with
            | zero => intro x2_33 y_messages_33 y_copies_33 y_log_first_33 y_log_size_33 y_log_events_33 H locs ls hf; exact absurd hf (by rw [lX2_expireCopies_33]; exact fun h => nomatch h)
            | succ n ih_33 =>
              intro x2_33 y_messages_33 y_copies_33 y_log_first_33 y_log_size_33 y_log_events_33 H locs ls hf hW hl
              rw [lX2_expireCopies_33] at hf
              refine lv_iload_n hx hb dX2_expireCopies_33 rfl (lv_at hl 2 rfl) ?_
              refine lv_aload_n hx hb dX2_expireCopies_34 rfl (lv_at hl 0 rfl) ?_
              refine rr_get X hW 0 7 gf_X2_46 rfl rfl dX2_expireCopies_35 ?_
              refine lv_icmp_ge (tgt := 66) hx hb dX2_expireCopies_38 (by decide) (fun hc6 => ?_) (fun hc6 => ?_)
              · replace hf := rn_t hf hc6
                cases hf
                exact kk_33 _ _ _ hW (lv_sub hl [0, 1] rfl)
              · replace hf := rn_f hf hc6
                refine lv_aload_n hx hb dX2_expireCopies_41 rfl (lv_at hl 0 rfl) ?_
                refine lv_iload_n hx hb dX2_expireCopies_42 rfl (lv_at hl 1 rfl) ?_
                refine lv_iload_n hx hb dX2_expireCopies_43 rfl (lv_at hl 2 rfl) ?_
                obtain ⟨t7, ht7, hf⟩ := rn_bind hf
                refine rr_callI (As := [.int x1_2, .int x2_33]) (rest := []) X hW (kX2_waits l D k z a_this a_this_stations a_this_links a_this_messages a_this_copies a_this_log a_this_ways a_this_frames a_this_copies_cells c_stationCount c_linkCount c_messageCount c_time c_life c_tries c_x y_copies_33 x1_2 x2_33 ht7) gm_X2_waits gl_X2_167 [0, 3, 4] [1, 2, 5, 6, 7] [(a_this, .inr (2, [.ref a_this_stations, .ref a_this_links, .ref a_this_messages, .ref a_this_copies, .ref a_this_log, .ref a_this_ways, .ref a_this_frames, .int c_stationCount, .int c_linkCount, .int c_messageCount, .int c_time, .int c_life, .int c_tries, .int c_x])), (a_this_messages, .inr (4, [.int (24 : Int32), .int (12 : Int32), .ref a_this_messages_cells])), (a_this_messages_cells, .inl (k 0, 288, .inl y_messages_33)), (a_this_copies, .inr (4, [.int (192 : Int32), .int (5 : Int32), .ref a_this_copies_cells])), (a_this_copies_cells, .inl (k 0, 960, .inl y_copies_33)), (a_this_log, .inr (0, [.ref a_this_log_events, .int y_log_first_33, .int y_log_size_33])), (a_this_log_events, .inr (4, [.int (40 : Int32), .int (5 : Int32), .ref a_this_log_events_cells])), (a_this_log_events_cells, .inl (k 0, 200, .inl y_log_events_33))] rfl rfl rfl rfl ⟨rfl, rfl, rn_Bw (wr := [(a_this_messages, .inr (4, [.int (24 : Int32), .int (12 : Int32), .ref a_this_messages_cells])), (a_this_messages_cells, .inl (k 0, 288, .inl y_messages_33)), (a_this_log, .inr (0, [.ref a_this_log_events, .int y_log_first_33, .int y_log_size_33])), (a_this_log_events, .inr (4, [.int (40 : Int32), .int (5 : Int32), .ref a_this_log_events_cells])), (a_this_log_events_cells, .inl (k 0, 200, .inl y_log_events_33))]) rfl rfl, rfl, rfl⟩ (rn_r hR rfl) rn_cs hl.1 rfl (Nat.le_of_ble_eq_true rfl) dX2_expireCopies_44 (fun hn7 H locs hW => ?_)
                refine lv_if_eq (tgt := 60) hx hb dX2_expireCopies_47 (by decide) (fun hc8 => ?_) (fun hc8 => ?_)
                · replace hf := rn_t hf hc8
                  refine lv_iinc (v := (x2_33 + (1 : Int32))) (lv' := [(2, .int (x2_33 + (1 : Int32))), (0, .ref a_this), (1, .int x1_2)]) hx hb dX2_expireCopies_60 hl (k := 2) rfl (congrArg (fun q => _ + q) (by decide)) (Nat.le_of_ble_eq_true rfl) rfl (fun ls hl => ?_)
                  refine lv_goto (tgt := 33) hx hb dX2_expireCopies_63 (by decide) ?_
                  exact ih_33 (x2_33 + (1 : Int32)) y_messages_33 y_copies_33 y_log_first_33 y_log_size_33 y_log_events_33 _ _ _ hf hW (lv_sub hl [1, 2, 0] rfl)
                · replace hf := rn_f hf hc8
                  refine lv_aload_n hx hb dX2_expireCopies_50 rfl (lv_at hl 0 rfl) ?_
                  refine lv_iload_n hx hb dX2_expireCopies_51 rfl (lv_at hl 1 rfl) ?_
                  refine lv_iload_n hx hb dX2_expireCopies_52 rfl (lv_at hl 2 rfl) ?_
                  refine lv_iconst (v := -1) hx hb dX2_expireCopies_53 (by decide) ?_
                  refine lv_iconst (v := 4) hx hb dX2_expireCopies_54 (by decide) ?_
                  refine lv_bipush (v := 7) hx hb dX2_expireCopies_55 (by decide) ?_
                  obtain ⟨t9, ht9, hf⟩ := rn_bind hf
                  refine rr_callV (As := [.int x1_2, .int x2_33, .int (-1 : Int32), .int (4 : Int32), .int (7 : Int32)]) (rest := []) X hW (kX2_endCopy l D k z a_this a_this_stations a_this_links a_this_messages a_this_copies a_this_log a_this_ways a_this_frames a_this_messages_cells a_this_copies_cells a_this_log_events a_this_log_events_cells c_stationCount c_linkCount c_messageCount c_time c_life c_tries c_x y_messages_33 y_copies_33 y_log_first_33 y_log_size_33 y_log_events_33 x1_2 x2_33 (-1 : Int32) (4 : Int32) (7 : Int32) ht9) gm_X2_endCopy gl_X2_170 [0, 1, 2, 3, 4, 5, 6, 7] [] [(a_this, .inr (2, [.ref a_this_stations, .ref a_this_links, .ref a_this_messages, .ref a_this_copies, .ref a_this_log, .ref a_this_ways, .ref a_this_frames, .int c_stationCount, .int c_linkCount, .int c_messageCount, .int c_time, .int c_life, .int c_tries, .int c_x])), (a_this_messages, .inr (4, [.int (24 : Int32), .int (12 : Int32), .ref a_this_messages_cells])), (a_this_messages_cells, .inl (k 0, 288, .inl t9.1)), (a_this_copies, .inr (4, [.int (192 : Int32), .int (5 : Int32), .ref a_this_copies_cells])), (a_this_copies_cells, .inl (k 0, 960, .inl t9.2.1)), (a_this_log, .inr (0, [.ref a_this_log_events, .int t9.2.2.1, .int t9.2.2.2.1])), (a_this_log_events, .inr (4, [.int (40 : Int32), .int (5 : Int32), .ref a_this_log_events_cells])), (a_this_log_events_cells, .inl (k 0, 200, .inl t9.2.2.2.2))] rfl rfl rfl rfl ⟨rfl, rfl, rfl, rfl, rfl⟩ (rn_r hR rfl) rn_cs hl.1 rfl (Nat.le_of_ble_eq_true rfl) dX2_expireCopies_57 (fun H locs hW => ?_)
                  refine lv_iinc (v := (x2_33 + (1 : Int32))) (lv' := [(2, .int (x2_33 + (1 : Int32))), (0, .ref a_this), (1, .int x1_2)]) hx hb dX2_expireCopies_60 hl (k := 2) rfl (congrArg (fun q => _ + q) (by decide)) (Nat.le_of_ble_eq_true rfl) rfl (fun ls hl => ?_)
                  refine lv_goto (tgt := 33) hx hb dX2_expireCopies_63 (by decide) ?_
                  exact ih_33 (x2_33 + (1 : Int32)) t9.1 t9.2.1 t9.2.2.1 t9.2.2.2.1 t9.2.2.2.2 _ _ _ hf hW (lv_sub hl [1, 2, 0] rfl)
          exact lp_33 N (0 : Int32) y_messages_2 y_copies_2 y_log_first_2 y_log_size_2 y_log_events_2 _ _ _ ht5 hW (lv_sub hl [1, 2, 0] rfl)
  exact lp_2 N (0 : Int32) c_messages c_copies c_log_first c_log_size c_log_events _ _ _ ht1 hW (lv_sub hl [1, 0] rfl)
def fX2_draw (c_x : Int32) : Option (Int32 × Int32) :=
  rn_let (rn_rem (((1103 : Int32) * c_x) + (12345 : Int32)) (1000003 : Int32)) fun v1 =>
  some ((rn_rem v1 (100 : Int32)), v1)
set_option maxHeartbeats 4000000 in
set_option maxRecDepth 20000 in
theorem kX2_draw (l : Launch) (D : va_G) (k : Nat → ClassId) (z : (Nat → Nat) × (Nat → Nat)) (a_this : Nat) (a_this_stations : Nat) (a_this_links : Nat) (a_this_messages : Nat) (a_this_copies : Nat) (a_this_log : Nat) (a_this_ways : Nat) (a_this_frames : Nat) (c_stationCount : Int32) (c_linkCount : Int32) (c_messageCount : Int32) (c_time : Int32) (c_life : Int32) (c_tries : Int32) (c_x : Int32) {u : Int32 × Int32} (hf : fX2_draw c_x = some u) : rn_KI l D k z yX2_draw cX2_draw 1 .int 0 0 [.ref a_this] [(a_this, .inr (2, [.ref a_this_stations, .ref a_this_links, .ref a_this_messages, .ref a_this_copies, .ref a_this_log, .ref a_this_ways, .ref a_this_frames, .int c_stationCount, .int c_linkCount, .int c_messageCount, .int c_time, .int c_life, .int c_tries, .int c_x]))] [(a_this, .inr (2, [.ref a_this_stations, .ref a_this_links, .ref a_this_messages, .ref a_this_copies, .ref a_this_log, .ref a_this_ways, .ref a_this_frames, .int c_stationCount, .int c_linkCount, .int c_messageCount, .int c_time, .int c_life, .int c_tries, .int u.2]))] u.1 := by
  refine rn_KI.go (LOC := [(0, .ref a_this)]) rfl (by decide) (Nat.le_of_ble_eq_true rfl) rfl ?_
  intro p e s m args below meth c A ls R Q X hR hE hW hl
  have hx := X.1.1
  have hb := X.1.2.1
  unfold fX2_draw at hf
  refine lv_aload_n hx hb dX2_draw_0 rfl (lv_at hl 0 rfl) ?_
  refine lv_sipush (v := 1103) hx hb dX2_draw_1 (by decide) ?_
  refine lv_aload_n hx hb dX2_draw_4 rfl (lv_at hl 0 rfl) ?_
  refine rr_get X hW 0 13 gf_X2_65 rfl rfl dX2_draw_5 ?_
  refine lv_imul hx hb dX2_draw_8 ?_
  refine lv_sipush (v := 12345) hx hb dX2_draw_9 (by decide) ?_
  refine lv_iadd hx hb dX2_draw_12 ?_
  refine rr_ldc X gk_X2_200 dX2_draw_13 ?_
  refine rr_irem hx hb dX2_draw_15 (by decide) ?_
  obtain ⟨v1, hv1, hf⟩ := rn_let_s hf
  refine rn_topi hv1 ?_
  refine rr_put X hW 0 13 gp_X2_65 rfl rfl rfl (Nat.le_of_ble_eq_true rfl) (ws' := [(a_this, .inr (2, [.ref a_this_stations, .ref a_this_links, .ref a_this_messages, .ref a_this_copies, .ref a_this_log, .ref a_this_ways, .ref a_this_frames, .int c_stationCount, .int c_linkCount, .int c_messageCount, .int c_time, .int c_life, .int c_tries, .int v1]))]) rfl dX2_draw_16 (fun H locs hW => ?_)
  refine lv_aload_n hx hb dX2_draw_19 rfl (lv_at hl 0 rfl) ?_
  refine rr_get X hW 0 13 gf_X2_65 rfl rfl dX2_draw_20 ?_
  refine lv_bipush (v := 100) hx hb dX2_draw_23 (by decide) ?_
  refine rr_irem hx hb dX2_draw_25 (by decide) ?_
  cases hf
  exact hE _ _ _ _ hW rfl dX2_draw_26
def fX2_addTry (c_time : Int32) (c_tries : Int32) (c_messages : Nat → Int32) (c_copies : Nat → Int32) (c_log_first : Int32) (c_log_size : Int32) (c_log_events : Nat → Int32) (i1 : Int32) (i2 : Int32) (i3 : Int32) : Option ((Nat → Int32) × (Nat → Int32) × Int32 × Int32 × (Nat → Int32)) :=
  (fX2_copyRow i1 i2).bind fun t1 =>
  (fX4_add (192 : Int32) (5 : Int32) 960 c_copies t1 (1 : Int32) (1 : Int32)).bind fun t2 =>
  (fX4_get (192 : Int32) (5 : Int32) 960 t2 t1 (1 : Int32)).bind fun t3 =>
  if t3 < c_tries then
    some (c_messages, t2, c_log_first, c_log_size, c_log_events)
  else
  (fX2_endCopy c_time c_messages t2 c_log_first c_log_size c_log_events i1 i2 i3 (3 : Int32) (6 : Int32)).bind fun t5 =>
  some (t5.1, t5.2.1, t5.2.2.1, t5.2.2.2.1, t5.2.2.2.2)
set_option maxHeartbeats 4000000 in
set_option maxRecDepth 20000 in
theorem kX2_addTry (l : Launch) (D : va_G) (k : Nat → ClassId) (z : (Nat → Nat) × (Nat → Nat)) (a_this : Nat) (a_this_stations : Nat) (a_this_links : Nat) (a_this_messages : Nat) (a_this_copies : Nat) (a_this_log : Nat) (a_this_ways : Nat) (a_this_frames : Nat) (a_this_messages_cells : Nat) (a_this_copies_cells : Nat) (a_this_log_events : Nat) (a_this_log_events_cells : Nat) (c_stationCount : Int32) (c_linkCount : Int32) (c_messageCount : Int32) (c_time : Int32) (c_life : Int32) (c_tries : Int32) (c_x : Int32) (c_messages : Nat → Int32) (c_copies : Nat → Int32) (c_log_first : Int32) (c_log_size : Int32) (c_log_events : Nat → Int32) (i1 : Int32) (i2 : Int32) (i3 : Int32) {u : (Nat → Int32) × (Nat → Int32) × Int32 × Int32 × (Nat → Int32)} (hf : fX2_addTry c_time c_tries c_messages c_copies c_log_first c_log_size c_log_events i1 i2 i3 = some u) : rn_KV l D k z yX2_addTry cX2_addTry 5 3 75 [.ref a_this, .int i1, .int i2, .int i3] [(a_this, .inr (2, [.ref a_this_stations, .ref a_this_links, .ref a_this_messages, .ref a_this_copies, .ref a_this_log, .ref a_this_ways, .ref a_this_frames, .int c_stationCount, .int c_linkCount, .int c_messageCount, .int c_time, .int c_life, .int c_tries, .int c_x])), (a_this_messages, .inr (4, [.int (24 : Int32), .int (12 : Int32), .ref a_this_messages_cells])), (a_this_messages_cells, .inl (k 0, 288, .inl c_messages)), (a_this_copies, .inr (4, [.int (192 : Int32), .int (5 : Int32), .ref a_this_copies_cells])), (a_this_copies_cells, .inl (k 0, 960, .inl c_copies)), (a_this_log, .inr (0, [.ref a_this_log_events, .int c_log_first, .int c_log_size])), (a_this_log_events, .inr (4, [.int (40 : Int32), .int (5 : Int32), .ref a_this_log_events_cells])), (a_this_log_events_cells, .inl (k 0, 200, .inl c_log_events))] [(a_this, .inr (2, [.ref a_this_stations, .ref a_this_links, .ref a_this_messages, .ref a_this_copies, .ref a_this_log, .ref a_this_ways, .ref a_this_frames, .int c_stationCount, .int c_linkCount, .int c_messageCount, .int c_time, .int c_life, .int c_tries, .int c_x])), (a_this_messages, .inr (4, [.int (24 : Int32), .int (12 : Int32), .ref a_this_messages_cells])), (a_this_messages_cells, .inl (k 0, 288, .inl u.1)), (a_this_copies, .inr (4, [.int (192 : Int32), .int (5 : Int32), .ref a_this_copies_cells])), (a_this_copies_cells, .inl (k 0, 960, .inl u.2.1)), (a_this_log, .inr (0, [.ref a_this_log_events, .int u.2.2.1, .int u.2.2.2.1])), (a_this_log_events, .inr (4, [.int (40 : Int32), .int (5 : Int32), .ref a_this_log_events_cells])), (a_this_log_events_cells, .inl (k 0, 200, .inl u.2.2.2.2))] := by
  refine rn_KV.go (LOC := [(0, .ref a_this), (1, .int i1), (2, .int i2), (3, .int i3)]) rfl (by decide) (Nat.le_of_ble_eq_true rfl) rfl ?_
  intro p e s m args below meth c A ls R Q X hR hE hW hl
  have hx := X.1.1
  have hb := X.1.2.1
  unfold fX2_addTry at hf
  refine lv_iload_n hx hb dX2_addTry_0 rfl (lv_at hl 1 rfl) ?_
  refine lv_iload_n hx hb dX2_addTry_1 rfl (lv_at hl 2 rfl) ?_
  obtain ⟨t1, ht1, hf⟩ := rn_bind hf
  refine rr_scalI (As := [.int i1, .int i2]) (rest := []) X hW (kX2_copyRow l D k z i1 i2 ht1) gm_X2_copyRow gl_X2_98 [] [0, 1, 2, 3, 4, 5, 6, 7] [(a_this, .inr (2, [.ref a_this_stations, .ref a_this_links, .ref a_this_messages, .ref a_this_copies, .ref a_this_log, .ref a_this_ways, .ref a_this_frames, .int c_stationCount, .int c_linkCount, .int c_messageCount, .int c_time, .int c_life, .int c_tries, .int c_x])), (a_this_messages, .inr (4, [.int (24 : Int32), .int (12 : Int32), .ref a_this_messages_cells])), (a_this_messages_cells, .inl (k 0, 288, .inl c_messages)), (a_this_copies, .inr (4, [.int (192 : Int32), .int (5 : Int32), .ref a_this_copies_cells])), (a_this_copies_cells, .inl (k 0, 960, .inl c_copies)), (a_this_log, .inr (0, [.ref a_this_log_events, .int c_log_first, .int c_log_size])), (a_this_log_events, .inr (4, [.int (40 : Int32), .int (5 : Int32), .ref a_this_log_events_cells])), (a_this_log_events_cells, .inl (k 0, 200, .inl c_log_events))] rfl rfl ⟨rfl, rfl, rn_Bw (wr := [(a_this, .inr (2, [.ref a_this_stations, .ref a_this_links, .ref a_this_messages, .ref a_this_copies, .ref a_this_log, .ref a_this_ways, .ref a_this_frames, .int c_stationCount, .int c_linkCount, .int c_messageCount, .int c_time, .int c_life, .int c_tries, .int c_x])), (a_this_messages, .inr (4, [.int (24 : Int32), .int (12 : Int32), .ref a_this_messages_cells])), (a_this_messages_cells, .inl (k 0, 288, .inl c_messages)), (a_this_copies, .inr (4, [.int (192 : Int32), .int (5 : Int32), .ref a_this_copies_cells])), (a_this_copies_cells, .inl (k 0, 960, .inl c_copies)), (a_this_log, .inr (0, [.ref a_this_log_events, .int c_log_first, .int c_log_size])), (a_this_log_events, .inr (4, [.int (40 : Int32), .int (5 : Int32), .ref a_this_log_events_cells])), (a_this_log_events_cells, .inl (k 0, 200, .inl c_log_events))]) rfl rfl, rfl, rfl⟩ (rn_r hR rfl) rn_cs hl.1 rfl (Nat.le_of_ble_eq_true rfl) dX2_addTry_2 (fun hn1 H locs hW => ?_)
  refine lv_istore (lv' := [(4, .int t1), (0, .ref a_this), (1, .int i1), (2, .int i2), (3, .int i3)]) hx hb dX2_addTry_5 hl (Nat.le_of_ble_eq_true rfl) rfl (fun ls hl => ?_)
  refine lv_aload_n hx hb dX2_addTry_7 rfl (lv_at hl 1 rfl) ?_
  refine rr_get X hW 0 3 gf_X2_26 rfl rfl dX2_addTry_8 ?_
  refine lv_iload hx hb dX2_addTry_11 (lv_at hl 0 rfl) ?_
  refine lv_iconst (v := 1) hx hb dX2_addTry_13 (by decide) ?_
  refine lv_iconst (v := 1) hx hb dX2_addTry_14 (by decide) ?_
  obtain ⟨t2, ht2, hf⟩ := rn_bind hf
  refine rr_callV (As := [.int t1, .int (1 : Int32), .int (1 : Int32)]) (rest := []) X hW (kX4_add l D k z a_this_copies a_this_copies_cells (192 : Int32) (5 : Int32) 960 c_copies t1 (1 : Int32) (1 : Int32) ht2) gm_X4_add gl_X2_189 [3, 4] [0, 1, 2, 5, 6, 7] [(a_this, .inr (2, [.ref a_this_stations, .ref a_this_links, .ref a_this_messages, .ref a_this_copies, .ref a_this_log, .ref a_this_ways, .ref a_this_frames, .int c_stationCount, .int c_linkCount, .int c_messageCount, .int c_time, .int c_life, .int c_tries, .int c_x])), (a_this_messages, .inr (4, [.int (24 : Int32), .int (12 : Int32), .ref a_this_messages_cells])), (a_this_messages_cells, .inl (k 0, 288, .inl c_messages)), (a_this_copies, .inr (4, [.int (192 : Int32), .int (5 : Int32), .ref a_this_copies_cells])), (a_this_copies_cells, .inl (k 0, 960, .inl t2)), (a_this_log, .inr (0, [.ref a_this_log_events, .int c_log_first, .int c_log_size])), (a_this_log_events, .inr (4, [.int (40 : Int32), .int (5 : Int32), .ref a_this_log_events_cells])), (a_this_log_events_cells, .inl (k 0, 200, .inl c_log_events))] rfl rfl rfl rfl ⟨rfl, rfl, rn_Bw (wr := [(a_this, .inr (2, [.ref a_this_stations, .ref a_this_links, .ref a_this_messages, .ref a_this_copies, .ref a_this_log, .ref a_this_ways, .ref a_this_frames, .int c_stationCount, .int c_linkCount, .int c_messageCount, .int c_time, .int c_life, .int c_tries, .int c_x])), (a_this_messages, .inr (4, [.int (24 : Int32), .int (12 : Int32), .ref a_this_messages_cells])), (a_this_messages_cells, .inl (k 0, 288, .inl c_messages)), (a_this_log, .inr (0, [.ref a_this_log_events, .int c_log_first, .int c_log_size])), (a_this_log_events, .inr (4, [.int (40 : Int32), .int (5 : Int32), .ref a_this_log_events_cells])), (a_this_log_events_cells, .inl (k 0, 200, .inl c_log_events))]) rfl rfl, rfl, rfl⟩ (rn_r hR rfl) rn_cs hl.1 rfl (Nat.le_of_ble_eq_true rfl) dX2_addTry_15 (fun H locs hW => ?_)
  refine lv_aload_n hx hb dX2_addTry_18 rfl (lv_at hl 1 rfl) ?_
  refine rr_get X hW 0 3 gf_X2_26 rfl rfl dX2_addTry_19 ?_
  refine lv_iload hx hb dX2_addTry_22 (lv_at hl 0 rfl) ?_
  refine lv_iconst (v := 1) hx hb dX2_addTry_24 (by decide) ?_
  obtain ⟨t3, ht3, hf⟩ := rn_bind hf
  refine rr_callI (As := [.int t1, .int (1 : Int32)]) (rest := []) X hW (kX4_get l D k z a_this_copies a_this_copies_cells (192 : Int32) (5 : Int32) 960 t2 t1 (1 : Int32) ht3) gm_X4_get gl_X2_105 [3, 4] [0, 1, 2, 5, 6, 7] [(a_this, .inr (2, [.ref a_this_stations, .ref a_this_links, .ref a_this_messages, .ref a_this_copies, .ref a_this_log, .ref a_this_ways, .ref a_this_frames, .int c_stationCount, .int c_linkCount, .int c_messageCount, .int c_time, .int c_life, .int c_tries, .int c_x])), (a_this_messages, .inr (4, [.int (24 : Int32), .int (12 : Int32), .ref a_this_messages_cells])), (a_this_messages_cells, .inl (k 0, 288, .inl c_messages)), (a_this_copies, .inr (4, [.int (192 : Int32), .int (5 : Int32), .ref a_this_copies_cells])), (a_this_copies_cells, .inl (k 0, 960, .inl t2)), (a_this_log, .inr (0, [.ref a_this_log_events, .int c_log_first, .int c_log_size])), (a_this_log_events, .inr (4, [.int (40 : Int32), .int (5 : Int32), .ref a_this_log_events_cells])), (a_this_log_events_cells, .inl (k 0, 200, .inl c_log_events))] rfl rfl rfl rfl ⟨rfl, rfl, rn_Bw (wr := [(a_this, .inr (2, [.ref a_this_stations, .ref a_this_links, .ref a_this_messages, .ref a_this_copies, .ref a_this_log, .ref a_this_ways, .ref a_this_frames, .int c_stationCount, .int c_linkCount, .int c_messageCount, .int c_time, .int c_life, .int c_tries, .int c_x])), (a_this_messages, .inr (4, [.int (24 : Int32), .int (12 : Int32), .ref a_this_messages_cells])), (a_this_messages_cells, .inl (k 0, 288, .inl c_messages)), (a_this_log, .inr (0, [.ref a_this_log_events, .int c_log_first, .int c_log_size])), (a_this_log_events, .inr (4, [.int (40 : Int32), .int (5 : Int32), .ref a_this_log_events_cells])), (a_this_log_events_cells, .inl (k 0, 200, .inl c_log_events))]) rfl rfl, rfl, rfl⟩ (rn_r hR rfl) rn_cs hl.1 rfl (Nat.le_of_ble_eq_true rfl) dX2_addTry_25 (fun hn3 H locs hW => ?_)
  refine lv_aload_n hx hb dX2_addTry_28 rfl (lv_at hl 1 rfl) ?_
  refine rr_get X hW 0 12 gf_X2_62 rfl rfl dX2_addTry_29 ?_
  refine lv_icmp_lt (tgt := 45) hx hb dX2_addTry_32 (by decide) (fun hc4 => ?_) (fun hc4 => ?_)
  · replace hf := rn_t hf hc4
    cases hf
    exact hE _ _ _ _ hW dX2_addTry_45
  · replace hf := rn_f hf hc4
    refine lv_aload_n hx hb dX2_addTry_35 rfl (lv_at hl 1 rfl) ?_
    refine lv_iload_n hx hb dX2_addTry_36 rfl (lv_at hl 2 rfl) ?_
    refine lv_iload_n hx hb dX2_addTry_37 rfl (lv_at hl 3 rfl) ?_
    refine lv_iload_n hx hb dX2_addTry_38 rfl (lv_at hl 4 rfl) ?_
    refine lv_iconst (v := 3) hx hb dX2_addTry_39 (by decide) ?_
    refine lv_bipush (v := 6) hx hb dX2_addTry_40 (by decide) ?_
    obtain ⟨t5, ht5, hf⟩ := rn_bind hf
    refine rr_callV (As := [.int i1, .int i2, .int i3, .int (3 : Int32), .int (6 : Int32)]) (rest := []) X hW (kX2_endCopy l D k z a_this a_this_stations a_this_links a_this_messages a_this_copies a_this_log a_this_ways a_this_frames a_this_messages_cells a_this_copies_cells a_this_log_events a_this_log_events_cells c_stationCount c_linkCount c_messageCount c_time c_life c_tries c_x c_messages t2 c_log_first c_log_size c_log_events i1 i2 i3 (3 : Int32) (6 : Int32) ht5) gm_X2_endCopy gl_X2_170 [0, 1, 2, 3, 4, 5, 6, 7] [] [(a_this, .inr (2, [.ref a_this_stations, .ref a_this_links, .ref a_this_messages, .ref a_this_copies, .ref a_this_log, .ref a_this_ways, .ref a_this_frames, .int c_stationCount, .int c_linkCount, .int c_messageCount, .int c_time, .int c_life, .int c_tries, .int c_x])), (a_this_messages, .inr (4, [.int (24 : Int32), .int (12 : Int32), .ref a_this_messages_cells])), (a_this_messages_cells, .inl (k 0, 288, .inl t5.1)), (a_this_copies, .inr (4, [.int (192 : Int32), .int (5 : Int32), .ref a_this_copies_cells])), (a_this_copies_cells, .inl (k 0, 960, .inl t5.2.1)), (a_this_log, .inr (0, [.ref a_this_log_events, .int t5.2.2.1, .int t5.2.2.2.1])), (a_this_log_events, .inr (4, [.int (40 : Int32), .int (5 : Int32), .ref a_this_log_events_cells])), (a_this_log_events_cells, .inl (k 0, 200, .inl t5.2.2.2.2))] rfl rfl rfl rfl ⟨rfl, rfl, rfl, rfl, rfl⟩ (rn_r hR rfl) rn_cs hl.1 rfl (Nat.le_of_ble_eq_true rfl) dX2_addTry_42 (fun H locs hW => ?_)
    cases hf
    exact hE _ _ _ _ hW dX2_addTry_45
def fX2_takeFrame (c_time : Int32) (c_stations : Nat → Int32) (c_messages : Nat → Int32) (c_copies : Nat → Int32) (c_log_first : Int32) (c_log_size : Int32) (c_log_events : Nat → Int32) (i1 : Int32) (i2 : Int32) (i3 : Int32) : Option ((Nat → Int32) × (Nat → Int32) × (Nat → Int32) × Int32 × Int32 × (Nat → Int32)) :=
  (fX4_add (8 : Int32) (10 : Int32) 80 c_stations i3 (6 : Int32) (1 : Int32)).bind fun t1 =>
  (fX2_copyRow i1 i3).bind fun t2 =>
  (fX4_get (192 : Int32) (5 : Int32) 960 c_copies t2 (0 : Int32)).bind fun t3 =>
  if t3 = 0 then
    (fX2_copyRow i1 i2).bind fun t5 =>
    (fX4_get (192 : Int32) (5 : Int32) 960 c_copies t5 (3 : Int32)).bind fun t6 =>
    (fX4_get (24 : Int32) (12 : Int32) 288 c_messages i1 (1 : Int32)).bind fun t7 =>
    Option.bind (
      if t7 = i3 then
        some (1 : Int32)
      else
      some (0 : Int32)
      ) fun t8 =>
    Option.bind (
      if t8 = 0 then
        some (1 : Int32)
      else
      some (5 : Int32)
      ) fun t10 =>
    (fX4_set (192 : Int32) (5 : Int32) 960 c_copies t2 (0 : Int32) t10).bind fun t12 =>
    (fX4_set (192 : Int32) (5 : Int32) 960 t12 t2 (1 : Int32) (0 : Int32)).bind fun t13 =>
    (fX4_set (192 : Int32) (5 : Int32) 960 t13 t2 (2 : Int32) (c_time + (1 : Int32))).bind fun t14 =>
    (fX4_set (192 : Int32) (5 : Int32) 960 t14 t2 (3 : Int32) (t6 + (1 : Int32))).bind fun t15 =>
    (fX4_get (192 : Int32) (5 : Int32) 960 t15 t5 (4 : Int32)).bind fun t16 =>
    (fX4_set (192 : Int32) (5 : Int32) 960 t15 t2 (4 : Int32) (t16 ||| (i3 <<< ((t6 * (3 : Int32)) &&& (31 : Int32))))).bind fun t17 =>
    if t8 = 0 then
      some (t1, c_messages, t17, c_log_first, c_log_size, c_log_events)
    else
    (fX4_set (24 : Int32) (12 : Int32) 288 c_messages i1 (5 : Int32) (c_time + (1 : Int32))).bind fun t19 =>
    (fX4_set (24 : Int32) (12 : Int32) 288 t19 i1 (6 : Int32) t6).bind fun t20 =>
    (fX4_add (8 : Int32) (10 : Int32) 80 t1 i3 (8 : Int32) (1 : Int32)).bind fun t21 =>
    (fX0_add c_log_first c_log_size c_log_events c_time (5 : Int32) i1 i3 i2).bind fun t22 =>
    some (t21, t20, t17, t22.1, t22.2.1, t22.2.2)
  else
  (fX4_add (8 : Int32) (10 : Int32) 80 t1 i3 (7 : Int32) (1 : Int32)).bind fun t23 =>
  (fX4_add (24 : Int32) (12 : Int32) 288 c_messages i1 (8 : Int32) (1 : Int32)).bind fun t24 =>
  (fX0_add c_log_first c_log_size c_log_events c_time (4 : Int32) i1 i3 i2).bind fun t25 =>
  some (t23, t24, c_copies, t25.1, t25.2.1, t25.2.2)
set_option maxHeartbeats 4000000 in
set_option maxRecDepth 20000 in
theorem kX2_takeFrame (l : Launch) (D : va_G) (k : Nat → ClassId) (z : (Nat → Nat) × (Nat → Nat)) (a_this : Nat) (a_this_stations : Nat) (a_this_links : Nat) (a_this_messages : Nat) (a_this_copies : Nat) (a_this_log : Nat) (a_this_ways : Nat) (a_this_frames : Nat) (a_this_stations_cells : Nat) (a_this_messages_cells : Nat) (a_this_copies_cells : Nat) (a_this_log_events : Nat) (a_this_log_events_cells : Nat) (c_stationCount : Int32) (c_linkCount : Int32) (c_messageCount : Int32) (c_time : Int32) (c_life : Int32) (c_tries : Int32) (c_x : Int32) (c_stations : Nat → Int32) (c_messages : Nat → Int32) (c_copies : Nat → Int32) (c_log_first : Int32) (c_log_size : Int32) (c_log_events : Nat → Int32) (i1 : Int32) (i2 : Int32) (i3 : Int32) {u : (Nat → Int32) × (Nat → Int32) × (Nat → Int32) × Int32 × Int32 × (Nat → Int32)} (hf : fX2_takeFrame c_time c_stations c_messages c_copies c_log_first c_log_size c_log_events i1 i2 i3 = some u) : rn_KV l D k z yX2_takeFrame cX2_takeFrame 8 2 50 [.ref a_this, .int i1, .int i2, .int i3] [(a_this, .inr (2, [.ref a_this_stations, .ref a_this_links, .ref a_this_messages, .ref a_this_copies, .ref a_this_log, .ref a_this_ways, .ref a_this_frames, .int c_stationCount, .int c_linkCount, .int c_messageCount, .int c_time, .int c_life, .int c_tries, .int c_x])), (a_this_stations, .inr (4, [.int (8 : Int32), .int (10 : Int32), .ref a_this_stations_cells])), (a_this_stations_cells, .inl (k 0, 80, .inl c_stations)), (a_this_messages, .inr (4, [.int (24 : Int32), .int (12 : Int32), .ref a_this_messages_cells])), (a_this_messages_cells, .inl (k 0, 288, .inl c_messages)), (a_this_copies, .inr (4, [.int (192 : Int32), .int (5 : Int32), .ref a_this_copies_cells])), (a_this_copies_cells, .inl (k 0, 960, .inl c_copies)), (a_this_log, .inr (0, [.ref a_this_log_events, .int c_log_first, .int c_log_size])), (a_this_log_events, .inr (4, [.int (40 : Int32), .int (5 : Int32), .ref a_this_log_events_cells])), (a_this_log_events_cells, .inl (k 0, 200, .inl c_log_events))] [(a_this, .inr (2, [.ref a_this_stations, .ref a_this_links, .ref a_this_messages, .ref a_this_copies, .ref a_this_log, .ref a_this_ways, .ref a_this_frames, .int c_stationCount, .int c_linkCount, .int c_messageCount, .int c_time, .int c_life, .int c_tries, .int c_x])), (a_this_stations, .inr (4, [.int (8 : Int32), .int (10 : Int32), .ref a_this_stations_cells])), (a_this_stations_cells, .inl (k 0, 80, .inl u.1)), (a_this_messages, .inr (4, [.int (24 : Int32), .int (12 : Int32), .ref a_this_messages_cells])), (a_this_messages_cells, .inl (k 0, 288, .inl u.2.1)), (a_this_copies, .inr (4, [.int (192 : Int32), .int (5 : Int32), .ref a_this_copies_cells])), (a_this_copies_cells, .inl (k 0, 960, .inl u.2.2.1)), (a_this_log, .inr (0, [.ref a_this_log_events, .int u.2.2.2.1, .int u.2.2.2.2.1])), (a_this_log_events, .inr (4, [.int (40 : Int32), .int (5 : Int32), .ref a_this_log_events_cells])), (a_this_log_events_cells, .inl (k 0, 200, .inl u.2.2.2.2.2))] := by
  refine rn_KV.go (LOC := [(0, .ref a_this), (1, .int i1), (2, .int i2), (3, .int i3)]) rfl (by decide) (Nat.le_of_ble_eq_true rfl) rfl ?_
  intro p e s m args below meth c A ls R Q X hR hE hW hl
  have hx := X.1.1
  have hb := X.1.2.1
  unfold fX2_takeFrame at hf
  obtain ⟨u0, u1, u2, u3, u4, u5⟩ := u
  dsimp only at hE
  refine lv_aload_n hx hb dX2_takeFrame_0 rfl (lv_at hl 0 rfl) ?_
  refine rr_get X hW 0 0 gf_X2_14 rfl rfl dX2_takeFrame_1 ?_
  refine lv_iload_n hx hb dX2_takeFrame_4 rfl (lv_at hl 3 rfl) ?_
  refine lv_bipush (v := 6) hx hb dX2_takeFrame_5 (by decide) ?_
  refine lv_iconst (v := 1) hx hb dX2_takeFrame_7 (by decide) ?_
  obtain ⟨t1, ht1, hf⟩ := rn_bind hf
  refine rr_callV (As := [.int i3, .int (6 : Int32), .int (1 : Int32)]) (rest := []) X hW (kX4_add l D k z a_this_stations a_this_stations_cells (8 : Int32) (10 : Int32) 80 c_stations i3 (6 : Int32) (1 : Int32) ht1) gm_X4_add gl_X2_189 [1, 2] [0, 3, 4, 5, 6, 7, 8, 9] [(a_this, .inr (2, [.ref a_this_stations, .ref a_this_links, .ref a_this_messages, .ref a_this_copies, .ref a_this_log, .ref a_this_ways, .ref a_this_frames, .int c_stationCount, .int c_linkCount, .int c_messageCount, .int c_time, .int c_life, .int c_tries, .int c_x])), (a_this_stations, .inr (4, [.int (8 : Int32), .int (10 : Int32), .ref a_this_stations_cells])), (a_this_stations_cells, .inl (k 0, 80, .inl t1)), (a_this_messages, .inr (4, [.int (24 : Int32), .int (12 : Int32), .ref a_this_messages_cells])), (a_this_messages_cells, .inl (k 0, 288, .inl c_messages)), (a_this_copies, .inr (4, [.int (192 : Int32), .int (5 : Int32), .ref a_this_copies_cells])), (a_this_copies_cells, .inl (k 0, 960, .inl c_copies)), (a_this_log, .inr (0, [.ref a_this_log_events, .int c_log_first, .int c_log_size])), (a_this_log_events, .inr (4, [.int (40 : Int32), .int (5 : Int32), .ref a_this_log_events_cells])), (a_this_log_events_cells, .inl (k 0, 200, .inl c_log_events))] rfl rfl rfl rfl ⟨rfl, rfl, rn_Bw (wr := [(a_this, .inr (2, [.ref a_this_stations, .ref a_this_links, .ref a_this_messages, .ref a_this_copies, .ref a_this_log, .ref a_this_ways, .ref a_this_frames, .int c_stationCount, .int c_linkCount, .int c_messageCount, .int c_time, .int c_life, .int c_tries, .int c_x])), (a_this_messages, .inr (4, [.int (24 : Int32), .int (12 : Int32), .ref a_this_messages_cells])), (a_this_messages_cells, .inl (k 0, 288, .inl c_messages)), (a_this_copies, .inr (4, [.int (192 : Int32), .int (5 : Int32), .ref a_this_copies_cells])), (a_this_copies_cells, .inl (k 0, 960, .inl c_copies)), (a_this_log, .inr (0, [.ref a_this_log_events, .int c_log_first, .int c_log_size])), (a_this_log_events, .inr (4, [.int (40 : Int32), .int (5 : Int32), .ref a_this_log_events_cells])), (a_this_log_events_cells, .inl (k 0, 200, .inl c_log_events))]) rfl rfl, rfl, rfl⟩ (rn_r hR rfl) rn_cs hl.1 rfl (Nat.le_of_ble_eq_true rfl) dX2_takeFrame_8 (fun H locs hW => ?_)
  refine lv_iload_n hx hb dX2_takeFrame_11 rfl (lv_at hl 1 rfl) ?_
  refine lv_iload_n hx hb dX2_takeFrame_12 rfl (lv_at hl 3 rfl) ?_
  obtain ⟨t2, ht2, hf⟩ := rn_bind hf
  refine rr_scalI (As := [.int i1, .int i3]) (rest := []) X hW (kX2_copyRow l D k z i1 i3 ht2) gm_X2_copyRow gl_X2_98 [] [0, 1, 2, 3, 4, 5, 6, 7, 8, 9] [(a_this, .inr (2, [.ref a_this_stations, .ref a_this_links, .ref a_this_messages, .ref a_this_copies, .ref a_this_log, .ref a_this_ways, .ref a_this_frames, .int c_stationCount, .int c_linkCount, .int c_messageCount, .int c_time, .int c_life, .int c_tries, .int c_x])), (a_this_stations, .inr (4, [.int (8 : Int32), .int (10 : Int32), .ref a_this_stations_cells])), (a_this_stations_cells, .inl (k 0, 80, .inl t1)), (a_this_messages, .inr (4, [.int (24 : Int32), .int (12 : Int32), .ref a_this_messages_cells])), (a_this_messages_cells, .inl (k 0, 288, .inl c_messages)), (a_this_copies, .inr (4, [.int (192 : Int32), .int (5 : Int32), .ref a_this_copies_cells])), (a_this_copies_cells, .inl (k 0, 960, .inl c_copies)), (a_this_log, .inr (0, [.ref a_this_log_events, .int c_log_first, .int c_log_size])), (a_this_log_events, .inr (4, [.int (40 : Int32), .int (5 : Int32), .ref a_this_log_events_cells])), (a_this_log_events_cells, .inl (k 0, 200, .inl c_log_events))] rfl rfl ⟨rfl, rfl, rn_Bw (wr := [(a_this, .inr (2, [.ref a_this_stations, .ref a_this_links, .ref a_this_messages, .ref a_this_copies, .ref a_this_log, .ref a_this_ways, .ref a_this_frames, .int c_stationCount, .int c_linkCount, .int c_messageCount, .int c_time, .int c_life, .int c_tries, .int c_x])), (a_this_stations, .inr (4, [.int (8 : Int32), .int (10 : Int32), .ref a_this_stations_cells])), (a_this_stations_cells, .inl (k 0, 80, .inl t1)), (a_this_messages, .inr (4, [.int (24 : Int32), .int (12 : Int32), .ref a_this_messages_cells])), (a_this_messages_cells, .inl (k 0, 288, .inl c_messages)), (a_this_copies, .inr (4, [.int (192 : Int32), .int (5 : Int32), .ref a_this_copies_cells])), (a_this_copies_cells, .inl (k 0, 960, .inl c_copies)), (a_this_log, .inr (0, [.ref a_this_log_events, .int c_log_first, .int c_log_size])), (a_this_log_events, .inr (4, [.int (40 : Int32), .int (5 : Int32), .ref a_this_log_events_cells])), (a_this_log_events_cells, .inl (k 0, 200, .inl c_log_events))]) rfl rfl, rfl, rfl⟩ (rn_r hR rfl) rn_cs hl.1 rfl (Nat.le_of_ble_eq_true rfl) dX2_takeFrame_13 (fun hn2 H locs hW => ?_)
  refine lv_istore (lv' := [(4, .int t2), (0, .ref a_this), (1, .int i1), (2, .int i2), (3, .int i3)]) hx hb dX2_takeFrame_16 hl (Nat.le_of_ble_eq_true rfl) rfl (fun ls hl => ?_)
  refine lv_aload_n hx hb dX2_takeFrame_18 rfl (lv_at hl 1 rfl) ?_
  refine rr_get X hW 0 3 gf_X2_26 rfl rfl dX2_takeFrame_19 ?_
  refine lv_iload hx hb dX2_takeFrame_22 (lv_at hl 0 rfl) ?_
  refine lv_iconst (v := 0) hx hb dX2_takeFrame_24 (by decide) ?_
  obtain ⟨t3, ht3, hf⟩ := rn_bind hf
  refine rr_callI (As := [.int t2, .int (0 : Int32)]) (rest := []) X hW (kX4_get l D k z a_this_copies a_this_copies_cells (192 : Int32) (5 : Int32) 960 c_copies t2 (0 : Int32) ht3) gm_X4_get gl_X2_105 [5, 6] [0, 1, 2, 3, 4, 7, 8, 9] [(a_this, .inr (2, [.ref a_this_stations, .ref a_this_links, .ref a_this_messages, .ref a_this_copies, .ref a_this_log, .ref a_this_ways, .ref a_this_frames, .int c_stationCount, .int c_linkCount, .int c_messageCount, .int c_time, .int c_life, .int c_tries, .int c_x])), (a_this_stations, .inr (4, [.int (8 : Int32), .int (10 : Int32), .ref a_this_stations_cells])), (a_this_stations_cells, .inl (k 0, 80, .inl t1)), (a_this_messages, .inr (4, [.int (24 : Int32), .int (12 : Int32), .ref a_this_messages_cells])), (a_this_messages_cells, .inl (k 0, 288, .inl c_messages)), (a_this_copies, .inr (4, [.int (192 : Int32), .int (5 : Int32), .ref a_this_copies_cells])), (a_this_copies_cells, .inl (k 0, 960, .inl c_copies)), (a_this_log, .inr (0, [.ref a_this_log_events, .int c_log_first, .int c_log_size])), (a_this_log_events, .inr (4, [.int (40 : Int32), .int (5 : Int32), .ref a_this_log_events_cells])), (a_this_log_events_cells, .inl (k 0, 200, .inl c_log_events))] rfl rfl rfl rfl ⟨rfl, rfl, rn_Bw (wr := [(a_this, .inr (2, [.ref a_this_stations, .ref a_this_links, .ref a_this_messages, .ref a_this_copies, .ref a_this_log, .ref a_this_ways, .ref a_this_frames, .int c_stationCount, .int c_linkCount, .int c_messageCount, .int c_time, .int c_life, .int c_tries, .int c_x])), (a_this_stations, .inr (4, [.int (8 : Int32), .int (10 : Int32), .ref a_this_stations_cells])), (a_this_stations_cells, .inl (k 0, 80, .inl t1)), (a_this_messages, .inr (4, [.int (24 : Int32), .int (12 : Int32), .ref a_this_messages_cells])), (a_this_messages_cells, .inl (k 0, 288, .inl c_messages)), (a_this_log, .inr (0, [.ref a_this_log_events, .int c_log_first, .int c_log_size])), (a_this_log_events, .inr (4, [.int (40 : Int32), .int (5 : Int32), .ref a_this_log_events_cells])), (a_this_log_events_cells, .inl (k 0, 200, .inl c_log_events))]) rfl rfl, rfl, rfl⟩ (rn_r hR rfl) rn_cs hl.1 rfl (Nat.le_of_ble_eq_true rfl) dX2_takeFrame_25 (fun hn3 H locs hW => ?_)
  refine lv_if_eq (tgt := 69) hx hb dX2_takeFrame_28 (by decide) (fun hc4 => ?_) (fun hc4 => ?_)
  · replace hf := rn_t hf hc4
    refine lv_iload_n hx hb dX2_takeFrame_69 rfl (lv_at hl 2 rfl) ?_
    refine lv_iload_n hx hb dX2_takeFrame_70 rfl (lv_at hl 3 rfl) ?_
    obtain ⟨t5, ht5, hf⟩ := rn_bind hf
    refine rr_scalI (As := [.int i1, .int i2]) (rest := []) X hW (kX2_copyRow l D k z i1 i2 ht5) gm_X2_copyRow gl_X2_98 [] [0, 1, 2, 3, 4, 5, 6, 7, 8, 9] [(a_this, .inr (2, [.ref a_this_stations, .ref a_this_links, .ref a_this_messages, .ref a_this_copies, .ref a_this_log, .ref a_this_ways, .ref a_this_frames, .int c_stationCount, .int c_linkCount, .int c_messageCount, .int c_time, .int c_life, .int c_tries, .int c_x])), (a_this_stations, .inr (4, [.int (8 : Int32), .int (10 : Int32), .ref a_this_stations_cells])), (a_this_stations_cells, .inl (k 0, 80, .inl t1)), (a_this_messages, .inr (4, [.int (24 : Int32), .int (12 : Int32), .ref a_this_messages_cells])), (a_this_messages_cells, .inl (k 0, 288, .inl c_messages)), (a_this_copies, .inr (4, [.int (192 : Int32), .int (5 : Int32), .ref a_this_copies_cells])), (a_this_copies_cells, .inl (k 0, 960, .inl c_copies)), (a_this_log, .inr (0, [.ref a_this_log_events, .int c_log_first, .int c_log_size])), (a_this_log_events, .inr (4, [.int (40 : Int32), .int (5 : Int32), .ref a_this_log_events_cells])), (a_this_log_events_cells, .inl (k 0, 200, .inl c_log_events))] rfl rfl ⟨rfl, rfl, rn_Bw (wr := [(a_this, .inr (2, [.ref a_this_stations, .ref a_this_links, .ref a_this_messages, .ref a_this_copies, .ref a_this_log, .ref a_this_ways, .ref a_this_frames, .int c_stationCount, .int c_linkCount, .int c_messageCount, .int c_time, .int c_life, .int c_tries, .int c_x])), (a_this_stations, .inr (4, [.int (8 : Int32), .int (10 : Int32), .ref a_this_stations_cells])), (a_this_stations_cells, .inl (k 0, 80, .inl t1)), (a_this_messages, .inr (4, [.int (24 : Int32), .int (12 : Int32), .ref a_this_messages_cells])), (a_this_messages_cells, .inl (k 0, 288, .inl c_messages)), (a_this_copies, .inr (4, [.int (192 : Int32), .int (5 : Int32), .ref a_this_copies_cells])), (a_this_copies_cells, .inl (k 0, 960, .inl c_copies)), (a_this_log, .inr (0, [.ref a_this_log_events, .int c_log_first, .int c_log_size])), (a_this_log_events, .inr (4, [.int (40 : Int32), .int (5 : Int32), .ref a_this_log_events_cells])), (a_this_log_events_cells, .inl (k 0, 200, .inl c_log_events))]) rfl rfl, rfl, rfl⟩ (rn_r hR rfl) rn_cs hl.1 rfl (Nat.le_of_ble_eq_true rfl) dX2_takeFrame_71 (fun hn5 H locs hW => ?_)
    refine lv_istore (lv' := [(5, .int t5), (4, .int t2), (0, .ref a_this), (1, .int i1), (2, .int i2), (3, .int i3)]) hx hb dX2_takeFrame_74 hl (Nat.le_of_ble_eq_true rfl) rfl (fun ls hl => ?_)
    refine lv_aload_n hx hb dX2_takeFrame_76 rfl (lv_at hl 2 rfl) ?_
    refine rr_get X hW 0 3 gf_X2_26 rfl rfl dX2_takeFrame_77 ?_
    refine lv_iload hx hb dX2_takeFrame_80 (lv_at hl 0 rfl) ?_
    refine lv_iconst (v := 3) hx hb dX2_takeFrame_82 (by decide) ?_
    obtain ⟨t6, ht6, hf⟩ := rn_bind hf
    refine rr_callI (As := [.int t5, .int (3 : Int32)]) (rest := []) X hW (kX4_get l D k z a_this_copies a_this_copies_cells (192 : Int32) (5 : Int32) 960 c_copies t5 (3 : Int32) ht6) gm_X4_get gl_X2_105 [5, 6] [0, 1, 2, 3, 4, 7, 8, 9] [(a_this, .inr (2, [.ref a_this_stations, .ref a_this_links, .ref a_this_messages, .ref a_this_copies, .ref a_this_log, .ref a_this_ways, .ref a_this_frames, .int c_stationCount, .int c_linkCount, .int c_messageCount, .int c_time, .int c_life, .int c_tries, .int c_x])), (a_this_stations, .inr (4, [.int (8 : Int32), .int (10 : Int32), .ref a_this_stations_cells])), (a_this_stations_cells, .inl (k 0, 80, .inl t1)), (a_this_messages, .inr (4, [.int (24 : Int32), .int (12 : Int32), .ref a_this_messages_cells])), (a_this_messages_cells, .inl (k 0, 288, .inl c_messages)), (a_this_copies, .inr (4, [.int (192 : Int32), .int (5 : Int32), .ref a_this_copies_cells])), (a_this_copies_cells, .inl (k 0, 960, .inl c_copies)), (a_this_log, .inr (0, [.ref a_this_log_events, .int c_log_first, .int c_log_size])), (a_this_log_events, .inr (4, [.int (40 : Int32), .int (5 : Int32), .ref a_this_log_events_cells])), (a_this_log_events_cells, .inl (k 0, 200, .inl c_log_events))] rfl rfl rfl rfl ⟨rfl, rfl, rn_Bw (wr := [(a_this, .inr (2, [.ref a_this_stations, .ref a_this_links, .ref a_this_messages, .ref a_this_copies, .ref a_this_log, .ref a_this_ways, .ref a_this_frames, .int c_stationCount, .int c_linkCount, .int c_messageCount, .int c_time, .int c_life, .int c_tries, .int c_x])), (a_this_stations, .inr (4, [.int (8 : Int32), .int (10 : Int32), .ref a_this_stations_cells])), (a_this_stations_cells, .inl (k 0, 80, .inl t1)), (a_this_messages, .inr (4, [.int (24 : Int32), .int (12 : Int32), .ref a_this_messages_cells])), (a_this_messages_cells, .inl (k 0, 288, .inl c_messages)), (a_this_log, .inr (0, [.ref a_this_log_events, .int c_log_first, .int c_log_size])), (a_this_log_events, .inr (4, [.int (40 : Int32), .int (5 : Int32), .ref a_this_log_events_cells])), (a_this_log_events_cells, .inl (k 0, 200, .inl c_log_events))]) rfl rfl, rfl, rfl⟩ (rn_r hR rfl) rn_cs hl.1 rfl (Nat.le_of_ble_eq_true rfl) dX2_takeFrame_83 (fun hn6 H locs hW => ?_)
    refine lv_istore (lv' := [(6, .int t6), (5, .int t5), (4, .int t2), (0, .ref a_this), (1, .int i1), (2, .int i2), (3, .int i3)]) hx hb dX2_takeFrame_86 hl (Nat.le_of_ble_eq_true rfl) rfl (fun ls hl => ?_)
    refine lv_aload_n hx hb dX2_takeFrame_88 rfl (lv_at hl 3 rfl) ?_
    refine rr_get X hW 0 2 gf_X2_23 rfl rfl dX2_takeFrame_89 ?_
    refine lv_iload_n hx hb dX2_takeFrame_92 rfl (lv_at hl 4 rfl) ?_
    refine lv_iconst (v := 1) hx hb dX2_takeFrame_93 (by decide) ?_
    obtain ⟨t7, ht7, hf⟩ := rn_bind hf
    refine rr_callI (As := [.int i1, .int (1 : Int32)]) (rest := []) X hW (kX4_get l D k z a_this_messages a_this_messages_cells (24 : Int32) (12 : Int32) 288 c_messages i1 (1 : Int32) ht7) gm_X4_get gl_X2_105 [3, 4] [0, 1, 2, 5, 6, 7, 8, 9] [(a_this, .inr (2, [.ref a_this_stations, .ref a_this_links, .ref a_this_messages, .ref a_this_copies, .ref a_this_log, .ref a_this_ways, .ref a_this_frames, .int c_stationCount, .int c_linkCount, .int c_messageCount, .int c_time, .int c_life, .int c_tries, .int c_x])), (a_this_stations, .inr (4, [.int (8 : Int32), .int (10 : Int32), .ref a_this_stations_cells])), (a_this_stations_cells, .inl (k 0, 80, .inl t1)), (a_this_messages, .inr (4, [.int (24 : Int32), .int (12 : Int32), .ref a_this_messages_cells])), (a_this_messages_cells, .inl (k 0, 288, .inl c_messages)), (a_this_copies, .inr (4, [.int (192 : Int32), .int (5 : Int32), .ref a_this_copies_cells])), (a_this_copies_cells, .inl (k 0, 960, .inl c_copies)), (a_this_log, .inr (0, [.ref a_this_log_events, .int c_log_first, .int c_log_size])), (a_this_log_events, .inr (4, [.int (40 : Int32), .int (5 : Int32), .ref a_this_log_events_cells])), (a_this_log_events_cells, .inl (k 0, 200, .inl c_log_events))] rfl rfl rfl rfl ⟨rfl, rfl, rn_Bw (wr := [(a_this, .inr (2, [.ref a_this_stations, .ref a_this_links, .ref a_this_messages, .ref a_this_copies, .ref a_this_log, .ref a_this_ways, .ref a_this_frames, .int c_stationCount, .int c_linkCount, .int c_messageCount, .int c_time, .int c_life, .int c_tries, .int c_x])), (a_this_stations, .inr (4, [.int (8 : Int32), .int (10 : Int32), .ref a_this_stations_cells])), (a_this_stations_cells, .inl (k 0, 80, .inl t1)), (a_this_copies, .inr (4, [.int (192 : Int32), .int (5 : Int32), .ref a_this_copies_cells])), (a_this_copies_cells, .inl (k 0, 960, .inl c_copies)), (a_this_log, .inr (0, [.ref a_this_log_events, .int c_log_first, .int c_log_size])), (a_this_log_events, .inr (4, [.int (40 : Int32), .int (5 : Int32), .ref a_this_log_events_cells])), (a_this_log_events_cells, .inl (k 0, 200, .inl c_log_events))]) rfl rfl, rfl, rfl⟩ (rn_r hR rfl) rn_cs hl.1 rfl (Nat.le_of_ble_eq_true rfl) dX2_takeFrame_94 (fun hn7 H locs hW => ?_)
    refine lv_iload_n hx hb dX2_takeFrame_97 rfl (lv_at hl 6 rfl) ?_
    obtain ⟨t8, ht8, hf⟩ := rn_bind hf
    have jnt8 : ∀ (H : Heap) (locs : List Loc) (ls : Array Slot), rn_W D A s [(a_this, .inr (2, [.ref a_this_stations, .ref a_this_links, .ref a_this_messages, .ref a_this_copies, .ref a_this_log, .ref a_this_ways, .ref a_this_frames, .int c_stationCount, .int c_linkCount, .int c_messageCount, .int c_time, .int c_life, .int c_tries, .int c_x])), (a_this_stations, .inr (4, [.int (8 : Int32), .int (10 : Int32), .ref a_this_stations_cells])), (a_this_stations_cells, .inl (k 0, 80, .inl t1)), (a_this_messages, .inr (4, [.int (24 : Int32), .int (12 : Int32), .ref a_this_messages_cells])), (a_this_messages_cells, .inl (k 0, 288, .inl c_messages)), (a_this_copies, .inr (4, [.int (192 : Int32), .int (5 : Int32), .ref a_this_copies_cells])), (a_this_copies_cells, .inl (k 0, 960, .inl c_copies)), (a_this_log, .inr (0, [.ref a_this_log_events, .int c_log_first, .int c_log_size])), (a_this_log_events, .inr (4, [.int (40 : Int32), .int (5 : Int32), .ref a_this_log_events_cells])), (a_this_log_events_cells, .inl (k 0, 200, .inl c_log_events))] H locs → lv_has ls 8 [(0, .ref a_this), (1, .int i1), (2, .int i2), (3, .int i3), (4, .int t2), (5, .int t5), (6, .int t6)] → W p l e R s m args below meth c H locs 0 0 Q (F0 m 106 ls [.int t8]) := by
      intro H locs ls hW hl
      refine lv_istore (lv' := [(7, .int t8), (0, .ref a_this), (1, .int i1), (2, .int i2), (3, .int i3), (4, .int t2), (5, .int t5), (6, .int t6)]) hx hb dX2_takeFrame_106 hl (Nat.le_of_ble_eq_true rfl) rfl (fun ls hl => ?_)
      refine lv_aload_n hx hb dX2_takeFrame_108 rfl (lv_at hl 1 rfl) ?_
      refine rr_get X hW 0 3 gf_X2_26 rfl rfl dX2_takeFrame_109 ?_
      refine lv_iload hx hb dX2_takeFrame_112 (lv_at hl 5 rfl) ?_
      refine lv_iconst (v := 0) hx hb dX2_takeFrame_114 (by decide) ?_
      refine lv_iload hx hb dX2_takeFrame_115 (lv_at hl 0 rfl) ?_
      obtain ⟨t10, ht10, hf⟩ := rn_bind hf
      have jnt10 : ∀ (H : Heap) (locs : List Loc) (ls : Array Slot), rn_W D A s [(a_this, .inr (2, [.ref a_this_stations, .ref a_this_links, .ref a_this_messages, .ref a_this_copies, .ref a_this_log, .ref a_this_ways, .ref a_this_frames, .int c_stationCount, .int c_linkCount, .int c_messageCount, .int c_time, .int c_life, .int c_tries, .int c_x])), (a_this_stations, .inr (4, [.int (8 : Int32), .int (10 : Int32), .ref a_this_stations_cells])), (a_this_stations_cells, .inl (k 0, 80, .inl t1)), (a_this_messages, .inr (4, [.int (24 : Int32), .int (12 : Int32), .ref a_this_messages_cells])), (a_this_messages_cells, .inl (k 0, 288, .inl c_messages)), (a_this_copies, .inr (4, [.int (192 : Int32), .int (5 : Int32), .ref a_this_copies_cells])), (a_this_copies_cells, .inl (k 0, 960, .inl c_copies)), (a_this_log, .inr (0, [.ref a_this_log_events, .int c_log_first, .int c_log_size])), (a_this_log_events, .inr (4, [.int (40 : Int32), .int (5 : Int32), .ref a_this_log_events_cells])), (a_this_log_events_cells, .inl (k 0, 200, .inl c_log_events))] H locs → lv_has ls 8 [(0, .ref a_this), (1, .int i1), (2, .int i2), (3, .int i3), (4, .int t2), (5, .int t5), (6, .int t6), (7, .int t8)] → W p l e R s m args below meth c H locs 0 0 Q (F0 m 125 ls [.int t10, .int (0 : Int32), .int t2, .ref a_this_copies]) := by
        intro H locs ls hW hl
        obtain ⟨t12, ht12, hf⟩ := rn_bind hf
        refine rr_callV (As := [.int t2, .int (0 : Int32), .int t10]) (rest := []) X hW (kX4_set l D k z a_this_copies a_this_copies_cells (192 : Int32) (5 : Int32) 960 c_copies t2 (0 : Int32) t10 ht12) gm_X4_set gl_X2_91 [5, 6] [0, 1, 2, 3, 4, 7, 8, 9] [(a_this, .inr (2, [.ref a_this_stations, .ref a_this_links, .ref a_this_messages, .ref a_this_copies, .ref a_this_log, .ref a_this_ways, .ref a_this_frames, .int c_stationCount, .int c_linkCount, .int c_messageCount, .int c_time, .int c_life, .int c_tries, .int c_x])), (a_this_stations, .inr (4, [.int (8 : Int32), .int (10 : Int32), .ref a_this_stations_cells])), (a_this_stations_cells, .inl (k 0, 80, .inl t1)), (a_this_messages, .inr (4, [.int (24 : Int32), .int (12 : Int32), .ref a_this_messages_cells])), (a_this_messages_cells, .inl (k 0, 288, .inl c_messages)), (a_this_copies, .inr (4, [.int (192 : Int32), .int (5 : Int32), .ref a_this_copies_cells])), (a_this_copies_cells, .inl (k 0, 960, .inl t12)), (a_this_log, .inr (0, [.ref a_this_log_events, .int c_log_first, .int c_log_size])), (a_this_log_events, .inr (4, [.int (40 : Int32), .int (5 : Int32), .ref a_this_log_events_cells])), (a_this_log_events_cells, .inl (k 0, 200, .inl c_log_events))] rfl rfl rfl rfl ⟨rfl, rfl, rn_Bw (wr := [(a_this, .inr (2, [.ref a_this_stations, .ref a_this_links, .ref a_this_messages, .ref a_this_copies, .ref a_this_log, .ref a_this_ways, .ref a_this_frames, .int c_stationCount, .int c_linkCount, .int c_messageCount, .int c_time, .int c_life, .int c_tries, .int c_x])), (a_this_stations, .inr (4, [.int (8 : Int32), .int (10 : Int32), .ref a_this_stations_cells])), (a_this_stations_cells, .inl (k 0, 80, .inl t1)), (a_this_messages, .inr (4, [.int (24 : Int32), .int (12 : Int32), .ref a_this_messages_cells])), (a_this_messages_cells, .inl (k 0, 288, .inl c_messages)), (a_this_log, .inr (0, [.ref a_this_log_events, .int c_log_first, .int c_log_size])), (a_this_log_events, .inr (4, [.int (40 : Int32), .int (5 : Int32), .ref a_this_log_events_cells])), (a_this_log_events_cells, .inl (k 0, 200, .inl c_log_events))]) rfl rfl, rfl, rfl⟩ (rn_r hR rfl) rn_cs hl.1 rfl (Nat.le_of_ble_eq_true rfl) dX2_takeFrame_125 (fun H locs hW => ?_)
        refine lv_aload_n hx hb dX2_takeFrame_128 rfl (lv_at hl 0 rfl) ?_
        refine rr_get X hW 0 3 gf_X2_26 rfl rfl dX2_takeFrame_129 ?_
        refine lv_iload hx hb dX2_takeFrame_132 (lv_at hl 4 rfl) ?_
        refine lv_iconst (v := 1) hx hb dX2_takeFrame_134 (by decide) ?_
        refine lv_iconst (v := 0) hx hb dX2_takeFrame_135 (by decide) ?_
        obtain ⟨t13, ht13, hf⟩ := rn_bind hf
        refine rr_callV (As := [.int t2, .int (1 : Int32), .int (0 : Int32)]) (rest := []) X hW (kX4_set l D k z a_this_copies a_this_copies_cells (192 : Int32) (5 : Int32) 960 t12 t2 (1 : Int32) (0 : Int32) ht13) gm_X4_set gl_X2_91 [5, 6] [0, 1, 2, 3, 4, 7, 8, 9] [(a_this, .inr (2, [.ref a_this_stations, .ref a_this_links, .ref a_this_messages, .ref a_this_copies, .ref a_this_log, .ref a_this_ways, .ref a_this_frames, .int c_stationCount, .int c_linkCount, .int c_messageCount, .int c_time, .int c_life, .int c_tries, .int c_x])), (a_this_stations, .inr (4, [.int (8 : Int32), .int (10 : Int32), .ref a_this_stations_cells])), (a_this_stations_cells, .inl (k 0, 80, .inl t1)), (a_this_messages, .inr (4, [.int (24 : Int32), .int (12 : Int32), .ref a_this_messages_cells])), (a_this_messages_cells, .inl (k 0, 288, .inl c_messages)), (a_this_copies, .inr (4, [.int (192 : Int32), .int (5 : Int32), .ref a_this_copies_cells])), (a_this_copies_cells, .inl (k 0, 960, .inl t13)), (a_this_log, .inr (0, [.ref a_this_log_events, .int c_log_first, .int c_log_size])), (a_this_log_events, .inr (4, [.int (40 : Int32), .int (5 : Int32), .ref a_this_log_events_cells])), (a_this_log_events_cells, .inl (k 0, 200, .inl c_log_events))] rfl rfl rfl rfl ⟨rfl, rfl, rn_Bw (wr := [(a_this, .inr (2, [.ref a_this_stations, .ref a_this_links, .ref a_this_messages, .ref a_this_copies, .ref a_this_log, .ref a_this_ways, .ref a_this_frames, .int c_stationCount, .int c_linkCount, .int c_messageCount, .int c_time, .int c_life, .int c_tries, .int c_x])), (a_this_stations, .inr (4, [.int (8 : Int32), .int (10 : Int32), .ref a_this_stations_cells])), (a_this_stations_cells, .inl (k 0, 80, .inl t1)), (a_this_messages, .inr (4, [.int (24 : Int32), .int (12 : Int32), .ref a_this_messages_cells])), (a_this_messages_cells, .inl (k 0, 288, .inl c_messages)), (a_this_log, .inr (0, [.ref a_this_log_events, .int c_log_first, .int c_log_size])), (a_this_log_events, .inr (4, [.int (40 : Int32), .int (5 : Int32), .ref a_this_log_events_cells])), (a_this_log_events_cells, .inl (k 0, 200, .inl c_log_events))]) rfl rfl, rfl, rfl⟩ (rn_r hR rfl) rn_cs hl.1 rfl (Nat.le_of_ble_eq_true rfl) dX2_takeFrame_136 (fun H locs hW => ?_)
        refine lv_aload_n hx hb dX2_takeFrame_139 rfl (lv_at hl 0 rfl) ?_
        refine rr_get X hW 0 3 gf_X2_26 rfl rfl dX2_takeFrame_140 ?_
        refine lv_iload hx hb dX2_takeFrame_143 (lv_at hl 4 rfl) ?_
        refine lv_iconst (v := 2) hx hb dX2_takeFrame_145 (by decide) ?_
        refine lv_aload_n hx hb dX2_takeFrame_146 rfl (lv_at hl 0 rfl) ?_
        refine rr_get X hW 0 10 gf_X2_56 rfl rfl dX2_takeFrame_147 ?_
        refine lv_iconst (v := 1) hx hb dX2_takeFrame_150 (by decide) ?_
        refine lv_iadd hx hb dX2_takeFrame_151 ?_
        obtain ⟨t14, ht14, hf⟩ := rn_bind hf
        refine rr_callV (As := [.int t2, .int (2 : Int32), .int (c_time + (1 : Int32))]) (rest := []) X hW (kX4_set l D k z a_this_copies a_this_copies_cells (192 : Int32) (5 : Int32) 960 t13 t2 (2 : Int32) (c_time + (1 : Int32)) ht14) gm_X4_set gl_X2_91 [5, 6] [0, 1, 2, 3, 4, 7, 8, 9] [(a_this, .inr (2, [.ref a_this_stations, .ref a_this_links, .ref a_this_messages, .ref a_this_copies, .ref a_this_log, .ref a_this_ways, .ref a_this_frames, .int c_stationCount, .int c_linkCount, .int c_messageCount, .int c_time, .int c_life, .int c_tries, .int c_x])), (a_this_stations, .inr (4, [.int (8 : Int32), .int (10 : Int32), .ref a_this_stations_cells])), (a_this_stations_cells, .inl (k 0, 80, .inl t1)), (a_this_messages, .inr (4, [.int (24 : Int32), .int (12 : Int32), .ref a_this_messages_cells])), (a_this_messages_cells, .inl (k 0, 288, .inl c_messages)), (a_this_copies, .inr (4, [.int (192 : Int32), .int (5 : Int32), .ref a_this_copies_cells])), (a_this_copies_cells, .inl (k 0, 960, .inl t14)), (a_this_log, .inr (0, [.ref a_this_log_events, .int c_log_first, .int c_log_size])), (a_this_log_events, .inr (4, [.int (40 : Int32), .int (5 : Int32), .ref a_this_log_events_cells])), (a_this_log_events_cells, .inl (k 0, 200, .inl c_log_events))] rfl rfl rfl rfl ⟨rfl, rfl, rn_Bw (wr := [(a_this, .inr (2, [.ref a_this_stations, .ref a_this_links, .ref a_this_messages, .ref a_this_copies, .ref a_this_log, .ref a_this_ways, .ref a_this_frames, .int c_stationCount, .int c_linkCount, .int c_messageCount, .int c_time, .int c_life, .int c_tries, .int c_x])), (a_this_stations, .inr (4, [.int (8 : Int32), .int (10 : Int32), .ref a_this_stations_cells])), (a_this_stations_cells, .inl (k 0, 80, .inl t1)), (a_this_messages, .inr (4, [.int (24 : Int32), .int (12 : Int32), .ref a_this_messages_cells])), (a_this_messages_cells, .inl (k 0, 288, .inl c_messages)), (a_this_log, .inr (0, [.ref a_this_log_events, .int c_log_first, .int c_log_size])), (a_this_log_events, .inr (4, [.int (40 : Int32), .int (5 : Int32), .ref a_this_log_events_cells])), (a_this_log_events_cells, .inl (k 0, 200, .inl c_log_events))]) rfl rfl, rfl, rfl⟩ (rn_r hR rfl) rn_cs hl.1 rfl (Nat.le_of_ble_eq_true rfl) dX2_takeFrame_152 (fun H locs hW => ?_)
        refine lv_aload_n hx hb dX2_takeFrame_155 rfl (lv_at hl 0 rfl) ?_
        refine rr_get X hW 0 3 gf_X2_26 rfl rfl dX2_takeFrame_156 ?_
        refine lv_iload hx hb dX2_takeFrame_159 (lv_at hl 4 rfl) ?_
        refine lv_iconst (v := 3) hx hb dX2_takeFrame_161 (by decide) ?_
        refine lv_iload hx hb dX2_takeFrame_162 (lv_at hl 6 rfl) ?_
        refine lv_iconst (v := 1) hx hb dX2_takeFrame_164 (by decide) ?_
        refine lv_iadd hx hb dX2_takeFrame_165 ?_
        obtain ⟨t15, ht15, hf⟩ := rn_bind hf
        refine rr_callV (As := [.int t2, .int (3 : Int32), .int (t6 + (1 : Int32))]) (rest := []) X hW (kX4_set l D k z a_this_copies a_this_copies_cells (192 : Int32) (5 : Int32) 960 t14 t2 (3 : Int32) (t6 + (1 : Int32)) ht15) gm_X4_set gl_X2_91 [5, 6] [0, 1, 2, 3, 4, 7, 8, 9] [(a_this, .inr (2, [.ref a_this_stations, .ref a_this_links, .ref a_this_messages, .ref a_this_copies, .ref a_this_log, .ref a_this_ways, .ref a_this_frames, .int c_stationCount, .int c_linkCount, .int c_messageCount, .int c_time, .int c_life, .int c_tries, .int c_x])), (a_this_stations, .inr (4, [.int (8 : Int32), .int (10 : Int32), .ref a_this_stations_cells])), (a_this_stations_cells, .inl (k 0, 80, .inl t1)), (a_this_messages, .inr (4, [.int (24 : Int32), .int (12 : Int32), .ref a_this_messages_cells])), (a_this_messages_cells, .inl (k 0, 288, .inl c_messages)), (a_this_copies, .inr (4, [.int (192 : Int32), .int (5 : Int32), .ref a_this_copies_cells])), (a_this_copies_cells, .inl (k 0, 960, .inl t15)), (a_this_log, .inr (0, [.ref a_this_log_events, .int c_log_first, .int c_log_size])), (a_this_log_events, .inr (4, [.int (40 : Int32), .int (5 : Int32), .ref a_this_log_events_cells])), (a_this_log_events_cells, .inl (k 0, 200, .inl c_log_events))] rfl rfl rfl rfl ⟨rfl, rfl, rn_Bw (wr := [(a_this, .inr (2, [.ref a_this_stations, .ref a_this_links, .ref a_this_messages, .ref a_this_copies, .ref a_this_log, .ref a_this_ways, .ref a_this_frames, .int c_stationCount, .int c_linkCount, .int c_messageCount, .int c_time, .int c_life, .int c_tries, .int c_x])), (a_this_stations, .inr (4, [.int (8 : Int32), .int (10 : Int32), .ref a_this_stations_cells])), (a_this_stations_cells, .inl (k 0, 80, .inl t1)), (a_this_messages, .inr (4, [.int (24 : Int32), .int (12 : Int32), .ref a_this_messages_cells])), (a_this_messages_cells, .inl (k 0, 288, .inl c_messages)), (a_this_log, .inr (0, [.ref a_this_log_events, .int c_log_first, .int c_log_size])), (a_this_log_events, .inr (4, [.int (40 : Int32), .int (5 : Int32), .ref a_this_log_events_cells])), (a_this_log_events_cells, .inl (k 0, 200, .inl c_log_events))]) rfl rfl, rfl, rfl⟩ (rn_r hR rfl) rn_cs hl.1 rfl (Nat.le_of_ble_eq_true rfl) dX2_takeFrame_166 (fun H locs hW => ?_)
        refine lv_aload_n hx hb dX2_takeFrame_169 rfl (lv_at hl 0 rfl) ?_
        refine rr_get X hW 0 3 gf_X2_26 rfl rfl dX2_takeFrame_170 ?_
        refine lv_iload hx hb dX2_takeFrame_173 (lv_at hl 4 rfl) ?_
        refine lv_iconst (v := 4) hx hb dX2_takeFrame_175 (by decide) ?_
        refine lv_aload_n hx hb dX2_takeFrame_176 rfl (lv_at hl 0 rfl) ?_
        refine rr_get X hW 0 3 gf_X2_26 rfl rfl dX2_takeFrame_177 ?_
        refine lv_iload hx hb dX2_takeFrame_180 (lv_at hl 5 rfl) ?_
        refine lv_iconst (v := 4) hx hb dX2_takeFrame_182 (by decide) ?_
        obtain ⟨t16, ht16, hf⟩ := rn_bind hf
        refine rr_callI (As := [.int t5, .int (4 : Int32)]) (rest := [.int (4 : Int32), .int t2, .ref a_this_copies]) X hW (kX4_get l D k z a_this_copies a_this_copies_cells (192 : Int32) (5 : Int32) 960 t15 t5 (4 : Int32) ht16) gm_X4_get gl_X2_105 [5, 6] [0, 1, 2, 3, 4, 7, 8, 9] [(a_this, .inr (2, [.ref a_this_stations, .ref a_this_links, .ref a_this_messages, .ref a_this_copies, .ref a_this_log, .ref a_this_ways, .ref a_this_frames, .int c_stationCount, .int c_linkCount, .int c_messageCount, .int c_time, .int c_life, .int c_tries, .int c_x])), (a_this_stations, .inr (4, [.int (8 : Int32), .int (10 : Int32), .ref a_this_stations_cells])), (a_this_stations_cells, .inl (k 0, 80, .inl t1)), (a_this_messages, .inr (4, [.int (24 : Int32), .int (12 : Int32), .ref a_this_messages_cells])), (a_this_messages_cells, .inl (k 0, 288, .inl c_messages)), (a_this_copies, .inr (4, [.int (192 : Int32), .int (5 : Int32), .ref a_this_copies_cells])), (a_this_copies_cells, .inl (k 0, 960, .inl t15)), (a_this_log, .inr (0, [.ref a_this_log_events, .int c_log_first, .int c_log_size])), (a_this_log_events, .inr (4, [.int (40 : Int32), .int (5 : Int32), .ref a_this_log_events_cells])), (a_this_log_events_cells, .inl (k 0, 200, .inl c_log_events))] rfl rfl rfl rfl ⟨rfl, rfl, rn_Bw (wr := [(a_this, .inr (2, [.ref a_this_stations, .ref a_this_links, .ref a_this_messages, .ref a_this_copies, .ref a_this_log, .ref a_this_ways, .ref a_this_frames, .int c_stationCount, .int c_linkCount, .int c_messageCount, .int c_time, .int c_life, .int c_tries, .int c_x])), (a_this_stations, .inr (4, [.int (8 : Int32), .int (10 : Int32), .ref a_this_stations_cells])), (a_this_stations_cells, .inl (k 0, 80, .inl t1)), (a_this_messages, .inr (4, [.int (24 : Int32), .int (12 : Int32), .ref a_this_messages_cells])), (a_this_messages_cells, .inl (k 0, 288, .inl c_messages)), (a_this_log, .inr (0, [.ref a_this_log_events, .int c_log_first, .int c_log_size])), (a_this_log_events, .inr (4, [.int (40 : Int32), .int (5 : Int32), .ref a_this_log_events_cells])), (a_this_log_events_cells, .inl (k 0, 200, .inl c_log_events))]) rfl rfl, rfl, rfl⟩ (rn_r hR rfl) rn_cs hl.1 rfl (Nat.le_of_ble_eq_true rfl) dX2_takeFrame_183 (fun hn16 H locs hW => ?_)
        refine lv_iload_n hx hb dX2_takeFrame_186 rfl (lv_at hl 3 rfl) ?_
        refine lv_iload hx hb dX2_takeFrame_187 (lv_at hl 6 rfl) ?_
        refine lv_iconst (v := 3) hx hb dX2_takeFrame_189 (by decide) ?_
        refine lv_imul hx hb dX2_takeFrame_190 ?_
        refine lv_ishl hx hb dX2_takeFrame_191 ?_
        refine lv_ior hx hb dX2_takeFrame_192 ?_
        obtain ⟨t17, ht17, hf⟩ := rn_bind hf
        refine rr_callV (As := [.int t2, .int (4 : Int32), .int (t16 ||| (i3 <<< ((t6 * (3 : Int32)) &&& (31 : Int32))))]) (rest := []) X hW (kX4_set l D k z a_this_copies a_this_copies_cells (192 : Int32) (5 : Int32) 960 t15 t2 (4 : Int32) (t16 ||| (i3 <<< ((t6 * (3 : Int32)) &&& (31 : Int32)))) ht17) gm_X4_set gl_X2_91 [5, 6] [0, 1, 2, 3, 4, 7, 8, 9] [(a_this, .inr (2, [.ref a_this_stations, .ref a_this_links, .ref a_this_messages, .ref a_this_copies, .ref a_this_log, .ref a_this_ways, .ref a_this_frames, .int c_stationCount, .int c_linkCount, .int c_messageCount, .int c_time, .int c_life, .int c_tries, .int c_x])), (a_this_stations, .inr (4, [.int (8 : Int32), .int (10 : Int32), .ref a_this_stations_cells])), (a_this_stations_cells, .inl (k 0, 80, .inl t1)), (a_this_messages, .inr (4, [.int (24 : Int32), .int (12 : Int32), .ref a_this_messages_cells])), (a_this_messages_cells, .inl (k 0, 288, .inl c_messages)), (a_this_copies, .inr (4, [.int (192 : Int32), .int (5 : Int32), .ref a_this_copies_cells])), (a_this_copies_cells, .inl (k 0, 960, .inl t17)), (a_this_log, .inr (0, [.ref a_this_log_events, .int c_log_first, .int c_log_size])), (a_this_log_events, .inr (4, [.int (40 : Int32), .int (5 : Int32), .ref a_this_log_events_cells])), (a_this_log_events_cells, .inl (k 0, 200, .inl c_log_events))] rfl rfl rfl rfl ⟨rfl, rfl, rn_Bw (wr := [(a_this, .inr (2, [.ref a_this_stations, .ref a_this_links, .ref a_this_messages, .ref a_this_copies, .ref a_this_log, .ref a_this_ways, .ref a_this_frames, .int c_stationCount, .int c_linkCount, .int c_messageCount, .int c_time, .int c_life, .int c_tries, .int c_x])), (a_this_stations, .inr (4, [.int (8 : Int32), .int (10 : Int32), .ref a_this_stations_cells])), (a_this_stations_cells, .inl (k 0, 80, .inl t1)), (a_this_messages, .inr (4, [.int (24 : Int32), .int (12 : Int32), .ref a_this_messages_cells])), (a_this_messages_cells, .inl (k 0, 288, .inl c_messages)), (a_this_log, .inr (0, [.ref a_this_log_events, .int c_log_first, .int c_log_size])), (a_this_log_events, .inr (4, [.int (40 : Int32), .int (5 : Int32), .ref a_this_log_events_cells])), (a_this_log_events_cells, .inl (k 0, 200, .inl c_log_events))]) rfl rfl, rfl, rfl⟩ (rn_r hR rfl) rn_cs hl.1 rfl (Nat.le_of_ble_eq_true rfl) dX2_takeFrame_193 (fun H locs hW => ?_)
        refine lv_iload hx hb dX2_takeFrame_196 (lv_at hl 7 rfl) ?_
        refine lv_if_eq (tgt := 254) hx hb dX2_takeFrame_198 (by decide) (fun hc18 => ?_) (fun hc18 => ?_)
        · replace hf := rn_t hf hc18
          cases hf
          exact hE _ _ _ _ hW dX2_takeFrame_254
        · replace hf := rn_f hf hc18
          refine lv_aload_n hx hb dX2_takeFrame_201 rfl (lv_at hl 0 rfl) ?_
          refine rr_get X hW 0 2 gf_X2_23 rfl rfl dX2_takeFrame_202 ?_
          refine lv_iload_n hx hb dX2_takeFrame_205 rfl (lv_at hl 1 rfl) ?_
          refine lv_iconst (v := 5) hx hb dX2_takeFrame_206 (by decide) ?_
          refine lv_aload_n hx hb dX2_takeFrame_207 rfl (lv_at hl 0 rfl) ?_
          refine rr_get X hW 0 10 gf_X2_56 rfl rfl dX2_takeFrame_208 ?_
          refine lv_iconst (v := 1) hx hb dX2_takeFrame_211 (by decide) ?_
          refine lv_iadd hx hb dX2_takeFrame_212 ?_
          obtain ⟨t19, ht19, hf⟩ := rn_bind hf
          refine rr_callV (As := [.int i1, .int (5 : Int32), .int (c_time + (1 : Int32))]) (rest := []) X hW (kX4_set l D k z a_this_messages a_this_messages_cells (24 : Int32) (12 : Int32) 288 c_messages i1 (5 : Int32) (c_time + (1 : Int32)) ht19) gm_X4_set gl_X2_91 [3, 4] [0, 1, 2, 5, 6, 7, 8, 9] [(a_this, .inr (2, [.ref a_this_stations, .ref a_this_links, .ref a_this_messages, .ref a_this_copies, .ref a_this_log, .ref a_this_ways, .ref a_this_frames, .int c_stationCount, .int c_linkCount, .int c_messageCount, .int c_time, .int c_life, .int c_tries, .int c_x])), (a_this_stations, .inr (4, [.int (8 : Int32), .int (10 : Int32), .ref a_this_stations_cells])), (a_this_stations_cells, .inl (k 0, 80, .inl t1)), (a_this_messages, .inr (4, [.int (24 : Int32), .int (12 : Int32), .ref a_this_messages_cells])), (a_this_messages_cells, .inl (k 0, 288, .inl t19)), (a_this_copies, .inr (4, [.int (192 : Int32), .int (5 : Int32), .ref a_this_copies_cells])), (a_this_copies_cells, .inl (k 0, 960, .inl t17)), (a_this_log, .inr (0, [.ref a_this_log_events, .int c_log_first, .int c_log_size])), (a_this_log_events, .inr (4, [.int (40 : Int32), .int (5 : Int32), .ref a_this_log_events_cells])), (a_this_log_events_cells, .inl (k 0, 200, .inl c_log_events))] rfl rfl rfl rfl ⟨rfl, rfl, rn_Bw (wr := [(a_this, .inr (2, [.ref a_this_stations, .ref a_this_links, .ref a_this_messages, .ref a_this_copies, .ref a_this_log, .ref a_this_ways, .ref a_this_frames, .int c_stationCount, .int c_linkCount, .int c_messageCount, .int c_time, .int c_life, .int c_tries, .int c_x])), (a_this_stations, .inr (4, [.int (8 : Int32), .int (10 : Int32), .ref a_this_stations_cells])), (a_this_stations_cells, .inl (k 0, 80, .inl t1)), (a_this_copies, .inr (4, [.int (192 : Int32), .int (5 : Int32), .ref a_this_copies_cells])), (a_this_copies_cells, .inl (k 0, 960, .inl t17)), (a_this_log, .inr (0, [.ref a_this_log_events, .int c_log_first, .int c_log_size])), (a_this_log_events, .inr (4, [.int (40 : Int32), .int (5 : Int32), .ref a_this_log_events_cells])), (a_this_log_events_cells, .inl (k 0, 200, .inl c_log_events))]) rfl rfl, rfl, rfl⟩ (rn_r hR rfl) rn_cs hl.1 rfl (Nat.le_of_ble_eq_true rfl) dX2_takeFrame_213 (fun H locs hW => ?_)
          refine lv_aload_n hx hb dX2_takeFrame_216 rfl (lv_at hl 0 rfl) ?_
          refine rr_get X hW 0 2 gf_X2_23 rfl rfl dX2_takeFrame_217 ?_
          refine lv_iload_n hx hb dX2_takeFrame_220 rfl (lv_at hl 1 rfl) ?_
          refine lv_bipush (v := 6) hx hb dX2_takeFrame_221 (by decide) ?_
          refine lv_iload hx hb dX2_takeFrame_223 (lv_at hl 6 rfl) ?_
          obtain ⟨t20, ht20, hf⟩ := rn_bind hf
          refine rr_callV (As := [.int i1, .int (6 : Int32), .int t6]) (rest := []) X hW (kX4_set l D k z a_this_messages a_this_messages_cells (24 : Int32) (12 : Int32) 288 t19 i1 (6 : Int32) t6 ht20) gm_X4_set gl_X2_91 [3, 4] [0, 1, 2, 5, 6, 7, 8, 9] [(a_this, .inr (2, [.ref a_this_stations, .ref a_this_links, .ref a_this_messages, .ref a_this_copies, .ref a_this_log, .ref a_this_ways, .ref a_this_frames, .int c_stationCount, .int c_linkCount, .int c_messageCount, .int c_time, .int c_life, .int c_tries, .int c_x])), (a_this_stations, .inr (4, [.int (8 : Int32), .int (10 : Int32), .ref a_this_stations_cells])), (a_this_stations_cells, .inl (k 0, 80, .inl t1)), (a_this_messages, .inr (4, [.int (24 : Int32), .int (12 : Int32), .ref a_this_messages_cells])), (a_this_messages_cells, .inl (k 0, 288, .inl t20)), (a_this_copies, .inr (4, [.int (192 : Int32), .int (5 : Int32), .ref a_this_copies_cells])), (a_this_copies_cells, .inl (k 0, 960, .inl t17)), (a_this_log, .inr (0, [.ref a_this_log_events, .int c_log_first, .int c_log_size])), (a_this_log_events, .inr (4, [.int (40 : Int32), .int (5 : Int32), .ref a_this_log_events_cells])), (a_this_log_events_cells, .inl (k 0, 200, .inl c_log_events))] rfl rfl rfl rfl ⟨rfl, rfl, rn_Bw (wr := [(a_this, .inr (2, [.ref a_this_stations, .ref a_this_links, .ref a_this_messages, .ref a_this_copies, .ref a_this_log, .ref a_this_ways, .ref a_this_frames, .int c_stationCount, .int c_linkCount, .int c_messageCount, .int c_time, .int c_life, .int c_tries, .int c_x])), (a_this_stations, .inr (4, [.int (8 : Int32), .int (10 : Int32), .ref a_this_stations_cells])), (a_this_stations_cells, .inl (k 0, 80, .inl t1)), (a_this_copies, .inr (4, [.int (192 : Int32), .int (5 : Int32), .ref a_this_copies_cells])), (a_this_copies_cells, .inl (k 0, 960, .inl t17)), (a_this_log, .inr (0, [.ref a_this_log_events, .int c_log_first, .int c_log_size])), (a_this_log_events, .inr (4, [.int (40 : Int32), .int (5 : Int32), .ref a_this_log_events_cells])), (a_this_log_events_cells, .inl (k 0, 200, .inl c_log_events))]) rfl rfl, rfl, rfl⟩ (rn_r hR rfl) rn_cs hl.1 rfl (Nat.le_of_ble_eq_true rfl) dX2_takeFrame_225 (fun H locs hW => ?_)
          refine lv_aload_n hx hb dX2_takeFrame_228 rfl (lv_at hl 0 rfl) ?_
          refine rr_get X hW 0 0 gf_X2_14 rfl rfl dX2_takeFrame_229 ?_
          refine lv_iload_n hx hb dX2_takeFrame_232 rfl (lv_at hl 3 rfl) ?_
          refine lv_bipush (v := 8) hx hb dX2_takeFrame_233 (by decide) ?_
          refine lv_iconst (v := 1) hx hb dX2_takeFrame_235 (by decide) ?_
          obtain ⟨t21, ht21, hf⟩ := rn_bind hf
          refine rr_callV (As := [.int i3, .int (8 : Int32), .int (1 : Int32)]) (rest := []) X hW (kX4_add l D k z a_this_stations a_this_stations_cells (8 : Int32) (10 : Int32) 80 t1 i3 (8 : Int32) (1 : Int32) ht21) gm_X4_add gl_X2_189 [1, 2] [0, 3, 4, 5, 6, 7, 8, 9] [(a_this, .inr (2, [.ref a_this_stations, .ref a_this_links, .ref a_this_messages, .ref a_this_copies, .ref a_this_log, .ref a_this_ways, .ref a_this_frames, .int c_stationCount, .int c_linkCount, .int c_messageCount, .int c_time, .int c_life, .int c_tries, .int c_x])), (a_this_stations, .inr (4, [.int (8 : Int32), .int (10 : Int32), .ref a_this_stations_cells])), (a_this_stations_cells, .inl (k 0, 80, .inl t21)), (a_this_messages, .inr (4, [.int (24 : Int32), .int (12 : Int32), .ref a_this_messages_cells])), (a_this_messages_cells, .inl (k 0, 288, .inl t20)), (a_this_copies, .inr (4, [.int (192 : Int32), .int (5 : Int32), .ref a_this_copies_cells])), (a_this_copies_cells, .inl (k 0, 960, .inl t17)), (a_this_log, .inr (0, [.ref a_this_log_events, .int c_log_first, .int c_log_size])), (a_this_log_events, .inr (4, [.int (40 : Int32), .int (5 : Int32), .ref a_this_log_events_cells])), (a_this_log_events_cells, .inl (k 0, 200, .inl c_log_events))] rfl rfl rfl rfl ⟨rfl, rfl, rn_Bw (wr := [(a_this, .inr (2, [.ref a_this_stations, .ref a_this_links, .ref a_this_messages, .ref a_this_copies, .ref a_this_log, .ref a_this_ways, .ref a_this_frames, .int c_stationCount, .int c_linkCount, .int c_messageCount, .int c_time, .int c_life, .int c_tries, .int c_x])), (a_this_messages, .inr (4, [.int (24 : Int32), .int (12 : Int32), .ref a_this_messages_cells])), (a_this_messages_cells, .inl (k 0, 288, .inl t20)), (a_this_copies, .inr (4, [.int (192 : Int32), .int (5 : Int32), .ref a_this_copies_cells])), (a_this_copies_cells, .inl (k 0, 960, .inl t17)), (a_this_log, .inr (0, [.ref a_this_log_events, .int c_log_first, .int c_log_size])), (a_this_log_events, .inr (4, [.int (40 : Int32), .int (5 : Int32), .ref a_this_log_events_cells])), (a_this_log_events_cells, .inl (k 0, 200, .inl c_log_events))]) rfl rfl, rfl, rfl⟩ (rn_r hR rfl) rn_cs hl.1 rfl (Nat.le_of_ble_eq_true rfl) dX2_takeFrame_236 (fun H locs hW => ?_)
          refine lv_aload_n hx hb dX2_takeFrame_239 rfl (lv_at hl 0 rfl) ?_
          refine rr_get X hW 0 4 gf_X2_32 rfl rfl dX2_takeFrame_240 ?_
          refine lv_aload_n hx hb dX2_takeFrame_243 rfl (lv_at hl 0 rfl) ?_
          refine rr_get X hW 0 10 gf_X2_56 rfl rfl dX2_takeFrame_244 ?_
          refine lv_iconst (v := 5) hx hb dX2_takeFrame_247 (by decide) ?_
          refine lv_iload_n hx hb dX2_takeFrame_248 rfl (lv_at hl 1 rfl) ?_
          refine lv_iload_n hx hb dX2_takeFrame_249 rfl (lv_at hl 3 rfl) ?_
          refine lv_iload_n hx hb dX2_takeFrame_250 rfl (lv_at hl 2 rfl) ?_
          obtain ⟨t22, ht22, hf⟩ := rn_bind hf
          refine rr_callV (As := [.int c_time, .int (5 : Int32), .int i1, .int i3, .int i2]) (rest := []) X hW (kX0_add l D k z a_this_log a_this_log_events a_this_log_events_cells c_log_first c_log_size c_log_events c_time (5 : Int32) i1 i3 i2 ht22) gm_X0_add gl_X2_101 [7, 8, 9] [0, 1, 2, 3, 4, 5, 6] [(a_this, .inr (2, [.ref a_this_stations, .ref a_this_links, .ref a_this_messages, .ref a_this_copies, .ref a_this_log, .ref a_this_ways, .ref a_this_frames, .int c_stationCount, .int c_linkCount, .int c_messageCount, .int c_time, .int c_life, .int c_tries, .int c_x])), (a_this_stations, .inr (4, [.int (8 : Int32), .int (10 : Int32), .ref a_this_stations_cells])), (a_this_stations_cells, .inl (k 0, 80, .inl t21)), (a_this_messages, .inr (4, [.int (24 : Int32), .int (12 : Int32), .ref a_this_messages_cells])), (a_this_messages_cells, .inl (k 0, 288, .inl t20)), (a_this_copies, .inr (4, [.int (192 : Int32), .int (5 : Int32), .ref a_this_copies_cells])), (a_this_copies_cells, .inl (k 0, 960, .inl t17)), (a_this_log, .inr (0, [.ref a_this_log_events, .int t22.1, .int t22.2.1])), (a_this_log_events, .inr (4, [.int (40 : Int32), .int (5 : Int32), .ref a_this_log_events_cells])), (a_this_log_events_cells, .inl (k 0, 200, .inl t22.2.2))] rfl rfl rfl rfl ⟨rfl, rfl, rn_Bw (wr := [(a_this, .inr (2, [.ref a_this_stations, .ref a_this_links, .ref a_this_messages, .ref a_this_copies, .ref a_this_log, .ref a_this_ways, .ref a_this_frames, .int c_stationCount, .int c_linkCount, .int c_messageCount, .int c_time, .int c_life, .int c_tries, .int c_x])), (a_this_stations, .inr (4, [.int (8 : Int32), .int (10 : Int32), .ref a_this_stations_cells])), (a_this_stations_cells, .inl (k 0, 80, .inl t21)), (a_this_messages, .inr (4, [.int (24 : Int32), .int (12 : Int32), .ref a_this_messages_cells])), (a_this_messages_cells, .inl (k 0, 288, .inl t20)), (a_this_copies, .inr (4, [.int (192 : Int32), .int (5 : Int32), .ref a_this_copies_cells])), (a_this_copies_cells, .inl (k 0, 960, .inl t17))]) rfl rfl, rfl, rfl⟩ (rn_r hR rfl) rn_cs hl.1 rfl (Nat.le_of_ble_eq_true rfl) dX2_takeFrame_251 (fun H locs hW => ?_)
          cases hf
          exact hE _ _ _ _ hW dX2_takeFrame_254
      replace hf := ht10
      clear ht10
      refine lv_if_eq (tgt := 124) hx hb dX2_takeFrame_117 (by decide) (fun hc11 => ?_) (fun hc11 => ?_)
      · replace hf := rn_t hf hc11
        refine lv_iconst (v := 1) hx hb dX2_takeFrame_124 (by decide) ?_
        cases hf
        exact jnt10 _ _ _ hW (lv_sub hl [1, 2, 3, 4, 5, 6, 7, 0] rfl)
      · replace hf := rn_f hf hc11
        refine lv_iconst (v := 5) hx hb dX2_takeFrame_120 (by decide) ?_
        refine lv_goto (tgt := 125) hx hb dX2_takeFrame_121 (by decide) ?_
        cases hf
        exact jnt10 _ _ _ hW (lv_sub hl [1, 2, 3, 4, 5, 6, 7, 0] rfl)
    replace hf := ht8
    clear ht8
    refine lv_icmp_ne (tgt := 105) hx hb dX2_takeFrame_98 (by decide) (fun hc9 => ?_) (fun hc9 => ?_)
    · replace hf := rn_f hf hc9
      refine lv_iconst (v := 0) hx hb dX2_takeFrame_105 (by decide) ?_
      cases hf
      exact jnt8 _ _ _ hW (lv_sub hl [3, 4, 5, 6, 2, 1, 0] rfl)
    · replace hf := rn_t hf hc9
      refine lv_iconst (v := 1) hx hb dX2_takeFrame_101 (by decide) ?_
      refine lv_goto (tgt := 106) hx hb dX2_takeFrame_102 (by decide) ?_
      cases hf
      exact jnt8 _ _ _ hW (lv_sub hl [3, 4, 5, 6, 2, 1, 0] rfl)
  · replace hf := rn_f hf hc4
    refine lv_aload_n hx hb dX2_takeFrame_31 rfl (lv_at hl 1 rfl) ?_
    refine rr_get X hW 0 0 gf_X2_14 rfl rfl dX2_takeFrame_32 ?_
    refine lv_iload_n hx hb dX2_takeFrame_35 rfl (lv_at hl 4 rfl) ?_
    refine lv_bipush (v := 7) hx hb dX2_takeFrame_36 (by decide) ?_
    refine lv_iconst (v := 1) hx hb dX2_takeFrame_38 (by decide) ?_
    obtain ⟨t23, ht23, hf⟩ := rn_bind hf
    refine rr_callV (As := [.int i3, .int (7 : Int32), .int (1 : Int32)]) (rest := []) X hW (kX4_add l D k z a_this_stations a_this_stations_cells (8 : Int32) (10 : Int32) 80 t1 i3 (7 : Int32) (1 : Int32) ht23) gm_X4_add gl_X2_189 [1, 2] [0, 3, 4, 5, 6, 7, 8, 9] [(a_this, .inr (2, [.ref a_this_stations, .ref a_this_links, .ref a_this_messages, .ref a_this_copies, .ref a_this_log, .ref a_this_ways, .ref a_this_frames, .int c_stationCount, .int c_linkCount, .int c_messageCount, .int c_time, .int c_life, .int c_tries, .int c_x])), (a_this_stations, .inr (4, [.int (8 : Int32), .int (10 : Int32), .ref a_this_stations_cells])), (a_this_stations_cells, .inl (k 0, 80, .inl t23)), (a_this_messages, .inr (4, [.int (24 : Int32), .int (12 : Int32), .ref a_this_messages_cells])), (a_this_messages_cells, .inl (k 0, 288, .inl c_messages)), (a_this_copies, .inr (4, [.int (192 : Int32), .int (5 : Int32), .ref a_this_copies_cells])), (a_this_copies_cells, .inl (k 0, 960, .inl c_copies)), (a_this_log, .inr (0, [.ref a_this_log_events, .int c_log_first, .int c_log_size])), (a_this_log_events, .inr (4, [.int (40 : Int32), .int (5 : Int32), .ref a_this_log_events_cells])), (a_this_log_events_cells, .inl (k 0, 200, .inl c_log_events))] rfl rfl rfl rfl ⟨rfl, rfl, rn_Bw (wr := [(a_this, .inr (2, [.ref a_this_stations, .ref a_this_links, .ref a_this_messages, .ref a_this_copies, .ref a_this_log, .ref a_this_ways, .ref a_this_frames, .int c_stationCount, .int c_linkCount, .int c_messageCount, .int c_time, .int c_life, .int c_tries, .int c_x])), (a_this_messages, .inr (4, [.int (24 : Int32), .int (12 : Int32), .ref a_this_messages_cells])), (a_this_messages_cells, .inl (k 0, 288, .inl c_messages)), (a_this_copies, .inr (4, [.int (192 : Int32), .int (5 : Int32), .ref a_this_copies_cells])), (a_this_copies_cells, .inl (k 0, 960, .inl c_copies)), (a_this_log, .inr (0, [.ref a_this_log_events, .int c_log_first, .int c_log_size])), (a_this_log_events, .inr (4, [.int (40 : Int32), .int (5 : Int32), .ref a_this_log_events_cells])), (a_this_log_events_cells, .inl (k 0, 200, .inl c_log_events))]) rfl rfl, rfl, rfl⟩ (rn_r hR rfl) rn_cs hl.1 rfl (Nat.le_of_ble_eq_true rfl) dX2_takeFrame_39 (fun H locs hW => ?_)
    refine lv_aload_n hx hb dX2_takeFrame_42 rfl (lv_at hl 1 rfl) ?_
    refine rr_get X hW 0 2 gf_X2_23 rfl rfl dX2_takeFrame_43 ?_
    refine lv_iload_n hx hb dX2_takeFrame_46 rfl (lv_at hl 2 rfl) ?_
    refine lv_bipush (v := 8) hx hb dX2_takeFrame_47 (by decide) ?_
    refine lv_iconst (v := 1) hx hb dX2_takeFrame_49 (by decide) ?_
    obtain ⟨t24, ht24, hf⟩ := rn_bind hf
    refine rr_callV (As := [.int i1, .int (8 : Int32), .int (1 : Int32)]) (rest := []) X hW (kX4_add l D k z a_this_messages a_this_messages_cells (24 : Int32) (12 : Int32) 288 c_messages i1 (8 : Int32) (1 : Int32) ht24) gm_X4_add gl_X2_189 [3, 4] [0, 1, 2, 5, 6, 7, 8, 9] [(a_this, .inr (2, [.ref a_this_stations, .ref a_this_links, .ref a_this_messages, .ref a_this_copies, .ref a_this_log, .ref a_this_ways, .ref a_this_frames, .int c_stationCount, .int c_linkCount, .int c_messageCount, .int c_time, .int c_life, .int c_tries, .int c_x])), (a_this_stations, .inr (4, [.int (8 : Int32), .int (10 : Int32), .ref a_this_stations_cells])), (a_this_stations_cells, .inl (k 0, 80, .inl t23)), (a_this_messages, .inr (4, [.int (24 : Int32), .int (12 : Int32), .ref a_this_messages_cells])), (a_this_messages_cells, .inl (k 0, 288, .inl t24)), (a_this_copies, .inr (4, [.int (192 : Int32), .int (5 : Int32), .ref a_this_copies_cells])), (a_this_copies_cells, .inl (k 0, 960, .inl c_copies)), (a_this_log, .inr (0, [.ref a_this_log_events, .int c_log_first, .int c_log_size])), (a_this_log_events, .inr (4, [.int (40 : Int32), .int (5 : Int32), .ref a_this_log_events_cells])), (a_this_log_events_cells, .inl (k 0, 200, .inl c_log_events))] rfl rfl rfl rfl ⟨rfl, rfl, rn_Bw (wr := [(a_this, .inr (2, [.ref a_this_stations, .ref a_this_links, .ref a_this_messages, .ref a_this_copies, .ref a_this_log, .ref a_this_ways, .ref a_this_frames, .int c_stationCount, .int c_linkCount, .int c_messageCount, .int c_time, .int c_life, .int c_tries, .int c_x])), (a_this_stations, .inr (4, [.int (8 : Int32), .int (10 : Int32), .ref a_this_stations_cells])), (a_this_stations_cells, .inl (k 0, 80, .inl t23)), (a_this_copies, .inr (4, [.int (192 : Int32), .int (5 : Int32), .ref a_this_copies_cells])), (a_this_copies_cells, .inl (k 0, 960, .inl c_copies)), (a_this_log, .inr (0, [.ref a_this_log_events, .int c_log_first, .int c_log_size])), (a_this_log_events, .inr (4, [.int (40 : Int32), .int (5 : Int32), .ref a_this_log_events_cells])), (a_this_log_events_cells, .inl (k 0, 200, .inl c_log_events))]) rfl rfl, rfl, rfl⟩ (rn_r hR rfl) rn_cs hl.1 rfl (Nat.le_of_ble_eq_true rfl) dX2_takeFrame_50 (fun H locs hW => ?_)
    refine lv_aload_n hx hb dX2_takeFrame_53 rfl (lv_at hl 1 rfl) ?_
    refine rr_get X hW 0 4 gf_X2_32 rfl rfl dX2_takeFrame_54 ?_
    refine lv_aload_n hx hb dX2_takeFrame_57 rfl (lv_at hl 1 rfl) ?_
    refine rr_get X hW 0 10 gf_X2_56 rfl rfl dX2_takeFrame_58 ?_
    refine lv_iconst (v := 4) hx hb dX2_takeFrame_61 (by decide) ?_
    refine lv_iload_n hx hb dX2_takeFrame_62 rfl (lv_at hl 2 rfl) ?_
    refine lv_iload_n hx hb dX2_takeFrame_63 rfl (lv_at hl 4 rfl) ?_
    refine lv_iload_n hx hb dX2_takeFrame_64 rfl (lv_at hl 3 rfl) ?_
    obtain ⟨t25, ht25, hf⟩ := rn_bind hf
    refine rr_callV (As := [.int c_time, .int (4 : Int32), .int i1, .int i3, .int i2]) (rest := []) X hW (kX0_add l D k z a_this_log a_this_log_events a_this_log_events_cells c_log_first c_log_size c_log_events c_time (4 : Int32) i1 i3 i2 ht25) gm_X0_add gl_X2_101 [7, 8, 9] [0, 1, 2, 3, 4, 5, 6] [(a_this, .inr (2, [.ref a_this_stations, .ref a_this_links, .ref a_this_messages, .ref a_this_copies, .ref a_this_log, .ref a_this_ways, .ref a_this_frames, .int c_stationCount, .int c_linkCount, .int c_messageCount, .int c_time, .int c_life, .int c_tries, .int c_x])), (a_this_stations, .inr (4, [.int (8 : Int32), .int (10 : Int32), .ref a_this_stations_cells])), (a_this_stations_cells, .inl (k 0, 80, .inl t23)), (a_this_messages, .inr (4, [.int (24 : Int32), .int (12 : Int32), .ref a_this_messages_cells])), (a_this_messages_cells, .inl (k 0, 288, .inl t24)), (a_this_copies, .inr (4, [.int (192 : Int32), .int (5 : Int32), .ref a_this_copies_cells])), (a_this_copies_cells, .inl (k 0, 960, .inl c_copies)), (a_this_log, .inr (0, [.ref a_this_log_events, .int t25.1, .int t25.2.1])), (a_this_log_events, .inr (4, [.int (40 : Int32), .int (5 : Int32), .ref a_this_log_events_cells])), (a_this_log_events_cells, .inl (k 0, 200, .inl t25.2.2))] rfl rfl rfl rfl ⟨rfl, rfl, rn_Bw (wr := [(a_this, .inr (2, [.ref a_this_stations, .ref a_this_links, .ref a_this_messages, .ref a_this_copies, .ref a_this_log, .ref a_this_ways, .ref a_this_frames, .int c_stationCount, .int c_linkCount, .int c_messageCount, .int c_time, .int c_life, .int c_tries, .int c_x])), (a_this_stations, .inr (4, [.int (8 : Int32), .int (10 : Int32), .ref a_this_stations_cells])), (a_this_stations_cells, .inl (k 0, 80, .inl t23)), (a_this_messages, .inr (4, [.int (24 : Int32), .int (12 : Int32), .ref a_this_messages_cells])), (a_this_messages_cells, .inl (k 0, 288, .inl t24)), (a_this_copies, .inr (4, [.int (192 : Int32), .int (5 : Int32), .ref a_this_copies_cells])), (a_this_copies_cells, .inl (k 0, 960, .inl c_copies))]) rfl rfl, rfl, rfl⟩ (rn_r hR rfl) rn_cs hl.1 rfl (Nat.le_of_ble_eq_true rfl) dX2_takeFrame_65 (fun H locs hW => ?_)
    cases hf
    exact hE _ _ _ _ hW dX2_takeFrame_68
def fX2_sendFrame (N : Nat) (c_linkCount : Int32) (c_time : Int32) (c_tries : Int32) (c_x : Int32) (c_stations : Nat → Int32) (c_links : Nat → Int32) (c_messages : Nat → Int32) (c_copies : Nat → Int32) (c_log_first : Int32) (c_log_size : Int32) (c_log_events : Nat → Int32) (i1 : Int32) (i2 : Int32) (i3 : Int32) : Option (Int32 × (Nat → Int32) × (Nat → Int32) × (Nat → Int32) × (Nat → Int32) × Int32 × Int32 × (Nat → Int32)) :=
  (fX2_linkBetween N c_linkCount c_links i2 i3).bind fun t1 =>
  (fX4_get (16 : Int32) (9 : Int32) 144 c_links t1 (4 : Int32)).bind fun t2 =>
  (fX4_add (8 : Int32) (10 : Int32) 80 c_stations i2 (5 : Int32) (1 : Int32)).bind fun t3 =>
  (fX4_add (16 : Int32) (9 : Int32) 144 c_links t1 (6 : Int32) (1 : Int32)).bind fun t4 =>
  (fX4_add (24 : Int32) (12 : Int32) 288 c_messages i1 (7 : Int32) (1 : Int32)).bind fun t5 =>
  (fX2_draw c_x).bind fun t6 =>
  if t6.1 < t2 then
    (fX2_takeFrame c_time t3 t5 c_copies c_log_first c_log_size c_log_events i1 i2 i3).bind fun t8 =>
    (fX2_draw t6.2).bind fun t9 =>
    if t9.1 < t2 then
      (fX2_copyRow i1 i2).bind fun t11 =>
      (fX4_set (192 : Int32) (5 : Int32) 960 t8.2.2.1 t11 (0 : Int32) (2 : Int32)).bind fun t12 =>
      (fX0_add t8.2.2.2.1 t8.2.2.2.2.1 t8.2.2.2.2.2 c_time (1 : Int32) i1 i2 i3).bind fun t13 =>
      some (t9.2, t8.1, t4, t8.2.1, t12, t13.1, t13.2.1, t13.2.2)
    else
    (fX4_add (16 : Int32) (9 : Int32) 144 t4 t1 (8 : Int32) (1 : Int32)).bind fun t14 =>
    (fX0_add t8.2.2.2.1 t8.2.2.2.2.1 t8.2.2.2.2.2 c_time (3 : Int32) i1 i2 i3).bind fun t15 =>
    (fX2_addTry c_time c_tries t8.2.1 t8.2.2.1 t15.1 t15.2.1 t15.2.2 i1 i2 i3).bind fun t16 =>
    some (t9.2, t8.1, t14, t16.1, t16.2.1, t16.2.2.1, t16.2.2.2.1, t16.2.2.2.2)
  else
  (fX4_add (16 : Int32) (9 : Int32) 144 t4 t1 (7 : Int32) (1 : Int32)).bind fun t17 =>
  (fX0_add c_log_first c_log_size c_log_events c_time (2 : Int32) i1 i2 i3).bind fun t18 =>
  (fX2_addTry c_time c_tries t5 c_copies t18.1 t18.2.1 t18.2.2 i1 i2 i3).bind fun t19 =>
  some (t6.2, t3, t17, t19.1, t19.2.1, t19.2.2.1, t19.2.2.2.1, t19.2.2.2.2)
set_option maxHeartbeats 4000000 in
set_option maxRecDepth 20000 in
theorem kX2_sendFrame (l : Launch) (D : va_G) (k : Nat → ClassId) (z : (Nat → Nat) × (Nat → Nat)) (N : Nat) (a_this : Nat) (a_this_stations : Nat) (a_this_links : Nat) (a_this_messages : Nat) (a_this_copies : Nat) (a_this_log : Nat) (a_this_ways : Nat) (a_this_frames : Nat) (a_this_stations_cells : Nat) (a_this_links_cells : Nat) (a_this_messages_cells : Nat) (a_this_copies_cells : Nat) (a_this_log_events : Nat) (a_this_log_events_cells : Nat) (c_stationCount : Int32) (c_linkCount : Int32) (c_messageCount : Int32) (c_time : Int32) (c_life : Int32) (c_tries : Int32) (c_x : Int32) (c_stations : Nat → Int32) (c_links : Nat → Int32) (c_messages : Nat → Int32) (c_copies : Nat → Int32) (c_log_first : Int32) (c_log_size : Int32) (c_log_events : Nat → Int32) (i1 : Int32) (i2 : Int32) (i3 : Int32) {u : Int32 × (Nat → Int32) × (Nat → Int32) × (Nat → Int32) × (Nat → Int32) × Int32 × Int32 × (Nat → Int32)} (hf : fX2_sendFrame N c_linkCount c_time c_tries c_x c_stations c_links c_messages c_copies c_log_first c_log_size c_log_events i1 i2 i3 = some u) : rn_KV l D k z yX2_sendFrame cX2_sendFrame 6 4 99 [.ref a_this, .int i1, .int i2, .int i3] [(a_this, .inr (2, [.ref a_this_stations, .ref a_this_links, .ref a_this_messages, .ref a_this_copies, .ref a_this_log, .ref a_this_ways, .ref a_this_frames, .int c_stationCount, .int c_linkCount, .int c_messageCount, .int c_time, .int c_life, .int c_tries, .int c_x])), (a_this_stations, .inr (4, [.int (8 : Int32), .int (10 : Int32), .ref a_this_stations_cells])), (a_this_stations_cells, .inl (k 0, 80, .inl c_stations)), (a_this_links, .inr (4, [.int (16 : Int32), .int (9 : Int32), .ref a_this_links_cells])), (a_this_links_cells, .inl (k 0, 144, .inl c_links)), (a_this_messages, .inr (4, [.int (24 : Int32), .int (12 : Int32), .ref a_this_messages_cells])), (a_this_messages_cells, .inl (k 0, 288, .inl c_messages)), (a_this_copies, .inr (4, [.int (192 : Int32), .int (5 : Int32), .ref a_this_copies_cells])), (a_this_copies_cells, .inl (k 0, 960, .inl c_copies)), (a_this_log, .inr (0, [.ref a_this_log_events, .int c_log_first, .int c_log_size])), (a_this_log_events, .inr (4, [.int (40 : Int32), .int (5 : Int32), .ref a_this_log_events_cells])), (a_this_log_events_cells, .inl (k 0, 200, .inl c_log_events))] [(a_this, .inr (2, [.ref a_this_stations, .ref a_this_links, .ref a_this_messages, .ref a_this_copies, .ref a_this_log, .ref a_this_ways, .ref a_this_frames, .int c_stationCount, .int c_linkCount, .int c_messageCount, .int c_time, .int c_life, .int c_tries, .int u.1])), (a_this_stations, .inr (4, [.int (8 : Int32), .int (10 : Int32), .ref a_this_stations_cells])), (a_this_stations_cells, .inl (k 0, 80, .inl u.2.1)), (a_this_links, .inr (4, [.int (16 : Int32), .int (9 : Int32), .ref a_this_links_cells])), (a_this_links_cells, .inl (k 0, 144, .inl u.2.2.1)), (a_this_messages, .inr (4, [.int (24 : Int32), .int (12 : Int32), .ref a_this_messages_cells])), (a_this_messages_cells, .inl (k 0, 288, .inl u.2.2.2.1)), (a_this_copies, .inr (4, [.int (192 : Int32), .int (5 : Int32), .ref a_this_copies_cells])), (a_this_copies_cells, .inl (k 0, 960, .inl u.2.2.2.2.1)), (a_this_log, .inr (0, [.ref a_this_log_events, .int u.2.2.2.2.2.1, .int u.2.2.2.2.2.2.1])), (a_this_log_events, .inr (4, [.int (40 : Int32), .int (5 : Int32), .ref a_this_log_events_cells])), (a_this_log_events_cells, .inl (k 0, 200, .inl u.2.2.2.2.2.2.2))] := by
  refine rn_KV.go (LOC := [(0, .ref a_this), (1, .int i1), (2, .int i2), (3, .int i3)]) rfl (by decide) (Nat.le_of_ble_eq_true rfl) rfl ?_
  intro p e s m args below meth c A ls R Q X hR hE hW hl
  have hx := X.1.1
  have hb := X.1.2.1
  unfold fX2_sendFrame at hf
  obtain ⟨u0, u1, u2, u3, u4, u5, u6, u7⟩ := u
  dsimp only at hE
  refine lv_aload_n hx hb dX2_sendFrame_0 rfl (lv_at hl 0 rfl) ?_
  refine lv_iload_n hx hb dX2_sendFrame_1 rfl (lv_at hl 2 rfl) ?_
  refine lv_iload_n hx hb dX2_sendFrame_2 rfl (lv_at hl 3 rfl) ?_
  obtain ⟨t1, ht1, hf⟩ := rn_bind hf
  refine rr_callI (As := [.int i2, .int i3]) (rest := []) X hW (kX2_linkBetween l D k z N a_this a_this_stations a_this_links a_this_messages a_this_copies a_this_log a_this_ways a_this_frames a_this_links_cells c_stationCount c_linkCount c_messageCount c_time c_life c_tries c_x c_links i2 i3 ht1) gm_X2_linkBetween gl_X2_186 [0, 3, 4] [1, 2, 5, 6, 7, 8, 9, 10, 11] [(a_this, .inr (2, [.ref a_this_stations, .ref a_this_links, .ref a_this_messages, .ref a_this_copies, .ref a_this_log, .ref a_this_ways, .ref a_this_frames, .int c_stationCount, .int c_linkCount, .int c_messageCount, .int c_time, .int c_life, .int c_tries, .int c_x])), (a_this_stations, .inr (4, [.int (8 : Int32), .int (10 : Int32), .ref a_this_stations_cells])), (a_this_stations_cells, .inl (k 0, 80, .inl c_stations)), (a_this_links, .inr (4, [.int (16 : Int32), .int (9 : Int32), .ref a_this_links_cells])), (a_this_links_cells, .inl (k 0, 144, .inl c_links)), (a_this_messages, .inr (4, [.int (24 : Int32), .int (12 : Int32), .ref a_this_messages_cells])), (a_this_messages_cells, .inl (k 0, 288, .inl c_messages)), (a_this_copies, .inr (4, [.int (192 : Int32), .int (5 : Int32), .ref a_this_copies_cells])), (a_this_copies_cells, .inl (k 0, 960, .inl c_copies)), (a_this_log, .inr (0, [.ref a_this_log_events, .int c_log_first, .int c_log_size])), (a_this_log_events, .inr (4, [.int (40 : Int32), .int (5 : Int32), .ref a_this_log_events_cells])), (a_this_log_events_cells, .inl (k 0, 200, .inl c_log_events))] rfl rfl rfl rfl ⟨rfl, rfl, rn_Bw (wr := [(a_this_stations, .inr (4, [.int (8 : Int32), .int (10 : Int32), .ref a_this_stations_cells])), (a_this_stations_cells, .inl (k 0, 80, .inl c_stations)), (a_this_messages, .inr (4, [.int (24 : Int32), .int (12 : Int32), .ref a_this_messages_cells])), (a_this_messages_cells, .inl (k 0, 288, .inl c_messages)), (a_this_copies, .inr (4, [.int (192 : Int32), .int (5 : Int32), .ref a_this_copies_cells])), (a_this_copies_cells, .inl (k 0, 960, .inl c_copies)), (a_this_log, .inr (0, [.ref a_this_log_events, .int c_log_first, .int c_log_size])), (a_this_log_events, .inr (4, [.int (40 : Int32), .int (5 : Int32), .ref a_this_log_events_cells])), (a_this_log_events_cells, .inl (k 0, 200, .inl c_log_events))]) rfl rfl, rfl, rfl⟩ (rn_r hR rfl) rn_cs hl.1 rfl (Nat.le_of_ble_eq_true rfl) dX2_sendFrame_3 (fun hn1 H locs hW => ?_)
  refine lv_istore (lv' := [(4, .int t1), (0, .ref a_this), (1, .int i1), (2, .int i2), (3, .int i3)]) hx hb dX2_sendFrame_6 hl (Nat.le_of_ble_eq_true rfl) rfl (fun ls hl => ?_)
  refine lv_aload_n hx hb dX2_sendFrame_8 rfl (lv_at hl 1 rfl) ?_
  refine rr_get X hW 0 1 gf_X2_20 rfl rfl dX2_sendFrame_9 ?_
  refine lv_iload hx hb dX2_sendFrame_12 (lv_at hl 0 rfl) ?_
  refine lv_iconst (v := 4) hx hb dX2_sendFrame_14 (by decide) ?_
  obtain ⟨t2, ht2, hf⟩ := rn_bind hf
  refine rr_callI (As := [.int t1, .int (4 : Int32)]) (rest := []) X hW (kX4_get l D k z a_this_links a_this_links_cells (16 : Int32) (9 : Int32) 144 c_links t1 (4 : Int32) ht2) gm_X4_get gl_X2_105 [3, 4] [0, 1, 2, 5, 6, 7, 8, 9, 10, 11] [(a_this, .inr (2, [.ref a_this_stations, .ref a_this_links, .ref a_this_messages, .ref a_this_copies, .ref a_this_log, .ref a_this_ways, .ref a_this_frames, .int c_stationCount, .int c_linkCount, .int c_messageCount, .int c_time, .int c_life, .int c_tries, .int c_x])), (a_this_stations, .inr (4, [.int (8 : Int32), .int (10 : Int32), .ref a_this_stations_cells])), (a_this_stations_cells, .inl (k 0, 80, .inl c_stations)), (a_this_links, .inr (4, [.int (16 : Int32), .int (9 : Int32), .ref a_this_links_cells])), (a_this_links_cells, .inl (k 0, 144, .inl c_links)), (a_this_messages, .inr (4, [.int (24 : Int32), .int (12 : Int32), .ref a_this_messages_cells])), (a_this_messages_cells, .inl (k 0, 288, .inl c_messages)), (a_this_copies, .inr (4, [.int (192 : Int32), .int (5 : Int32), .ref a_this_copies_cells])), (a_this_copies_cells, .inl (k 0, 960, .inl c_copies)), (a_this_log, .inr (0, [.ref a_this_log_events, .int c_log_first, .int c_log_size])), (a_this_log_events, .inr (4, [.int (40 : Int32), .int (5 : Int32), .ref a_this_log_events_cells])), (a_this_log_events_cells, .inl (k 0, 200, .inl c_log_events))] rfl rfl rfl rfl ⟨rfl, rfl, rn_Bw (wr := [(a_this, .inr (2, [.ref a_this_stations, .ref a_this_links, .ref a_this_messages, .ref a_this_copies, .ref a_this_log, .ref a_this_ways, .ref a_this_frames, .int c_stationCount, .int c_linkCount, .int c_messageCount, .int c_time, .int c_life, .int c_tries, .int c_x])), (a_this_stations, .inr (4, [.int (8 : Int32), .int (10 : Int32), .ref a_this_stations_cells])), (a_this_stations_cells, .inl (k 0, 80, .inl c_stations)), (a_this_messages, .inr (4, [.int (24 : Int32), .int (12 : Int32), .ref a_this_messages_cells])), (a_this_messages_cells, .inl (k 0, 288, .inl c_messages)), (a_this_copies, .inr (4, [.int (192 : Int32), .int (5 : Int32), .ref a_this_copies_cells])), (a_this_copies_cells, .inl (k 0, 960, .inl c_copies)), (a_this_log, .inr (0, [.ref a_this_log_events, .int c_log_first, .int c_log_size])), (a_this_log_events, .inr (4, [.int (40 : Int32), .int (5 : Int32), .ref a_this_log_events_cells])), (a_this_log_events_cells, .inl (k 0, 200, .inl c_log_events))]) rfl rfl, rfl, rfl⟩ (rn_r hR rfl) rn_cs hl.1 rfl (Nat.le_of_ble_eq_true rfl) dX2_sendFrame_15 (fun hn2 H locs hW => ?_)
  refine lv_istore (lv' := [(5, .int t2), (4, .int t1), (0, .ref a_this), (1, .int i1), (2, .int i2), (3, .int i3)]) hx hb dX2_sendFrame_18 hl (Nat.le_of_ble_eq_true rfl) rfl (fun ls hl => ?_)
  refine lv_aload_n hx hb dX2_sendFrame_20 rfl (lv_at hl 2 rfl) ?_
  refine rr_get X hW 0 0 gf_X2_14 rfl rfl dX2_sendFrame_21 ?_
  refine lv_iload_n hx hb dX2_sendFrame_24 rfl (lv_at hl 4 rfl) ?_
  refine lv_iconst (v := 5) hx hb dX2_sendFrame_25 (by decide) ?_
  refine lv_iconst (v := 1) hx hb dX2_sendFrame_26 (by decide) ?_
  obtain ⟨t3, ht3, hf⟩ := rn_bind hf
  refine rr_callV (As := [.int i2, .int (5 : Int32), .int (1 : Int32)]) (rest := []) X hW (kX4_add l D k z a_this_stations a_this_stations_cells (8 : Int32) (10 : Int32) 80 c_stations i2 (5 : Int32) (1 : Int32) ht3) gm_X4_add gl_X2_189 [1, 2] [0, 3, 4, 5, 6, 7, 8, 9, 10, 11] [(a_this, .inr (2, [.ref a_this_stations, .ref a_this_links, .ref a_this_messages, .ref a_this_copies, .ref a_this_log, .ref a_this_ways, .ref a_this_frames, .int c_stationCount, .int c_linkCount, .int c_messageCount, .int c_time, .int c_life, .int c_tries, .int c_x])), (a_this_stations, .inr (4, [.int (8 : Int32), .int (10 : Int32), .ref a_this_stations_cells])), (a_this_stations_cells, .inl (k 0, 80, .inl t3)), (a_this_links, .inr (4, [.int (16 : Int32), .int (9 : Int32), .ref a_this_links_cells])), (a_this_links_cells, .inl (k 0, 144, .inl c_links)), (a_this_messages, .inr (4, [.int (24 : Int32), .int (12 : Int32), .ref a_this_messages_cells])), (a_this_messages_cells, .inl (k 0, 288, .inl c_messages)), (a_this_copies, .inr (4, [.int (192 : Int32), .int (5 : Int32), .ref a_this_copies_cells])), (a_this_copies_cells, .inl (k 0, 960, .inl c_copies)), (a_this_log, .inr (0, [.ref a_this_log_events, .int c_log_first, .int c_log_size])), (a_this_log_events, .inr (4, [.int (40 : Int32), .int (5 : Int32), .ref a_this_log_events_cells])), (a_this_log_events_cells, .inl (k 0, 200, .inl c_log_events))] rfl rfl rfl rfl ⟨rfl, rfl, rn_Bw (wr := [(a_this, .inr (2, [.ref a_this_stations, .ref a_this_links, .ref a_this_messages, .ref a_this_copies, .ref a_this_log, .ref a_this_ways, .ref a_this_frames, .int c_stationCount, .int c_linkCount, .int c_messageCount, .int c_time, .int c_life, .int c_tries, .int c_x])), (a_this_links, .inr (4, [.int (16 : Int32), .int (9 : Int32), .ref a_this_links_cells])), (a_this_links_cells, .inl (k 0, 144, .inl c_links)), (a_this_messages, .inr (4, [.int (24 : Int32), .int (12 : Int32), .ref a_this_messages_cells])), (a_this_messages_cells, .inl (k 0, 288, .inl c_messages)), (a_this_copies, .inr (4, [.int (192 : Int32), .int (5 : Int32), .ref a_this_copies_cells])), (a_this_copies_cells, .inl (k 0, 960, .inl c_copies)), (a_this_log, .inr (0, [.ref a_this_log_events, .int c_log_first, .int c_log_size])), (a_this_log_events, .inr (4, [.int (40 : Int32), .int (5 : Int32), .ref a_this_log_events_cells])), (a_this_log_events_cells, .inl (k 0, 200, .inl c_log_events))]) rfl rfl, rfl, rfl⟩ (rn_r hR rfl) rn_cs hl.1 rfl (Nat.le_of_ble_eq_true rfl) dX2_sendFrame_27 (fun H locs hW => ?_)
  refine lv_aload_n hx hb dX2_sendFrame_30 rfl (lv_at hl 2 rfl) ?_
  refine rr_get X hW 0 1 gf_X2_20 rfl rfl dX2_sendFrame_31 ?_
  refine lv_iload hx hb dX2_sendFrame_34 (lv_at hl 1 rfl) ?_
  refine lv_bipush (v := 6) hx hb dX2_sendFrame_36 (by decide) ?_
  refine lv_iconst (v := 1) hx hb dX2_sendFrame_38 (by decide) ?_
  obtain ⟨t4, ht4, hf⟩ := rn_bind hf
  refine rr_callV (As := [.int t1, .int (6 : Int32), .int (1 : Int32)]) (rest := []) X hW (kX4_add l D k z a_this_links a_this_links_cells (16 : Int32) (9 : Int32) 144 c_links t1 (6 : Int32) (1 : Int32) ht4) gm_X4_add gl_X2_189 [3, 4] [0, 1, 2, 5, 6, 7, 8, 9, 10, 11] [(a_this, .inr (2, [.ref a_this_stations, .ref a_this_links, .ref a_this_messages, .ref a_this_copies, .ref a_this_log, .ref a_this_ways, .ref a_this_frames, .int c_stationCount, .int c_linkCount, .int c_messageCount, .int c_time, .int c_life, .int c_tries, .int c_x])), (a_this_stations, .inr (4, [.int (8 : Int32), .int (10 : Int32), .ref a_this_stations_cells])), (a_this_stations_cells, .inl (k 0, 80, .inl t3)), (a_this_links, .inr (4, [.int (16 : Int32), .int (9 : Int32), .ref a_this_links_cells])), (a_this_links_cells, .inl (k 0, 144, .inl t4)), (a_this_messages, .inr (4, [.int (24 : Int32), .int (12 : Int32), .ref a_this_messages_cells])), (a_this_messages_cells, .inl (k 0, 288, .inl c_messages)), (a_this_copies, .inr (4, [.int (192 : Int32), .int (5 : Int32), .ref a_this_copies_cells])), (a_this_copies_cells, .inl (k 0, 960, .inl c_copies)), (a_this_log, .inr (0, [.ref a_this_log_events, .int c_log_first, .int c_log_size])), (a_this_log_events, .inr (4, [.int (40 : Int32), .int (5 : Int32), .ref a_this_log_events_cells])), (a_this_log_events_cells, .inl (k 0, 200, .inl c_log_events))] rfl rfl rfl rfl ⟨rfl, rfl, rn_Bw (wr := [(a_this, .inr (2, [.ref a_this_stations, .ref a_this_links, .ref a_this_messages, .ref a_this_copies, .ref a_this_log, .ref a_this_ways, .ref a_this_frames, .int c_stationCount, .int c_linkCount, .int c_messageCount, .int c_time, .int c_life, .int c_tries, .int c_x])), (a_this_stations, .inr (4, [.int (8 : Int32), .int (10 : Int32), .ref a_this_stations_cells])), (a_this_stations_cells, .inl (k 0, 80, .inl t3)), (a_this_messages, .inr (4, [.int (24 : Int32), .int (12 : Int32), .ref a_this_messages_cells])), (a_this_messages_cells, .inl (k 0, 288, .inl c_messages)), (a_this_copies, .inr (4, [.int (192 : Int32), .int (5 : Int32), .ref a_this_copies_cells])), (a_this_copies_cells, .inl (k 0, 960, .inl c_copies)), (a_this_log, .inr (0, [.ref a_this_log_events, .int c_log_first, .int c_log_size])), (a_this_log_events, .inr (4, [.int (40 : Int32), .int (5 : Int32), .ref a_this_log_events_cells])), (a_this_log_events_cells, .inl (k 0, 200, .inl c_log_events))]) rfl rfl, rfl, rfl⟩ (rn_r hR rfl) rn_cs hl.1 rfl (Nat.le_of_ble_eq_true rfl) dX2_sendFrame_39 (fun H locs hW => ?_)
  refine lv_aload_n hx hb dX2_sendFrame_42 rfl (lv_at hl 2 rfl) ?_
  refine rr_get X hW 0 2 gf_X2_23 rfl rfl dX2_sendFrame_43 ?_
  refine lv_iload_n hx hb dX2_sendFrame_46 rfl (lv_at hl 3 rfl) ?_
  refine lv_bipush (v := 7) hx hb dX2_sendFrame_47 (by decide) ?_
  refine lv_iconst (v := 1) hx hb dX2_sendFrame_49 (by decide) ?_
  obtain ⟨t5, ht5, hf⟩ := rn_bind hf
  refine rr_callV (As := [.int i1, .int (7 : Int32), .int (1 : Int32)]) (rest := []) X hW (kX4_add l D k z a_this_messages a_this_messages_cells (24 : Int32) (12 : Int32) 288 c_messages i1 (7 : Int32) (1 : Int32) ht5) gm_X4_add gl_X2_189 [5, 6] [0, 1, 2, 3, 4, 7, 8, 9, 10, 11] [(a_this, .inr (2, [.ref a_this_stations, .ref a_this_links, .ref a_this_messages, .ref a_this_copies, .ref a_this_log, .ref a_this_ways, .ref a_this_frames, .int c_stationCount, .int c_linkCount, .int c_messageCount, .int c_time, .int c_life, .int c_tries, .int c_x])), (a_this_stations, .inr (4, [.int (8 : Int32), .int (10 : Int32), .ref a_this_stations_cells])), (a_this_stations_cells, .inl (k 0, 80, .inl t3)), (a_this_links, .inr (4, [.int (16 : Int32), .int (9 : Int32), .ref a_this_links_cells])), (a_this_links_cells, .inl (k 0, 144, .inl t4)), (a_this_messages, .inr (4, [.int (24 : Int32), .int (12 : Int32), .ref a_this_messages_cells])), (a_this_messages_cells, .inl (k 0, 288, .inl t5)), (a_this_copies, .inr (4, [.int (192 : Int32), .int (5 : Int32), .ref a_this_copies_cells])), (a_this_copies_cells, .inl (k 0, 960, .inl c_copies)), (a_this_log, .inr (0, [.ref a_this_log_events, .int c_log_first, .int c_log_size])), (a_this_log_events, .inr (4, [.int (40 : Int32), .int (5 : Int32), .ref a_this_log_events_cells])), (a_this_log_events_cells, .inl (k 0, 200, .inl c_log_events))] rfl rfl rfl rfl ⟨rfl, rfl, rn_Bw (wr := [(a_this, .inr (2, [.ref a_this_stations, .ref a_this_links, .ref a_this_messages, .ref a_this_copies, .ref a_this_log, .ref a_this_ways, .ref a_this_frames, .int c_stationCount, .int c_linkCount, .int c_messageCount, .int c_time, .int c_life, .int c_tries, .int c_x])), (a_this_stations, .inr (4, [.int (8 : Int32), .int (10 : Int32), .ref a_this_stations_cells])), (a_this_stations_cells, .inl (k 0, 80, .inl t3)), (a_this_links, .inr (4, [.int (16 : Int32), .int (9 : Int32), .ref a_this_links_cells])), (a_this_links_cells, .inl (k 0, 144, .inl t4)), (a_this_copies, .inr (4, [.int (192 : Int32), .int (5 : Int32), .ref a_this_copies_cells])), (a_this_copies_cells, .inl (k 0, 960, .inl c_copies)), (a_this_log, .inr (0, [.ref a_this_log_events, .int c_log_first, .int c_log_size])), (a_this_log_events, .inr (4, [.int (40 : Int32), .int (5 : Int32), .ref a_this_log_events_cells])), (a_this_log_events_cells, .inl (k 0, 200, .inl c_log_events))]) rfl rfl, rfl, rfl⟩ (rn_r hR rfl) rn_cs hl.1 rfl (Nat.le_of_ble_eq_true rfl) dX2_sendFrame_50 (fun H locs hW => ?_)
  refine lv_aload_n hx hb dX2_sendFrame_53 rfl (lv_at hl 2 rfl) ?_
  obtain ⟨t6, ht6, hf⟩ := rn_bind hf
  refine rr_callI (As := []) (rest := []) X hW (kX2_draw l D k z a_this a_this_stations a_this_links a_this_messages a_this_copies a_this_log a_this_ways a_this_frames c_stationCount c_linkCount c_messageCount c_time c_life c_tries c_x ht6) gm_X2_draw gl_X2_191 [0] [1, 2, 3, 4, 5, 6, 7, 8, 9, 10, 11] [(a_this, .inr (2, [.ref a_this_stations, .ref a_this_links, .ref a_this_messages, .ref a_this_copies, .ref a_this_log, .ref a_this_ways, .ref a_this_frames, .int c_stationCount, .int c_linkCount, .int c_messageCount, .int c_time, .int c_life, .int c_tries, .int t6.2])), (a_this_stations, .inr (4, [.int (8 : Int32), .int (10 : Int32), .ref a_this_stations_cells])), (a_this_stations_cells, .inl (k 0, 80, .inl t3)), (a_this_links, .inr (4, [.int (16 : Int32), .int (9 : Int32), .ref a_this_links_cells])), (a_this_links_cells, .inl (k 0, 144, .inl t4)), (a_this_messages, .inr (4, [.int (24 : Int32), .int (12 : Int32), .ref a_this_messages_cells])), (a_this_messages_cells, .inl (k 0, 288, .inl t5)), (a_this_copies, .inr (4, [.int (192 : Int32), .int (5 : Int32), .ref a_this_copies_cells])), (a_this_copies_cells, .inl (k 0, 960, .inl c_copies)), (a_this_log, .inr (0, [.ref a_this_log_events, .int c_log_first, .int c_log_size])), (a_this_log_events, .inr (4, [.int (40 : Int32), .int (5 : Int32), .ref a_this_log_events_cells])), (a_this_log_events_cells, .inl (k 0, 200, .inl c_log_events))] rfl rfl rfl rfl ⟨rfl, rfl, rn_Bw (wr := [(a_this_stations, .inr (4, [.int (8 : Int32), .int (10 : Int32), .ref a_this_stations_cells])), (a_this_stations_cells, .inl (k 0, 80, .inl t3)), (a_this_links, .inr (4, [.int (16 : Int32), .int (9 : Int32), .ref a_this_links_cells])), (a_this_links_cells, .inl (k 0, 144, .inl t4)), (a_this_messages, .inr (4, [.int (24 : Int32), .int (12 : Int32), .ref a_this_messages_cells])), (a_this_messages_cells, .inl (k 0, 288, .inl t5)), (a_this_copies, .inr (4, [.int (192 : Int32), .int (5 : Int32), .ref a_this_copies_cells])), (a_this_copies_cells, .inl (k 0, 960, .inl c_copies)), (a_this_log, .inr (0, [.ref a_this_log_events, .int c_log_first, .int c_log_size])), (a_this_log_events, .inr (4, [.int (40 : Int32), .int (5 : Int32), .ref a_this_log_events_cells])), (a_this_log_events_cells, .inl (k 0, 200, .inl c_log_events))]) rfl rfl, rfl, rfl⟩ (rn_r hR rfl) rn_cs hl.1 rfl (Nat.le_of_ble_eq_true rfl) dX2_sendFrame_54 (fun hn6 H locs hW => ?_)
  refine lv_iload hx hb dX2_sendFrame_57 (lv_at hl 0 rfl) ?_
  refine lv_icmp_lt (tgt := 97) hx hb dX2_sendFrame_59 (by decide) (fun hc7 => ?_) (fun hc7 => ?_)
  · replace hf := rn_t hf hc7
    refine lv_aload_n hx hb dX2_sendFrame_97 rfl (lv_at hl 2 rfl) ?_
    refine lv_iload_n hx hb dX2_sendFrame_98 rfl (lv_at hl 3 rfl) ?_
    refine lv_iload_n hx hb dX2_sendFrame_99 rfl (lv_at hl 4 rfl) ?_
    refine lv_iload_n hx hb dX2_sendFrame_100 rfl (lv_at hl 5 rfl) ?_
    obtain ⟨t8, ht8, hf⟩ := rn_bind hf
    refine rr_callV (As := [.int i1, .int i2, .int i3]) (rest := []) X hW (kX2_takeFrame l D k z a_this a_this_stations a_this_links a_this_messages a_this_copies a_this_log a_this_ways a_this_frames a_this_stations_cells a_this_messages_cells a_this_copies_cells a_this_log_events a_this_log_events_cells c_stationCount c_linkCount c_messageCount c_time c_life c_tries t6.2 t3 t5 c_copies c_log_first c_log_size c_log_events i1 i2 i3 ht8) gm_X2_takeFrame gl_X2_197 [0, 1, 2, 5, 6, 7, 8, 9, 10, 11] [3, 4] [(a_this, .inr (2, [.ref a_this_stations, .ref a_this_links, .ref a_this_messages, .ref a_this_copies, .ref a_this_log, .ref a_this_ways, .ref a_this_frames, .int c_stationCount, .int c_linkCount, .int c_messageCount, .int c_time, .int c_life, .int c_tries, .int t6.2])), (a_this_stations, .inr (4, [.int (8 : Int32), .int (10 : Int32), .ref a_this_stations_cells])), (a_this_stations_cells, .inl (k 0, 80, .inl t8.1)), (a_this_links, .inr (4, [.int (16 : Int32), .int (9 : Int32), .ref a_this_links_cells])), (a_this_links_cells, .inl (k 0, 144, .inl t4)), (a_this_messages, .inr (4, [.int (24 : Int32), .int (12 : Int32), .ref a_this_messages_cells])), (a_this_messages_cells, .inl (k 0, 288, .inl t8.2.1)), (a_this_copies, .inr (4, [.int (192 : Int32), .int (5 : Int32), .ref a_this_copies_cells])), (a_this_copies_cells, .inl (k 0, 960, .inl t8.2.2.1)), (a_this_log, .inr (0, [.ref a_this_log_events, .int t8.2.2.2.1, .int t8.2.2.2.2.1])), (a_this_log_events, .inr (4, [.int (40 : Int32), .int (5 : Int32), .ref a_this_log_events_cells])), (a_this_log_events_cells, .inl (k 0, 200, .inl t8.2.2.2.2.2))] rfl rfl rfl rfl ⟨rfl, rfl, rn_Bw (wr := [(a_this_links, .inr (4, [.int (16 : Int32), .int (9 : Int32), .ref a_this_links_cells])), (a_this_links_cells, .inl (k 0, 144, .inl t4))]) rfl rfl, rfl, rfl⟩ (rn_r hR rfl) rn_cs hl.1 rfl (Nat.le_of_ble_eq_true rfl) dX2_sendFrame_101 (fun H locs hW => ?_)
    refine lv_aload_n hx hb dX2_sendFrame_104 rfl (lv_at hl 2 rfl) ?_
    obtain ⟨t9, ht9, hf⟩ := rn_bind hf
    refine rr_callI (As := []) (rest := []) X hW (kX2_draw l D k z a_this a_this_stations a_this_links a_this_messages a_this_copies a_this_log a_this_ways a_this_frames c_stationCount c_linkCount c_messageCount c_time c_life c_tries t6.2 ht9) gm_X2_draw gl_X2_191 [0] [1, 2, 3, 4, 5, 6, 7, 8, 9, 10, 11] [(a_this, .inr (2, [.ref a_this_stations, .ref a_this_links, .ref a_this_messages, .ref a_this_copies, .ref a_this_log, .ref a_this_ways, .ref a_this_frames, .int c_stationCount, .int c_linkCount, .int c_messageCount, .int c_time, .int c_life, .int c_tries, .int t9.2])), (a_this_stations, .inr (4, [.int (8 : Int32), .int (10 : Int32), .ref a_this_stations_cells])), (a_this_stations_cells, .inl (k 0, 80, .inl t8.1)), (a_this_links, .inr (4, [.int (16 : Int32), .int (9 : Int32), .ref a_this_links_cells])), (a_this_links_cells, .inl (k 0, 144, .inl t4)), (a_this_messages, .inr (4, [.int (24 : Int32), .int (12 : Int32), .ref a_this_messages_cells])), (a_this_messages_cells, .inl (k 0, 288, .inl t8.2.1)), (a_this_copies, .inr (4, [.int (192 : Int32), .int (5 : Int32), .ref a_this_copies_cells])), (a_this_copies_cells, .inl (k 0, 960, .inl t8.2.2.1)), (a_this_log, .inr (0, [.ref a_this_log_events, .int t8.2.2.2.1, .int t8.2.2.2.2.1])), (a_this_log_events, .inr (4, [.int (40 : Int32), .int (5 : Int32), .ref a_this_log_events_cells])), (a_this_log_events_cells, .inl (k 0, 200, .inl t8.2.2.2.2.2))] rfl rfl rfl rfl ⟨rfl, rfl, rn_Bw (wr := [(a_this_stations, .inr (4, [.int (8 : Int32), .int (10 : Int32), .ref a_this_stations_cells])), (a_this_stations_cells, .inl (k 0, 80, .inl t8.1)), (a_this_links, .inr (4, [.int (16 : Int32), .int (9 : Int32), .ref a_this_links_cells])), (a_this_links_cells, .inl (k 0, 144, .inl t4)), (a_this_messages, .inr (4, [.int (24 : Int32), .int (12 : Int32), .ref a_this_messages_cells])), (a_this_messages_cells, .inl (k 0, 288, .inl t8.2.1)), (a_this_copies, .inr (4, [.int (192 : Int32), .int (5 : Int32), .ref a_this_copies_cells])), (a_this_copies_cells, .inl (k 0, 960, .inl t8.2.2.1)), (a_this_log, .inr (0, [.ref a_this_log_events, .int t8.2.2.2.1, .int t8.2.2.2.2.1])), (a_this_log_events, .inr (4, [.int (40 : Int32), .int (5 : Int32), .ref a_this_log_events_cells])), (a_this_log_events_cells, .inl (k 0, 200, .inl t8.2.2.2.2.2))]) rfl rfl, rfl, rfl⟩ (rn_r hR rfl) rn_cs hl.1 rfl (Nat.le_of_ble_eq_true rfl) dX2_sendFrame_105 (fun hn9 H locs hW => ?_)
    refine lv_iload hx hb dX2_sendFrame_108 (lv_at hl 0 rfl) ?_
    refine lv_icmp_lt (tgt := 148) hx hb dX2_sendFrame_110 (by decide) (fun hc10 => ?_) (fun hc10 => ?_)
    · replace hf := rn_t hf hc10
      refine lv_aload_n hx hb dX2_sendFrame_148 rfl (lv_at hl 2 rfl) ?_
      refine rr_get X hW 0 3 gf_X2_26 rfl rfl dX2_sendFrame_149 ?_
      refine lv_iload_n hx hb dX2_sendFrame_152 rfl (lv_at hl 3 rfl) ?_
      refine lv_iload_n hx hb dX2_sendFrame_153 rfl (lv_at hl 4 rfl) ?_
      obtain ⟨t11, ht11, hf⟩ := rn_bind hf
      refine rr_scalI (As := [.int i1, .int i2]) (rest := [.ref a_this_copies]) X hW (kX2_copyRow l D k z i1 i2 ht11) gm_X2_copyRow gl_X2_98 [] [0, 1, 2, 3, 4, 5, 6, 7, 8, 9, 10, 11] [(a_this, .inr (2, [.ref a_this_stations, .ref a_this_links, .ref a_this_messages, .ref a_this_copies, .ref a_this_log, .ref a_this_ways, .ref a_this_frames, .int c_stationCount, .int c_linkCount, .int c_messageCount, .int c_time, .int c_life, .int c_tries, .int t9.2])), (a_this_stations, .inr (4, [.int (8 : Int32), .int (10 : Int32), .ref a_this_stations_cells])), (a_this_stations_cells, .inl (k 0, 80, .inl t8.1)), (a_this_links, .inr (4, [.int (16 : Int32), .int (9 : Int32), .ref a_this_links_cells])), (a_this_links_cells, .inl (k 0, 144, .inl t4)), (a_this_messages, .inr (4, [.int (24 : Int32), .int (12 : Int32), .ref a_this_messages_cells])), (a_this_messages_cells, .inl (k 0, 288, .inl t8.2.1)), (a_this_copies, .inr (4, [.int (192 : Int32), .int (5 : Int32), .ref a_this_copies_cells])), (a_this_copies_cells, .inl (k 0, 960, .inl t8.2.2.1)), (a_this_log, .inr (0, [.ref a_this_log_events, .int t8.2.2.2.1, .int t8.2.2.2.2.1])), (a_this_log_events, .inr (4, [.int (40 : Int32), .int (5 : Int32), .ref a_this_log_events_cells])), (a_this_log_events_cells, .inl (k 0, 200, .inl t8.2.2.2.2.2))] rfl rfl ⟨rfl, rfl, rn_Bw (wr := [(a_this, .inr (2, [.ref a_this_stations, .ref a_this_links, .ref a_this_messages, .ref a_this_copies, .ref a_this_log, .ref a_this_ways, .ref a_this_frames, .int c_stationCount, .int c_linkCount, .int c_messageCount, .int c_time, .int c_life, .int c_tries, .int t9.2])), (a_this_stations, .inr (4, [.int (8 : Int32), .int (10 : Int32), .ref a_this_stations_cells])), (a_this_stations_cells, .inl (k 0, 80, .inl t8.1)), (a_this_links, .inr (4, [.int (16 : Int32), .int (9 : Int32), .ref a_this_links_cells])), (a_this_links_cells, .inl (k 0, 144, .inl t4)), (a_this_messages, .inr (4, [.int (24 : Int32), .int (12 : Int32), .ref a_this_messages_cells])), (a_this_messages_cells, .inl (k 0, 288, .inl t8.2.1)), (a_this_copies, .inr (4, [.int (192 : Int32), .int (5 : Int32), .ref a_this_copies_cells])), (a_this_copies_cells, .inl (k 0, 960, .inl t8.2.2.1)), (a_this_log, .inr (0, [.ref a_this_log_events, .int t8.2.2.2.1, .int t8.2.2.2.2.1])), (a_this_log_events, .inr (4, [.int (40 : Int32), .int (5 : Int32), .ref a_this_log_events_cells])), (a_this_log_events_cells, .inl (k 0, 200, .inl t8.2.2.2.2.2))]) rfl rfl, rfl, rfl⟩ (rn_r hR rfl) rn_cs hl.1 rfl (Nat.le_of_ble_eq_true rfl) dX2_sendFrame_154 (fun hn11 H locs hW => ?_)
      refine lv_iconst (v := 0) hx hb dX2_sendFrame_157 (by decide) ?_
      refine lv_iconst (v := 2) hx hb dX2_sendFrame_158 (by decide) ?_
      obtain ⟨t12, ht12, hf⟩ := rn_bind hf
      refine rr_callV (As := [.int t11, .int (0 : Int32), .int (2 : Int32)]) (rest := []) X hW (kX4_set l D k z a_this_copies a_this_copies_cells (192 : Int32) (5 : Int32) 960 t8.2.2.1 t11 (0 : Int32) (2 : Int32) ht12) gm_X4_set gl_X2_91 [7, 8] [0, 1, 2, 3, 4, 5, 6, 9, 10, 11] [(a_this, .inr (2, [.ref a_this_stations, .ref a_this_links, .ref a_this_messages, .ref a_this_copies, .ref a_this_log, .ref a_this_ways, .ref a_this_frames, .int c_stationCount, .int c_linkCount, .int c_messageCount, .int c_time, .int c_life, .int c_tries, .int t9.2])), (a_this_stations, .inr (4, [.int (8 : Int32), .int (10 : Int32), .ref a_this_stations_cells])), (a_this_stations_cells, .inl (k 0, 80, .inl t8.1)), (a_this_links, .inr (4, [.int (16 : Int32), .int (9 : Int32), .ref a_this_links_cells])), (a_this_links_cells, .inl (k 0, 144, .inl t4)), (a_this_messages, .inr (4, [.int (24 : Int32), .int (12 : Int32), .ref a_this_messages_cells])), (a_this_messages_cells, .inl (k 0, 288, .inl t8.2.1)), (a_this_copies, .inr (4, [.int (192 : Int32), .int (5 : Int32), .ref a_this_copies_cells])), (a_this_copies_cells, .inl (k 0, 960, .inl t12)), (a_this_log, .inr (0, [.ref a_this_log_events, .int t8.2.2.2.1, .int t8.2.2.2.2.1])), (a_this_log_events, .inr (4, [.int (40 : Int32), .int (5 : Int32), .ref a_this_log_events_cells])), (a_this_log_events_cells, .inl (k 0, 200, .inl t8.2.2.2.2.2))] rfl rfl rfl rfl ⟨rfl, rfl, rn_Bw (wr := [(a_this, .inr (2, [.ref a_this_stations, .ref a_this_links, .ref a_this_messages, .ref a_this_copies, .ref a_this_log, .ref a_this_ways, .ref a_this_frames, .int c_stationCount, .int c_linkCount, .int c_messageCount, .int c_time, .int c_life, .int c_tries, .int t9.2])), (a_this_stations, .inr (4, [.int (8 : Int32), .int (10 : Int32), .ref a_this_stations_cells])), (a_this_stations_cells, .inl (k 0, 80, .inl t8.1)), (a_this_links, .inr (4, [.int (16 : Int32), .int (9 : Int32), .ref a_this_links_cells])), (a_this_links_cells, .inl (k 0, 144, .inl t4)), (a_this_messages, .inr (4, [.int (24 : Int32), .int (12 : Int32), .ref a_this_messages_cells])), (a_this_messages_cells, .inl (k 0, 288, .inl t8.2.1)), (a_this_log, .inr (0, [.ref a_this_log_events, .int t8.2.2.2.1, .int t8.2.2.2.2.1])), (a_this_log_events, .inr (4, [.int (40 : Int32), .int (5 : Int32), .ref a_this_log_events_cells])), (a_this_log_events_cells, .inl (k 0, 200, .inl t8.2.2.2.2.2))]) rfl rfl, rfl, rfl⟩ (rn_r hR rfl) rn_cs hl.1 rfl (Nat.le_of_ble_eq_true rfl) dX2_sendFrame_159 (fun H locs hW => ?_)
      refine lv_aload_n hx hb dX2_sendFrame_162 rfl (lv_at hl 2 rfl) ?_
      refine rr_get X hW 0 4 gf_X2_32 rfl rfl dX2_sendFrame_163 ?_
      refine lv_aload_n hx hb dX2_sendFrame_166 rfl (lv_at hl 2 rfl) ?_
      refine rr_get X hW 0 10 gf_X2_56 rfl rfl dX2_sendFrame_167 ?_
      refine lv_iconst (v := 1) hx hb dX2_sendFrame_170 (by decide) ?_
      refine lv_iload_n hx hb dX2_sendFrame_171 rfl (lv_at hl 3 rfl) ?_
      refine lv_iload_n hx hb dX2_sendFrame_172 rfl (lv_at hl 4 rfl) ?_
      refine lv_iload_n hx hb dX2_sendFrame_173 rfl (lv_at hl 5 rfl) ?_
      obtain ⟨t13, ht13, hf⟩ := rn_bind hf
      refine rr_callV (As := [.int c_time, .int (1 : Int32), .int i1, .int i2, .int i3]) (rest := []) X hW (kX0_add l D k z a_this_log a_this_log_events a_this_log_events_cells t8.2.2.2.1 t8.2.2.2.2.1 t8.2.2.2.2.2 c_time (1 : Int32) i1 i2 i3 ht13) gm_X0_add gl_X2_101 [9, 10, 11] [0, 1, 2, 3, 4, 5, 6, 7, 8] [(a_this, .inr (2, [.ref a_this_stations, .ref a_this_links, .ref a_this_messages, .ref a_this_copies, .ref a_this_log, .ref a_this_ways, .ref a_this_frames, .int c_stationCount, .int c_linkCount, .int c_messageCount, .int c_time, .int c_life, .int c_tries, .int t9.2])), (a_this_stations, .inr (4, [.int (8 : Int32), .int (10 : Int32), .ref a_this_stations_cells])), (a_this_stations_cells, .inl (k 0, 80, .inl t8.1)), (a_this_links, .inr (4, [.int (16 : Int32), .int (9 : Int32), .ref a_this_links_cells])), (a_this_links_cells, .inl (k 0, 144, .inl t4)), (a_this_messages, .inr (4, [.int (24 : Int32), .int (12 : Int32), .ref a_this_messages_cells])), (a_this_messages_cells, .inl (k 0, 288, .inl t8.2.1)), (a_this_copies, .inr (4, [.int (192 : Int32), .int (5 : Int32), .ref a_this_copies_cells])), (a_this_copies_cells, .inl (k 0, 960, .inl t12)), (a_this_log, .inr (0, [.ref a_this_log_events, .int t13.1, .int t13.2.1])), (a_this_log_events, .inr (4, [.int (40 : Int32), .int (5 : Int32), .ref a_this_log_events_cells])), (a_this_log_events_cells, .inl (k 0, 200, .inl t13.2.2))] rfl rfl rfl rfl ⟨rfl, rfl, rn_Bw (wr := [(a_this, .inr (2, [.ref a_this_stations, .ref a_this_links, .ref a_this_messages, .ref a_this_copies, .ref a_this_log, .ref a_this_ways, .ref a_this_frames, .int c_stationCount, .int c_linkCount, .int c_messageCount, .int c_time, .int c_life, .int c_tries, .int t9.2])), (a_this_stations, .inr (4, [.int (8 : Int32), .int (10 : Int32), .ref a_this_stations_cells])), (a_this_stations_cells, .inl (k 0, 80, .inl t8.1)), (a_this_links, .inr (4, [.int (16 : Int32), .int (9 : Int32), .ref a_this_links_cells])), (a_this_links_cells, .inl (k 0, 144, .inl t4)), (a_this_messages, .inr (4, [.int (24 : Int32), .int (12 : Int32), .ref a_this_messages_cells])), (a_this_messages_cells, .inl (k 0, 288, .inl t8.2.1)), (a_this_copies, .inr (4, [.int (192 : Int32), .int (5 : Int32), .ref a_this_copies_cells])), (a_this_copies_cells, .inl (k 0, 960, .inl t12))]) rfl rfl, rfl, rfl⟩ (rn_r hR rfl) rn_cs hl.1 rfl (Nat.le_of_ble_eq_true rfl) dX2_sendFrame_174 (fun H locs hW => ?_)
      cases hf
      exact hE _ _ _ _ hW dX2_sendFrame_177
    · replace hf := rn_f hf hc10
      refine lv_aload_n hx hb dX2_sendFrame_113 rfl (lv_at hl 2 rfl) ?_
      refine rr_get X hW 0 1 gf_X2_20 rfl rfl dX2_sendFrame_114 ?_
      refine lv_iload hx hb dX2_sendFrame_117 (lv_at hl 1 rfl) ?_
      refine lv_bipush (v := 8) hx hb dX2_sendFrame_119 (by decide) ?_
      refine lv_iconst (v := 1) hx hb dX2_sendFrame_121 (by decide) ?_
      obtain ⟨t14, ht14, hf⟩ := rn_bind hf
      refine rr_callV (As := [.int t1, .int (8 : Int32), .int (1 : Int32)]) (rest := []) X hW (kX4_add l D k z a_this_links a_this_links_cells (16 : Int32) (9 : Int32) 144 t4 t1 (8 : Int32) (1 : Int32) ht14) gm_X4_add gl_X2_189 [3, 4] [0, 1, 2, 5, 6, 7, 8, 9, 10, 11] [(a_this, .inr (2, [.ref a_this_stations, .ref a_this_links, .ref a_this_messages, .ref a_this_copies, .ref a_this_log, .ref a_this_ways, .ref a_this_frames, .int c_stationCount, .int c_linkCount, .int c_messageCount, .int c_time, .int c_life, .int c_tries, .int t9.2])), (a_this_stations, .inr (4, [.int (8 : Int32), .int (10 : Int32), .ref a_this_stations_cells])), (a_this_stations_cells, .inl (k 0, 80, .inl t8.1)), (a_this_links, .inr (4, [.int (16 : Int32), .int (9 : Int32), .ref a_this_links_cells])), (a_this_links_cells, .inl (k 0, 144, .inl t14)), (a_this_messages, .inr (4, [.int (24 : Int32), .int (12 : Int32), .ref a_this_messages_cells])), (a_this_messages_cells, .inl (k 0, 288, .inl t8.2.1)), (a_this_copies, .inr (4, [.int (192 : Int32), .int (5 : Int32), .ref a_this_copies_cells])), (a_this_copies_cells, .inl (k 0, 960, .inl t8.2.2.1)), (a_this_log, .inr (0, [.ref a_this_log_events, .int t8.2.2.2.1, .int t8.2.2.2.2.1])), (a_this_log_events, .inr (4, [.int (40 : Int32), .int (5 : Int32), .ref a_this_log_events_cells])), (a_this_log_events_cells, .inl (k 0, 200, .inl t8.2.2.2.2.2))] rfl rfl rfl rfl ⟨rfl, rfl, rn_Bw (wr := [(a_this, .inr (2, [.ref a_this_stations, .ref a_this_links, .ref a_this_messages, .ref a_this_copies, .ref a_this_log, .ref a_this_ways, .ref a_this_frames, .int c_stationCount, .int c_linkCount, .int c_messageCount, .int c_time, .int c_life, .int c_tries, .int t9.2])), (a_this_stations, .inr (4, [.int (8 : Int32), .int (10 : Int32), .ref a_this_stations_cells])), (a_this_stations_cells, .inl (k 0, 80, .inl t8.1)), (a_this_messages, .inr (4, [.int (24 : Int32), .int (12 : Int32), .ref a_this_messages_cells])), (a_this_messages_cells, .inl (k 0, 288, .inl t8.2.1)), (a_this_copies, .inr (4, [.int (192 : Int32), .int (5 : Int32), .ref a_this_copies_cells])), (a_this_copies_cells, .inl (k 0, 960, .inl t8.2.2.1)), (a_this_log, .inr (0, [.ref a_this_log_events, .int t8.2.2.2.1, .int t8.2.2.2.2.1])), (a_this_log_events, .inr (4, [.int (40 : Int32), .int (5 : Int32), .ref a_this_log_events_cells])), (a_this_log_events_cells, .inl (k 0, 200, .inl t8.2.2.2.2.2))]) rfl rfl, rfl, rfl⟩ (rn_r hR rfl) rn_cs hl.1 rfl (Nat.le_of_ble_eq_true rfl) dX2_sendFrame_122 (fun H locs hW => ?_)
      refine lv_aload_n hx hb dX2_sendFrame_125 rfl (lv_at hl 2 rfl) ?_
      refine rr_get X hW 0 4 gf_X2_32 rfl rfl dX2_sendFrame_126 ?_
      refine lv_aload_n hx hb dX2_sendFrame_129 rfl (lv_at hl 2 rfl) ?_
      refine rr_get X hW 0 10 gf_X2_56 rfl rfl dX2_sendFrame_130 ?_
      refine lv_iconst (v := 3) hx hb dX2_sendFrame_133 (by decide) ?_
      refine lv_iload_n hx hb dX2_sendFrame_134 rfl (lv_at hl 3 rfl) ?_
      refine lv_iload_n hx hb dX2_sendFrame_135 rfl (lv_at hl 4 rfl) ?_
      refine lv_iload_n hx hb dX2_sendFrame_136 rfl (lv_at hl 5 rfl) ?_
      obtain ⟨t15, ht15, hf⟩ := rn_bind hf
      refine rr_callV (As := [.int c_time, .int (3 : Int32), .int i1, .int i2, .int i3]) (rest := []) X hW (kX0_add l D k z a_this_log a_this_log_events a_this_log_events_cells t8.2.2.2.1 t8.2.2.2.2.1 t8.2.2.2.2.2 c_time (3 : Int32) i1 i2 i3 ht15) gm_X0_add gl_X2_101 [9, 10, 11] [0, 1, 2, 3, 4, 5, 6, 7, 8] [(a_this, .inr (2, [.ref a_this_stations, .ref a_this_links, .ref a_this_messages, .ref a_this_copies, .ref a_this_log, .ref a_this_ways, .ref a_this_frames, .int c_stationCount, .int c_linkCount, .int c_messageCount, .int c_time, .int c_life, .int c_tries, .int t9.2])), (a_this_stations, .inr (4, [.int (8 : Int32), .int (10 : Int32), .ref a_this_stations_cells])), (a_this_stations_cells, .inl (k 0, 80, .inl t8.1)), (a_this_links, .inr (4, [.int (16 : Int32), .int (9 : Int32), .ref a_this_links_cells])), (a_this_links_cells, .inl (k 0, 144, .inl t14)), (a_this_messages, .inr (4, [.int (24 : Int32), .int (12 : Int32), .ref a_this_messages_cells])), (a_this_messages_cells, .inl (k 0, 288, .inl t8.2.1)), (a_this_copies, .inr (4, [.int (192 : Int32), .int (5 : Int32), .ref a_this_copies_cells])), (a_this_copies_cells, .inl (k 0, 960, .inl t8.2.2.1)), (a_this_log, .inr (0, [.ref a_this_log_events, .int t15.1, .int t15.2.1])), (a_this_log_events, .inr (4, [.int (40 : Int32), .int (5 : Int32), .ref a_this_log_events_cells])), (a_this_log_events_cells, .inl (k 0, 200, .inl t15.2.2))] rfl rfl rfl rfl ⟨rfl, rfl, rn_Bw (wr := [(a_this, .inr (2, [.ref a_this_stations, .ref a_this_links, .ref a_this_messages, .ref a_this_copies, .ref a_this_log, .ref a_this_ways, .ref a_this_frames, .int c_stationCount, .int c_linkCount, .int c_messageCount, .int c_time, .int c_life, .int c_tries, .int t9.2])), (a_this_stations, .inr (4, [.int (8 : Int32), .int (10 : Int32), .ref a_this_stations_cells])), (a_this_stations_cells, .inl (k 0, 80, .inl t8.1)), (a_this_links, .inr (4, [.int (16 : Int32), .int (9 : Int32), .ref a_this_links_cells])), (a_this_links_cells, .inl (k 0, 144, .inl t14)), (a_this_messages, .inr (4, [.int (24 : Int32), .int (12 : Int32), .ref a_this_messages_cells])), (a_this_messages_cells, .inl (k 0, 288, .inl t8.2.1)), (a_this_copies, .inr (4, [.int (192 : Int32), .int (5 : Int32), .ref a_this_copies_cells])), (a_this_copies_cells, .inl (k 0, 960, .inl t8.2.2.1))]) rfl rfl, rfl, rfl⟩ (rn_r hR rfl) rn_cs hl.1 rfl (Nat.le_of_ble_eq_true rfl) dX2_sendFrame_137 (fun H locs hW => ?_)
      refine lv_aload_n hx hb dX2_sendFrame_140 rfl (lv_at hl 2 rfl) ?_
      refine lv_iload_n hx hb dX2_sendFrame_141 rfl (lv_at hl 3 rfl) ?_
      refine lv_iload_n hx hb dX2_sendFrame_142 rfl (lv_at hl 4 rfl) ?_
      refine lv_iload_n hx hb dX2_sendFrame_143 rfl (lv_at hl 5 rfl) ?_
      obtain ⟨t16, ht16, hf⟩ := rn_bind hf
      refine rr_callV (As := [.int i1, .int i2, .int i3]) (rest := []) X hW (kX2_addTry l D k z a_this a_this_stations a_this_links a_this_messages a_this_copies a_this_log a_this_ways a_this_frames a_this_messages_cells a_this_copies_cells a_this_log_events a_this_log_events_cells c_stationCount c_linkCount c_messageCount c_time c_life c_tries t9.2 t8.2.1 t8.2.2.1 t15.1 t15.2.1 t15.2.2 i1 i2 i3 ht16) gm_X2_addTry gl_X2_194 [0, 5, 6, 7, 8, 9, 10, 11] [1, 2, 3, 4] [(a_this, .inr (2, [.ref a_this_stations, .ref a_this_links, .ref a_this_messages, .ref a_this_copies, .ref a_this_log, .ref a_this_ways, .ref a_this_frames, .int c_stationCount, .int c_linkCount, .int c_messageCount, .int c_time, .int c_life, .int c_tries, .int t9.2])), (a_this_stations, .inr (4, [.int (8 : Int32), .int (10 : Int32), .ref a_this_stations_cells])), (a_this_stations_cells, .inl (k 0, 80, .inl t8.1)), (a_this_links, .inr (4, [.int (16 : Int32), .int (9 : Int32), .ref a_this_links_cells])), (a_this_links_cells, .inl (k 0, 144, .inl t14)), (a_this_messages, .inr (4, [.int (24 : Int32), .int (12 : Int32), .ref a_this_messages_cells])), (a_this_messages_cells, .inl (k 0, 288, .inl t16.1)), (a_this_copies, .inr (4, [.int (192 : Int32), .int (5 : Int32), .ref a_this_copies_cells])), (a_this_copies_cells, .inl (k 0, 960, .inl t16.2.1)), (a_this_log, .inr (0, [.ref a_this_log_events, .int t16.2.2.1, .int t16.2.2.2.1])), (a_this_log_events, .inr (4, [.int (40 : Int32), .int (5 : Int32), .ref a_this_log_events_cells])), (a_this_log_events_cells, .inl (k 0, 200, .inl t16.2.2.2.2))] rfl rfl rfl rfl ⟨rfl, rfl, rn_Bw (wr := [(a_this_stations, .inr (4, [.int (8 : Int32), .int (10 : Int32), .ref a_this_stations_cells])), (a_this_stations_cells, .inl (k 0, 80, .inl t8.1)), (a_this_links, .inr (4, [.int (16 : Int32), .int (9 : Int32), .ref a_this_links_cells])), (a_this_links_cells, .inl (k 0, 144, .inl t14))]) rfl rfl, rfl, rfl⟩ (rn_r hR rfl) rn_cs hl.1 rfl (Nat.le_of_ble_eq_true rfl) dX2_sendFrame_144 (fun H locs hW => ?_)
      cases hf
      exact hE _ _ _ _ hW dX2_sendFrame_147
  · replace hf := rn_f hf hc7
    refine lv_aload_n hx hb dX2_sendFrame_62 rfl (lv_at hl 2 rfl) ?_
    refine rr_get X hW 0 1 gf_X2_20 rfl rfl dX2_sendFrame_63 ?_
    refine lv_iload hx hb dX2_sendFrame_66 (lv_at hl 1 rfl) ?_
    refine lv_bipush (v := 7) hx hb dX2_sendFrame_68 (by decide) ?_
    refine lv_iconst (v := 1) hx hb dX2_sendFrame_70 (by decide) ?_
    obtain ⟨t17, ht17, hf⟩ := rn_bind hf
    refine rr_callV (As := [.int t1, .int (7 : Int32), .int (1 : Int32)]) (rest := []) X hW (kX4_add l D k z a_this_links a_this_links_cells (16 : Int32) (9 : Int32) 144 t4 t1 (7 : Int32) (1 : Int32) ht17) gm_X4_add gl_X2_189 [3, 4] [0, 1, 2, 5, 6, 7, 8, 9, 10, 11] [(a_this, .inr (2, [.ref a_this_stations, .ref a_this_links, .ref a_this_messages, .ref a_this_copies, .ref a_this_log, .ref a_this_ways, .ref a_this_frames, .int c_stationCount, .int c_linkCount, .int c_messageCount, .int c_time, .int c_life, .int c_tries, .int t6.2])), (a_this_stations, .inr (4, [.int (8 : Int32), .int (10 : Int32), .ref a_this_stations_cells])), (a_this_stations_cells, .inl (k 0, 80, .inl t3)), (a_this_links, .inr (4, [.int (16 : Int32), .int (9 : Int32), .ref a_this_links_cells])), (a_this_links_cells, .inl (k 0, 144, .inl t17)), (a_this_messages, .inr (4, [.int (24 : Int32), .int (12 : Int32), .ref a_this_messages_cells])), (a_this_messages_cells, .inl (k 0, 288, .inl t5)), (a_this_copies, .inr (4, [.int (192 : Int32), .int (5 : Int32), .ref a_this_copies_cells])), (a_this_copies_cells, .inl (k 0, 960, .inl c_copies)), (a_this_log, .inr (0, [.ref a_this_log_events, .int c_log_first, .int c_log_size])), (a_this_log_events, .inr (4, [.int (40 : Int32), .int (5 : Int32), .ref a_this_log_events_cells])), (a_this_log_events_cells, .inl (k 0, 200, .inl c_log_events))] rfl rfl rfl rfl ⟨rfl, rfl, rn_Bw (wr := [(a_this, .inr (2, [.ref a_this_stations, .ref a_this_links, .ref a_this_messages, .ref a_this_copies, .ref a_this_log, .ref a_this_ways, .ref a_this_frames, .int c_stationCount, .int c_linkCount, .int c_messageCount, .int c_time, .int c_life, .int c_tries, .int t6.2])), (a_this_stations, .inr (4, [.int (8 : Int32), .int (10 : Int32), .ref a_this_stations_cells])), (a_this_stations_cells, .inl (k 0, 80, .inl t3)), (a_this_messages, .inr (4, [.int (24 : Int32), .int (12 : Int32), .ref a_this_messages_cells])), (a_this_messages_cells, .inl (k 0, 288, .inl t5)), (a_this_copies, .inr (4, [.int (192 : Int32), .int (5 : Int32), .ref a_this_copies_cells])), (a_this_copies_cells, .inl (k 0, 960, .inl c_copies)), (a_this_log, .inr (0, [.ref a_this_log_events, .int c_log_first, .int c_log_size])), (a_this_log_events, .inr (4, [.int (40 : Int32), .int (5 : Int32), .ref a_this_log_events_cells])), (a_this_log_events_cells, .inl (k 0, 200, .inl c_log_events))]) rfl rfl, rfl, rfl⟩ (rn_r hR rfl) rn_cs hl.1 rfl (Nat.le_of_ble_eq_true rfl) dX2_sendFrame_71 (fun H locs hW => ?_)
    refine lv_aload_n hx hb dX2_sendFrame_74 rfl (lv_at hl 2 rfl) ?_
    refine rr_get X hW 0 4 gf_X2_32 rfl rfl dX2_sendFrame_75 ?_
    refine lv_aload_n hx hb dX2_sendFrame_78 rfl (lv_at hl 2 rfl) ?_
    refine rr_get X hW 0 10 gf_X2_56 rfl rfl dX2_sendFrame_79 ?_
    refine lv_iconst (v := 2) hx hb dX2_sendFrame_82 (by decide) ?_
    refine lv_iload_n hx hb dX2_sendFrame_83 rfl (lv_at hl 3 rfl) ?_
    refine lv_iload_n hx hb dX2_sendFrame_84 rfl (lv_at hl 4 rfl) ?_
    refine lv_iload_n hx hb dX2_sendFrame_85 rfl (lv_at hl 5 rfl) ?_
    obtain ⟨t18, ht18, hf⟩ := rn_bind hf
    refine rr_callV (As := [.int c_time, .int (2 : Int32), .int i1, .int i2, .int i3]) (rest := []) X hW (kX0_add l D k z a_this_log a_this_log_events a_this_log_events_cells c_log_first c_log_size c_log_events c_time (2 : Int32) i1 i2 i3 ht18) gm_X0_add gl_X2_101 [9, 10, 11] [0, 1, 2, 3, 4, 5, 6, 7, 8] [(a_this, .inr (2, [.ref a_this_stations, .ref a_this_links, .ref a_this_messages, .ref a_this_copies, .ref a_this_log, .ref a_this_ways, .ref a_this_frames, .int c_stationCount, .int c_linkCount, .int c_messageCount, .int c_time, .int c_life, .int c_tries, .int t6.2])), (a_this_stations, .inr (4, [.int (8 : Int32), .int (10 : Int32), .ref a_this_stations_cells])), (a_this_stations_cells, .inl (k 0, 80, .inl t3)), (a_this_links, .inr (4, [.int (16 : Int32), .int (9 : Int32), .ref a_this_links_cells])), (a_this_links_cells, .inl (k 0, 144, .inl t17)), (a_this_messages, .inr (4, [.int (24 : Int32), .int (12 : Int32), .ref a_this_messages_cells])), (a_this_messages_cells, .inl (k 0, 288, .inl t5)), (a_this_copies, .inr (4, [.int (192 : Int32), .int (5 : Int32), .ref a_this_copies_cells])), (a_this_copies_cells, .inl (k 0, 960, .inl c_copies)), (a_this_log, .inr (0, [.ref a_this_log_events, .int t18.1, .int t18.2.1])), (a_this_log_events, .inr (4, [.int (40 : Int32), .int (5 : Int32), .ref a_this_log_events_cells])), (a_this_log_events_cells, .inl (k 0, 200, .inl t18.2.2))] rfl rfl rfl rfl ⟨rfl, rfl, rn_Bw (wr := [(a_this, .inr (2, [.ref a_this_stations, .ref a_this_links, .ref a_this_messages, .ref a_this_copies, .ref a_this_log, .ref a_this_ways, .ref a_this_frames, .int c_stationCount, .int c_linkCount, .int c_messageCount, .int c_time, .int c_life, .int c_tries, .int t6.2])), (a_this_stations, .inr (4, [.int (8 : Int32), .int (10 : Int32), .ref a_this_stations_cells])), (a_this_stations_cells, .inl (k 0, 80, .inl t3)), (a_this_links, .inr (4, [.int (16 : Int32), .int (9 : Int32), .ref a_this_links_cells])), (a_this_links_cells, .inl (k 0, 144, .inl t17)), (a_this_messages, .inr (4, [.int (24 : Int32), .int (12 : Int32), .ref a_this_messages_cells])), (a_this_messages_cells, .inl (k 0, 288, .inl t5)), (a_this_copies, .inr (4, [.int (192 : Int32), .int (5 : Int32), .ref a_this_copies_cells])), (a_this_copies_cells, .inl (k 0, 960, .inl c_copies))]) rfl rfl, rfl, rfl⟩ (rn_r hR rfl) rn_cs hl.1 rfl (Nat.le_of_ble_eq_true rfl) dX2_sendFrame_86 (fun H locs hW => ?_)
    refine lv_aload_n hx hb dX2_sendFrame_89 rfl (lv_at hl 2 rfl) ?_
    refine lv_iload_n hx hb dX2_sendFrame_90 rfl (lv_at hl 3 rfl) ?_
    refine lv_iload_n hx hb dX2_sendFrame_91 rfl (lv_at hl 4 rfl) ?_
    refine lv_iload_n hx hb dX2_sendFrame_92 rfl (lv_at hl 5 rfl) ?_
    obtain ⟨t19, ht19, hf⟩ := rn_bind hf
    refine rr_callV (As := [.int i1, .int i2, .int i3]) (rest := []) X hW (kX2_addTry l D k z a_this a_this_stations a_this_links a_this_messages a_this_copies a_this_log a_this_ways a_this_frames a_this_messages_cells a_this_copies_cells a_this_log_events a_this_log_events_cells c_stationCount c_linkCount c_messageCount c_time c_life c_tries t6.2 t5 c_copies t18.1 t18.2.1 t18.2.2 i1 i2 i3 ht19) gm_X2_addTry gl_X2_194 [0, 5, 6, 7, 8, 9, 10, 11] [1, 2, 3, 4] [(a_this, .inr (2, [.ref a_this_stations, .ref a_this_links, .ref a_this_messages, .ref a_this_copies, .ref a_this_log, .ref a_this_ways, .ref a_this_frames, .int c_stationCount, .int c_linkCount, .int c_messageCount, .int c_time, .int c_life, .int c_tries, .int t6.2])), (a_this_stations, .inr (4, [.int (8 : Int32), .int (10 : Int32), .ref a_this_stations_cells])), (a_this_stations_cells, .inl (k 0, 80, .inl t3)), (a_this_links, .inr (4, [.int (16 : Int32), .int (9 : Int32), .ref a_this_links_cells])), (a_this_links_cells, .inl (k 0, 144, .inl t17)), (a_this_messages, .inr (4, [.int (24 : Int32), .int (12 : Int32), .ref a_this_messages_cells])), (a_this_messages_cells, .inl (k 0, 288, .inl t19.1)), (a_this_copies, .inr (4, [.int (192 : Int32), .int (5 : Int32), .ref a_this_copies_cells])), (a_this_copies_cells, .inl (k 0, 960, .inl t19.2.1)), (a_this_log, .inr (0, [.ref a_this_log_events, .int t19.2.2.1, .int t19.2.2.2.1])), (a_this_log_events, .inr (4, [.int (40 : Int32), .int (5 : Int32), .ref a_this_log_events_cells])), (a_this_log_events_cells, .inl (k 0, 200, .inl t19.2.2.2.2))] rfl rfl rfl rfl ⟨rfl, rfl, rn_Bw (wr := [(a_this_stations, .inr (4, [.int (8 : Int32), .int (10 : Int32), .ref a_this_stations_cells])), (a_this_stations_cells, .inl (k 0, 80, .inl t3)), (a_this_links, .inr (4, [.int (16 : Int32), .int (9 : Int32), .ref a_this_links_cells])), (a_this_links_cells, .inl (k 0, 144, .inl t17))]) rfl rfl, rfl, rfl⟩ (rn_r hR rfl) rn_cs hl.1 rfl (Nat.le_of_ble_eq_true rfl) dX2_sendFrame_93 (fun H locs hW => ?_)
    cases hf
    exact hE _ _ _ _ hW dX2_sendFrame_96
def lX2_passHour_22 (N : Nat) (c_linkCount : Int32) (c_time : Int32) (c_tries : Int32) (x1_6 : Int32) (t4 : Int32 × Int32 × Int32 × Int32 × (Nat → Int32)) : Nat → Int32 → Int32 → (Nat → Int32) → (Nat → Int32) → (Nat → Int32) → (Nat → Int32) → Int32 → Int32 → (Nat → Int32) → Option (Int32 × (Nat → Int32) × (Nat → Int32) × (Nat → Int32) × (Nat → Int32) × Int32 × Int32 × (Nat → Int32))
  | 0, _, _, _, _, _, _, _, _, _ => none
  | n+1, x3_22, y_x_22, y_stations_22, y_links_22, y_messages_22, y_copies_22, y_log_first_22, y_log_size_22, y_log_events_22 =>
    if t4.1 ≤ x3_22 then
      some (y_x_22, y_stations_22, y_links_22, y_messages_22, y_copies_22, y_log_first_22, y_log_size_22, y_log_events_22)
    else
    (fX4_get (9 : Int32) (2 : Int32) 18 t4.2.2.2.2 x3_22 (0 : Int32)).bind fun t7 =>
    (fX4_get (9 : Int32) (2 : Int32) 18 t4.2.2.2.2 x3_22 (1 : Int32)).bind fun t8 =>
    (fX2_sendFrame N c_linkCount c_time c_tries y_x_22 y_stations_22 y_links_22 y_messages_22 y_copies_22 y_log_first_22 y_log_size_22 y_log_events_22 t7 x1_6 t8).bind fun t9 =>
    lX2_passHour_22 N c_linkCount c_time c_tries x1_6 t4 n (x3_22 + (1 : Int32)) t9.1 t9.2.1 t9.2.2.1 t9.2.2.2.1 t9.2.2.2.2.1 t9.2.2.2.2.2.1 t9.2.2.2.2.2.2.1 t9.2.2.2.2.2.2.2
def lX2_passHour_6 (N : Nat) (c_stationCount : Int32) (c_linkCount : Int32) (c_messageCount : Int32) (c_time : Int32) (c_tries : Int32) (c_ways_heard : Nat → Int64) : Nat → Int32 → Int32 → (Nat → Int32) → (Nat → Int32) → (Nat → Int32) → (Nat → Int32) → Int32 → Int32 → (Nat → Int32) → Int32 → Int32 → Int32 → (Nat → Int32) → Option (Int32 × (Nat → Int32) × (Nat → Int32) × (Nat → Int32) × (Nat → Int32) × Int32 × Int32 × (Nat → Int32) × Int32 × Int32 × Int32 × (Nat → Int32))
  | 0, _, _, _, _, _, _, _, _, _, _, _, _, _ => none
  | n+1, x1_6, y_x_6, y_stations_6, y_links_6, y_messages_6, y_copies_6, y_log_first_6, y_log_size_6, y_log_events_6, y_ways_arrival_6, y_ways_fewest_6, y_ways_next_6, y_frames_6 =>
    if c_stationCount ≤ x1_6 then
      some (y_x_6, y_stations_6, y_links_6, y_messages_6, y_copies_6, y_log_first_6, y_log_size_6, y_log_events_6, y_ways_arrival_6, y_ways_fewest_6, y_ways_next_6, y_frames_6)
    else
    (fX2_lineUp N c_messageCount c_time y_stations_6 y_messages_6 y_copies_6 y_ways_arrival_6 y_ways_fewest_6 y_ways_next_6 c_ways_heard y_frames_6 x1_6).bind fun t4 =>
    (lX2_passHour_22 N c_linkCount c_time c_tries x1_6 t4 N (0 : Int32) y_x_6 y_stations_6 y_links_6 y_messages_6 y_copies_6 y_log_first_6 y_log_size_6 y_log_events_6).bind fun t5 =>
    lX2_passHour_6 N c_stationCount c_linkCount c_messageCount c_time c_tries c_ways_heard n (x1_6 + (1 : Int32)) t5.1 t5.2.1 t5.2.2.1 t5.2.2.2.1 t5.2.2.2.2.1 t5.2.2.2.2.2.1 t5.2.2.2.2.2.2.1 t5.2.2.2.2.2.2.2 t4.2.1 t4.2.2.1 t4.2.2.2.1 t4.2.2.2.2
def fX2_passHour (N : Nat) (c_stationCount : Int32) (c_linkCount : Int32) (c_messageCount : Int32) (c_time : Int32) (c_life : Int32) (c_tries : Int32) (c_x : Int32) (c_stations : Nat → Int32) (c_links : Nat → Int32) (c_messages : Nat → Int32) (c_copies : Nat → Int32) (c_log_first : Int32) (c_log_size : Int32) (c_log_events : Nat → Int32) (c_ways_arrival : Int32) (c_ways_fewest : Int32) (c_ways_next : Int32) (c_ways_heard : Nat → Int64) (c_frames : Nat → Int32) : Option (Int32 × Int32 × (Nat → Int32) × (Nat → Int32) × (Nat → Int32) × (Nat → Int32) × Int32 × Int32 × (Nat → Int32) × Int32 × Int32 × Int32 × (Nat → Int32)) :=
  (fX2_expireCopies N c_stationCount c_messageCount c_time c_life c_messages c_copies c_log_first c_log_size c_log_events).bind fun t1 =>
  (lX2_passHour_6 N c_stationCount c_linkCount c_messageCount c_time c_tries c_ways_heard N (0 : Int32) c_x c_stations c_links t1.1 t1.2.1 t1.2.2.1 t1.2.2.2.1 t1.2.2.2.2 c_ways_arrival c_ways_fewest c_ways_next c_frames).bind fun t2 =>
  some ((c_time + (1 : Int32)), t2.1, t2.2.1, t2.2.2.1, t2.2.2.2.1, t2.2.2.2.2.1, t2.2.2.2.2.2.1, t2.2.2.2.2.2.2.1, t2.2.2.2.2.2.2.2.1, t2.2.2.2.2.2.2.2.2.1, t2.2.2.2.2.2.2.2.2.2.1, t2.2.2.2.2.2.2.2.2.2.2.1, t2.2.2.2.2.2.2.2.2.2.2.2)
set_option maxHeartbeats 4000000 in
set_option maxRecDepth 20000 in
theorem kX2_passHour (l : Launch) (D : va_G) (k : Nat → ClassId) (z : (Nat → Nat) × (Nat → Nat)) (N : Nat) (a_this : Nat) (a_this_stations : Nat) (a_this_links : Nat) (a_this_messages : Nat) (a_this_copies : Nat) (a_this_log : Nat) (a_this_ways : Nat) (a_this_frames : Nat) (a_this_stations_cells : Nat) (a_this_links_cells : Nat) (a_this_messages_cells : Nat) (a_this_copies_cells : Nat) (a_this_log_events : Nat) (a_this_log_events_cells : Nat) (a_this_ways_heard : Nat) (a_this_frames_cells : Nat) (c_stationCount : Int32) (c_linkCount : Int32) (c_messageCount : Int32) (c_time : Int32) (c_life : Int32) (c_tries : Int32) (c_x : Int32) (c_stations : Nat → Int32) (c_links : Nat → Int32) (c_messages : Nat → Int32) (c_copies : Nat → Int32) (c_log_first : Int32) (c_log_size : Int32) (c_log_events : Nat → Int32) (c_ways_arrival : Int32) (c_ways_fewest : Int32) (c_ways_next : Int32) (c_ways_heard : Nat → Int64) (c_frames : Nat → Int32) {u : Int32 × Int32 × (Nat → Int32) × (Nat → Int32) × (Nat → Int32) × (Nat → Int32) × Int32 × Int32 × (Nat → Int32) × Int32 × Int32 × Int32 × (Nat → Int32)} (hf : fX2_passHour N c_stationCount c_linkCount c_messageCount c_time c_life c_tries c_x c_stations c_links c_messages c_copies c_log_first c_log_size c_log_events c_ways_arrival c_ways_fewest c_ways_next c_ways_heard c_frames = some u) : rn_KV l D k z yX2_passHour cX2_passHour 4 5 136 [.ref a_this] [(a_this, .inr (2, [.ref a_this_stations, .ref a_this_links, .ref a_this_messages, .ref a_this_copies, .ref a_this_log, .ref a_this_ways, .ref a_this_frames, .int c_stationCount, .int c_linkCount, .int c_messageCount, .int c_time, .int c_life, .int c_tries, .int c_x])), (a_this_stations, .inr (4, [.int (8 : Int32), .int (10 : Int32), .ref a_this_stations_cells])), (a_this_stations_cells, .inl (k 0, 80, .inl c_stations)), (a_this_links, .inr (4, [.int (16 : Int32), .int (9 : Int32), .ref a_this_links_cells])), (a_this_links_cells, .inl (k 0, 144, .inl c_links)), (a_this_messages, .inr (4, [.int (24 : Int32), .int (12 : Int32), .ref a_this_messages_cells])), (a_this_messages_cells, .inl (k 0, 288, .inl c_messages)), (a_this_copies, .inr (4, [.int (192 : Int32), .int (5 : Int32), .ref a_this_copies_cells])), (a_this_copies_cells, .inl (k 0, 960, .inl c_copies)), (a_this_log, .inr (0, [.ref a_this_log_events, .int c_log_first, .int c_log_size])), (a_this_log_events, .inr (4, [.int (40 : Int32), .int (5 : Int32), .ref a_this_log_events_cells])), (a_this_log_events_cells, .inl (k 0, 200, .inl c_log_events)), (a_this_ways, .inr (5, [.ref a_this_ways_heard, .int c_ways_arrival, .int c_ways_fewest, .int c_ways_next])), (a_this_ways_heard, .inl (k 1, 24, .inr (.inl c_ways_heard))), (a_this_frames, .inr (4, [.int (9 : Int32), .int (2 : Int32), .ref a_this_frames_cells])), (a_this_frames_cells, .inl (k 0, 18, .inl c_frames))] [(a_this, .inr (2, [.ref a_this_stations, .ref a_this_links, .ref a_this_messages, .ref a_this_copies, .ref a_this_log, .ref a_this_ways, .ref a_this_frames, .int c_stationCount, .int c_linkCount, .int c_messageCount, .int u.1, .int c_life, .int c_tries, .int u.2.1])), (a_this_stations, .inr (4, [.int (8 : Int32), .int (10 : Int32), .ref a_this_stations_cells])), (a_this_stations_cells, .inl (k 0, 80, .inl u.2.2.1)), (a_this_links, .inr (4, [.int (16 : Int32), .int (9 : Int32), .ref a_this_links_cells])), (a_this_links_cells, .inl (k 0, 144, .inl u.2.2.2.1)), (a_this_messages, .inr (4, [.int (24 : Int32), .int (12 : Int32), .ref a_this_messages_cells])), (a_this_messages_cells, .inl (k 0, 288, .inl u.2.2.2.2.1)), (a_this_copies, .inr (4, [.int (192 : Int32), .int (5 : Int32), .ref a_this_copies_cells])), (a_this_copies_cells, .inl (k 0, 960, .inl u.2.2.2.2.2.1)), (a_this_log, .inr (0, [.ref a_this_log_events, .int u.2.2.2.2.2.2.1, .int u.2.2.2.2.2.2.2.1])), (a_this_log_events, .inr (4, [.int (40 : Int32), .int (5 : Int32), .ref a_this_log_events_cells])), (a_this_log_events_cells, .inl (k 0, 200, .inl u.2.2.2.2.2.2.2.2.1)), (a_this_ways, .inr (5, [.ref a_this_ways_heard, .int u.2.2.2.2.2.2.2.2.2.1, .int u.2.2.2.2.2.2.2.2.2.2.1, .int u.2.2.2.2.2.2.2.2.2.2.2.1])), (a_this_ways_heard, .inl (k 1, 24, .inr (.inl c_ways_heard))), (a_this_frames, .inr (4, [.int (9 : Int32), .int (2 : Int32), .ref a_this_frames_cells])), (a_this_frames_cells, .inl (k 0, 18, .inl u.2.2.2.2.2.2.2.2.2.2.2.2))] := by
  refine rn_KV.go (LOC := [(0, .ref a_this)]) rfl (by decide) (Nat.le_of_ble_eq_true rfl) rfl ?_
  intro p e s m args below meth c A ls R Q X hR hE hW hl
  have hx := X.1.1
  have hb := X.1.2.1
  unfold fX2_passHour at hf
  obtain ⟨u0, u1, u2, u3, u4, u5, u6, u7, u8, u9, u10, u11, u12⟩ := u
  dsimp only at hE
  refine lv_aload_n hx hb dX2_passHour_0 rfl (lv_at hl 0 rfl) ?_
  obtain ⟨t1, ht1, hf⟩ := rn_bind hf
  refine rr_callV (As := []) (rest := []) X hW (kX2_expireCopies l D k z N a_this a_this_stations a_this_links a_this_messages a_this_copies a_this_log a_this_ways a_this_frames a_this_messages_cells a_this_copies_cells a_this_log_events a_this_log_events_cells c_stationCount c_linkCount c_messageCount c_time c_life c_tries c_x c_messages c_copies c_log_first c_log_size c_log_events ht1) gm_X2_expireCopies gl_X2_173 [0, 5, 6, 7, 8, 9, 10, 11] [1, 2, 3, 4, 12, 13, 14, 15] [(a_this, .inr (2, [.ref a_this_stations, .ref a_this_links, .ref a_this_messages, .ref a_this_copies, .ref a_this_log, .ref a_this_ways, .ref a_this_frames, .int c_stationCount, .int c_linkCount, .int c_messageCount, .int c_time, .int c_life, .int c_tries, .int c_x])), (a_this_stations, .inr (4, [.int (8 : Int32), .int (10 : Int32), .ref a_this_stations_cells])), (a_this_stations_cells, .inl (k 0, 80, .inl c_stations)), (a_this_links, .inr (4, [.int (16 : Int32), .int (9 : Int32), .ref a_this_links_cells])), (a_this_links_cells, .inl (k 0, 144, .inl c_links)), (a_this_messages, .inr (4, [.int (24 : Int32), .int (12 : Int32), .ref a_this_messages_cells])), (a_this_messages_cells, .inl (k 0, 288, .inl t1.1)), (a_this_copies, .inr (4, [.int (192 : Int32), .int (5 : Int32), .ref a_this_copies_cells])), (a_this_copies_cells, .inl (k 0, 960, .inl t1.2.1)), (a_this_log, .inr (0, [.ref a_this_log_events, .int t1.2.2.1, .int t1.2.2.2.1])), (a_this_log_events, .inr (4, [.int (40 : Int32), .int (5 : Int32), .ref a_this_log_events_cells])), (a_this_log_events_cells, .inl (k 0, 200, .inl t1.2.2.2.2)), (a_this_ways, .inr (5, [.ref a_this_ways_heard, .int c_ways_arrival, .int c_ways_fewest, .int c_ways_next])), (a_this_ways_heard, .inl (k 1, 24, .inr (.inl c_ways_heard))), (a_this_frames, .inr (4, [.int (9 : Int32), .int (2 : Int32), .ref a_this_frames_cells])), (a_this_frames_cells, .inl (k 0, 18, .inl c_frames))] rfl rfl rfl rfl ⟨rfl, rfl, rn_Bw (wr := [(a_this_stations, .inr (4, [.int (8 : Int32), .int (10 : Int32), .ref a_this_stations_cells])), (a_this_stations_cells, .inl (k 0, 80, .inl c_stations)), (a_this_links, .inr (4, [.int (16 : Int32), .int (9 : Int32), .ref a_this_links_cells])), (a_this_links_cells, .inl (k 0, 144, .inl c_links)), (a_this_ways, .inr (5, [.ref a_this_ways_heard, .int c_ways_arrival, .int c_ways_fewest, .int c_ways_next])), (a_this_ways_heard, .inl (k 1, 24, .inr (.inl c_ways_heard))), (a_this_frames, .inr (4, [.int (9 : Int32), .int (2 : Int32), .ref a_this_frames_cells])), (a_this_frames_cells, .inl (k 0, 18, .inl c_frames))]) rfl rfl, rfl, rfl⟩ (rn_r hR rfl) rn_cs hl.1 rfl (Nat.le_of_ble_eq_true rfl) dX2_passHour_1 (fun H locs hW => ?_)
  refine lv_iconst (v := 0) hx hb dX2_passHour_4 (by decide) ?_
  refine lv_istore_n (lv' := [(1, .int (0 : Int32)), (0, .ref a_this)]) hx hb dX2_passHour_5 rfl hl (Nat.le_of_ble_eq_true rfl) rfl (fun ls hl => ?_)
  obtain ⟨t2, ht2, hf⟩ := rn_bind hf
  have kk_6 : ∀ (H : Heap) (locs : List Loc) (ls : Array Slot), rn_W D A s [(a_this, .inr (2, [.ref a_this_stations, .ref a_this_links, .ref a_this_messages, .ref a_this_copies, .ref a_this_log, .ref a_this_ways, .ref a_this_frames, .int c_stationCount, .int c_linkCount, .int c_messageCount, .int c_time, .int c_life, .int c_tries, .int t2.1])), (a_this_stations, .inr (4, [.int (8 : Int32), .int (10 : Int32), .ref a_this_stations_cells])), (a_this_stations_cells, .inl (k 0, 80, .inl t2.2.1)), (a_this_links, .inr (4, [.int (16 : Int32), .int (9 : Int32), .ref a_this_links_cells])), (a_this_links_cells, .inl (k 0, 144, .inl t2.2.2.1)), (a_this_messages, .inr (4, [.int (24 : Int32), .int (12 : Int32), .ref a_this_messages_cells])), (a_this_messages_cells, .inl (k 0, 288, .inl t2.2.2.2.1)), (a_this_copies, .inr (4, [.int (192 : Int32), .int (5 : Int32), .ref a_this_copies_cells])), (a_this_copies_cells, .inl (k 0, 960, .inl t2.2.2.2.2.1)), (a_this_log, .inr (0, [.ref a_this_log_events, .int t2.2.2.2.2.2.1, .int t2.2.2.2.2.2.2.1])), (a_this_log_events, .inr (4, [.int (40 : Int32), .int (5 : Int32), .ref a_this_log_events_cells])), (a_this_log_events_cells, .inl (k 0, 200, .inl t2.2.2.2.2.2.2.2.1)), (a_this_ways, .inr (5, [.ref a_this_ways_heard, .int t2.2.2.2.2.2.2.2.2.1, .int t2.2.2.2.2.2.2.2.2.2.1, .int t2.2.2.2.2.2.2.2.2.2.2.1])), (a_this_ways_heard, .inl (k 1, 24, .inr (.inl c_ways_heard))), (a_this_frames, .inr (4, [.int (9 : Int32), .int (2 : Int32), .ref a_this_frames_cells])), (a_this_frames_cells, .inl (k 0, 18, .inl t2.2.2.2.2.2.2.2.2.2.2.2))] H locs → lv_has ls 4 [(0, .ref a_this)] → W p l e R s m args below meth c H locs 0 0 Q (F0 m 62 ls []) := by
    intro H locs ls hW hl
    refine lv_aload_n hx hb dX2_passHour_62 rfl (lv_at hl 0 rfl) ?_
    refine lv_dup hx hb dX2_passHour_63 rfl ?_
    refine rr_get X hW 0 10 gf_X2_56 rfl rfl dX2_passHour_64 ?_
    refine lv_iconst (v := 1) hx hb dX2_passHour_67 (by decide) ?_
    refine lv_iadd hx hb dX2_passHour_68 ?_
    refine rr_put X hW 0 10 gp_X2_56 rfl rfl rfl (Nat.le_of_ble_eq_true rfl) (ws' := [(a_this, .inr (2, [.ref a_this_stations, .ref a_this_links, .ref a_this_messages, .ref a_this_copies, .ref a_this_log, .ref a_this_ways, .ref a_this_frames, .int c_stationCount, .int c_linkCount, .int c_messageCount, .int (c_time + (1 : Int32)), .int c_life, .int c_tries, .int t2.1])), (a_this_stations, .inr (4, [.int (8 : Int32), .int (10 : Int32), .ref a_this_stations_cells])), (a_this_stations_cells, .inl (k 0, 80, .inl t2.2.1)), (a_this_links, .inr (4, [.int (16 : Int32), .int (9 : Int32), .ref a_this_links_cells])), (a_this_links_cells, .inl (k 0, 144, .inl t2.2.2.1)), (a_this_messages, .inr (4, [.int (24 : Int32), .int (12 : Int32), .ref a_this_messages_cells])), (a_this_messages_cells, .inl (k 0, 288, .inl t2.2.2.2.1)), (a_this_copies, .inr (4, [.int (192 : Int32), .int (5 : Int32), .ref a_this_copies_cells])), (a_this_copies_cells, .inl (k 0, 960, .inl t2.2.2.2.2.1)), (a_this_log, .inr (0, [.ref a_this_log_events, .int t2.2.2.2.2.2.1, .int t2.2.2.2.2.2.2.1])), (a_this_log_events, .inr (4, [.int (40 : Int32), .int (5 : Int32), .ref a_this_log_events_cells])), (a_this_log_events_cells, .inl (k 0, 200, .inl t2.2.2.2.2.2.2.2.1)), (a_this_ways, .inr (5, [.ref a_this_ways_heard, .int t2.2.2.2.2.2.2.2.2.1, .int t2.2.2.2.2.2.2.2.2.2.1, .int t2.2.2.2.2.2.2.2.2.2.2.1])), (a_this_ways_heard, .inl (k 1, 24, .inr (.inl c_ways_heard))), (a_this_frames, .inr (4, [.int (9 : Int32), .int (2 : Int32), .ref a_this_frames_cells])), (a_this_frames_cells, .inl (k 0, 18, .inl t2.2.2.2.2.2.2.2.2.2.2.2))]) rfl dX2_passHour_69 (fun H locs hW => ?_)
    cases hf
    exact hE _ _ _ _ hW dX2_passHour_72
  clear hf
  have lp_6 : ∀ (n : Nat) (x1_6 : Int32) (y_x_6 : Int32) (y_stations_6 : Nat → Int32) (y_links_6 : Nat → Int32) (y_messages_6 : Nat → Int32) (y_copies_6 : Nat → Int32) (y_log_first_6 : Int32) (y_log_size_6 : Int32) (y_log_events_6 : Nat → Int32) (y_ways_arrival_6 : Int32) (y_ways_fewest_6 : Int32) (y_ways_next_6 : Int32) (y_frames_6 : Nat → Int32) (H : Heap) (locs : List Loc) (ls : Array Slot), lX2_passHour_6 N c_stationCount c_linkCount c_messageCount c_time c_tries c_ways_heard n x1_6 y_x_6 y_stations_6 y_links_6 y_messages_6 y_copies_6 y_log_first_6 y_log_size_6 y_log_events_6 y_ways_arrival_6 y_ways_fewest_6 y_ways_next_6 y_frames_6 = some t2 → rn_W D A s [(a_this, .inr (2, [.ref a_this_stations, .ref a_this_links, .ref a_this_messages, .ref a_this_copies, .ref a_this_log, .ref a_this_ways, .ref a_this_frames, .int c_stationCount, .int c_linkCount, .int c_messageCount, .int c_time, .int c_life, .int c_tries, .int y_x_6])), (a_this_stations, .inr (4, [.int (8 : Int32), .int (10 : Int32), .ref a_this_stations_cells])), (a_this_stations_cells, .inl (k 0, 80, .inl y_stations_6)), (a_this_links, .inr (4, [.int (16 : Int32), .int (9 : Int32), .ref a_this_links_cells])), (a_this_links_cells, .inl (k 0, 144, .inl y_links_6)), (a_this_messages, .inr (4, [.int (24 : Int32), .int (12 : Int32), .ref a_this_messages_cells])), (a_this_messages_cells, .inl (k 0, 288, .inl y_messages_6)), (a_this_copies, .inr (4, [.int (192 : Int32), .int (5 : Int32), .ref a_this_copies_cells])), (a_this_copies_cells, .inl (k 0, 960, .inl y_copies_6)), (a_this_log, .inr (0, [.ref a_this_log_events, .int y_log_first_6, .int y_log_size_6])), (a_this_log_events, .inr (4, [.int (40 : Int32), .int (5 : Int32), .ref a_this_log_events_cells])), (a_this_log_events_cells, .inl (k 0, 200, .inl y_log_events_6)), (a_this_ways, .inr (5, [.ref a_this_ways_heard, .int y_ways_arrival_6, .int y_ways_fewest_6, .int y_ways_next_6])), (a_this_ways_heard, .inl (k 1, 24, .inr (.inl c_ways_heard))), (a_this_frames, .inr (4, [.int (9 : Int32), .int (2 : Int32), .ref a_this_frames_cells])), (a_this_frames_cells, .inl (k 0, 18, .inl y_frames_6))] H locs → lv_has ls 4 [(0, .ref a_this), (1, .int x1_6)] → W p l e R s m args below meth c H locs 0 0 Q (F0 m 6 ls []) := by
    intro n
    induction n with
    | zero => intro x1_6 y_x_6 y_stations_6 y_links_6 y_messages_6 y_copies_6 y_log_first_6 y_log_size_6 y_log_events_6 y_ways_arrival_6 y_ways_fewest_6 y_ways_next_6 y_frames_6 H locs ls hf; exact absurd hf (by rw [lX2_passHour_6]; exact fun h => nomatch h)
    | succ n ih_6 =>
      intro x1_6 y_x_6 y_stations_6 y_links_6 y_messages_6 y_copies_6 y_log_first_6 y_log_size_6 y_log_events_6 y_ways_arrival_6 y_ways_fewest_6 y_ways_next_6 y_frames_6 H locs ls hf hW hl
      rw [lX2_passHour_6] at hf
      refine lv_iload_n hx hb dX2_passHour_6 rfl (lv_at hl 1 rfl) ?_
      refine lv_aload_n hx hb dX2_passHour_7 rfl (lv_at hl 0 rfl) ?_
      refine rr_get X hW 0 7 gf_X2_46 rfl rfl dX2_passHour_8 ?_
      refine lv_icmp_ge (tgt := 62) hx hb dX2_passHour_11 (by decide) (fun hc3 => ?_) (fun hc3 => ?_)
      · replace hf := rn_t hf hc3
        cases hf
        exact kk_6 _ _ _ hW (lv_sub hl [0] rfl)
      · replace hf := rn_f hf hc3
        refine lv_aload_n hx hb dX2_passHour_14 rfl (lv_at hl 0 rfl) ?_
        refine lv_iload_n hx hb dX2_passHour_15 rfl (lv_at hl 1 rfl) ?_
        obtain ⟨t4, ht4, hf⟩ := rn_bind hf
        refine rr_callI (As := [.int x1_6]) (rest := []) X hW (kX2_lineUp l D k z N a_this a_this_stations a_this_links a_this_messages a_this_copies a_this_log a_this_ways a_this_frames a_this_stations_cells a_this_messages_cells a_this_copies_cells a_this_ways_heard a_this_frames_cells c_stationCount c_linkCount c_messageCount c_time c_life c_tries y_x_6 y_stations_6 y_messages_6 y_copies_6 y_ways_arrival_6 y_ways_fewest_6 y_ways_next_6 c_ways_heard y_frames_6 x1_6 ht4) gm_X2_lineUp gl_X2_164 [0, 1, 2, 5, 6, 7, 8, 12, 13, 14, 15] [3, 4, 9, 10, 11] [(a_this, .inr (2, [.ref a_this_stations, .ref a_this_links, .ref a_this_messages, .ref a_this_copies, .ref a_this_log, .ref a_this_ways, .ref a_this_frames, .int c_stationCount, .int c_linkCount, .int c_messageCount, .int c_time, .int c_life, .int c_tries, .int y_x_6])), (a_this_stations, .inr (4, [.int (8 : Int32), .int (10 : Int32), .ref a_this_stations_cells])), (a_this_stations_cells, .inl (k 0, 80, .inl y_stations_6)), (a_this_links, .inr (4, [.int (16 : Int32), .int (9 : Int32), .ref a_this_links_cells])), (a_this_links_cells, .inl (k 0, 144, .inl y_links_6)), (a_this_messages, .inr (4, [.int (24 : Int32), .int (12 : Int32), .ref a_this_messages_cells])), (a_this_messages_cells, .inl (k 0, 288, .inl y_messages_6)), (a_this_copies, .inr (4, [.int (192 : Int32), .int (5 : Int32), .ref a_this_copies_cells])), (a_this_copies_cells, .inl (k 0, 960, .inl y_copies_6)), (a_this_log, .inr (0, [.ref a_this_log_events, .int y_log_first_6, .int y_log_size_6])), (a_this_log_events, .inr (4, [.int (40 : Int32), .int (5 : Int32), .ref a_this_log_events_cells])), (a_this_log_events_cells, .inl (k 0, 200, .inl y_log_events_6)), (a_this_ways, .inr (5, [.ref a_this_ways_heard, .int t4.2.1, .int t4.2.2.1, .int t4.2.2.2.1])), (a_this_ways_heard, .inl (k 1, 24, .inr (.inl c_ways_heard))), (a_this_frames, .inr (4, [.int (9 : Int32), .int (2 : Int32), .ref a_this_frames_cells])), (a_this_frames_cells, .inl (k 0, 18, .inl t4.2.2.2.2))] rfl rfl rfl rfl ⟨rfl, rfl, rn_Bw (wr := [(a_this_links, .inr (4, [.int (16 : Int32), .int (9 : Int32), .ref a_this_links_cells])), (a_this_links_cells, .inl (k 0, 144, .inl y_links_6)), (a_this_log, .inr (0, [.ref a_this_log_events, .int y_log_first_6, .int y_log_size_6])), (a_this_log_events, .inr (4, [.int (40 : Int32), .int (5 : Int32), .ref a_this_log_events_cells])), (a_this_log_events_cells, .inl (k 0, 200, .inl y_log_events_6))]) rfl rfl, rfl, rfl⟩ (rn_r hR rfl) rn_cs hl.1 rfl (Nat.le_of_ble_eq_true rfl) dX2_passHour_16 (fun hn4 H locs hW => ?_)
        refine lv_istore_n (lv' := [(2, .int t4.1), (0, .ref a_this), (1, .int x1_6)]) hx hb dX2_passHour_19 rfl hl (Nat.le_of_ble_eq_true rfl) rfl (fun ls hl => ?_)
        refine lv_iconst (v := 0) hx hb dX2_passHour_20 (by decide) ?_
        refine lv_istore_n (lv' := [(3, .int (0 : Int32)), (2, .int t4.1), (0, .ref a_this), (1, .int x1_6)]) hx hb dX2_passHour_21 rfl hl (Nat.le_of_ble_eq_true rfl) rfl (fun ls hl => ?_)
        obtain ⟨t5, ht5, hf⟩ := rn_bind hf
        have kk_22 : ∀ (H : Heap) (locs : List Loc) (ls : Array Slot), rn_W D A s [(a_this, .inr (2, [.ref a_this_stations, .ref a_this_links, .ref a_this_messages, .ref a_this_copies, .ref a_this_log, .ref a_this_ways, .ref a_this_frames, .int c_stationCount, .int c_linkCount, .int c_messageCount, .int c_time, .int c_life, .int c_tries, .int t5.1])), (a_this_stations, .inr (4, [.int (8 : Int32), .int (10 : Int32), .ref a_this_stations_cells])), (a_this_stations_cells, .inl (k 0, 80, .inl t5.2.1)), (a_this_links, .inr (4, [.int (16 : Int32), .int (9 : Int32), .ref a_this_links_cells])), (a_this_links_cells, .inl (k 0, 144, .inl t5.2.2.1)), (a_this_messages, .inr (4, [.int (24 : Int32), .int (12 : Int32), .ref a_this_messages_cells])), (a_this_messages_cells, .inl (k 0, 288, .inl t5.2.2.2.1)), (a_this_copies, .inr (4, [.int (192 : Int32), .int (5 : Int32), .ref a_this_copies_cells])), (a_this_copies_cells, .inl (k 0, 960, .inl t5.2.2.2.2.1)), (a_this_log, .inr (0, [.ref a_this_log_events, .int t5.2.2.2.2.2.1, .int t5.2.2.2.2.2.2.1])), (a_this_log_events, .inr (4, [.int (40 : Int32), .int (5 : Int32), .ref a_this_log_events_cells])), (a_this_log_events_cells, .inl (k 0, 200, .inl t5.2.2.2.2.2.2.2)), (a_this_ways, .inr (5, [.ref a_this_ways_heard, .int t4.2.1, .int t4.2.2.1, .int t4.2.2.2.1])), (a_this_ways_heard, .inl (k 1, 24, .inr (.inl c_ways_heard))), (a_this_frames, .inr (4, [.int (9 : Int32), .int (2 : Int32), .ref a_this_frames_cells])), (a_this_frames_cells, .inl (k 0, 18, .inl t4.2.2.2.2))] H locs → lv_has ls 4 [(0, .ref a_this), (1, .int x1_6)] → W p l e R s m args below meth c H locs 0 0 Q (F0 m 56 ls []) := by
          intro H locs ls hW hl
          refine lv_iinc (v := (x1_6 + (1 : Int32))) (lv' := [(1, .int (x1_6 + (1 : Int32))), (0, .ref a_this)]) hx hb dX2_passHour_56 hl (k := 1) rfl (congrArg (fun q => _ + q) (by decide)) (Nat.le_of_ble_eq_true rfl) rfl (fun ls hl => ?_)
          refine lv_goto (tgt := 6) hx hb dX2_passHour_59 (by decide) ?_
          exact ih_6 (x1_6 + (1 : Int32)) t5.1 t5.2.1 t5.2.2.1 t5.2.2.2.1 t5.2.2.2.2.1 t5.2.2.2.2.2.1 t5.2.2.2.2.2.2.1 t5.2.2.2.2.2.2.2 t4.2.1 t4.2.2.1 t4.2.2.2.1 t4.2.2.2.2 _ _ _ hf hW (lv_sub hl [1, 0] rfl)
        clear hf
        have lp_22 : ∀ (n : Nat) (x3_22 : Int32) (y_x_22 : Int32) (y_stations_22 : Nat → Int32) (y_links_22 : Nat → Int32) (y_messages_22 : Nat → Int32) (y_copies_22 : Nat → Int32) (y_log_first_22 : Int32) (y_log_size_22 : Int32) (y_log_events_22 : Nat → Int32) (H : Heap) (locs : List Loc) (ls : Array Slot), lX2_passHour_22 N c_linkCount c_time c_tries x1_6 t4 n x3_22 y_x_22 y_stations_22 y_links_22 y_messages_22 y_copies_22 y_log_first_22 y_log_size_22 y_log_events_22 = some t5 → rn_W D A s [(a_this, .inr (2, [.ref a_this_stations, .ref a_this_links, .ref a_this_messages, .ref a_this_copies, .ref a_this_log, .ref a_this_ways, .ref a_this_frames, .int c_stationCount, .int c_linkCount, .int c_messageCount, .int c_time, .int c_life, .int c_tries, .int y_x_22])), (a_this_stations, .inr (4, [.int (8 : Int32), .int (10 : Int32), .ref a_this_stations_cells])), (a_this_stations_cells, .inl (k 0, 80, .inl y_stations_22)), (a_this_links, .inr (4, [.int (16 : Int32), .int (9 : Int32), .ref a_this_links_cells])), (a_this_links_cells, .inl (k 0, 144, .inl y_links_22)), (a_this_messages, .inr (4, [.int (24 : Int32), .int (12 : Int32), .ref a_this_messages_cells])), (a_this_messages_cells, .inl (k 0, 288, .inl y_messages_22)), (a_this_copies, .inr (4, [.int (192 : Int32), .int (5 : Int32), .ref a_this_copies_cells])), (a_this_copies_cells, .inl (k 0, 960, .inl y_copies_22)), (a_this_log, .inr (0, [.ref a_this_log_events, .int y_log_first_22, .int y_log_size_22])), (a_this_log_events, .inr (4, [.int (40 : Int32), .int (5 : Int32), .ref a_this_log_events_cells])), (a_this_log_events_cells, .inl (k 0, 200, .inl y_log_events_22)), (a_this_ways, .inr (5, [.ref a_this_ways_heard, .int t4.2.1, .int t4.2.2.1, .int t4.2.2.2.1])), (a_this_ways_heard, .inl (k 1, 24, .inr (.inl c_ways_heard))), (a_this_frames, .inr (4, [.int (9 : Int32), .int (2 : Int32), .ref a_this_frames_cells])), (a_this_frames_cells, .inl (k 0, 18, .inl t4.2.2.2.2))] H locs → lv_has ls 4 [(0, .ref a_this), (1, .int x1_6), (2, .int t4.1), (3, .int x3_22)] → W p l e R s m args below meth c H locs 0 0 Q (F0 m 22 ls []) := by
          intro n
          induction n with
          | zero => intro x3_22 y_x_22 y_stations_22 y_links_22 y_messages_22 y_copies_22 y_log_first_22 y_log_size_22 y_log_events_22 H locs ls hf; exact absurd hf (by rw [lX2_passHour_22]; exact fun h => nomatch h)
          | succ n ih_22 =>
            intro x3_22 y_x_22 y_stations_22 y_links_22 y_messages_22 y_copies_22 y_log_first_22 y_log_size_22 y_log_events_22 H locs ls hf hW hl
            rw [lX2_passHour_22] at hf
            refine lv_iload_n hx hb dX2_passHour_22 rfl (lv_at hl 3 rfl) ?_
            refine lv_iload_n hx hb dX2_passHour_23 rfl (lv_at hl 2 rfl) ?_
            refine lv_icmp_ge (tgt := 56) hx hb dX2_passHour_24 (by decide) (fun hc6 => ?_) (fun hc6 => ?_)
            · replace hf := rn_t hf hc6
              cases hf
              exact kk_22 _ _ _ hW (lv_sub hl [0, 1] rfl)
            · replace hf := rn_f hf hc6
              refine lv_aload_n hx hb dX2_passHour_27 rfl (lv_at hl 0 rfl) ?_
              refine lv_aload_n hx hb dX2_passHour_28 rfl (lv_at hl 0 rfl) ?_
              refine rr_get X hW 0 6 gf_X2_43 rfl rfl dX2_passHour_29 ?_
              refine lv_iload_n hx hb dX2_passHour_32 rfl (lv_at hl 3 rfl) ?_
              refine lv_iconst (v := 0) hx hb dX2_passHour_33 (by decide) ?_
              obtain ⟨t7, ht7, hf⟩ := rn_bind hf
              refine rr_callI (As := [.int x3_22, .int (0 : Int32)]) (rest := [.ref a_this]) X hW (kX4_get l D k z a_this_frames a_this_frames_cells (9 : Int32) (2 : Int32) 18 t4.2.2.2.2 x3_22 (0 : Int32) ht7) gm_X4_get gl_X2_105 [14, 15] [0, 1, 2, 3, 4, 5, 6, 7, 8, 9, 10, 11, 12, 13] [(a_this, .inr (2, [.ref a_this_stations, .ref a_this_links, .ref a_this_messages, .ref a_this_copies, .ref a_this_log, .ref a_this_ways, .ref a_this_frames, .int c_stationCount, .int c_linkCount, .int c_messageCount, .int c_time, .int c_life, .int c_tries, .int y_x_22])), (a_this_stations, .inr (4, [.int (8 : Int32), .int (10 : Int32), .ref a_this_stations_cells])), (a_this_stations_cells, .inl (k 0, 80, .inl y_stations_22)), (a_this_links, .inr (4, [.int (16 : Int32), .int (9 : Int32), .ref a_this_links_cells])), (a_this_links_cells, .inl (k 0, 144, .inl y_links_22)), (a_this_messages, .inr (4, [.int (24 : Int32), .int (12 : Int32), .ref a_this_messages_cells])), (a_this_messages_cells, .inl (k 0, 288, .inl y_messages_22)), (a_this_copies, .inr (4, [.int (192 : Int32), .int (5 : Int32), .ref a_this_copies_cells])), (a_this_copies_cells, .inl (k 0, 960, .inl y_copies_22)), (a_this_log, .inr (0, [.ref a_this_log_events, .int y_log_first_22, .int y_log_size_22])), (a_this_log_events, .inr (4, [.int (40 : Int32), .int (5 : Int32), .ref a_this_log_events_cells])), (a_this_log_events_cells, .inl (k 0, 200, .inl y_log_events_22)), (a_this_ways, .inr (5, [.ref a_this_ways_heard, .int t4.2.1, .int t4.2.2.1, .int t4.2.2.2.1])), (a_this_ways_heard, .inl (k 1, 24, .inr (.inl c_ways_heard))), (a_this_frames, .inr (4, [.int (9 : Int32), .int (2 : Int32), .ref a_this_frames_cells])), (a_this_frames_cells, .inl (k 0, 18, .inl t4.2.2.2.2))] rfl rfl rfl rfl ⟨rfl, rfl, rn_Bw (wr := [(a_this, .inr (2, [.ref a_this_stations, .ref a_this_links, .ref a_this_messages, .ref a_this_copies, .ref a_this_log, .ref a_this_ways, .ref a_this_frames, .int c_stationCount, .int c_linkCount, .int c_messageCount, .int c_time, .int c_life, .int c_tries, .int y_x_22])), (a_this_stations, .inr (4, [.int (8 : Int32), .int (10 : Int32), .ref a_this_stations_cells])), (a_this_stations_cells, .inl (k 0, 80, .inl y_stations_22)), (a_this_links, .inr (4, [.int (16 : Int32), .int (9 : Int32), .ref a_this_links_cells])), (a_this_links_cells, .inl (k 0, 144, .inl y_links_22)), (a_this_messages, .inr (4, [.int (24 : Int32), .int (12 : Int32), .ref a_this_messages_cells])), (a_this_messages_cells, .inl (k 0, 288, .inl y_messages_22)), (a_this_copies, .inr (4, [.int (192 : Int32), .int (5 : Int32), .ref a_this_copies_cells])), (a_this_copies_cells, .inl (k 0, 960, .inl y_copies_22)), (a_this_log, .inr (0, [.ref a_this_log_events, .int y_log_first_22, .int y_log_size_22])), (a_this_log_events, .inr (4, [.int (40 : Int32), .int (5 : Int32), .ref a_this_log_events_cells])), (a_this_log_events_cells, .inl (k 0, 200, .inl y_log_events_22)), (a_this_ways, .inr (5, [.ref a_this_ways_heard, .int t4.2.1, .int t4.2.2.1, .int t4.2.2.2.1])), (a_this_ways_heard, .inl (k 1, 24, .inr (.inl c_ways_heard)))]) rfl rfl, rfl, rfl⟩ (rn_r hR rfl) rn_cs hl.1 rfl (Nat.le_of_ble_eq_true rfl) dX2_passHour_34 (fun hn7 H locs hW => ?_)
              refine lv_iload_n hx hb dX2_passHour_37 rfl (lv_at hl 1 rfl) ?_
              refine lv_aload_n hx hb dX2_passHour_38 rfl (lv_at hl 0 rfl) ?_
              refine rr_get X hW 0 6 gf_X2_43 rfl rfl dX2_passHour_39 ?_
              refine lv_iload_n hx hb dX2_passHour_42 rfl (lv_at hl 3 rfl) ?_
              refine lv_iconst (v := 1) hx hb dX2_passHour_43 (by decide) ?_
              obtain ⟨t8, ht8, hf⟩ := rn_bind hf
              refine rr_callI (As := [.int x3_22, .int (1 : Int32)]) (rest := [.int x1_6, .int t7, .ref a_this]) X hW (kX4_get l D k z a_this_frames a_this_frames_cells (9 : Int32) (2 : Int32) 18 t4.2.2.2.2 x3_22 (1 : Int32) ht8) gm_X4_get gl_X2_105 [14, 15] [0, 1, 2, 3, 4, 5, 6, 7, 8, 9, 10, 11, 12, 13] [(a_this, .inr (2, [.ref a_this_stations, .ref a_this_links, .ref a_this_messages, .ref a_this_copies, .ref a_this_log, .ref a_this_ways, .ref a_this_frames, .int c_stationCount, .int c_linkCount, .int c_messageCount, .int c_time, .int c_life, .int c_tries, .int y_x_22])), (a_this_stations, .inr (4, [.int (8 : Int32), .int (10 : Int32), .ref a_this_stations_cells])), (a_this_stations_cells, .inl (k 0, 80, .inl y_stations_22)), (a_this_links, .inr (4, [.int (16 : Int32), .int (9 : Int32), .ref a_this_links_cells])), (a_this_links_cells, .inl (k 0, 144, .inl y_links_22)), (a_this_messages, .inr (4, [.int (24 : Int32), .int (12 : Int32), .ref a_this_messages_cells])), (a_this_messages_cells, .inl (k 0, 288, .inl y_messages_22)), (a_this_copies, .inr (4, [.int (192 : Int32), .int (5 : Int32), .ref a_this_copies_cells])), (a_this_copies_cells, .inl (k 0, 960, .inl y_copies_22)), (a_this_log, .inr (0, [.ref a_this_log_events, .int y_log_first_22, .int y_log_size_22])), (a_this_log_events, .inr (4, [.int (40 : Int32), .int (5 : Int32), .ref a_this_log_events_cells])), (a_this_log_events_cells, .inl (k 0, 200, .inl y_log_events_22)), (a_this_ways, .inr (5, [.ref a_this_ways_heard, .int t4.2.1, .int t4.2.2.1, .int t4.2.2.2.1])), (a_this_ways_heard, .inl (k 1, 24, .inr (.inl c_ways_heard))), (a_this_frames, .inr (4, [.int (9 : Int32), .int (2 : Int32), .ref a_this_frames_cells])), (a_this_frames_cells, .inl (k 0, 18, .inl t4.2.2.2.2))] rfl rfl rfl rfl ⟨rfl, rfl, rn_Bw (wr := [(a_this, .inr (2, [.ref a_this_stations, .ref a_this_links, .ref a_this_messages, .ref a_this_copies, .ref a_this_log, .ref a_this_ways, .ref a_this_frames, .int c_stationCount, .int c_linkCount, .int c_messageCount, .int c_time, .int c_life, .int c_tries, .int y_x_22])), (a_this_stations, .inr (4, [.int (8 : Int32), .int (10 : Int32), .ref a_this_stations_cells])), (a_this_stations_cells, .inl (k 0, 80, .inl y_stations_22)), (a_this_links, .inr (4, [.int (16 : Int32), .int (9 : Int32), .ref a_this_links_cells])), (a_this_links_cells, .inl (k 0, 144, .inl y_links_22)), (a_this_messages, .inr (4, [.int (24 : Int32), .int (12 : Int32), .ref a_this_messages_cells])), (a_this_messages_cells, .inl (k 0, 288, .inl y_messages_22)), (a_this_copies, .inr (4, [.int (192 : Int32), .int (5 : Int32), .ref a_this_copies_cells])), (a_this_copies_cells, .inl (k 0, 960, .inl y_copies_22)), (a_this_log, .inr (0, [.ref a_this_log_events, .int y_log_first_22, .int y_log_size_22])), (a_this_log_events, .inr (4, [.int (40 : Int32), .int (5 : Int32), .ref a_this_log_events_cells])), (a_this_log_events_cells, .inl (k 0, 200, .inl y_log_events_22)), (a_this_ways, .inr (5, [.ref a_this_ways_heard, .int t4.2.1, .int t4.2.2.1, .int t4.2.2.2.1])), (a_this_ways_heard, .inl (k 1, 24, .inr (.inl c_ways_heard)))]) rfl rfl, rfl, rfl⟩ (rn_r hR rfl) rn_cs hl.1 rfl (Nat.le_of_ble_eq_true rfl) dX2_passHour_44 (fun hn8 H locs hW => ?_)
              obtain ⟨t9, ht9, hf⟩ := rn_bind hf
              refine rr_callV (As := [.int t7, .int x1_6, .int t8]) (rest := []) X hW (kX2_sendFrame l D k z N a_this a_this_stations a_this_links a_this_messages a_this_copies a_this_log a_this_ways a_this_frames a_this_stations_cells a_this_links_cells a_this_messages_cells a_this_copies_cells a_this_log_events a_this_log_events_cells c_stationCount c_linkCount c_messageCount c_time c_life c_tries y_x_22 y_stations_22 y_links_22 y_messages_22 y_copies_22 y_log_first_22 y_log_size_22 y_log_events_22 t7 x1_6 t8 ht9) gm_X2_sendFrame gl_X2_176 [0, 1, 2, 3, 4, 5, 6, 7, 8, 9, 10, 11] [12, 13, 14, 15] [(a_this, .inr (2, [.ref a_this_stations, .ref a_this_links, .ref a_this_messages, .ref a_this_copies, .ref a_this_log, .ref a_this_ways, .ref a_this_frames, .int c_stationCount, .int c_linkCount, .int c_messageCount, .int c_time, .int c_life, .int c_tries, .int t9.1])), (a_this_stations, .inr (4, [.int (8 : Int32), .int (10 : Int32), .ref a_this_stations_cells])), (a_this_stations_cells, .inl (k 0, 80, .inl t9.2.1)), (a_this_links, .inr (4, [.int (16 : Int32), .int (9 : Int32), .ref a_this_links_cells])), (a_this_links_cells, .inl (k 0, 144, .inl t9.2.2.1)), (a_this_messages, .inr (4, [.int (24 : Int32), .int (12 : Int32), .ref a_this_messages_cells])), (a_this_messages_cells, .inl (k 0, 288, .inl t9.2.2.2.1)), (a_this_copies, .inr (4, [.int (192 : Int32), .int (5 : Int32), .ref a_this_copies_cells])), (a_this_copies_cells, .inl (k 0, 960, .inl t9.2.2.2.2.1)), (a_this_log, .inr (0, [.ref a_this_log_events, .int t9.2.2.2.2.2.1, .int t9.2.2.2.2.2.2.1])), (a_this_log_events, .inr (4, [.int (40 : Int32), .int (5 : Int32), .ref a_this_log_events_cells])), (a_this_log_events_cells, .inl (k 0, 200, .inl t9.2.2.2.2.2.2.2)), (a_this_ways, .inr (5, [.ref a_this_ways_heard, .int t4.2.1, .int t4.2.2.1, .int t4.2.2.2.1])), (a_this_ways_heard, .inl (k 1, 24, .inr (.inl c_ways_heard))), (a_this_frames, .inr (4, [.int (9 : Int32), .int (2 : Int32), .ref a_this_frames_cells])), (a_this_frames_cells, .inl (k 0, 18, .inl t4.2.2.2.2))] rfl rfl rfl rfl ⟨rfl, rfl, rn_Bw (wr := [(a_this_ways, .inr (5, [.ref a_this_ways_heard, .int t4.2.1, .int t4.2.2.1, .int t4.2.2.2.1])), (a_this_ways_heard, .inl (k 1, 24, .inr (.inl c_ways_heard))), (a_this_frames, .inr (4, [.int (9 : Int32), .int (2 : Int32), .ref a_this_frames_cells])), (a_this_frames_cells, .inl (k 0, 18, .inl t4.2.2.2.2))]) rfl rfl, rfl, rfl⟩ (rn_r hR rfl) rn_cs hl.1 rfl (Nat.le_of_ble_eq_true rfl) dX2_passHour_47 (fun H locs hW => ?_)
              refine lv_iinc (v := (x3_22 + (1 : Int32))) (lv' := [(3, .int (x3_22 + (1 : Int32))), (0, .ref a_this), (1, .int x1_6), (2, .int t4.1)]) hx hb dX2_passHour_50 hl (k := 3) rfl (congrArg (fun q => _ + q) (by decide)) (Nat.le_of_ble_eq_true rfl) rfl (fun ls hl => ?_)
              refine lv_goto (tgt := 22) hx hb dX2_passHour_53 (by decide) ?_
              exact ih_22 (x3_22 + (1 : Int32)) t9.1 t9.2.1 t9.2.2.1 t9.2.2.2.1 t9.2.2.2.2.1 t9.2.2.2.2.2.1 t9.2.2.2.2.2.2.1 t9.2.2.2.2.2.2.2 _ _ _ hf hW (lv_sub hl [1, 2, 3, 0] rfl)
        exact lp_22 N (0 : Int32) y_x_6 y_stations_6 y_links_6 y_messages_6 y_copies_6 y_log_first_6 y_log_size_6 y_log_events_6 _ _ _ ht5 hW (lv_sub hl [2, 3, 1, 0] rfl)
  exact lp_6 N (0 : Int32) c_x c_stations c_links t1.1 t1.2.1 t1.2.2.1 t1.2.2.2.1 t1.2.2.2.2 c_ways_arrival c_ways_fewest c_ways_next c_frames _ _ _ ht2 hW (lv_sub hl [1, 0] rfl)
