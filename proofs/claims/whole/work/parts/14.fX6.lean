/-! generated (wip/whole/gen/emit.py): functions and contracts: 14.fX6 -/
def fX6_errorCode (c_latestError : Int32) : Option (Int32) :=
  some c_latestError
set_option maxHeartbeats 4000000 in
set_option maxRecDepth 20000 in
theorem kX6_errorCode (l : Launch) (D : va_G) (k : Nat → ClassId) (z : (Nat → Nat) × (Nat → Nat)) (a_this : Nat) (a_this_setup : Nat) (a_this_net : Nat) (a_this_trial : Nat) (a_this_saved : Nat) (a_this_line : Nat) (c_latestError : Int32) (c_latestErrorPosition : Int32) {u : Int32} (hf : fX6_errorCode c_latestError = some u) : rn_KI l D k z yX6_errorCode cX6_errorCode 1 .int 0 0 [.ref a_this] [(a_this, .inr (6, [.ref a_this_setup, .int c_latestError, .int c_latestErrorPosition, .ref a_this_net, .ref a_this_trial, .ref a_this_saved, .ref a_this_line]))] [(a_this, .inr (6, [.ref a_this_setup, .int c_latestError, .int c_latestErrorPosition, .ref a_this_net, .ref a_this_trial, .ref a_this_saved, .ref a_this_line]))] u := by
  refine rn_KI.go (LOC := [(0, .ref a_this)]) rfl (by decide) (Nat.le_of_ble_eq_true rfl) rfl ?_
  intro p e s m args below meth c A ls R Q X hR hE hW hl
  have hx := X.1.1
  have hb := X.1.2.1
  unfold fX6_errorCode at hf
  refine lv_aload_n hx hb dX6_errorCode_0 rfl (lv_at hl 0 rfl) ?_
  refine rr_get X hW 0 1 gf_X6_16 rfl rfl dX6_errorCode_1 ?_
  cases hf
  exact hE _ _ _ _ hW rfl dX6_errorCode_4
def fX6_errorPosition (c_latestErrorPosition : Int32) : Option (Int32) :=
  some c_latestErrorPosition
set_option maxHeartbeats 4000000 in
set_option maxRecDepth 20000 in
theorem kX6_errorPosition (l : Launch) (D : va_G) (k : Nat → ClassId) (z : (Nat → Nat) × (Nat → Nat)) (a_this : Nat) (a_this_setup : Nat) (a_this_net : Nat) (a_this_trial : Nat) (a_this_saved : Nat) (a_this_line : Nat) (c_latestError : Int32) (c_latestErrorPosition : Int32) {u : Int32} (hf : fX6_errorPosition c_latestErrorPosition = some u) : rn_KI l D k z yX6_errorPosition cX6_errorPosition 1 .int 0 0 [.ref a_this] [(a_this, .inr (6, [.ref a_this_setup, .int c_latestError, .int c_latestErrorPosition, .ref a_this_net, .ref a_this_trial, .ref a_this_saved, .ref a_this_line]))] [(a_this, .inr (6, [.ref a_this_setup, .int c_latestError, .int c_latestErrorPosition, .ref a_this_net, .ref a_this_trial, .ref a_this_saved, .ref a_this_line]))] u := by
  refine rn_KI.go (LOC := [(0, .ref a_this)]) rfl (by decide) (Nat.le_of_ble_eq_true rfl) rfl ?_
  intro p e s m args below meth c A ls R Q X hR hE hW hl
  have hx := X.1.1
  have hb := X.1.2.1
  unfold fX6_errorPosition at hf
  refine lv_aload_n hx hb dX6_errorPosition_0 rfl (lv_at hl 0 rfl) ?_
  refine rr_get X hW 0 2 gf_X6_20 rfl rfl dX6_errorPosition_1 ?_
  cases hf
  exact hE _ _ _ _ hW rfl dX6_errorPosition_4
def fX6_isHour (i0 : Int32) : Option (Int32) :=
  if i0 < 0 then
    some (0 : Int32)
  else
  if (24 : Int32) ≤ i0 then
    some (0 : Int32)
  else
  some (1 : Int32)
set_option maxHeartbeats 4000000 in
set_option maxRecDepth 20000 in
theorem kX6_isHour (l : Launch) (D : va_G) (k : Nat → ClassId) (z : (Nat → Nat) × (Nat → Nat)) (i0 : Int32) {u : Int32} (hf : fX6_isHour i0 = some u) : rn_KI l D k z yX6_isHour cX6_isHour 1 .boolean 0 0 [.int i0] [] [] u := by
  refine rn_KI.go (LOC := [(0, .int i0)]) rfl (by decide) (Nat.le_of_ble_eq_true rfl) rfl ?_
  intro p e s m args below meth c A ls R Q X hR hE hW hl
  have hx := X.1.1
  have hb := X.1.2.1
  unfold fX6_isHour at hf
  refine lv_iload_n hx hb dX6_isHour_0 rfl (lv_at hl 0 rfl) ?_
  refine lv_if_lt (tgt := 14) hx hb dX6_isHour_1 (by decide) (fun hc1 => ?_) (fun hc1 => ?_)
  · replace hf := rn_t hf hc1
    refine lv_iconst (v := 0) hx hb dX6_isHour_14 (by decide) ?_
    cases hf
    exact hE _ _ _ _ hW (show narrow .boolean (.int (0 : Int32)) = .int (0 : Int32) from rfl) dX6_isHour_15
  · replace hf := rn_f hf hc1
    refine lv_iload_n hx hb dX6_isHour_4 rfl (lv_at hl 0 rfl) ?_
    refine lv_bipush (v := 24) hx hb dX6_isHour_5 (by decide) ?_
    refine lv_icmp_ge (tgt := 14) hx hb dX6_isHour_7 (by decide) (fun hc2 => ?_) (fun hc2 => ?_)
    · replace hf := rn_t hf hc2
      refine lv_iconst (v := 0) hx hb dX6_isHour_14 (by decide) ?_
      cases hf
      exact hE _ _ _ _ hW (show narrow .boolean (.int (0 : Int32)) = .int (0 : Int32) from rfl) dX6_isHour_15
    · replace hf := rn_f hf hc2
      refine lv_iconst (v := 1) hx hb dX6_isHour_10 (by decide) ?_
      refine lv_goto (tgt := 15) hx hb dX6_isHour_11 (by decide) ?_
      cases hf
      exact hE _ _ _ _ hW (show narrow .boolean (.int (1 : Int32)) = .int (1 : Int32) from rfl) dX6_isHour_15
def fX6_isRate (i0 : Int32) : Option (Int32) :=
  if i0 < (1 : Int32) then
    some (0 : Int32)
  else
  if (9 : Int32) < i0 then
    some (0 : Int32)
  else
  some (1 : Int32)
set_option maxHeartbeats 4000000 in
set_option maxRecDepth 20000 in
theorem kX6_isRate (l : Launch) (D : va_G) (k : Nat → ClassId) (z : (Nat → Nat) × (Nat → Nat)) (i0 : Int32) {u : Int32} (hf : fX6_isRate i0 = some u) : rn_KI l D k z yX6_isRate cX6_isRate 1 .boolean 0 0 [.int i0] [] [] u := by
  refine rn_KI.go (LOC := [(0, .int i0)]) rfl (by decide) (Nat.le_of_ble_eq_true rfl) rfl ?_
  intro p e s m args below meth c A ls R Q X hR hE hW hl
  have hx := X.1.1
  have hb := X.1.2.1
  unfold fX6_isRate at hf
  refine lv_iload_n hx hb dX6_isRate_0 rfl (lv_at hl 0 rfl) ?_
  refine lv_iconst (v := 1) hx hb dX6_isRate_1 (by decide) ?_
  refine lv_icmp_lt (tgt := 15) hx hb dX6_isRate_2 (by decide) (fun hc1 => ?_) (fun hc1 => ?_)
  · replace hf := rn_t hf hc1
    refine lv_iconst (v := 0) hx hb dX6_isRate_15 (by decide) ?_
    cases hf
    exact hE _ _ _ _ hW (show narrow .boolean (.int (0 : Int32)) = .int (0 : Int32) from rfl) dX6_isRate_16
  · replace hf := rn_f hf hc1
    refine lv_iload_n hx hb dX6_isRate_5 rfl (lv_at hl 0 rfl) ?_
    refine lv_bipush (v := 9) hx hb dX6_isRate_6 (by decide) ?_
    refine lv_icmp_gt (tgt := 15) hx hb dX6_isRate_8 (by decide) (fun hc2 => ?_) (fun hc2 => ?_)
    · replace hf := rn_t hf hc2
      refine lv_iconst (v := 0) hx hb dX6_isRate_15 (by decide) ?_
      cases hf
      exact hE _ _ _ _ hW (show narrow .boolean (.int (0 : Int32)) = .int (0 : Int32) from rfl) dX6_isRate_16
    · replace hf := rn_f hf hc2
      refine lv_iconst (v := 1) hx hb dX6_isRate_11 (by decide) ?_
      refine lv_goto (tgt := 16) hx hb dX6_isRate_12 (by decide) ?_
      cases hf
      exact hE _ _ _ _ hW (show narrow .boolean (.int (1 : Int32)) = .int (1 : Int32) from rfl) dX6_isRate_16
def fX6_isStation (c_net_stationCount : Int32) (i1 : Int32) : Option (Int32) :=
  if i1 < 0 then
    some (0 : Int32)
  else
  (fX2_stationCount c_net_stationCount).bind fun t2 =>
  if t2 ≤ i1 then
    some (0 : Int32)
  else
  some (1 : Int32)
set_option maxHeartbeats 4000000 in
set_option maxRecDepth 20000 in
theorem kX6_isStation (l : Launch) (D : va_G) (k : Nat → ClassId) (z : (Nat → Nat) × (Nat → Nat)) (a_this : Nat) (a_this_setup : Nat) (a_this_net : Nat) (a_this_trial : Nat) (a_this_saved : Nat) (a_this_line : Nat) (a_this_net_stations : Nat) (a_this_net_links : Nat) (a_this_net_messages : Nat) (a_this_net_copies : Nat) (a_this_net_log : Nat) (a_this_net_ways : Nat) (a_this_net_frames : Nat) (c_latestError : Int32) (c_latestErrorPosition : Int32) (c_net_stationCount : Int32) (c_net_linkCount : Int32) (c_net_messageCount : Int32) (c_net_time : Int32) (c_net_life : Int32) (c_net_tries : Int32) (c_net_x : Int32) (i1 : Int32) {u : Int32} (hf : fX6_isStation c_net_stationCount i1 = some u) : rn_KI l D k z yX6_isStation cX6_isStation 2 .boolean 1 20 [.ref a_this, .int i1] [(a_this, .inr (6, [.ref a_this_setup, .int c_latestError, .int c_latestErrorPosition, .ref a_this_net, .ref a_this_trial, .ref a_this_saved, .ref a_this_line])), (a_this_net, .inr (2, [.ref a_this_net_stations, .ref a_this_net_links, .ref a_this_net_messages, .ref a_this_net_copies, .ref a_this_net_log, .ref a_this_net_ways, .ref a_this_net_frames, .int c_net_stationCount, .int c_net_linkCount, .int c_net_messageCount, .int c_net_time, .int c_net_life, .int c_net_tries, .int c_net_x]))] [(a_this, .inr (6, [.ref a_this_setup, .int c_latestError, .int c_latestErrorPosition, .ref a_this_net, .ref a_this_trial, .ref a_this_saved, .ref a_this_line])), (a_this_net, .inr (2, [.ref a_this_net_stations, .ref a_this_net_links, .ref a_this_net_messages, .ref a_this_net_copies, .ref a_this_net_log, .ref a_this_net_ways, .ref a_this_net_frames, .int c_net_stationCount, .int c_net_linkCount, .int c_net_messageCount, .int c_net_time, .int c_net_life, .int c_net_tries, .int c_net_x]))] u := by
  refine rn_KI.go (LOC := [(0, .ref a_this), (1, .int i1)]) rfl (by decide) (Nat.le_of_ble_eq_true rfl) rfl ?_
  intro p e s m args below meth c A ls R Q X hR hE hW hl
  have hx := X.1.1
  have hb := X.1.2.1
  unfold fX6_isStation at hf
  refine lv_iload_n hx hb dX6_isStation_0 rfl (lv_at hl 1 rfl) ?_
  refine lv_if_lt (tgt := 19) hx hb dX6_isStation_1 (by decide) (fun hc1 => ?_) (fun hc1 => ?_)
  · replace hf := rn_t hf hc1
    refine lv_iconst (v := 0) hx hb dX6_isStation_19 (by decide) ?_
    cases hf
    exact hE _ _ _ _ hW (show narrow .boolean (.int (0 : Int32)) = .int (0 : Int32) from rfl) dX6_isStation_20
  · replace hf := rn_f hf hc1
    refine lv_iload_n hx hb dX6_isStation_4 rfl (lv_at hl 1 rfl) ?_
    refine lv_aload_n hx hb dX6_isStation_5 rfl (lv_at hl 0 rfl) ?_
    refine rr_get X hW 0 3 gf_X6_26 rfl rfl dX6_isStation_6 ?_
    obtain ⟨t2, ht2, hf⟩ := rn_bind hf
    refine rr_callI (As := []) (rest := [.int i1]) X hW (kX2_stationCount l D k z a_this_net a_this_net_stations a_this_net_links a_this_net_messages a_this_net_copies a_this_net_log a_this_net_ways a_this_net_frames c_net_stationCount c_net_linkCount c_net_messageCount c_net_time c_net_life c_net_tries c_net_x ht2) gm_X2_stationCount gl_X6_96 [1] [0] [(a_this, .inr (6, [.ref a_this_setup, .int c_latestError, .int c_latestErrorPosition, .ref a_this_net, .ref a_this_trial, .ref a_this_saved, .ref a_this_line])), (a_this_net, .inr (2, [.ref a_this_net_stations, .ref a_this_net_links, .ref a_this_net_messages, .ref a_this_net_copies, .ref a_this_net_log, .ref a_this_net_ways, .ref a_this_net_frames, .int c_net_stationCount, .int c_net_linkCount, .int c_net_messageCount, .int c_net_time, .int c_net_life, .int c_net_tries, .int c_net_x]))] rfl rfl rfl rfl ⟨rfl, rfl, rn_Bw (wr := [(a_this, .inr (6, [.ref a_this_setup, .int c_latestError, .int c_latestErrorPosition, .ref a_this_net, .ref a_this_trial, .ref a_this_saved, .ref a_this_line]))]) rfl rfl, rfl, rfl⟩ (rn_r hR rfl) rn_cs hl.1 rfl (Nat.le_of_ble_eq_true rfl) dX6_isStation_9 (fun hn2 H locs hW => ?_)
    refine lv_icmp_ge (tgt := 19) hx hb dX6_isStation_12 (by decide) (fun hc3 => ?_) (fun hc3 => ?_)
    · replace hf := rn_t hf hc3
      refine lv_iconst (v := 0) hx hb dX6_isStation_19 (by decide) ?_
      cases hf
      exact hE _ _ _ _ hW (show narrow .boolean (.int (0 : Int32)) = .int (0 : Int32) from rfl) dX6_isStation_20
    · replace hf := rn_f hf hc3
      refine lv_iconst (v := 1) hx hb dX6_isStation_15 (by decide) ?_
      refine lv_goto (tgt := 20) hx hb dX6_isStation_16 (by decide) ?_
      cases hf
      exact hE _ _ _ _ hW (show narrow .boolean (.int (1 : Int32)) = .int (1 : Int32) from rfl) dX6_isStation_20
def fX6_isQuality (i0 : Int32) : Option (Int32) :=
  if i0 < 0 then
    some (0 : Int32)
  else
  if (100 : Int32) < i0 then
    some (0 : Int32)
  else
  some (1 : Int32)
set_option maxHeartbeats 4000000 in
set_option maxRecDepth 20000 in
theorem kX6_isQuality (l : Launch) (D : va_G) (k : Nat → ClassId) (z : (Nat → Nat) × (Nat → Nat)) (i0 : Int32) {u : Int32} (hf : fX6_isQuality i0 = some u) : rn_KI l D k z yX6_isQuality cX6_isQuality 1 .boolean 0 0 [.int i0] [] [] u := by
  refine rn_KI.go (LOC := [(0, .int i0)]) rfl (by decide) (Nat.le_of_ble_eq_true rfl) rfl ?_
  intro p e s m args below meth c A ls R Q X hR hE hW hl
  have hx := X.1.1
  have hb := X.1.2.1
  unfold fX6_isQuality at hf
  refine lv_iload_n hx hb dX6_isQuality_0 rfl (lv_at hl 0 rfl) ?_
  refine lv_if_lt (tgt := 14) hx hb dX6_isQuality_1 (by decide) (fun hc1 => ?_) (fun hc1 => ?_)
  · replace hf := rn_t hf hc1
    refine lv_iconst (v := 0) hx hb dX6_isQuality_14 (by decide) ?_
    cases hf
    exact hE _ _ _ _ hW (show narrow .boolean (.int (0 : Int32)) = .int (0 : Int32) from rfl) dX6_isQuality_15
  · replace hf := rn_f hf hc1
    refine lv_iload_n hx hb dX6_isQuality_4 rfl (lv_at hl 0 rfl) ?_
    refine lv_bipush (v := 100) hx hb dX6_isQuality_5 (by decide) ?_
    refine lv_icmp_gt (tgt := 14) hx hb dX6_isQuality_7 (by decide) (fun hc2 => ?_) (fun hc2 => ?_)
    · replace hf := rn_t hf hc2
      refine lv_iconst (v := 0) hx hb dX6_isQuality_14 (by decide) ?_
      cases hf
      exact hE _ _ _ _ hW (show narrow .boolean (.int (0 : Int32)) = .int (0 : Int32) from rfl) dX6_isQuality_15
    · replace hf := rn_f hf hc2
      refine lv_iconst (v := 1) hx hb dX6_isQuality_10 (by decide) ?_
      refine lv_goto (tgt := 15) hx hb dX6_isQuality_11 (by decide) ?_
      cases hf
      exact hE _ _ _ _ hW (show narrow .boolean (.int (1 : Int32)) = .int (1 : Int32) from rfl) dX6_isQuality_15
def fX6_isLink (c_net_linkCount : Int32) (i1 : Int32) : Option (Int32) :=
  if i1 < 0 then
    some (0 : Int32)
  else
  (fX2_linkCount c_net_linkCount).bind fun t2 =>
  if t2 ≤ i1 then
    some (0 : Int32)
  else
  some (1 : Int32)
set_option maxHeartbeats 4000000 in
set_option maxRecDepth 20000 in
theorem kX6_isLink (l : Launch) (D : va_G) (k : Nat → ClassId) (z : (Nat → Nat) × (Nat → Nat)) (a_this : Nat) (a_this_setup : Nat) (a_this_net : Nat) (a_this_trial : Nat) (a_this_saved : Nat) (a_this_line : Nat) (a_this_net_stations : Nat) (a_this_net_links : Nat) (a_this_net_messages : Nat) (a_this_net_copies : Nat) (a_this_net_log : Nat) (a_this_net_ways : Nat) (a_this_net_frames : Nat) (c_latestError : Int32) (c_latestErrorPosition : Int32) (c_net_stationCount : Int32) (c_net_linkCount : Int32) (c_net_messageCount : Int32) (c_net_time : Int32) (c_net_life : Int32) (c_net_tries : Int32) (c_net_x : Int32) (i1 : Int32) {u : Int32} (hf : fX6_isLink c_net_linkCount i1 = some u) : rn_KI l D k z yX6_isLink cX6_isLink 2 .boolean 1 20 [.ref a_this, .int i1] [(a_this, .inr (6, [.ref a_this_setup, .int c_latestError, .int c_latestErrorPosition, .ref a_this_net, .ref a_this_trial, .ref a_this_saved, .ref a_this_line])), (a_this_net, .inr (2, [.ref a_this_net_stations, .ref a_this_net_links, .ref a_this_net_messages, .ref a_this_net_copies, .ref a_this_net_log, .ref a_this_net_ways, .ref a_this_net_frames, .int c_net_stationCount, .int c_net_linkCount, .int c_net_messageCount, .int c_net_time, .int c_net_life, .int c_net_tries, .int c_net_x]))] [(a_this, .inr (6, [.ref a_this_setup, .int c_latestError, .int c_latestErrorPosition, .ref a_this_net, .ref a_this_trial, .ref a_this_saved, .ref a_this_line])), (a_this_net, .inr (2, [.ref a_this_net_stations, .ref a_this_net_links, .ref a_this_net_messages, .ref a_this_net_copies, .ref a_this_net_log, .ref a_this_net_ways, .ref a_this_net_frames, .int c_net_stationCount, .int c_net_linkCount, .int c_net_messageCount, .int c_net_time, .int c_net_life, .int c_net_tries, .int c_net_x]))] u := by
  refine rn_KI.go (LOC := [(0, .ref a_this), (1, .int i1)]) rfl (by decide) (Nat.le_of_ble_eq_true rfl) rfl ?_
  intro p e s m args below meth c A ls R Q X hR hE hW hl
  have hx := X.1.1
  have hb := X.1.2.1
  unfold fX6_isLink at hf
  refine lv_iload_n hx hb dX6_isLink_0 rfl (lv_at hl 1 rfl) ?_
  refine lv_if_lt (tgt := 19) hx hb dX6_isLink_1 (by decide) (fun hc1 => ?_) (fun hc1 => ?_)
  · replace hf := rn_t hf hc1
    refine lv_iconst (v := 0) hx hb dX6_isLink_19 (by decide) ?_
    cases hf
    exact hE _ _ _ _ hW (show narrow .boolean (.int (0 : Int32)) = .int (0 : Int32) from rfl) dX6_isLink_20
  · replace hf := rn_f hf hc1
    refine lv_iload_n hx hb dX6_isLink_4 rfl (lv_at hl 1 rfl) ?_
    refine lv_aload_n hx hb dX6_isLink_5 rfl (lv_at hl 0 rfl) ?_
    refine rr_get X hW 0 3 gf_X6_26 rfl rfl dX6_isLink_6 ?_
    obtain ⟨t2, ht2, hf⟩ := rn_bind hf
    refine rr_callI (As := []) (rest := [.int i1]) X hW (kX2_linkCount l D k z a_this_net a_this_net_stations a_this_net_links a_this_net_messages a_this_net_copies a_this_net_log a_this_net_ways a_this_net_frames c_net_stationCount c_net_linkCount c_net_messageCount c_net_time c_net_life c_net_tries c_net_x ht2) gm_X2_linkCount gl_X6_122 [1] [0] [(a_this, .inr (6, [.ref a_this_setup, .int c_latestError, .int c_latestErrorPosition, .ref a_this_net, .ref a_this_trial, .ref a_this_saved, .ref a_this_line])), (a_this_net, .inr (2, [.ref a_this_net_stations, .ref a_this_net_links, .ref a_this_net_messages, .ref a_this_net_copies, .ref a_this_net_log, .ref a_this_net_ways, .ref a_this_net_frames, .int c_net_stationCount, .int c_net_linkCount, .int c_net_messageCount, .int c_net_time, .int c_net_life, .int c_net_tries, .int c_net_x]))] rfl rfl rfl rfl ⟨rfl, rfl, rn_Bw (wr := [(a_this, .inr (6, [.ref a_this_setup, .int c_latestError, .int c_latestErrorPosition, .ref a_this_net, .ref a_this_trial, .ref a_this_saved, .ref a_this_line]))]) rfl rfl, rfl, rfl⟩ (rn_r hR rfl) rn_cs hl.1 rfl (Nat.le_of_ble_eq_true rfl) dX6_isLink_9 (fun hn2 H locs hW => ?_)
    refine lv_icmp_ge (tgt := 19) hx hb dX6_isLink_12 (by decide) (fun hc3 => ?_) (fun hc3 => ?_)
    · replace hf := rn_t hf hc3
      refine lv_iconst (v := 0) hx hb dX6_isLink_19 (by decide) ?_
      cases hf
      exact hE _ _ _ _ hW (show narrow .boolean (.int (0 : Int32)) = .int (0 : Int32) from rfl) dX6_isLink_20
    · replace hf := rn_f hf hc3
      refine lv_iconst (v := 1) hx hb dX6_isLink_15 (by decide) ?_
      refine lv_goto (tgt := 20) hx hb dX6_isLink_16 (by decide) ?_
      cases hf
      exact hE _ _ _ _ hW (show narrow .boolean (.int (1 : Int32)) = .int (1 : Int32) from rfl) dX6_isLink_20
def fX6_reachable (N : Nat) (c_net_stationCount : Int32) (c_net_time : Int32) (c_net_ways_heard : Nat → Int64) : Option (Int32) :=
  (fX2_reachablePairs N c_net_stationCount c_net_time c_net_ways_heard (0 : Int32)).bind fun t1 =>
  some t1
set_option maxHeartbeats 4000000 in
set_option maxRecDepth 20000 in
theorem kX6_reachable (l : Launch) (D : va_G) (k : Nat → ClassId) (z : (Nat → Nat) × (Nat → Nat)) (N : Nat) (a_this : Nat) (a_this_setup : Nat) (a_this_net : Nat) (a_this_trial : Nat) (a_this_saved : Nat) (a_this_line : Nat) (a_this_net_stations : Nat) (a_this_net_links : Nat) (a_this_net_messages : Nat) (a_this_net_copies : Nat) (a_this_net_log : Nat) (a_this_net_ways : Nat) (a_this_net_frames : Nat) (a_this_net_ways_heard : Nat) (c_latestError : Int32) (c_latestErrorPosition : Int32) (c_net_stationCount : Int32) (c_net_linkCount : Int32) (c_net_messageCount : Int32) (c_net_time : Int32) (c_net_life : Int32) (c_net_tries : Int32) (c_net_x : Int32) (c_net_ways_arrival : Int32) (c_net_ways_fewest : Int32) (c_net_ways_next : Int32) (c_net_ways_heard : Nat → Int64) {u : Int32} (hf : fX6_reachable N c_net_stationCount c_net_time c_net_ways_heard = some u) : rn_KI l D k z yX6_reachable cX6_reachable 1 .int 3 73 [.ref a_this] [(a_this, .inr (6, [.ref a_this_setup, .int c_latestError, .int c_latestErrorPosition, .ref a_this_net, .ref a_this_trial, .ref a_this_saved, .ref a_this_line])), (a_this_net, .inr (2, [.ref a_this_net_stations, .ref a_this_net_links, .ref a_this_net_messages, .ref a_this_net_copies, .ref a_this_net_log, .ref a_this_net_ways, .ref a_this_net_frames, .int c_net_stationCount, .int c_net_linkCount, .int c_net_messageCount, .int c_net_time, .int c_net_life, .int c_net_tries, .int c_net_x])), (a_this_net_ways, .inr (5, [.ref a_this_net_ways_heard, .int c_net_ways_arrival, .int c_net_ways_fewest, .int c_net_ways_next])), (a_this_net_ways_heard, .inl (k 1, 24, .inr (.inl c_net_ways_heard)))] [(a_this, .inr (6, [.ref a_this_setup, .int c_latestError, .int c_latestErrorPosition, .ref a_this_net, .ref a_this_trial, .ref a_this_saved, .ref a_this_line])), (a_this_net, .inr (2, [.ref a_this_net_stations, .ref a_this_net_links, .ref a_this_net_messages, .ref a_this_net_copies, .ref a_this_net_log, .ref a_this_net_ways, .ref a_this_net_frames, .int c_net_stationCount, .int c_net_linkCount, .int c_net_messageCount, .int c_net_time, .int c_net_life, .int c_net_tries, .int c_net_x])), (a_this_net_ways, .inr (5, [.ref a_this_net_ways_heard, .int c_net_ways_arrival, .int c_net_ways_fewest, .int c_net_ways_next])), (a_this_net_ways_heard, .inl (k 1, 24, .inr (.inl c_net_ways_heard)))] u := by
  refine rn_KI.go (LOC := [(0, .ref a_this)]) rfl (by decide) (Nat.le_of_ble_eq_true rfl) rfl ?_
  intro p e s m args below meth c A ls R Q X hR hE hW hl
  have hx := X.1.1
  have hb := X.1.2.1
  unfold fX6_reachable at hf
  refine lv_aload_n hx hb dX6_reachable_0 rfl (lv_at hl 0 rfl) ?_
  refine rr_get X hW 0 3 gf_X6_26 rfl rfl dX6_reachable_1 ?_
  refine lv_iconst (v := 0) hx hb dX6_reachable_4 (by decide) ?_
  obtain ⟨t1, ht1, hf⟩ := rn_bind hf
  refine rr_callI (As := [.int (0 : Int32)]) (rest := []) X hW (kX2_reachablePairs l D k z N a_this_net a_this_net_stations a_this_net_links a_this_net_messages a_this_net_copies a_this_net_log a_this_net_ways a_this_net_frames a_this_net_ways_heard c_net_stationCount c_net_linkCount c_net_messageCount c_net_time c_net_life c_net_tries c_net_x c_net_ways_arrival c_net_ways_fewest c_net_ways_next c_net_ways_heard (0 : Int32) ht1) gm_X2_reachablePairs gl_X6_175 [1, 2, 3] [0] [(a_this, .inr (6, [.ref a_this_setup, .int c_latestError, .int c_latestErrorPosition, .ref a_this_net, .ref a_this_trial, .ref a_this_saved, .ref a_this_line])), (a_this_net, .inr (2, [.ref a_this_net_stations, .ref a_this_net_links, .ref a_this_net_messages, .ref a_this_net_copies, .ref a_this_net_log, .ref a_this_net_ways, .ref a_this_net_frames, .int c_net_stationCount, .int c_net_linkCount, .int c_net_messageCount, .int c_net_time, .int c_net_life, .int c_net_tries, .int c_net_x])), (a_this_net_ways, .inr (5, [.ref a_this_net_ways_heard, .int c_net_ways_arrival, .int c_net_ways_fewest, .int c_net_ways_next])), (a_this_net_ways_heard, .inl (k 1, 24, .inr (.inl c_net_ways_heard)))] rfl rfl rfl rfl ⟨rfl, rfl, rn_Bw (wr := [(a_this, .inr (6, [.ref a_this_setup, .int c_latestError, .int c_latestErrorPosition, .ref a_this_net, .ref a_this_trial, .ref a_this_saved, .ref a_this_line]))]) rfl rfl, rfl, rfl⟩ (rn_r hR rfl) rn_cs hl.1 rfl (Nat.le_of_ble_eq_true rfl) dX6_reachable_5 (fun hn1 H locs hW => ?_)
  cases hf
  exact hE _ _ _ _ hW rfl dX6_reachable_8
def lX6_keyStation_6 (N : Nat) (c_net_stationCount : Int32) (c_net_time : Int32) (c_net_ways_heard : Nat → Int64) : Nat → Int32 → Int32 → Int32 → Option (Int32)
  | 0, _, _, _ => none
  | n+1, x1_6, x2_6, x3_6 =>
    (fX2_stationCount c_net_stationCount).bind fun t2 =>
    if t2 ≤ x3_6 then
      some x1_6
    else
    (fX2_reachablePairs N c_net_stationCount c_net_time c_net_ways_heard ((1 : Int32) <<< (x3_6 &&& (31 : Int32)))).bind fun t4 =>
    if x1_6 = (-1 : Int32) then
      lX6_keyStation_6 N c_net_stationCount c_net_time c_net_ways_heard n x3_6 t4 (x3_6 + (1 : Int32))
    else
    if x2_6 ≤ t4 then
      lX6_keyStation_6 N c_net_stationCount c_net_time c_net_ways_heard n x1_6 x2_6 (x3_6 + (1 : Int32))
    else
    lX6_keyStation_6 N c_net_stationCount c_net_time c_net_ways_heard n x3_6 t4 (x3_6 + (1 : Int32))
def fX6_keyStation (N : Nat) (c_net_stationCount : Int32) (c_net_time : Int32) (c_net_ways_heard : Nat → Int64) : Option (Int32) :=
  (lX6_keyStation_6 N c_net_stationCount c_net_time c_net_ways_heard N (-1 : Int32) (0 : Int32) (0 : Int32)).bind fun t1 =>
  some t1
set_option maxHeartbeats 4000000 in
set_option maxRecDepth 20000 in
theorem kX6_keyStation (l : Launch) (D : va_G) (k : Nat → ClassId) (z : (Nat → Nat) × (Nat → Nat)) (N : Nat) (a_this : Nat) (a_this_setup : Nat) (a_this_net : Nat) (a_this_trial : Nat) (a_this_saved : Nat) (a_this_line : Nat) (a_this_net_stations : Nat) (a_this_net_links : Nat) (a_this_net_messages : Nat) (a_this_net_copies : Nat) (a_this_net_log : Nat) (a_this_net_ways : Nat) (a_this_net_frames : Nat) (a_this_net_ways_heard : Nat) (c_latestError : Int32) (c_latestErrorPosition : Int32) (c_net_stationCount : Int32) (c_net_linkCount : Int32) (c_net_messageCount : Int32) (c_net_time : Int32) (c_net_life : Int32) (c_net_tries : Int32) (c_net_x : Int32) (c_net_ways_arrival : Int32) (c_net_ways_fewest : Int32) (c_net_ways_next : Int32) (c_net_ways_heard : Nat → Int64) {u : Int32} (hf : fX6_keyStation N c_net_stationCount c_net_time c_net_ways_heard = some u) : rn_KI l D k z yX6_keyStation cX6_keyStation 5 .int 3 73 [.ref a_this] [(a_this, .inr (6, [.ref a_this_setup, .int c_latestError, .int c_latestErrorPosition, .ref a_this_net, .ref a_this_trial, .ref a_this_saved, .ref a_this_line])), (a_this_net, .inr (2, [.ref a_this_net_stations, .ref a_this_net_links, .ref a_this_net_messages, .ref a_this_net_copies, .ref a_this_net_log, .ref a_this_net_ways, .ref a_this_net_frames, .int c_net_stationCount, .int c_net_linkCount, .int c_net_messageCount, .int c_net_time, .int c_net_life, .int c_net_tries, .int c_net_x])), (a_this_net_ways, .inr (5, [.ref a_this_net_ways_heard, .int c_net_ways_arrival, .int c_net_ways_fewest, .int c_net_ways_next])), (a_this_net_ways_heard, .inl (k 1, 24, .inr (.inl c_net_ways_heard)))] [(a_this, .inr (6, [.ref a_this_setup, .int c_latestError, .int c_latestErrorPosition, .ref a_this_net, .ref a_this_trial, .ref a_this_saved, .ref a_this_line])), (a_this_net, .inr (2, [.ref a_this_net_stations, .ref a_this_net_links, .ref a_this_net_messages, .ref a_this_net_copies, .ref a_this_net_log, .ref a_this_net_ways, .ref a_this_net_frames, .int c_net_stationCount, .int c_net_linkCount, .int c_net_messageCount, .int c_net_time, .int c_net_life, .int c_net_tries, .int c_net_x])), (a_this_net_ways, .inr (5, [.ref a_this_net_ways_heard, .int c_net_ways_arrival, .int c_net_ways_fewest, .int c_net_ways_next])), (a_this_net_ways_heard, .inl (k 1, 24, .inr (.inl c_net_ways_heard)))] u := by
  refine rn_KI.go (LOC := [(0, .ref a_this)]) rfl (by decide) (Nat.le_of_ble_eq_true rfl) rfl ?_
  intro p e s m args below meth c A ls R Q X hR hE hW hl
  have hx := X.1.1
  have hb := X.1.2.1
  unfold fX6_keyStation at hf
  refine lv_iconst (v := -1) hx hb dX6_keyStation_0 (by decide) ?_
  refine lv_istore_n (lv' := [(1, .int (-1 : Int32)), (0, .ref a_this)]) hx hb dX6_keyStation_1 rfl hl (Nat.le_of_ble_eq_true rfl) rfl (fun ls hl => ?_)
  refine lv_iconst (v := 0) hx hb dX6_keyStation_2 (by decide) ?_
  refine lv_istore_n (lv' := [(2, .int (0 : Int32)), (1, .int (-1 : Int32)), (0, .ref a_this)]) hx hb dX6_keyStation_3 rfl hl (Nat.le_of_ble_eq_true rfl) rfl (fun ls hl => ?_)
  refine lv_iconst (v := 0) hx hb dX6_keyStation_4 (by decide) ?_
  refine lv_istore_n (lv' := [(3, .int (0 : Int32)), (2, .int (0 : Int32)), (1, .int (-1 : Int32)), (0, .ref a_this)]) hx hb dX6_keyStation_5 rfl hl (Nat.le_of_ble_eq_true rfl) rfl (fun ls hl => ?_)
  obtain ⟨t1, ht1, hf⟩ := rn_bind hf
  have kk_6 : ∀ (H : Heap) (locs : List Loc) (ls : Array Slot), rn_W D A s [(a_this, .inr (6, [.ref a_this_setup, .int c_latestError, .int c_latestErrorPosition, .ref a_this_net, .ref a_this_trial, .ref a_this_saved, .ref a_this_line])), (a_this_net, .inr (2, [.ref a_this_net_stations, .ref a_this_net_links, .ref a_this_net_messages, .ref a_this_net_copies, .ref a_this_net_log, .ref a_this_net_ways, .ref a_this_net_frames, .int c_net_stationCount, .int c_net_linkCount, .int c_net_messageCount, .int c_net_time, .int c_net_life, .int c_net_tries, .int c_net_x])), (a_this_net_ways, .inr (5, [.ref a_this_net_ways_heard, .int c_net_ways_arrival, .int c_net_ways_fewest, .int c_net_ways_next])), (a_this_net_ways_heard, .inl (k 1, 24, .inr (.inl c_net_ways_heard)))] H locs → lv_has ls 5 [(1, .int t1)] → W p l e R s m args below meth c H locs 0 0 Q (F0 m 51 ls []) := by
    intro H locs ls hW hl
    refine lv_iload_n hx hb dX6_keyStation_51 rfl (lv_at hl 0 rfl) ?_
    cases hf
    exact hE _ _ _ _ hW rfl dX6_keyStation_52
  clear hf
  have lp_6 : ∀ (n : Nat) (x1_6 : Int32) (x2_6 : Int32) (x3_6 : Int32) (H : Heap) (locs : List Loc) (ls : Array Slot), lX6_keyStation_6 N c_net_stationCount c_net_time c_net_ways_heard n x1_6 x2_6 x3_6 = some t1 → rn_W D A s [(a_this, .inr (6, [.ref a_this_setup, .int c_latestError, .int c_latestErrorPosition, .ref a_this_net, .ref a_this_trial, .ref a_this_saved, .ref a_this_line])), (a_this_net, .inr (2, [.ref a_this_net_stations, .ref a_this_net_links, .ref a_this_net_messages, .ref a_this_net_copies, .ref a_this_net_log, .ref a_this_net_ways, .ref a_this_net_frames, .int c_net_stationCount, .int c_net_linkCount, .int c_net_messageCount, .int c_net_time, .int c_net_life, .int c_net_tries, .int c_net_x])), (a_this_net_ways, .inr (5, [.ref a_this_net_ways_heard, .int c_net_ways_arrival, .int c_net_ways_fewest, .int c_net_ways_next])), (a_this_net_ways_heard, .inl (k 1, 24, .inr (.inl c_net_ways_heard)))] H locs → lv_has ls 5 [(0, .ref a_this), (1, .int x1_6), (2, .int x2_6), (3, .int x3_6)] → W p l e R s m args below meth c H locs 0 0 Q (F0 m 6 ls []) := by
    intro n
    induction n with
    | zero => intro x1_6 x2_6 x3_6 H locs ls hf; exact absurd hf (by rw [lX6_keyStation_6]; exact fun h => nomatch h)
    | succ n ih_6 =>
      intro x1_6 x2_6 x3_6 H locs ls hf hW hl
      rw [lX6_keyStation_6] at hf
      refine lv_iload_n hx hb dX6_keyStation_6 rfl (lv_at hl 3 rfl) ?_
      refine lv_aload_n hx hb dX6_keyStation_7 rfl (lv_at hl 0 rfl) ?_
      refine rr_get X hW 0 3 gf_X6_26 rfl rfl dX6_keyStation_8 ?_
      obtain ⟨t2, ht2, hf⟩ := rn_bind hf
      refine rr_callI (As := []) (rest := [.int x3_6]) X hW (kX2_stationCount l D k z a_this_net a_this_net_stations a_this_net_links a_this_net_messages a_this_net_copies a_this_net_log a_this_net_ways a_this_net_frames c_net_stationCount c_net_linkCount c_net_messageCount c_net_time c_net_life c_net_tries c_net_x ht2) gm_X2_stationCount gl_X6_96 [1] [0, 2, 3] [(a_this, .inr (6, [.ref a_this_setup, .int c_latestError, .int c_latestErrorPosition, .ref a_this_net, .ref a_this_trial, .ref a_this_saved, .ref a_this_line])), (a_this_net, .inr (2, [.ref a_this_net_stations, .ref a_this_net_links, .ref a_this_net_messages, .ref a_this_net_copies, .ref a_this_net_log, .ref a_this_net_ways, .ref a_this_net_frames, .int c_net_stationCount, .int c_net_linkCount, .int c_net_messageCount, .int c_net_time, .int c_net_life, .int c_net_tries, .int c_net_x])), (a_this_net_ways, .inr (5, [.ref a_this_net_ways_heard, .int c_net_ways_arrival, .int c_net_ways_fewest, .int c_net_ways_next])), (a_this_net_ways_heard, .inl (k 1, 24, .inr (.inl c_net_ways_heard)))] rfl rfl rfl rfl ⟨rfl, rfl, rn_Bw (wr := [(a_this, .inr (6, [.ref a_this_setup, .int c_latestError, .int c_latestErrorPosition, .ref a_this_net, .ref a_this_trial, .ref a_this_saved, .ref a_this_line])), (a_this_net_ways, .inr (5, [.ref a_this_net_ways_heard, .int c_net_ways_arrival, .int c_net_ways_fewest, .int c_net_ways_next])), (a_this_net_ways_heard, .inl (k 1, 24, .inr (.inl c_net_ways_heard)))]) rfl rfl, rfl, rfl⟩ (rn_r hR rfl) rn_cs hl.1 rfl (Nat.le_of_ble_eq_true rfl) dX6_keyStation_11 (fun hn2 H locs hW => ?_)
      refine lv_icmp_ge (tgt := 51) hx hb dX6_keyStation_14 (by decide) (fun hc3 => ?_) (fun hc3 => ?_)
      · replace hf := rn_t hf hc3
        cases hf
        exact kk_6 _ _ _ hW (lv_sub hl [1] rfl)
      · replace hf := rn_f hf hc3
        refine lv_aload_n hx hb dX6_keyStation_17 rfl (lv_at hl 0 rfl) ?_
        refine rr_get X hW 0 3 gf_X6_26 rfl rfl dX6_keyStation_18 ?_
        refine lv_iconst (v := 1) hx hb dX6_keyStation_21 (by decide) ?_
        refine lv_iload_n hx hb dX6_keyStation_22 rfl (lv_at hl 3 rfl) ?_
        refine lv_ishl hx hb dX6_keyStation_23 ?_
        obtain ⟨t4, ht4, hf⟩ := rn_bind hf
        refine rr_callI (As := [.int ((1 : Int32) <<< (x3_6 &&& (31 : Int32)))]) (rest := []) X hW (kX2_reachablePairs l D k z N a_this_net a_this_net_stations a_this_net_links a_this_net_messages a_this_net_copies a_this_net_log a_this_net_ways a_this_net_frames a_this_net_ways_heard c_net_stationCount c_net_linkCount c_net_messageCount c_net_time c_net_life c_net_tries c_net_x c_net_ways_arrival c_net_ways_fewest c_net_ways_next c_net_ways_heard ((1 : Int32) <<< (x3_6 &&& (31 : Int32))) ht4) gm_X2_reachablePairs gl_X6_175 [1, 2, 3] [0] [(a_this, .inr (6, [.ref a_this_setup, .int c_latestError, .int c_latestErrorPosition, .ref a_this_net, .ref a_this_trial, .ref a_this_saved, .ref a_this_line])), (a_this_net, .inr (2, [.ref a_this_net_stations, .ref a_this_net_links, .ref a_this_net_messages, .ref a_this_net_copies, .ref a_this_net_log, .ref a_this_net_ways, .ref a_this_net_frames, .int c_net_stationCount, .int c_net_linkCount, .int c_net_messageCount, .int c_net_time, .int c_net_life, .int c_net_tries, .int c_net_x])), (a_this_net_ways, .inr (5, [.ref a_this_net_ways_heard, .int c_net_ways_arrival, .int c_net_ways_fewest, .int c_net_ways_next])), (a_this_net_ways_heard, .inl (k 1, 24, .inr (.inl c_net_ways_heard)))] rfl rfl rfl rfl ⟨rfl, rfl, rn_Bw (wr := [(a_this, .inr (6, [.ref a_this_setup, .int c_latestError, .int c_latestErrorPosition, .ref a_this_net, .ref a_this_trial, .ref a_this_saved, .ref a_this_line]))]) rfl rfl, rfl, rfl⟩ (rn_r hR rfl) rn_cs hl.1 rfl (Nat.le_of_ble_eq_true rfl) dX6_keyStation_24 (fun hn4 H locs hW => ?_)
        refine lv_istore (lv' := [(4, .int t4), (0, .ref a_this), (1, .int x1_6), (2, .int x2_6), (3, .int x3_6)]) hx hb dX6_keyStation_27 hl (Nat.le_of_ble_eq_true rfl) rfl (fun ls hl => ?_)
        refine lv_iload_n hx hb dX6_keyStation_29 rfl (lv_at hl 2 rfl) ?_
        refine lv_iconst (v := -1) hx hb dX6_keyStation_30 (by decide) ?_
        refine lv_icmp_eq (tgt := 40) hx hb dX6_keyStation_31 (by decide) (fun hc5 => ?_) (fun hc5 => ?_)
        · replace hf := rn_t hf hc5
          refine lv_iload_n hx hb dX6_keyStation_40 rfl (lv_at hl 4 rfl) ?_
          refine lv_istore_n (lv' := [(1, .int x3_6), (4, .int t4), (0, .ref a_this), (2, .int x2_6), (3, .int x3_6)]) hx hb dX6_keyStation_41 rfl hl (Nat.le_of_ble_eq_true rfl) rfl (fun ls hl => ?_)
          refine lv_iload hx hb dX6_keyStation_42 (lv_at hl 1 rfl) ?_
          refine lv_istore_n (lv' := [(2, .int t4), (1, .int x3_6), (4, .int t4), (0, .ref a_this), (3, .int x3_6)]) hx hb dX6_keyStation_44 rfl hl (Nat.le_of_ble_eq_true rfl) rfl (fun ls hl => ?_)
          refine lv_iinc (v := (x3_6 + (1 : Int32))) (lv' := [(3, .int (x3_6 + (1 : Int32))), (2, .int t4), (1, .int x3_6), (4, .int t4), (0, .ref a_this)]) hx hb dX6_keyStation_45 hl (k := 4) rfl (congrArg (fun q => _ + q) (by decide)) (Nat.le_of_ble_eq_true rfl) rfl (fun ls hl => ?_)
          refine lv_goto (tgt := 6) hx hb dX6_keyStation_48 (by decide) ?_
          exact ih_6 x3_6 t4 (x3_6 + (1 : Int32)) _ _ _ hf hW (lv_sub hl [4, 2, 1, 0] rfl)
        · replace hf := rn_f hf hc5
          refine lv_iload hx hb dX6_keyStation_34 (lv_at hl 0 rfl) ?_
          refine lv_iload_n hx hb dX6_keyStation_36 rfl (lv_at hl 3 rfl) ?_
          refine lv_icmp_ge (tgt := 45) hx hb dX6_keyStation_37 (by decide) (fun hc6 => ?_) (fun hc6 => ?_)
          · replace hf := rn_t hf hc6
            refine lv_iinc (v := (x3_6 + (1 : Int32))) (lv' := [(3, .int (x3_6 + (1 : Int32))), (4, .int t4), (0, .ref a_this), (1, .int x1_6), (2, .int x2_6)]) hx hb dX6_keyStation_45 hl (k := 4) rfl (congrArg (fun q => _ + q) (by decide)) (Nat.le_of_ble_eq_true rfl) rfl (fun ls hl => ?_)
            refine lv_goto (tgt := 6) hx hb dX6_keyStation_48 (by decide) ?_
            exact ih_6 x1_6 x2_6 (x3_6 + (1 : Int32)) _ _ _ hf hW (lv_sub hl [2, 3, 4, 0] rfl)
          · replace hf := rn_f hf hc6
            refine lv_iload_n hx hb dX6_keyStation_40 rfl (lv_at hl 4 rfl) ?_
            refine lv_istore_n (lv' := [(1, .int x3_6), (4, .int t4), (0, .ref a_this), (2, .int x2_6), (3, .int x3_6)]) hx hb dX6_keyStation_41 rfl hl (Nat.le_of_ble_eq_true rfl) rfl (fun ls hl => ?_)
            refine lv_iload hx hb dX6_keyStation_42 (lv_at hl 1 rfl) ?_
            refine lv_istore_n (lv' := [(2, .int t4), (1, .int x3_6), (4, .int t4), (0, .ref a_this), (3, .int x3_6)]) hx hb dX6_keyStation_44 rfl hl (Nat.le_of_ble_eq_true rfl) rfl (fun ls hl => ?_)
            refine lv_iinc (v := (x3_6 + (1 : Int32))) (lv' := [(3, .int (x3_6 + (1 : Int32))), (2, .int t4), (1, .int x3_6), (4, .int t4), (0, .ref a_this)]) hx hb dX6_keyStation_45 hl (k := 4) rfl (congrArg (fun q => _ + q) (by decide)) (Nat.le_of_ble_eq_true rfl) rfl (fun ls hl => ?_)
            refine lv_goto (tgt := 6) hx hb dX6_keyStation_48 (by decide) ?_
            exact ih_6 x3_6 t4 (x3_6 + (1 : Int32)) _ _ _ hf hW (lv_sub hl [4, 2, 1, 0] rfl)
  exact lp_6 N (-1 : Int32) (0 : Int32) (0 : Int32) _ _ _ ht1 hW (lv_sub hl [3, 2, 1, 0] rfl)
def fX6_isPriority (i0 : Int32) : Option (Int32) :=
  if i0 < 0 then
    some (0 : Int32)
  else
  if (3 : Int32) < i0 then
    some (0 : Int32)
  else
  some (1 : Int32)
set_option maxHeartbeats 4000000 in
set_option maxRecDepth 20000 in
theorem kX6_isPriority (l : Launch) (D : va_G) (k : Nat → ClassId) (z : (Nat → Nat) × (Nat → Nat)) (i0 : Int32) {u : Int32} (hf : fX6_isPriority i0 = some u) : rn_KI l D k z yX6_isPriority cX6_isPriority 1 .boolean 0 0 [.int i0] [] [] u := by
  refine rn_KI.go (LOC := [(0, .int i0)]) rfl (by decide) (Nat.le_of_ble_eq_true rfl) rfl ?_
  intro p e s m args below meth c A ls R Q X hR hE hW hl
  have hx := X.1.1
  have hb := X.1.2.1
  unfold fX6_isPriority at hf
  refine lv_iload_n hx hb dX6_isPriority_0 rfl (lv_at hl 0 rfl) ?_
  refine lv_if_lt (tgt := 13) hx hb dX6_isPriority_1 (by decide) (fun hc1 => ?_) (fun hc1 => ?_)
  · replace hf := rn_t hf hc1
    refine lv_iconst (v := 0) hx hb dX6_isPriority_13 (by decide) ?_
    cases hf
    exact hE _ _ _ _ hW (show narrow .boolean (.int (0 : Int32)) = .int (0 : Int32) from rfl) dX6_isPriority_14
  · replace hf := rn_f hf hc1
    refine lv_iload_n hx hb dX6_isPriority_4 rfl (lv_at hl 0 rfl) ?_
    refine lv_iconst (v := 3) hx hb dX6_isPriority_5 (by decide) ?_
    refine lv_icmp_gt (tgt := 13) hx hb dX6_isPriority_6 (by decide) (fun hc2 => ?_) (fun hc2 => ?_)
    · replace hf := rn_t hf hc2
      refine lv_iconst (v := 0) hx hb dX6_isPriority_13 (by decide) ?_
      cases hf
      exact hE _ _ _ _ hW (show narrow .boolean (.int (0 : Int32)) = .int (0 : Int32) from rfl) dX6_isPriority_14
    · replace hf := rn_f hf hc2
      refine lv_iconst (v := 1) hx hb dX6_isPriority_9 (by decide) ?_
      refine lv_goto (tgt := 14) hx hb dX6_isPriority_10 (by decide) ?_
      cases hf
      exact hE _ _ _ _ hW (show narrow .boolean (.int (1 : Int32)) = .int (1 : Int32) from rfl) dX6_isPriority_14
def fX6_isMessage (c_net_messageCount : Int32) (i1 : Int32) : Option (Int32) :=
  if i1 < 0 then
    some (0 : Int32)
  else
  (fX2_messageCount c_net_messageCount).bind fun t2 =>
  if t2 ≤ i1 then
    some (0 : Int32)
  else
  some (1 : Int32)
set_option maxHeartbeats 4000000 in
set_option maxRecDepth 20000 in
theorem kX6_isMessage (l : Launch) (D : va_G) (k : Nat → ClassId) (z : (Nat → Nat) × (Nat → Nat)) (a_this : Nat) (a_this_setup : Nat) (a_this_net : Nat) (a_this_trial : Nat) (a_this_saved : Nat) (a_this_line : Nat) (a_this_net_stations : Nat) (a_this_net_links : Nat) (a_this_net_messages : Nat) (a_this_net_copies : Nat) (a_this_net_log : Nat) (a_this_net_ways : Nat) (a_this_net_frames : Nat) (c_latestError : Int32) (c_latestErrorPosition : Int32) (c_net_stationCount : Int32) (c_net_linkCount : Int32) (c_net_messageCount : Int32) (c_net_time : Int32) (c_net_life : Int32) (c_net_tries : Int32) (c_net_x : Int32) (i1 : Int32) {u : Int32} (hf : fX6_isMessage c_net_messageCount i1 = some u) : rn_KI l D k z yX6_isMessage cX6_isMessage 2 .boolean 1 20 [.ref a_this, .int i1] [(a_this, .inr (6, [.ref a_this_setup, .int c_latestError, .int c_latestErrorPosition, .ref a_this_net, .ref a_this_trial, .ref a_this_saved, .ref a_this_line])), (a_this_net, .inr (2, [.ref a_this_net_stations, .ref a_this_net_links, .ref a_this_net_messages, .ref a_this_net_copies, .ref a_this_net_log, .ref a_this_net_ways, .ref a_this_net_frames, .int c_net_stationCount, .int c_net_linkCount, .int c_net_messageCount, .int c_net_time, .int c_net_life, .int c_net_tries, .int c_net_x]))] [(a_this, .inr (6, [.ref a_this_setup, .int c_latestError, .int c_latestErrorPosition, .ref a_this_net, .ref a_this_trial, .ref a_this_saved, .ref a_this_line])), (a_this_net, .inr (2, [.ref a_this_net_stations, .ref a_this_net_links, .ref a_this_net_messages, .ref a_this_net_copies, .ref a_this_net_log, .ref a_this_net_ways, .ref a_this_net_frames, .int c_net_stationCount, .int c_net_linkCount, .int c_net_messageCount, .int c_net_time, .int c_net_life, .int c_net_tries, .int c_net_x]))] u := by
  refine rn_KI.go (LOC := [(0, .ref a_this), (1, .int i1)]) rfl (by decide) (Nat.le_of_ble_eq_true rfl) rfl ?_
  intro p e s m args below meth c A ls R Q X hR hE hW hl
  have hx := X.1.1
  have hb := X.1.2.1
  unfold fX6_isMessage at hf
  refine lv_iload_n hx hb dX6_isMessage_0 rfl (lv_at hl 1 rfl) ?_
  refine lv_if_lt (tgt := 19) hx hb dX6_isMessage_1 (by decide) (fun hc1 => ?_) (fun hc1 => ?_)
  · replace hf := rn_t hf hc1
    refine lv_iconst (v := 0) hx hb dX6_isMessage_19 (by decide) ?_
    cases hf
    exact hE _ _ _ _ hW (show narrow .boolean (.int (0 : Int32)) = .int (0 : Int32) from rfl) dX6_isMessage_20
  · replace hf := rn_f hf hc1
    refine lv_iload_n hx hb dX6_isMessage_4 rfl (lv_at hl 1 rfl) ?_
    refine lv_aload_n hx hb dX6_isMessage_5 rfl (lv_at hl 0 rfl) ?_
    refine rr_get X hW 0 3 gf_X6_26 rfl rfl dX6_isMessage_6 ?_
    obtain ⟨t2, ht2, hf⟩ := rn_bind hf
    refine rr_callI (As := []) (rest := [.int i1]) X hW (kX2_messageCount l D k z a_this_net a_this_net_stations a_this_net_links a_this_net_messages a_this_net_copies a_this_net_log a_this_net_ways a_this_net_frames c_net_stationCount c_net_linkCount c_net_messageCount c_net_time c_net_life c_net_tries c_net_x ht2) gm_X2_messageCount gl_X6_183 [1] [0] [(a_this, .inr (6, [.ref a_this_setup, .int c_latestError, .int c_latestErrorPosition, .ref a_this_net, .ref a_this_trial, .ref a_this_saved, .ref a_this_line])), (a_this_net, .inr (2, [.ref a_this_net_stations, .ref a_this_net_links, .ref a_this_net_messages, .ref a_this_net_copies, .ref a_this_net_log, .ref a_this_net_ways, .ref a_this_net_frames, .int c_net_stationCount, .int c_net_linkCount, .int c_net_messageCount, .int c_net_time, .int c_net_life, .int c_net_tries, .int c_net_x]))] rfl rfl rfl rfl ⟨rfl, rfl, rn_Bw (wr := [(a_this, .inr (6, [.ref a_this_setup, .int c_latestError, .int c_latestErrorPosition, .ref a_this_net, .ref a_this_trial, .ref a_this_saved, .ref a_this_line]))]) rfl rfl, rfl, rfl⟩ (rn_r hR rfl) rn_cs hl.1 rfl (Nat.le_of_ble_eq_true rfl) dX6_isMessage_9 (fun hn2 H locs hW => ?_)
    refine lv_icmp_ge (tgt := 19) hx hb dX6_isMessage_12 (by decide) (fun hc3 => ?_) (fun hc3 => ?_)
    · replace hf := rn_t hf hc3
      refine lv_iconst (v := 0) hx hb dX6_isMessage_19 (by decide) ?_
      cases hf
      exact hE _ _ _ _ hW (show narrow .boolean (.int (0 : Int32)) = .int (0 : Int32) from rfl) dX6_isMessage_20
    · replace hf := rn_f hf hc3
      refine lv_iconst (v := 1) hx hb dX6_isMessage_15 (by decide) ?_
      refine lv_goto (tgt := 20) hx hb dX6_isMessage_16 (by decide) ?_
      cases hf
      exact hE _ _ _ _ hW (show narrow .boolean (.int (1 : Int32)) = .int (1 : Int32) from rfl) dX6_isMessage_20
def fX6_isHours (i0 : Int32) : Option (Int32) :=
  if i0 < (1 : Int32) then
    some (0 : Int32)
  else
  if (72 : Int32) < i0 then
    some (0 : Int32)
  else
  some (1 : Int32)
set_option maxHeartbeats 4000000 in
set_option maxRecDepth 20000 in
theorem kX6_isHours (l : Launch) (D : va_G) (k : Nat → ClassId) (z : (Nat → Nat) × (Nat → Nat)) (i0 : Int32) {u : Int32} (hf : fX6_isHours i0 = some u) : rn_KI l D k z yX6_isHours cX6_isHours 1 .boolean 0 0 [.int i0] [] [] u := by
  refine rn_KI.go (LOC := [(0, .int i0)]) rfl (by decide) (Nat.le_of_ble_eq_true rfl) rfl ?_
  intro p e s m args below meth c A ls R Q X hR hE hW hl
  have hx := X.1.1
  have hb := X.1.2.1
  unfold fX6_isHours at hf
  refine lv_iload_n hx hb dX6_isHours_0 rfl (lv_at hl 0 rfl) ?_
  refine lv_iconst (v := 1) hx hb dX6_isHours_1 (by decide) ?_
  refine lv_icmp_lt (tgt := 15) hx hb dX6_isHours_2 (by decide) (fun hc1 => ?_) (fun hc1 => ?_)
  · replace hf := rn_t hf hc1
    refine lv_iconst (v := 0) hx hb dX6_isHours_15 (by decide) ?_
    cases hf
    exact hE _ _ _ _ hW (show narrow .boolean (.int (0 : Int32)) = .int (0 : Int32) from rfl) dX6_isHours_16
  · replace hf := rn_f hf hc1
    refine lv_iload_n hx hb dX6_isHours_5 rfl (lv_at hl 0 rfl) ?_
    refine lv_bipush (v := 72) hx hb dX6_isHours_6 (by decide) ?_
    refine lv_icmp_gt (tgt := 15) hx hb dX6_isHours_8 (by decide) (fun hc2 => ?_) (fun hc2 => ?_)
    · replace hf := rn_t hf hc2
      refine lv_iconst (v := 0) hx hb dX6_isHours_15 (by decide) ?_
      cases hf
      exact hE _ _ _ _ hW (show narrow .boolean (.int (0 : Int32)) = .int (0 : Int32) from rfl) dX6_isHours_16
    · replace hf := rn_f hf hc2
      refine lv_iconst (v := 1) hx hb dX6_isHours_11 (by decide) ?_
      refine lv_goto (tgt := 16) hx hb dX6_isHours_12 (by decide) ?_
      cases hf
      exact hE _ _ _ _ hW (show narrow .boolean (.int (1 : Int32)) = .int (1 : Int32) from rfl) dX6_isHours_16
def fX6_isEvent (c_net_log_size : Int32) (i1 : Int32) : Option (Int32) :=
  if i1 < 0 then
    some (0 : Int32)
  else
  (fX2_eventCount c_net_log_size).bind fun t2 =>
  if t2 ≤ i1 then
    some (0 : Int32)
  else
  some (1 : Int32)
set_option maxHeartbeats 4000000 in
set_option maxRecDepth 20000 in
theorem kX6_isEvent (l : Launch) (D : va_G) (k : Nat → ClassId) (z : (Nat → Nat) × (Nat → Nat)) (a_this : Nat) (a_this_setup : Nat) (a_this_net : Nat) (a_this_trial : Nat) (a_this_saved : Nat) (a_this_line : Nat) (a_this_net_stations : Nat) (a_this_net_links : Nat) (a_this_net_messages : Nat) (a_this_net_copies : Nat) (a_this_net_log : Nat) (a_this_net_ways : Nat) (a_this_net_frames : Nat) (a_this_net_log_events : Nat) (c_latestError : Int32) (c_latestErrorPosition : Int32) (c_net_stationCount : Int32) (c_net_linkCount : Int32) (c_net_messageCount : Int32) (c_net_time : Int32) (c_net_life : Int32) (c_net_tries : Int32) (c_net_x : Int32) (c_net_log_first : Int32) (c_net_log_size : Int32) (i1 : Int32) {u : Int32} (hf : fX6_isEvent c_net_log_size i1 = some u) : rn_KI l D k z yX6_isEvent cX6_isEvent 2 .boolean 2 40 [.ref a_this, .int i1] [(a_this, .inr (6, [.ref a_this_setup, .int c_latestError, .int c_latestErrorPosition, .ref a_this_net, .ref a_this_trial, .ref a_this_saved, .ref a_this_line])), (a_this_net, .inr (2, [.ref a_this_net_stations, .ref a_this_net_links, .ref a_this_net_messages, .ref a_this_net_copies, .ref a_this_net_log, .ref a_this_net_ways, .ref a_this_net_frames, .int c_net_stationCount, .int c_net_linkCount, .int c_net_messageCount, .int c_net_time, .int c_net_life, .int c_net_tries, .int c_net_x])), (a_this_net_log, .inr (0, [.ref a_this_net_log_events, .int c_net_log_first, .int c_net_log_size]))] [(a_this, .inr (6, [.ref a_this_setup, .int c_latestError, .int c_latestErrorPosition, .ref a_this_net, .ref a_this_trial, .ref a_this_saved, .ref a_this_line])), (a_this_net, .inr (2, [.ref a_this_net_stations, .ref a_this_net_links, .ref a_this_net_messages, .ref a_this_net_copies, .ref a_this_net_log, .ref a_this_net_ways, .ref a_this_net_frames, .int c_net_stationCount, .int c_net_linkCount, .int c_net_messageCount, .int c_net_time, .int c_net_life, .int c_net_tries, .int c_net_x])), (a_this_net_log, .inr (0, [.ref a_this_net_log_events, .int c_net_log_first, .int c_net_log_size]))] u := by
  refine rn_KI.go (LOC := [(0, .ref a_this), (1, .int i1)]) rfl (by decide) (Nat.le_of_ble_eq_true rfl) rfl ?_
  intro p e s m args below meth c A ls R Q X hR hE hW hl
  have hx := X.1.1
  have hb := X.1.2.1
  unfold fX6_isEvent at hf
  refine lv_iload_n hx hb dX6_isEvent_0 rfl (lv_at hl 1 rfl) ?_
  refine lv_if_lt (tgt := 19) hx hb dX6_isEvent_1 (by decide) (fun hc1 => ?_) (fun hc1 => ?_)
  · replace hf := rn_t hf hc1
    refine lv_iconst (v := 0) hx hb dX6_isEvent_19 (by decide) ?_
    cases hf
    exact hE _ _ _ _ hW (show narrow .boolean (.int (0 : Int32)) = .int (0 : Int32) from rfl) dX6_isEvent_20
  · replace hf := rn_f hf hc1
    refine lv_iload_n hx hb dX6_isEvent_4 rfl (lv_at hl 1 rfl) ?_
    refine lv_aload_n hx hb dX6_isEvent_5 rfl (lv_at hl 0 rfl) ?_
    refine rr_get X hW 0 3 gf_X6_26 rfl rfl dX6_isEvent_6 ?_
    obtain ⟨t2, ht2, hf⟩ := rn_bind hf
    refine rr_callI (As := []) (rest := [.int i1]) X hW (kX2_eventCount l D k z a_this_net a_this_net_stations a_this_net_links a_this_net_messages a_this_net_copies a_this_net_log a_this_net_ways a_this_net_frames a_this_net_log_events c_net_stationCount c_net_linkCount c_net_messageCount c_net_time c_net_life c_net_tries c_net_x c_net_log_first c_net_log_size ht2) gm_X2_eventCount gl_X6_284 [1, 2] [0] [(a_this, .inr (6, [.ref a_this_setup, .int c_latestError, .int c_latestErrorPosition, .ref a_this_net, .ref a_this_trial, .ref a_this_saved, .ref a_this_line])), (a_this_net, .inr (2, [.ref a_this_net_stations, .ref a_this_net_links, .ref a_this_net_messages, .ref a_this_net_copies, .ref a_this_net_log, .ref a_this_net_ways, .ref a_this_net_frames, .int c_net_stationCount, .int c_net_linkCount, .int c_net_messageCount, .int c_net_time, .int c_net_life, .int c_net_tries, .int c_net_x])), (a_this_net_log, .inr (0, [.ref a_this_net_log_events, .int c_net_log_first, .int c_net_log_size]))] rfl rfl rfl rfl ⟨rfl, rfl, rn_Bw (wr := [(a_this, .inr (6, [.ref a_this_setup, .int c_latestError, .int c_latestErrorPosition, .ref a_this_net, .ref a_this_trial, .ref a_this_saved, .ref a_this_line]))]) rfl rfl, rfl, rfl⟩ (rn_r hR rfl) rn_cs hl.1 rfl (Nat.le_of_ble_eq_true rfl) dX6_isEvent_9 (fun hn2 H locs hW => ?_)
    refine lv_icmp_ge (tgt := 19) hx hb dX6_isEvent_12 (by decide) (fun hc3 => ?_) (fun hc3 => ?_)
    · replace hf := rn_t hf hc3
      refine lv_iconst (v := 0) hx hb dX6_isEvent_19 (by decide) ?_
      cases hf
      exact hE _ _ _ _ hW (show narrow .boolean (.int (0 : Int32)) = .int (0 : Int32) from rfl) dX6_isEvent_20
    · replace hf := rn_f hf hc3
      refine lv_iconst (v := 1) hx hb dX6_isEvent_15 (by decide) ?_
      refine lv_goto (tgt := 20) hx hb dX6_isEvent_16 (by decide) ?_
      cases hf
      exact hE _ _ _ _ hW (show narrow .boolean (.int (1 : Int32)) = .int (1 : Int32) from rfl) dX6_isEvent_20
def fX6_output (c_line_length : Int32) (c_line_bytes : Nat → Int32) (i1 : Int32) : Option (Int32) :=
  (fX1_byteAt c_line_length c_line_bytes i1).bind fun t1 =>
  some t1
set_option maxHeartbeats 4000000 in
set_option maxRecDepth 20000 in
theorem kX6_output (l : Launch) (D : va_G) (k : Nat → ClassId) (z : (Nat → Nat) × (Nat → Nat)) (a_this : Nat) (a_this_setup : Nat) (a_this_net : Nat) (a_this_trial : Nat) (a_this_saved : Nat) (a_this_line : Nat) (a_this_line_bytes : Nat) (c_latestError : Int32) (c_latestErrorPosition : Int32) (c_line_length : Int32) (c_line_bytes : Nat → Int32) (i1 : Int32) {u : Int32} (hf : fX6_output c_line_length c_line_bytes i1 = some u) : rn_KI l D k z yX6_output cX6_output 2 .int 1 21 [.ref a_this, .int i1] [(a_this, .inr (6, [.ref a_this_setup, .int c_latestError, .int c_latestErrorPosition, .ref a_this_net, .ref a_this_trial, .ref a_this_saved, .ref a_this_line])), (a_this_line, .inr (1, [.ref a_this_line_bytes, .int c_line_length])), (a_this_line_bytes, .inl (k 2, 64, .inl c_line_bytes))] [(a_this, .inr (6, [.ref a_this_setup, .int c_latestError, .int c_latestErrorPosition, .ref a_this_net, .ref a_this_trial, .ref a_this_saved, .ref a_this_line])), (a_this_line, .inr (1, [.ref a_this_line_bytes, .int c_line_length])), (a_this_line_bytes, .inl (k 2, 64, .inl c_line_bytes))] u := by
  refine rn_KI.go (LOC := [(0, .ref a_this), (1, .int i1)]) rfl (by decide) (Nat.le_of_ble_eq_true rfl) rfl ?_
  intro p e s m args below meth c A ls R Q X hR hE hW hl
  have hx := X.1.1
  have hb := X.1.2.1
  unfold fX6_output at hf
  refine lv_aload_n hx hb dX6_output_0 rfl (lv_at hl 0 rfl) ?_
  refine rr_get X hW 0 6 gf_X6_40 rfl rfl dX6_output_1 ?_
  refine lv_iload_n hx hb dX6_output_4 rfl (lv_at hl 1 rfl) ?_
  obtain ⟨t1, ht1, hf⟩ := rn_bind hf
  refine rr_callI (As := [.int i1]) (rest := []) X hW (kX1_byteAt l D k z a_this_line a_this_line_bytes c_line_length c_line_bytes i1 ht1) gm_X1_byteAt gl_X6_277 [1, 2] [0] [(a_this, .inr (6, [.ref a_this_setup, .int c_latestError, .int c_latestErrorPosition, .ref a_this_net, .ref a_this_trial, .ref a_this_saved, .ref a_this_line])), (a_this_line, .inr (1, [.ref a_this_line_bytes, .int c_line_length])), (a_this_line_bytes, .inl (k 2, 64, .inl c_line_bytes))] rfl rfl rfl rfl ⟨rfl, rfl, rn_Bw (wr := [(a_this, .inr (6, [.ref a_this_setup, .int c_latestError, .int c_latestErrorPosition, .ref a_this_net, .ref a_this_trial, .ref a_this_saved, .ref a_this_line]))]) rfl rfl, rfl, rfl⟩ (rn_r hR rfl) rn_cs hl.1 rfl (Nat.le_of_ble_eq_true rfl) dX6_output_5 (fun hn1 H locs hW => ?_)
  cases hf
  exact hE _ _ _ _ hW rfl dX6_output_8
