/-! generated (wip/whole/gen/emit.py): functions and contracts: 15.fX3 -/
def fX3_length (c_length : Int32) : Option (Int32) :=
  some c_length
set_option maxHeartbeats 4000000 in
set_option maxRecDepth 20000 in
theorem kX3_length (l : Launch) (D : va_G) (k : Nat → ClassId) (z : (Nat → Nat) × (Nat → Nat)) (a_this : Nat) (a_this_text : Nat) (c_length : Int32) (c_kind : Int32) (c_start : Int32) (c_end : Int32) (c_value : Int32) (c_error : Int32) (c_errorStart : Int32) {u : Int32} (hf : fX3_length c_length = some u) : rn_KI l D k z yX3_length cX3_length 1 .int 0 0 [.ref a_this] [(a_this, .inr (3, [.ref a_this_text, .int c_length, .int c_kind, .int c_start, .int c_end, .int c_value, .int c_error, .int c_errorStart]))] [(a_this, .inr (3, [.ref a_this_text, .int c_length, .int c_kind, .int c_start, .int c_end, .int c_value, .int c_error, .int c_errorStart]))] u := by
  refine rn_KI.go (LOC := [(0, .ref a_this)]) rfl (by decide) (Nat.le_of_ble_eq_true rfl) rfl ?_
  intro p e s m args below meth c A ls R Q X hR hE hW hl
  have hx := X.1.1
  have hb := X.1.2.1
  unfold fX3_length at hf
  refine lv_aload_n hx hb dX3_length_0 rfl (lv_at hl 0 rfl) ?_
  refine rr_get X hW 0 1 gf_X3_15 rfl rfl dX3_length_1 ?_
  cases hf
  exact hE _ _ _ _ hW rfl dX3_length_4
def fX3_put (c_length : Int32) (c_text : Nat → Int32) (i1 : Int32) : Option (Int32 × (Nat → Int32)) :=
  if c_length < 0 then
    some (c_length, c_text)
  else
  if (Int32.ofNat 700) ≤ c_length then
    some (c_length, c_text)
  else
  rn_g c_length 700 <|
  rn_let (upd c_text c_length.toNatClampNeg (vp_nar .byte ((i1).toInt8.toInt32))) fun w4 =>
  some ((c_length + (1 : Int32)), w4)
set_option maxHeartbeats 4000000 in
set_option maxRecDepth 20000 in
theorem kX3_put (l : Launch) (D : va_G) (k : Nat → ClassId) (z : (Nat → Nat) × (Nat → Nat)) (a_this : Nat) (a_this_text : Nat) (c_length : Int32) (c_kind : Int32) (c_start : Int32) (c_end : Int32) (c_value : Int32) (c_error : Int32) (c_errorStart : Int32) (c_text : Nat → Int32) (i1 : Int32) {u : Int32 × (Nat → Int32)} (hf : fX3_put c_length c_text i1 = some u) : rn_KV l D k z yX3_put cX3_put 2 0 0 [.ref a_this, .int i1] [(a_this, .inr (3, [.ref a_this_text, .int c_length, .int c_kind, .int c_start, .int c_end, .int c_value, .int c_error, .int c_errorStart])), (a_this_text, .inl (k 2, 700, .inl c_text))] [(a_this, .inr (3, [.ref a_this_text, .int u.1, .int c_kind, .int c_start, .int c_end, .int c_value, .int c_error, .int c_errorStart])), (a_this_text, .inl (k 2, 700, .inl u.2))] := by
  refine rn_KV.go (LOC := [(0, .ref a_this), (1, .int i1)]) rfl (by decide) (Nat.le_of_ble_eq_true rfl) rfl ?_
  intro p e s m args below meth c A ls R Q X hR hE hW hl
  have hx := X.1.1
  have hb := X.1.2.1
  unfold fX3_put at hf
  refine lv_aload_n hx hb dX3_put_0 rfl (lv_at hl 0 rfl) ?_
  refine rr_get X hW 0 1 gf_X3_15 rfl rfl dX3_put_1 ?_
  refine lv_if_lt (tgt := 40) hx hb dX3_put_4 (by decide) (fun hc1 => ?_) (fun hc1 => ?_)
  · replace hf := rn_t hf hc1
    cases hf
    exact hE _ _ _ _ hW dX3_put_40
  · replace hf := rn_f hf hc1
    refine lv_aload_n hx hb dX3_put_7 rfl (lv_at hl 0 rfl) ?_
    refine rr_get X hW 0 1 gf_X3_15 rfl rfl dX3_put_8 ?_
    refine lv_aload_n hx hb dX3_put_11 rfl (lv_at hl 0 rfl) ?_
    refine rr_get X hW 0 0 gf_X3_9 rfl rfl dX3_put_12 ?_
    refine rr_alen X hW 1 2 rfl rfl dX3_put_15 ?_
    refine lv_icmp_ge (tgt := 40) hx hb dX3_put_16 (by decide) (fun hc2 => ?_) (fun hc2 => ?_)
    · replace hf := rn_t hf hc2
      cases hf
      exact hE _ _ _ _ hW dX3_put_40
    · replace hf := rn_f hf hc2
      refine lv_aload_n hx hb dX3_put_19 rfl (lv_at hl 0 rfl) ?_
      refine rr_get X hW 0 0 gf_X3_9 rfl rfl dX3_put_20 ?_
      refine lv_aload_n hx hb dX3_put_23 rfl (lv_at hl 0 rfl) ?_
      refine rr_get X hW 0 1 gf_X3_15 rfl rfl dX3_put_24 ?_
      refine lv_iload_n hx hb dX3_put_27 rfl (lv_at hl 1 rfl) ?_
      refine lv_i2b (v := ((i1).toInt8.toInt32)) hx hb dX3_put_28 rfl ?_
      obtain ⟨hg3, hf⟩ := rn_g_s hf
      obtain ⟨w4, hw4, hf⟩ := rn_let_s hf
      refine rr_bast' X hW 1 rfl hg3 hw4 (ws' := [(a_this, .inr (3, [.ref a_this_text, .int c_length, .int c_kind, .int c_start, .int c_end, .int c_value, .int c_error, .int c_errorStart])), (a_this_text, .inl (k 2, 700, .inl w4))]) rfl dX3_put_29 (fun H locs hW => ?_)
      refine lv_aload_n hx hb dX3_put_30 rfl (lv_at hl 0 rfl) ?_
      refine lv_dup hx hb dX3_put_31 rfl ?_
      refine rr_get X hW 0 1 gf_X3_15 rfl rfl dX3_put_32 ?_
      refine lv_iconst (v := 1) hx hb dX3_put_35 (by decide) ?_
      refine lv_iadd hx hb dX3_put_36 ?_
      refine rr_put X hW 0 1 gp_X3_15 rfl rfl rfl (Nat.le_of_ble_eq_true rfl) (ws' := [(a_this, .inr (3, [.ref a_this_text, .int (c_length + (1 : Int32)), .int c_kind, .int c_start, .int c_end, .int c_value, .int c_error, .int c_errorStart])), (a_this_text, .inl (k 2, 700, .inl w4))]) rfl dX3_put_37 (fun H locs hW => ?_)
      cases hf
      exact hE _ _ _ _ hW dX3_put_40
def fX3_cutTo (c_length : Int32) (i1 : Int32) : Option (Int32) :=
  some i1
set_option maxHeartbeats 4000000 in
set_option maxRecDepth 20000 in
theorem kX3_cutTo (l : Launch) (D : va_G) (k : Nat → ClassId) (z : (Nat → Nat) × (Nat → Nat)) (a_this : Nat) (a_this_text : Nat) (c_length : Int32) (c_kind : Int32) (c_start : Int32) (c_end : Int32) (c_value : Int32) (c_error : Int32) (c_errorStart : Int32) (i1 : Int32) {u : Int32} (hf : fX3_cutTo c_length i1 = some u) : rn_KV l D k z yX3_cutTo cX3_cutTo 2 0 0 [.ref a_this, .int i1] [(a_this, .inr (3, [.ref a_this_text, .int c_length, .int c_kind, .int c_start, .int c_end, .int c_value, .int c_error, .int c_errorStart]))] [(a_this, .inr (3, [.ref a_this_text, .int u, .int c_kind, .int c_start, .int c_end, .int c_value, .int c_error, .int c_errorStart]))] := by
  refine rn_KV.go (LOC := [(0, .ref a_this), (1, .int i1)]) rfl (by decide) (Nat.le_of_ble_eq_true rfl) rfl ?_
  intro p e s m args below meth c A ls R Q X hR hE hW hl
  have hx := X.1.1
  have hb := X.1.2.1
  unfold fX3_cutTo at hf
  refine lv_aload_n hx hb dX3_cutTo_0 rfl (lv_at hl 0 rfl) ?_
  refine lv_iload_n hx hb dX3_cutTo_1 rfl (lv_at hl 1 rfl) ?_
  refine rr_put X hW 0 1 gp_X3_15 rfl rfl rfl (Nat.le_of_ble_eq_true rfl) (ws' := [(a_this, .inr (3, [.ref a_this_text, .int i1, .int c_kind, .int c_start, .int c_end, .int c_value, .int c_error, .int c_errorStart]))]) rfl dX3_cutTo_2 (fun H locs hW => ?_)
  cases hf
  exact hE _ _ _ _ hW dX3_cutTo_5
def fX3_error (c_error : Int32) : Option (Int32) :=
  some c_error
set_option maxHeartbeats 4000000 in
set_option maxRecDepth 20000 in
theorem kX3_error (l : Launch) (D : va_G) (k : Nat → ClassId) (z : (Nat → Nat) × (Nat → Nat)) (a_this : Nat) (a_this_text : Nat) (c_length : Int32) (c_kind : Int32) (c_start : Int32) (c_end : Int32) (c_value : Int32) (c_error : Int32) (c_errorStart : Int32) {u : Int32} (hf : fX3_error c_error = some u) : rn_KI l D k z yX3_error cX3_error 1 .int 0 0 [.ref a_this] [(a_this, .inr (3, [.ref a_this_text, .int c_length, .int c_kind, .int c_start, .int c_end, .int c_value, .int c_error, .int c_errorStart]))] [(a_this, .inr (3, [.ref a_this_text, .int c_length, .int c_kind, .int c_start, .int c_end, .int c_value, .int c_error, .int c_errorStart]))] u := by
  refine rn_KI.go (LOC := [(0, .ref a_this)]) rfl (by decide) (Nat.le_of_ble_eq_true rfl) rfl ?_
  intro p e s m args below meth c A ls R Q X hR hE hW hl
  have hx := X.1.1
  have hb := X.1.2.1
  unfold fX3_error at hf
  refine lv_aload_n hx hb dX3_error_0 rfl (lv_at hl 0 rfl) ?_
  refine rr_get X hW 0 6 gf_X3_31 rfl rfl dX3_error_1 ?_
  cases hf
  exact hE _ _ _ _ hW rfl dX3_error_4
def fX3_errorStart (c_errorStart : Int32) : Option (Int32) :=
  some c_errorStart
set_option maxHeartbeats 4000000 in
set_option maxRecDepth 20000 in
theorem kX3_errorStart (l : Launch) (D : va_G) (k : Nat → ClassId) (z : (Nat → Nat) × (Nat → Nat)) (a_this : Nat) (a_this_text : Nat) (c_length : Int32) (c_kind : Int32) (c_start : Int32) (c_end : Int32) (c_value : Int32) (c_error : Int32) (c_errorStart : Int32) {u : Int32} (hf : fX3_errorStart c_errorStart = some u) : rn_KI l D k z yX3_errorStart cX3_errorStart 1 .int 0 0 [.ref a_this] [(a_this, .inr (3, [.ref a_this_text, .int c_length, .int c_kind, .int c_start, .int c_end, .int c_value, .int c_error, .int c_errorStart]))] [(a_this, .inr (3, [.ref a_this_text, .int c_length, .int c_kind, .int c_start, .int c_end, .int c_value, .int c_error, .int c_errorStart]))] u := by
  refine rn_KI.go (LOC := [(0, .ref a_this)]) rfl (by decide) (Nat.le_of_ble_eq_true rfl) rfl ?_
  intro p e s m args below meth c A ls R Q X hR hE hW hl
  have hx := X.1.1
  have hb := X.1.2.1
  unfold fX3_errorStart at hf
  refine lv_aload_n hx hb dX3_errorStart_0 rfl (lv_at hl 0 rfl) ?_
  refine rr_get X hW 0 7 gf_X3_34 rfl rfl dX3_errorStart_1 ?_
  cases hf
  exact hE _ _ _ _ hW rfl dX3_errorStart_4
def fX3_fail (c_start : Int32) (c_error : Int32) (c_errorStart : Int32) (i1 : Int32) : Option (Int32 × Int32) :=
  if c_error = 0 then
    some (i1, c_start)
  else
  some (c_error, c_errorStart)
set_option maxHeartbeats 4000000 in
set_option maxRecDepth 20000 in
theorem kX3_fail (l : Launch) (D : va_G) (k : Nat → ClassId) (z : (Nat → Nat) × (Nat → Nat)) (a_this : Nat) (a_this_text : Nat) (c_length : Int32) (c_kind : Int32) (c_start : Int32) (c_end : Int32) (c_value : Int32) (c_error : Int32) (c_errorStart : Int32) (i1 : Int32) {u : Int32 × Int32} (hf : fX3_fail c_start c_error c_errorStart i1 = some u) : rn_KV l D k z yX3_fail cX3_fail 2 0 0 [.ref a_this, .int i1] [(a_this, .inr (3, [.ref a_this_text, .int c_length, .int c_kind, .int c_start, .int c_end, .int c_value, .int c_error, .int c_errorStart]))] [(a_this, .inr (3, [.ref a_this_text, .int c_length, .int c_kind, .int c_start, .int c_end, .int c_value, .int u.1, .int u.2]))] := by
  refine rn_KV.go (LOC := [(0, .ref a_this), (1, .int i1)]) rfl (by decide) (Nat.le_of_ble_eq_true rfl) rfl ?_
  intro p e s m args below meth c A ls R Q X hR hE hW hl
  have hx := X.1.1
  have hb := X.1.2.1
  unfold fX3_fail at hf
  refine lv_aload_n hx hb dX3_fail_0 rfl (lv_at hl 0 rfl) ?_
  refine rr_get X hW 0 6 gf_X3_31 rfl rfl dX3_fail_1 ?_
  refine lv_if_ne (tgt := 20) hx hb dX3_fail_4 (by decide) (fun hc1 => ?_) (fun hc1 => ?_)
  · replace hf := rn_f hf hc1
    cases hf
    exact hE _ _ _ _ hW dX3_fail_20
  · replace hf := rn_t hf hc1
    refine lv_aload_n hx hb dX3_fail_7 rfl (lv_at hl 0 rfl) ?_
    refine lv_iload_n hx hb dX3_fail_8 rfl (lv_at hl 1 rfl) ?_
    refine rr_put X hW 0 6 gp_X3_31 rfl rfl rfl (Nat.le_of_ble_eq_true rfl) (ws' := [(a_this, .inr (3, [.ref a_this_text, .int c_length, .int c_kind, .int c_start, .int c_end, .int c_value, .int i1, .int c_errorStart]))]) rfl dX3_fail_9 (fun H locs hW => ?_)
    refine lv_aload_n hx hb dX3_fail_12 rfl (lv_at hl 0 rfl) ?_
    refine lv_aload_n hx hb dX3_fail_13 rfl (lv_at hl 0 rfl) ?_
    refine rr_get X hW 0 3 gf_X3_22 rfl rfl dX3_fail_14 ?_
    refine rr_put X hW 0 7 gp_X3_34 rfl rfl rfl (Nat.le_of_ble_eq_true rfl) (ws' := [(a_this, .inr (3, [.ref a_this_text, .int c_length, .int c_kind, .int c_start, .int c_end, .int c_value, .int i1, .int c_start]))]) rfl dX3_fail_17 (fun H locs hW => ?_)
    cases hf
    exact hE _ _ _ _ hW dX3_fail_20
def fX3_byteAt (c_text : Nat → Int32) (i1 : Int32) : Option (Int32) :=
  if i1 < 0 then
    some (0 : Int32)
  else
  if (Int32.ofNat 700) ≤ i1 then
    some (0 : Int32)
  else
  rn_g i1 700 <|
  some (c_text i1.toNatClampNeg)
set_option maxHeartbeats 4000000 in
set_option maxRecDepth 20000 in
theorem kX3_byteAt (l : Launch) (D : va_G) (k : Nat → ClassId) (z : (Nat → Nat) × (Nat → Nat)) (a_this : Nat) (a_this_text : Nat) (c_length : Int32) (c_kind : Int32) (c_start : Int32) (c_end : Int32) (c_value : Int32) (c_error : Int32) (c_errorStart : Int32) (c_text : Nat → Int32) (i1 : Int32) {u : Int32} (hf : fX3_byteAt c_text i1 = some u) : rn_KI l D k z yX3_byteAt cX3_byteAt 2 .int 0 0 [.ref a_this, .int i1] [(a_this, .inr (3, [.ref a_this_text, .int c_length, .int c_kind, .int c_start, .int c_end, .int c_value, .int c_error, .int c_errorStart])), (a_this_text, .inl (k 2, 700, .inl c_text))] [(a_this, .inr (3, [.ref a_this_text, .int c_length, .int c_kind, .int c_start, .int c_end, .int c_value, .int c_error, .int c_errorStart])), (a_this_text, .inl (k 2, 700, .inl c_text))] u := by
  refine rn_KI.go (LOC := [(0, .ref a_this), (1, .int i1)]) rfl (by decide) (Nat.le_of_ble_eq_true rfl) rfl ?_
  intro p e s m args below meth c A ls R Q X hR hE hW hl
  have hx := X.1.1
  have hb := X.1.2.1
  unfold fX3_byteAt at hf
  refine lv_iload_n hx hb dX3_byteAt_0 rfl (lv_at hl 1 rfl) ?_
  refine lv_if_lt (tgt := 22) hx hb dX3_byteAt_1 (by decide) (fun hc1 => ?_) (fun hc1 => ?_)
  · replace hf := rn_t hf hc1
    refine lv_iconst (v := 0) hx hb dX3_byteAt_22 (by decide) ?_
    cases hf
    exact hE _ _ _ _ hW rfl dX3_byteAt_23
  · replace hf := rn_f hf hc1
    refine lv_iload_n hx hb dX3_byteAt_4 rfl (lv_at hl 1 rfl) ?_
    refine lv_aload_n hx hb dX3_byteAt_5 rfl (lv_at hl 0 rfl) ?_
    refine rr_get X hW 0 0 gf_X3_9 rfl rfl dX3_byteAt_6 ?_
    refine rr_alen X hW 1 2 rfl rfl dX3_byteAt_9 ?_
    refine lv_icmp_ge (tgt := 22) hx hb dX3_byteAt_10 (by decide) (fun hc2 => ?_) (fun hc2 => ?_)
    · replace hf := rn_t hf hc2
      refine lv_iconst (v := 0) hx hb dX3_byteAt_22 (by decide) ?_
      cases hf
      exact hE _ _ _ _ hW rfl dX3_byteAt_23
    · replace hf := rn_f hf hc2
      refine lv_aload_n hx hb dX3_byteAt_13 rfl (lv_at hl 0 rfl) ?_
      refine rr_get X hW 0 0 gf_X3_9 rfl rfl dX3_byteAt_14 ?_
      refine lv_iload_n hx hb dX3_byteAt_17 rfl (lv_at hl 1 rfl) ?_
      obtain ⟨hg3, hf⟩ := rn_g_s hf
      refine rr_bald X hW 1 rfl hg3 dX3_byteAt_18 ?_
      refine lv_goto (tgt := 23) hx hb dX3_byteAt_19 (by decide) ?_
      cases hf
      exact hE _ _ _ _ hW rfl dX3_byteAt_23
def fX3_kindOf (i0 : Int32) : Option (Int32) :=
  if i0 < (97 : Int32) then
    if i0 < (48 : Int32) then
      if i0 = (59 : Int32) then
        some (3 : Int32)
      else
      some (4 : Int32)
    else
    if (57 : Int32) < i0 then
      if i0 = (59 : Int32) then
        some (3 : Int32)
      else
      some (4 : Int32)
    else
    some (2 : Int32)
  else
  if (122 : Int32) < i0 then
    if i0 < (48 : Int32) then
      if i0 = (59 : Int32) then
        some (3 : Int32)
      else
      some (4 : Int32)
    else
    if (57 : Int32) < i0 then
      if i0 = (59 : Int32) then
        some (3 : Int32)
      else
      some (4 : Int32)
    else
    some (2 : Int32)
  else
  some (1 : Int32)
set_option maxHeartbeats 4000000 in
set_option maxRecDepth 20000 in
theorem kX3_kindOf (l : Launch) (D : va_G) (k : Nat → ClassId) (z : (Nat → Nat) × (Nat → Nat)) (i0 : Int32) {u : Int32} (hf : fX3_kindOf i0 = some u) : rn_KI l D k z yX3_kindOf cX3_kindOf 1 .int 0 0 [.int i0] [] [] u := by
  refine rn_KI.go (LOC := [(0, .int i0)]) rfl (by decide) (Nat.le_of_ble_eq_true rfl) rfl ?_
  intro p e s m args below meth c A ls R Q X hR hE hW hl
  have hx := X.1.1
  have hb := X.1.2.1
  unfold fX3_kindOf at hf
  refine lv_iload_n hx hb dX3_kindOf_0 rfl (lv_at hl 0 rfl) ?_
  refine lv_bipush (v := 97) hx hb dX3_kindOf_1 (by decide) ?_
  refine lv_icmp_lt (tgt := 14) hx hb dX3_kindOf_3 (by decide) (fun hc1 => ?_) (fun hc1 => ?_)
  · replace hf := rn_t hf hc1
    refine lv_iload_n hx hb dX3_kindOf_14 rfl (lv_at hl 0 rfl) ?_
    refine lv_bipush (v := 48) hx hb dX3_kindOf_15 (by decide) ?_
    refine lv_icmp_lt (tgt := 28) hx hb dX3_kindOf_17 (by decide) (fun hc2 => ?_) (fun hc2 => ?_)
    · replace hf := rn_t hf hc2
      refine lv_iload_n hx hb dX3_kindOf_28 rfl (lv_at hl 0 rfl) ?_
      refine lv_bipush (v := 59) hx hb dX3_kindOf_29 (by decide) ?_
      refine lv_icmp_ne (tgt := 38) hx hb dX3_kindOf_31 (by decide) (fun hc3 => ?_) (fun hc3 => ?_)
      · replace hf := rn_f hf hc3
        refine lv_iconst (v := 4) hx hb dX3_kindOf_38 (by decide) ?_
        cases hf
        exact hE _ _ _ _ hW rfl dX3_kindOf_39
      · replace hf := rn_t hf hc3
        refine lv_iconst (v := 3) hx hb dX3_kindOf_34 (by decide) ?_
        refine lv_goto (tgt := 39) hx hb dX3_kindOf_35 (by decide) ?_
        cases hf
        exact hE _ _ _ _ hW rfl dX3_kindOf_39
    · replace hf := rn_f hf hc2
      refine lv_iload_n hx hb dX3_kindOf_20 rfl (lv_at hl 0 rfl) ?_
      refine lv_bipush (v := 57) hx hb dX3_kindOf_21 (by decide) ?_
      refine lv_icmp_gt (tgt := 28) hx hb dX3_kindOf_23 (by decide) (fun hc4 => ?_) (fun hc4 => ?_)
      · replace hf := rn_t hf hc4
        refine lv_iload_n hx hb dX3_kindOf_28 rfl (lv_at hl 0 rfl) ?_
        refine lv_bipush (v := 59) hx hb dX3_kindOf_29 (by decide) ?_
        refine lv_icmp_ne (tgt := 38) hx hb dX3_kindOf_31 (by decide) (fun hc5 => ?_) (fun hc5 => ?_)
        · replace hf := rn_f hf hc5
          refine lv_iconst (v := 4) hx hb dX3_kindOf_38 (by decide) ?_
          cases hf
          exact hE _ _ _ _ hW rfl dX3_kindOf_39
        · replace hf := rn_t hf hc5
          refine lv_iconst (v := 3) hx hb dX3_kindOf_34 (by decide) ?_
          refine lv_goto (tgt := 39) hx hb dX3_kindOf_35 (by decide) ?_
          cases hf
          exact hE _ _ _ _ hW rfl dX3_kindOf_39
      · replace hf := rn_f hf hc4
        refine lv_iconst (v := 2) hx hb dX3_kindOf_26 (by decide) ?_
        cases hf
        exact hE _ _ _ _ hW rfl dX3_kindOf_27
  · replace hf := rn_f hf hc1
    refine lv_iload_n hx hb dX3_kindOf_6 rfl (lv_at hl 0 rfl) ?_
    refine lv_bipush (v := 122) hx hb dX3_kindOf_7 (by decide) ?_
    refine lv_icmp_gt (tgt := 14) hx hb dX3_kindOf_9 (by decide) (fun hc6 => ?_) (fun hc6 => ?_)
    · replace hf := rn_t hf hc6
      refine lv_iload_n hx hb dX3_kindOf_14 rfl (lv_at hl 0 rfl) ?_
      refine lv_bipush (v := 48) hx hb dX3_kindOf_15 (by decide) ?_
      refine lv_icmp_lt (tgt := 28) hx hb dX3_kindOf_17 (by decide) (fun hc7 => ?_) (fun hc7 => ?_)
      · replace hf := rn_t hf hc7
        refine lv_iload_n hx hb dX3_kindOf_28 rfl (lv_at hl 0 rfl) ?_
        refine lv_bipush (v := 59) hx hb dX3_kindOf_29 (by decide) ?_
        refine lv_icmp_ne (tgt := 38) hx hb dX3_kindOf_31 (by decide) (fun hc8 => ?_) (fun hc8 => ?_)
        · replace hf := rn_f hf hc8
          refine lv_iconst (v := 4) hx hb dX3_kindOf_38 (by decide) ?_
          cases hf
          exact hE _ _ _ _ hW rfl dX3_kindOf_39
        · replace hf := rn_t hf hc8
          refine lv_iconst (v := 3) hx hb dX3_kindOf_34 (by decide) ?_
          refine lv_goto (tgt := 39) hx hb dX3_kindOf_35 (by decide) ?_
          cases hf
          exact hE _ _ _ _ hW rfl dX3_kindOf_39
      · replace hf := rn_f hf hc7
        refine lv_iload_n hx hb dX3_kindOf_20 rfl (lv_at hl 0 rfl) ?_
        refine lv_bipush (v := 57) hx hb dX3_kindOf_21 (by decide) ?_
        refine lv_icmp_gt (tgt := 28) hx hb dX3_kindOf_23 (by decide) (fun hc9 => ?_) (fun hc9 => ?_)
        · replace hf := rn_t hf hc9
          refine lv_iload_n hx hb dX3_kindOf_28 rfl (lv_at hl 0 rfl) ?_
          refine lv_bipush (v := 59) hx hb dX3_kindOf_29 (by decide) ?_
          refine lv_icmp_ne (tgt := 38) hx hb dX3_kindOf_31 (by decide) (fun hc10 => ?_) (fun hc10 => ?_)
          · replace hf := rn_f hf hc10
            refine lv_iconst (v := 4) hx hb dX3_kindOf_38 (by decide) ?_
            cases hf
            exact hE _ _ _ _ hW rfl dX3_kindOf_39
          · replace hf := rn_t hf hc10
            refine lv_iconst (v := 3) hx hb dX3_kindOf_34 (by decide) ?_
            refine lv_goto (tgt := 39) hx hb dX3_kindOf_35 (by decide) ?_
            cases hf
            exact hE _ _ _ _ hW rfl dX3_kindOf_39
        · replace hf := rn_f hf hc9
          refine lv_iconst (v := 2) hx hb dX3_kindOf_26 (by decide) ?_
          cases hf
          exact hE _ _ _ _ hW rfl dX3_kindOf_27
    · replace hf := rn_f hf hc6
      refine lv_iconst (v := 1) hx hb dX3_kindOf_12 (by decide) ?_
      cases hf
      exact hE _ _ _ _ hW rfl dX3_kindOf_13
def lX3_nextToken_8 (c_length : Int32) (c_text : Nat → Int32) : Nat → Int32 → Option (Int32)
  | 0, _ => none
  | n+1, y_start_8 =>
    if c_length ≤ y_start_8 then
      some y_start_8
    else
    (fX3_byteAt c_text y_start_8).bind fun t3 =>
    if t3 = (32 : Int32) then
      lX3_nextToken_8 c_length c_text n (y_start_8 + (1 : Int32))
    else
    (fX3_byteAt c_text y_start_8).bind fun t5 =>
    if t5 = (10 : Int32) then
      lX3_nextToken_8 c_length c_text n (y_start_8 + (1 : Int32))
    else
    some y_start_8
def lX3_nextToken_117 (c_length : Int32) (c_text : Nat → Int32) (t7 : Int32) : Nat → Int32 → Int32 → Option (Int32 × Int32)
  | 0, _, _ => none
  | n+1, y_end_117, y_value_117 =>
    if c_length ≤ y_end_117 then
      some (y_end_117, y_value_117)
    else
    (fX3_byteAt c_text y_end_117).bind fun t14 =>
    (fX3_kindOf t14).bind fun t15 =>
    if t15 = t7 then
      Option.bind (
        if t7 = (2 : Int32) then
          (fX3_byteAt c_text y_end_117).bind fun t19 =>
          some (rn_min (((y_value_117 * (10 : Int32)) + t19) - (48 : Int32)) (10000000 : Int32))
        else
        some (0 : Int32)
        ) fun t17 =>
      lX3_nextToken_117 c_length c_text t7 n (y_end_117 + (1 : Int32)) t17
    else
    some (y_end_117, y_value_117)
def fX3_nextToken (N : Nat) (c_length : Int32) (c_kind : Int32) (c_start : Int32) (c_end : Int32) (c_value : Int32) (c_text : Nat → Int32) : Option (Int32 × Int32 × Int32 × Int32) :=
  (lX3_nextToken_8 c_length c_text N c_end).bind fun t1 =>
  Option.bind (
    if c_length ≤ t1 then
      some (0 : Int32)
    else
    (fX3_byteAt c_text t1).bind fun t9 =>
    (fX3_kindOf t9).bind fun t10 =>
    some t10
    ) fun t7 =>
  if t7 = (1 : Int32) then
    (lX3_nextToken_117 c_length c_text t7 N t1 (0 : Int32)).bind fun t12 =>
    some (t7, t1, t12.1, t12.2)
  else
  if t7 = (2 : Int32) then
    (lX3_nextToken_117 c_length c_text t7 N t1 (0 : Int32)).bind fun t23 =>
    some (t7, t1, t23.1, t23.2)
  else
  if t7 = 0 then
    some (t7, t1, t1, (0 : Int32))
  else
  some (t7, t1, (t1 + (1 : Int32)), (0 : Int32))
set_option maxHeartbeats 4000000 in
set_option maxRecDepth 20000 in
theorem kX3_nextToken (l : Launch) (D : va_G) (k : Nat → ClassId) (z : (Nat → Nat) × (Nat → Nat)) (N : Nat) (a_this : Nat) (a_this_text : Nat) (c_length : Int32) (c_kind : Int32) (c_start : Int32) (c_end : Int32) (c_value : Int32) (c_error : Int32) (c_errorStart : Int32) (c_text : Nat → Int32) {u : Int32 × Int32 × Int32 × Int32} (hf : fX3_nextToken N c_length c_kind c_start c_end c_value c_text = some u) : rn_KV l D k z yX3_nextToken cX3_nextToken 1 1 21 [.ref a_this] [(a_this, .inr (3, [.ref a_this_text, .int c_length, .int c_kind, .int c_start, .int c_end, .int c_value, .int c_error, .int c_errorStart])), (a_this_text, .inl (k 2, 700, .inl c_text))] [(a_this, .inr (3, [.ref a_this_text, .int c_length, .int u.1, .int u.2.1, .int u.2.2.1, .int u.2.2.2, .int c_error, .int c_errorStart])), (a_this_text, .inl (k 2, 700, .inl c_text))] := by
  refine rn_KV.go (LOC := [(0, .ref a_this)]) rfl (by decide) (Nat.le_of_ble_eq_true rfl) rfl ?_
  intro p e s m args below meth c A ls R Q X hR hE hW hl
  have hx := X.1.1
  have hb := X.1.2.1
  unfold fX3_nextToken at hf
  refine lv_aload_n hx hb dX3_nextToken_0 rfl (lv_at hl 0 rfl) ?_
  refine lv_aload_n hx hb dX3_nextToken_1 rfl (lv_at hl 0 rfl) ?_
  refine rr_get X hW 0 4 gf_X3_25 rfl rfl dX3_nextToken_2 ?_
  refine rr_put X hW 0 3 gp_X3_22 rfl rfl rfl (Nat.le_of_ble_eq_true rfl) (ws' := [(a_this, .inr (3, [.ref a_this_text, .int c_length, .int c_kind, .int c_end, .int c_end, .int c_value, .int c_error, .int c_errorStart])), (a_this_text, .inl (k 2, 700, .inl c_text))]) rfl dX3_nextToken_5 (fun H locs hW => ?_)
  obtain ⟨t1, ht1, hf⟩ := rn_bind hf
  have kk_8 : ∀ (H : Heap) (locs : List Loc) (ls : Array Slot), rn_W D A s [(a_this, .inr (3, [.ref a_this_text, .int c_length, .int c_kind, .int t1, .int c_end, .int c_value, .int c_error, .int c_errorStart])), (a_this_text, .inl (k 2, 700, .inl c_text))] H locs → lv_has ls 1 [(0, .ref a_this)] → W p l e R s m args below meth c H locs 0 0 Q (F0 m 58 ls []) := by
    intro H locs ls hW hl
    refine lv_aload_n hx hb dX3_nextToken_58 rfl (lv_at hl 0 rfl) ?_
    refine lv_aload_n hx hb dX3_nextToken_59 rfl (lv_at hl 0 rfl) ?_
    refine rr_get X hW 0 3 gf_X3_22 rfl rfl dX3_nextToken_60 ?_
    refine rr_put X hW 0 4 gp_X3_25 rfl rfl rfl (Nat.le_of_ble_eq_true rfl) (ws' := [(a_this, .inr (3, [.ref a_this_text, .int c_length, .int c_kind, .int t1, .int t1, .int c_value, .int c_error, .int c_errorStart])), (a_this_text, .inl (k 2, 700, .inl c_text))]) rfl dX3_nextToken_63 (fun H locs hW => ?_)
    refine lv_aload_n hx hb dX3_nextToken_66 rfl (lv_at hl 0 rfl) ?_
    refine lv_iconst (v := 0) hx hb dX3_nextToken_67 (by decide) ?_
    refine rr_put X hW 0 5 gp_X3_28 rfl rfl rfl (Nat.le_of_ble_eq_true rfl) (ws' := [(a_this, .inr (3, [.ref a_this_text, .int c_length, .int c_kind, .int t1, .int t1, .int (0 : Int32), .int c_error, .int c_errorStart])), (a_this_text, .inl (k 2, 700, .inl c_text))]) rfl dX3_nextToken_68 (fun H locs hW => ?_)
    refine lv_aload_n hx hb dX3_nextToken_71 rfl (lv_at hl 0 rfl) ?_
    refine lv_aload_n hx hb dX3_nextToken_72 rfl (lv_at hl 0 rfl) ?_
    refine rr_get X hW 0 3 gf_X3_22 rfl rfl dX3_nextToken_73 ?_
    refine lv_aload_n hx hb dX3_nextToken_76 rfl (lv_at hl 0 rfl) ?_
    refine rr_get X hW 0 1 gf_X3_15 rfl rfl dX3_nextToken_77 ?_
    obtain ⟨t7, ht7, hf⟩ := rn_bind hf
    have jnt7 : ∀ (H : Heap) (locs : List Loc) (ls : Array Slot), rn_W D A s [(a_this, .inr (3, [.ref a_this_text, .int c_length, .int c_kind, .int t1, .int t1, .int (0 : Int32), .int c_error, .int c_errorStart])), (a_this_text, .inl (k 2, 700, .inl c_text))] H locs → lv_has ls 1 [(0, .ref a_this)] → W p l e R s m args below meth c H locs 0 0 Q (F0 m 98 ls [.int t7, .ref a_this]) := by
      intro H locs ls hW hl
      refine rr_put X hW 0 2 gp_X3_19 rfl rfl rfl (Nat.le_of_ble_eq_true rfl) (ws' := [(a_this, .inr (3, [.ref a_this_text, .int c_length, .int t7, .int t1, .int t1, .int (0 : Int32), .int c_error, .int c_errorStart])), (a_this_text, .inl (k 2, 700, .inl c_text))]) rfl dX3_nextToken_98 (fun H locs hW => ?_)
      refine lv_aload_n hx hb dX3_nextToken_101 rfl (lv_at hl 0 rfl) ?_
      refine rr_get X hW 0 2 gf_X3_19 rfl rfl dX3_nextToken_102 ?_
      refine lv_iconst (v := 1) hx hb dX3_nextToken_105 (by decide) ?_
      refine lv_icmp_eq (tgt := 117) hx hb dX3_nextToken_106 (by decide) (fun hc11 => ?_) (fun hc11 => ?_)
      · replace hf := rn_t hf hc11
        obtain ⟨t12, ht12, hf⟩ := rn_bind hf
        have kk_117 : ∀ (H : Heap) (locs : List Loc) (ls : Array Slot), rn_W D A s [(a_this, .inr (3, [.ref a_this_text, .int c_length, .int t7, .int t1, .int t12.1, .int t12.2, .int c_error, .int c_errorStart])), (a_this_text, .inl (k 2, 700, .inl c_text))] H locs → lv_has ls 1 [] → W p l e R s m args below meth c H locs 0 0 Q (F0 m 216 ls []) := by
          intro H locs ls hW hl
          cases hf
          exact hE _ _ _ _ hW dX3_nextToken_216
        clear hf
        have lp_117 : ∀ (n : Nat) (y_end_117 : Int32) (y_value_117 : Int32) (H : Heap) (locs : List Loc) (ls : Array Slot), lX3_nextToken_117 c_length c_text t7 n y_end_117 y_value_117 = some t12 → rn_W D A s [(a_this, .inr (3, [.ref a_this_text, .int c_length, .int t7, .int t1, .int y_end_117, .int y_value_117, .int c_error, .int c_errorStart])), (a_this_text, .inl (k 2, 700, .inl c_text))] H locs → lv_has ls 1 [(0, .ref a_this)] → W p l e R s m args below meth c H locs 0 0 Q (F0 m 117 ls []) := by
          intro n
          induction n with
          | zero => intro y_end_117 y_value_117 H locs ls hf; exact absurd hf (by rw [lX3_nextToken_117]; exact fun h => nomatch h)
          | succ n ih_117 =>
            intro y_end_117 y_value_117 H locs ls hf hW hl
            rw [lX3_nextToken_117] at hf
            refine lv_aload_n hx hb dX3_nextToken_117 rfl (lv_at hl 0 rfl) ?_
            refine rr_get X hW 0 4 gf_X3_25 rfl rfl dX3_nextToken_118 ?_
            refine lv_aload_n hx hb dX3_nextToken_121 rfl (lv_at hl 0 rfl) ?_
            refine rr_get X hW 0 1 gf_X3_15 rfl rfl dX3_nextToken_122 ?_
            refine lv_icmp_ge (tgt := 216) hx hb dX3_nextToken_125 (by decide) (fun hc13 => ?_) (fun hc13 => ?_)
            · replace hf := rn_t hf hc13
              cases hf
              exact kk_117 _ _ _ hW (lv_sub hl [] rfl)
            · replace hf := rn_f hf hc13
              refine lv_aload_n hx hb dX3_nextToken_128 rfl (lv_at hl 0 rfl) ?_
              refine lv_aload_n hx hb dX3_nextToken_129 rfl (lv_at hl 0 rfl) ?_
              refine rr_get X hW 0 4 gf_X3_25 rfl rfl dX3_nextToken_130 ?_
              obtain ⟨t14, ht14, hf⟩ := rn_bind hf
              refine rr_callI (As := [.int y_end_117]) (rest := []) X hW (kX3_byteAt l D k z a_this a_this_text c_length t7 t1 y_end_117 y_value_117 c_error c_errorStart c_text y_end_117 ht14) gm_X3_byteAt gl_X3_116 [0, 1] [] [(a_this, .inr (3, [.ref a_this_text, .int c_length, .int t7, .int t1, .int y_end_117, .int y_value_117, .int c_error, .int c_errorStart])), (a_this_text, .inl (k 2, 700, .inl c_text))] rfl rfl rfl rfl ⟨rfl, rfl, rfl, rfl, rfl⟩ (rn_r hR rfl) rn_cs hl.1 rfl (Nat.le_of_ble_eq_true rfl) dX3_nextToken_133 (fun hn14 H locs hW => ?_)
              obtain ⟨t15, ht15, hf⟩ := rn_bind hf
              refine rr_scalI (As := [.int t14]) (rest := []) X hW (kX3_kindOf l D k z t14 ht15) gm_X3_kindOf gl_X3_120 [] [0, 1] [(a_this, .inr (3, [.ref a_this_text, .int c_length, .int t7, .int t1, .int y_end_117, .int y_value_117, .int c_error, .int c_errorStart])), (a_this_text, .inl (k 2, 700, .inl c_text))] rfl rfl ⟨rfl, rfl, rn_Bw (wr := [(a_this, .inr (3, [.ref a_this_text, .int c_length, .int t7, .int t1, .int y_end_117, .int y_value_117, .int c_error, .int c_errorStart])), (a_this_text, .inl (k 2, 700, .inl c_text))]) rfl rfl, rfl, rfl⟩ (rn_r hR rfl) rn_cs hl.1 rfl (Nat.le_of_ble_eq_true rfl) dX3_nextToken_136 (fun hn15 H locs hW => ?_)
              refine lv_aload_n hx hb dX3_nextToken_139 rfl (lv_at hl 0 rfl) ?_
              refine rr_get X hW 0 2 gf_X3_19 rfl rfl dX3_nextToken_140 ?_
              refine lv_icmp_ne (tgt := 216) hx hb dX3_nextToken_143 (by decide) (fun hc16 => ?_) (fun hc16 => ?_)
              · replace hf := rn_f hf hc16
                cases hf
                exact kk_117 _ _ _ hW (lv_sub hl [] rfl)
              · replace hf := rn_t hf hc16
                refine lv_aload_n hx hb dX3_nextToken_146 rfl (lv_at hl 0 rfl) ?_
                refine lv_aload_n hx hb dX3_nextToken_147 rfl (lv_at hl 0 rfl) ?_
                refine rr_get X hW 0 2 gf_X3_19 rfl rfl dX3_nextToken_148 ?_
                refine lv_iconst (v := 2) hx hb dX3_nextToken_151 (by decide) ?_
                obtain ⟨t17, ht17, hf⟩ := rn_bind hf
                have jnt17 : ∀ (H : Heap) (locs : List Loc) (ls : Array Slot), rn_W D A s [(a_this, .inr (3, [.ref a_this_text, .int c_length, .int t7, .int t1, .int y_end_117, .int y_value_117, .int c_error, .int c_errorStart])), (a_this_text, .inl (k 2, 700, .inl c_text))] H locs → lv_has ls 1 [(0, .ref a_this)] → W p l e R s m args below meth c H locs 0 0 Q (F0 m 183 ls [.int t17, .ref a_this]) := by
                  intro H locs ls hW hl
                  refine rr_put X hW 0 5 gp_X3_28 rfl rfl rfl (Nat.le_of_ble_eq_true rfl) (ws' := [(a_this, .inr (3, [.ref a_this_text, .int c_length, .int t7, .int t1, .int y_end_117, .int t17, .int c_error, .int c_errorStart])), (a_this_text, .inl (k 2, 700, .inl c_text))]) rfl dX3_nextToken_183 (fun H locs hW => ?_)
                  refine lv_aload_n hx hb dX3_nextToken_186 rfl (lv_at hl 0 rfl) ?_
                  refine lv_dup hx hb dX3_nextToken_187 rfl ?_
                  refine rr_get X hW 0 4 gf_X3_25 rfl rfl dX3_nextToken_188 ?_
                  refine lv_iconst (v := 1) hx hb dX3_nextToken_191 (by decide) ?_
                  refine lv_iadd hx hb dX3_nextToken_192 ?_
                  refine rr_put X hW 0 4 gp_X3_25 rfl rfl rfl (Nat.le_of_ble_eq_true rfl) (ws' := [(a_this, .inr (3, [.ref a_this_text, .int c_length, .int t7, .int t1, .int (y_end_117 + (1 : Int32)), .int t17, .int c_error, .int c_errorStart])), (a_this_text, .inl (k 2, 700, .inl c_text))]) rfl dX3_nextToken_193 (fun H locs hW => ?_)
                  refine lv_goto (tgt := 117) hx hb dX3_nextToken_196 (by decide) ?_
                  exact ih_117 (y_end_117 + (1 : Int32)) t17 _ _ _ hf hW (lv_sub hl [0] rfl)
                replace hf := ht17
                clear ht17
                refine lv_icmp_ne (tgt := 182) hx hb dX3_nextToken_152 (by decide) (fun hc18 => ?_) (fun hc18 => ?_)
                · replace hf := rn_f hf hc18
                  refine lv_iconst (v := 0) hx hb dX3_nextToken_182 (by decide) ?_
                  cases hf
                  exact jnt17 _ _ _ hW (lv_sub hl [0] rfl)
                · replace hf := rn_t hf hc18
                  refine lv_aload_n hx hb dX3_nextToken_155 rfl (lv_at hl 0 rfl) ?_
                  refine rr_get X hW 0 5 gf_X3_28 rfl rfl dX3_nextToken_156 ?_
                  refine lv_bipush (v := 10) hx hb dX3_nextToken_159 (by decide) ?_
                  refine lv_imul hx hb dX3_nextToken_161 ?_
                  refine lv_aload_n hx hb dX3_nextToken_162 rfl (lv_at hl 0 rfl) ?_
                  refine lv_aload_n hx hb dX3_nextToken_163 rfl (lv_at hl 0 rfl) ?_
                  refine rr_get X hW 0 4 gf_X3_25 rfl rfl dX3_nextToken_164 ?_
                  obtain ⟨t19, ht19, hf⟩ := rn_bind hf
                  refine rr_callI (As := [.int y_end_117]) (rest := [.int (y_value_117 * (10 : Int32)), .ref a_this]) X hW (kX3_byteAt l D k z a_this a_this_text c_length t7 t1 y_end_117 y_value_117 c_error c_errorStart c_text y_end_117 ht19) gm_X3_byteAt gl_X3_116 [0, 1] [] [(a_this, .inr (3, [.ref a_this_text, .int c_length, .int t7, .int t1, .int y_end_117, .int y_value_117, .int c_error, .int c_errorStart])), (a_this_text, .inl (k 2, 700, .inl c_text))] rfl rfl rfl rfl ⟨rfl, rfl, rfl, rfl, rfl⟩ (rn_r hR rfl) rn_cs hl.1 rfl (Nat.le_of_ble_eq_true rfl) dX3_nextToken_167 (fun hn19 H locs hW => ?_)
                  refine lv_iadd hx hb dX3_nextToken_170 ?_
                  refine lv_bipush (v := 48) hx hb dX3_nextToken_171 (by decide) ?_
                  refine lv_isub hx hb dX3_nextToken_173 ?_
                  refine rr_ldc X gk_X3_123 dX3_nextToken_174 ?_
                  refine rr_mmin X hl.1 gm_J9_min_7cf53 gl_X3_124 (rn_r (f := 0) (n := 2) (lo' := 0) hR rfl) (Nat.le_of_ble_eq_true rfl) dX3_nextToken_176 ?_
                  refine lv_goto (tgt := 183) hx hb dX3_nextToken_179 (by decide) ?_
                  cases hf
                  exact jnt17 _ _ _ hW (lv_sub hl [0] rfl)
        exact lp_117 N t1 (0 : Int32) _ _ _ ht12 hW (lv_sub hl [0] rfl)
      · replace hf := rn_f hf hc11
        refine lv_aload_n hx hb dX3_nextToken_109 rfl (lv_at hl 0 rfl) ?_
        refine rr_get X hW 0 2 gf_X3_19 rfl rfl dX3_nextToken_110 ?_
        refine lv_iconst (v := 2) hx hb dX3_nextToken_113 (by decide) ?_
        refine lv_icmp_ne (tgt := 199) hx hb dX3_nextToken_114 (by decide) (fun hc20 => ?_) (fun hc20 => ?_)
        · replace hf := rn_f hf hc20
          refine lv_aload_n hx hb dX3_nextToken_199 rfl (lv_at hl 0 rfl) ?_
          refine rr_get X hW 0 2 gf_X3_19 rfl rfl dX3_nextToken_200 ?_
          refine lv_if_eq (tgt := 216) hx hb dX3_nextToken_203 (by decide) (fun hc21 => ?_) (fun hc21 => ?_)
          · replace hf := rn_t hf hc21
            cases hf
            exact hE _ _ _ _ hW dX3_nextToken_216
          · replace hf := rn_f hf hc21
            refine lv_aload_n hx hb dX3_nextToken_206 rfl (lv_at hl 0 rfl) ?_
            refine lv_dup hx hb dX3_nextToken_207 rfl ?_
            refine rr_get X hW 0 4 gf_X3_25 rfl rfl dX3_nextToken_208 ?_
            refine lv_iconst (v := 1) hx hb dX3_nextToken_211 (by decide) ?_
            refine lv_iadd hx hb dX3_nextToken_212 ?_
            refine rr_put X hW 0 4 gp_X3_25 rfl rfl rfl (Nat.le_of_ble_eq_true rfl) (ws' := [(a_this, .inr (3, [.ref a_this_text, .int c_length, .int t7, .int t1, .int (t1 + (1 : Int32)), .int (0 : Int32), .int c_error, .int c_errorStart])), (a_this_text, .inl (k 2, 700, .inl c_text))]) rfl dX3_nextToken_213 (fun H locs hW => ?_)
            cases hf
            exact hE _ _ _ _ hW dX3_nextToken_216
        · replace hf := rn_t hf hc20
          obtain ⟨t23, ht23, hf⟩ := rn_bind hf
          have kk_117 : ∀ (H : Heap) (locs : List Loc) (ls : Array Slot), rn_W D A s [(a_this, .inr (3, [.ref a_this_text, .int c_length, .int t7, .int t1, .int t23.1, .int t23.2, .int c_error, .int c_errorStart])), (a_this_text, .inl (k 2, 700, .inl c_text))] H locs → lv_has ls 1 [] → W p l e R s m args below meth c H locs 0 0 Q (F0 m 216 ls []) := by
            intro H locs ls hW hl
            cases hf
            exact hE _ _ _ _ hW dX3_nextToken_216
          clear hf
          have lp_117 : ∀ (n : Nat) (y_end_117 : Int32) (y_value_117 : Int32) (H : Heap) (locs : List Loc) (ls : Array Slot), lX3_nextToken_117 c_length c_text t7 n y_end_117 y_value_117 = some t23 → rn_W D A s [(a_this, .inr (3, [.ref a_this_text, .int c_length, .int t7, .int t1, .int y_end_117, .int y_value_117, .int c_error, .int c_errorStart])), (a_this_text, .inl (k 2, 700, .inl c_text))] H locs → lv_has ls 1 [(0, .ref a_this)] → W p l e R s m args below meth c H locs 0 0 Q (F0 m 117 ls []) := by
            intro n
            induction n with
            | zero => intro y_end_117 y_value_117 H locs ls hf; exact absurd hf (by rw [lX3_nextToken_117]; exact fun h => nomatch h)
            | succ n ih_117 =>
              intro y_end_117 y_value_117 H locs ls hf hW hl
              rw [lX3_nextToken_117] at hf
              refine lv_aload_n hx hb dX3_nextToken_117 rfl (lv_at hl 0 rfl) ?_
              refine rr_get X hW 0 4 gf_X3_25 rfl rfl dX3_nextToken_118 ?_
              refine lv_aload_n hx hb dX3_nextToken_121 rfl (lv_at hl 0 rfl) ?_
              refine rr_get X hW 0 1 gf_X3_15 rfl rfl dX3_nextToken_122 ?_
              refine lv_icmp_ge (tgt := 216) hx hb dX3_nextToken_125 (by decide) (fun hc24 => ?_) (fun hc24 => ?_)
              · replace hf := rn_t hf hc24
                cases hf
                exact kk_117 _ _ _ hW (lv_sub hl [] rfl)
              · replace hf := rn_f hf hc24
                refine lv_aload_n hx hb dX3_nextToken_128 rfl (lv_at hl 0 rfl) ?_
                refine lv_aload_n hx hb dX3_nextToken_129 rfl (lv_at hl 0 rfl) ?_
                refine rr_get X hW 0 4 gf_X3_25 rfl rfl dX3_nextToken_130 ?_
                obtain ⟨t25, ht25, hf⟩ := rn_bind hf
                refine rr_callI (As := [.int y_end_117]) (rest := []) X hW (kX3_byteAt l D k z a_this a_this_text c_length t7 t1 y_end_117 y_value_117 c_error c_errorStart c_text y_end_117 ht25) gm_X3_byteAt gl_X3_116 [0, 1] [] [(a_this, .inr (3, [.ref a_this_text, .int c_length, .int t7, .int t1, .int y_end_117, .int y_value_117, .int c_error, .int c_errorStart])), (a_this_text, .inl (k 2, 700, .inl c_text))] rfl rfl rfl rfl ⟨rfl, rfl, rfl, rfl, rfl⟩ (rn_r hR rfl) rn_cs hl.1 rfl (Nat.le_of_ble_eq_true rfl) dX3_nextToken_133 (fun hn25 H locs hW => ?_)
                obtain ⟨t26, ht26, hf⟩ := rn_bind hf
                refine rr_scalI (As := [.int t25]) (rest := []) X hW (kX3_kindOf l D k z t25 ht26) gm_X3_kindOf gl_X3_120 [] [0, 1] [(a_this, .inr (3, [.ref a_this_text, .int c_length, .int t7, .int t1, .int y_end_117, .int y_value_117, .int c_error, .int c_errorStart])), (a_this_text, .inl (k 2, 700, .inl c_text))] rfl rfl ⟨rfl, rfl, rn_Bw (wr := [(a_this, .inr (3, [.ref a_this_text, .int c_length, .int t7, .int t1, .int y_end_117, .int y_value_117, .int c_error, .int c_errorStart])), (a_this_text, .inl (k 2, 700, .inl c_text))]) rfl rfl, rfl, rfl⟩ (rn_r hR rfl) rn_cs hl.1 rfl (Nat.le_of_ble_eq_true rfl) dX3_nextToken_136 (fun hn26 H locs hW => ?_)
                refine lv_aload_n hx hb dX3_nextToken_139 rfl (lv_at hl 0 rfl) ?_
                refine rr_get X hW 0 2 gf_X3_19 rfl rfl dX3_nextToken_140 ?_
                refine lv_icmp_ne (tgt := 216) hx hb dX3_nextToken_143 (by decide) (fun hc27 => ?_) (fun hc27 => ?_)
                · replace hf := rn_f hf hc27
                  cases hf
                  exact kk_117 _ _ _ hW (lv_sub hl [] rfl)
                · replace hf := rn_t hf hc27
                  refine lv_aload_n hx hb dX3_nextToken_146 rfl (lv_at hl 0 rfl) ?_
                  refine lv_aload_n hx hb dX3_nextToken_147 rfl (lv_at hl 0 rfl) ?_
                  refine rr_get X hW 0 2 gf_X3_19 rfl rfl dX3_nextToken_148 ?_
                  refine lv_iconst (v := 2) hx hb dX3_nextToken_151 (by decide) ?_
                  obtain ⟨t28, ht28, hf⟩ := rn_bind hf
                  have jnt28 : ∀ (H : Heap) (locs : List Loc) (ls : Array Slot), rn_W D A s [(a_this, .inr (3, [.ref a_this_text, .int c_length, .int t7, .int t1, .int y_end_117, .int y_value_117, .int c_error, .int c_errorStart])), (a_this_text, .inl (k 2, 700, .inl c_text))] H locs → lv_has ls 1 [(0, .ref a_this)] → W p l e R s m args below meth c H locs 0 0 Q (F0 m 183 ls [.int t28, .ref a_this]) := by
                    intro H locs ls hW hl
                    refine rr_put X hW 0 5 gp_X3_28 rfl rfl rfl (Nat.le_of_ble_eq_true rfl) (ws' := [(a_this, .inr (3, [.ref a_this_text, .int c_length, .int t7, .int t1, .int y_end_117, .int t28, .int c_error, .int c_errorStart])), (a_this_text, .inl (k 2, 700, .inl c_text))]) rfl dX3_nextToken_183 (fun H locs hW => ?_)
                    refine lv_aload_n hx hb dX3_nextToken_186 rfl (lv_at hl 0 rfl) ?_
                    refine lv_dup hx hb dX3_nextToken_187 rfl ?_
                    refine rr_get X hW 0 4 gf_X3_25 rfl rfl dX3_nextToken_188 ?_
                    refine lv_iconst (v := 1) hx hb dX3_nextToken_191 (by decide) ?_
                    refine lv_iadd hx hb dX3_nextToken_192 ?_
                    refine rr_put X hW 0 4 gp_X3_25 rfl rfl rfl (Nat.le_of_ble_eq_true rfl) (ws' := [(a_this, .inr (3, [.ref a_this_text, .int c_length, .int t7, .int t1, .int (y_end_117 + (1 : Int32)), .int t28, .int c_error, .int c_errorStart])), (a_this_text, .inl (k 2, 700, .inl c_text))]) rfl dX3_nextToken_193 (fun H locs hW => ?_)
                    refine lv_goto (tgt := 117) hx hb dX3_nextToken_196 (by decide) ?_
                    exact ih_117 (y_end_117 + (1 : Int32)) t28 _ _ _ hf hW (lv_sub hl [0] rfl)
                  replace hf := ht28
                  clear ht28
                  refine lv_icmp_ne (tgt := 182) hx hb dX3_nextToken_152 (by decide) (fun hc29 => ?_) (fun hc29 => ?_)
                  · replace hf := rn_f hf hc29
                    refine lv_iconst (v := 0) hx hb dX3_nextToken_182 (by decide) ?_
                    cases hf
                    exact jnt28 _ _ _ hW (lv_sub hl [0] rfl)
                  · replace hf := rn_t hf hc29
                    refine lv_aload_n hx hb dX3_nextToken_155 rfl (lv_at hl 0 rfl) ?_
                    refine rr_get X hW 0 5 gf_X3_28 rfl rfl dX3_nextToken_156 ?_
                    refine lv_bipush (v := 10) hx hb dX3_nextToken_159 (by decide) ?_
                    refine lv_imul hx hb dX3_nextToken_161 ?_
                    refine lv_aload_n hx hb dX3_nextToken_162 rfl (lv_at hl 0 rfl) ?_
                    refine lv_aload_n hx hb dX3_nextToken_163 rfl (lv_at hl 0 rfl) ?_
                    refine rr_get X hW 0 4 gf_X3_25 rfl rfl dX3_nextToken_164 ?_
                    obtain ⟨t30, ht30, hf⟩ := rn_bind hf
                    refine rr_callI (As := [.int y_end_117]) (rest := [.int (y_value_117 * (10 : Int32)), .ref a_this]) X hW (kX3_byteAt l D k z a_this a_this_text c_length t7 t1 y_end_117 y_value_117 c_error c_errorStart c_text y_end_117 ht30) gm_X3_byteAt gl_X3_116 [0, 1] [] [(a_this, .inr (3, [.ref a_this_text, .int c_length, .int t7, .int t1, .int y_end_117, .int y_value_117, .int c_error, .int c_errorStart])), (a_this_text, .inl (k 2, 700, .inl c_text))] rfl rfl rfl rfl ⟨rfl, rfl, rfl, rfl, rfl⟩ (rn_r hR rfl) rn_cs hl.1 rfl (Nat.le_of_ble_eq_true rfl) dX3_nextToken_167 (fun hn30 H locs hW => ?_)
                    refine lv_iadd hx hb dX3_nextToken_170 ?_
                    refine lv_bipush (v := 48) hx hb dX3_nextToken_171 (by decide) ?_
                    refine lv_isub hx hb dX3_nextToken_173 ?_
                    refine rr_ldc X gk_X3_123 dX3_nextToken_174 ?_
                    refine rr_mmin X hl.1 gm_J9_min_7cf53 gl_X3_124 (rn_r (f := 0) (n := 2) (lo' := 0) hR rfl) (Nat.le_of_ble_eq_true rfl) dX3_nextToken_176 ?_
                    refine lv_goto (tgt := 183) hx hb dX3_nextToken_179 (by decide) ?_
                    cases hf
                    exact jnt28 _ _ _ hW (lv_sub hl [0] rfl)
          exact lp_117 N t1 (0 : Int32) _ _ _ ht23 hW (lv_sub hl [0] rfl)
    replace hf := ht7
    clear ht7
    refine lv_icmp_ge (tgt := 97) hx hb dX3_nextToken_80 (by decide) (fun hc8 => ?_) (fun hc8 => ?_)
    · replace hf := rn_t hf hc8
      refine lv_iconst (v := 0) hx hb dX3_nextToken_97 (by decide) ?_
      cases hf
      exact jnt7 _ _ _ hW (lv_sub hl [0] rfl)
    · replace hf := rn_f hf hc8
      refine lv_aload_n hx hb dX3_nextToken_83 rfl (lv_at hl 0 rfl) ?_
      refine lv_aload_n hx hb dX3_nextToken_84 rfl (lv_at hl 0 rfl) ?_
      refine rr_get X hW 0 3 gf_X3_22 rfl rfl dX3_nextToken_85 ?_
      obtain ⟨t9, ht9, hf⟩ := rn_bind hf
      refine rr_callI (As := [.int t1]) (rest := [.ref a_this]) X hW (kX3_byteAt l D k z a_this a_this_text c_length c_kind t1 t1 (0 : Int32) c_error c_errorStart c_text t1 ht9) gm_X3_byteAt gl_X3_116 [0, 1] [] [(a_this, .inr (3, [.ref a_this_text, .int c_length, .int c_kind, .int t1, .int t1, .int (0 : Int32), .int c_error, .int c_errorStart])), (a_this_text, .inl (k 2, 700, .inl c_text))] rfl rfl rfl rfl ⟨rfl, rfl, rfl, rfl, rfl⟩ (rn_r hR rfl) rn_cs hl.1 rfl (Nat.le_of_ble_eq_true rfl) dX3_nextToken_88 (fun hn9 H locs hW => ?_)
      obtain ⟨t10, ht10, hf⟩ := rn_bind hf
      refine rr_scalI (As := [.int t9]) (rest := [.ref a_this]) X hW (kX3_kindOf l D k z t9 ht10) gm_X3_kindOf gl_X3_120 [] [0, 1] [(a_this, .inr (3, [.ref a_this_text, .int c_length, .int c_kind, .int t1, .int t1, .int (0 : Int32), .int c_error, .int c_errorStart])), (a_this_text, .inl (k 2, 700, .inl c_text))] rfl rfl ⟨rfl, rfl, rn_Bw (wr := [(a_this, .inr (3, [.ref a_this_text, .int c_length, .int c_kind, .int t1, .int t1, .int (0 : Int32), .int c_error, .int c_errorStart])), (a_this_text, .inl (k 2, 700, .inl c_text))]) rfl rfl, rfl, rfl⟩ (rn_r hR rfl) rn_cs hl.1 rfl (Nat.le_of_ble_eq_true rfl) dX3_nextToken_91 (fun hn10 H locs hW => ?_)
      refine lv_goto (tgt := 98) hx hb dX3_nextToken_94 (by decide) ?_
      cases hf
      exact jnt7 _ _ _ hW (lv_sub hl [0] rfl)
  clear hf
  have lp_8 : ∀ (n : Nat) (y_start_8 : Int32) (H : Heap) (locs : List Loc) (ls : Array Slot), lX3_nextToken_8 c_length c_text n y_start_8 = some t1 → rn_W D A s [(a_this, .inr (3, [.ref a_this_text, .int c_length, .int c_kind, .int y_start_8, .int c_end, .int c_value, .int c_error, .int c_errorStart])), (a_this_text, .inl (k 2, 700, .inl c_text))] H locs → lv_has ls 1 [(0, .ref a_this)] → W p l e R s m args below meth c H locs 0 0 Q (F0 m 8 ls []) := by
    intro n
    induction n with
    | zero => intro y_start_8 H locs ls hf; exact absurd hf (by rw [lX3_nextToken_8]; exact fun h => nomatch h)
    | succ n ih_8 =>
      intro y_start_8 H locs ls hf hW hl
      rw [lX3_nextToken_8] at hf
      refine lv_aload_n hx hb dX3_nextToken_8 rfl (lv_at hl 0 rfl) ?_
      refine rr_get X hW 0 3 gf_X3_22 rfl rfl dX3_nextToken_9 ?_
      refine lv_aload_n hx hb dX3_nextToken_12 rfl (lv_at hl 0 rfl) ?_
      refine rr_get X hW 0 1 gf_X3_15 rfl rfl dX3_nextToken_13 ?_
      refine lv_icmp_ge (tgt := 58) hx hb dX3_nextToken_16 (by decide) (fun hc2 => ?_) (fun hc2 => ?_)
      · replace hf := rn_t hf hc2
        cases hf
        exact kk_8 _ _ _ hW (lv_sub hl [0] rfl)
      · replace hf := rn_f hf hc2
        refine lv_aload_n hx hb dX3_nextToken_19 rfl (lv_at hl 0 rfl) ?_
        refine lv_aload_n hx hb dX3_nextToken_20 rfl (lv_at hl 0 rfl) ?_
        refine rr_get X hW 0 3 gf_X3_22 rfl rfl dX3_nextToken_21 ?_
        obtain ⟨t3, ht3, hf⟩ := rn_bind hf
        refine rr_callI (As := [.int y_start_8]) (rest := []) X hW (kX3_byteAt l D k z a_this a_this_text c_length c_kind y_start_8 c_end c_value c_error c_errorStart c_text y_start_8 ht3) gm_X3_byteAt gl_X3_116 [0, 1] [] [(a_this, .inr (3, [.ref a_this_text, .int c_length, .int c_kind, .int y_start_8, .int c_end, .int c_value, .int c_error, .int c_errorStart])), (a_this_text, .inl (k 2, 700, .inl c_text))] rfl rfl rfl rfl ⟨rfl, rfl, rfl, rfl, rfl⟩ (rn_r hR rfl) rn_cs hl.1 rfl (Nat.le_of_ble_eq_true rfl) dX3_nextToken_24 (fun hn3 H locs hW => ?_)
        refine lv_bipush (v := 32) hx hb dX3_nextToken_27 (by decide) ?_
        refine lv_icmp_eq (tgt := 45) hx hb dX3_nextToken_29 (by decide) (fun hc4 => ?_) (fun hc4 => ?_)
        · replace hf := rn_t hf hc4
          refine lv_aload_n hx hb dX3_nextToken_45 rfl (lv_at hl 0 rfl) ?_
          refine lv_dup hx hb dX3_nextToken_46 rfl ?_
          refine rr_get X hW 0 3 gf_X3_22 rfl rfl dX3_nextToken_47 ?_
          refine lv_iconst (v := 1) hx hb dX3_nextToken_50 (by decide) ?_
          refine lv_iadd hx hb dX3_nextToken_51 ?_
          refine rr_put X hW 0 3 gp_X3_22 rfl rfl rfl (Nat.le_of_ble_eq_true rfl) (ws' := [(a_this, .inr (3, [.ref a_this_text, .int c_length, .int c_kind, .int (y_start_8 + (1 : Int32)), .int c_end, .int c_value, .int c_error, .int c_errorStart])), (a_this_text, .inl (k 2, 700, .inl c_text))]) rfl dX3_nextToken_52 (fun H locs hW => ?_)
          refine lv_goto (tgt := 8) hx hb dX3_nextToken_55 (by decide) ?_
          exact ih_8 (y_start_8 + (1 : Int32)) _ _ _ hf hW (lv_sub hl [0] rfl)
        · replace hf := rn_f hf hc4
          refine lv_aload_n hx hb dX3_nextToken_32 rfl (lv_at hl 0 rfl) ?_
          refine lv_aload_n hx hb dX3_nextToken_33 rfl (lv_at hl 0 rfl) ?_
          refine rr_get X hW 0 3 gf_X3_22 rfl rfl dX3_nextToken_34 ?_
          obtain ⟨t5, ht5, hf⟩ := rn_bind hf
          refine rr_callI (As := [.int y_start_8]) (rest := []) X hW (kX3_byteAt l D k z a_this a_this_text c_length c_kind y_start_8 c_end c_value c_error c_errorStart c_text y_start_8 ht5) gm_X3_byteAt gl_X3_116 [0, 1] [] [(a_this, .inr (3, [.ref a_this_text, .int c_length, .int c_kind, .int y_start_8, .int c_end, .int c_value, .int c_error, .int c_errorStart])), (a_this_text, .inl (k 2, 700, .inl c_text))] rfl rfl rfl rfl ⟨rfl, rfl, rfl, rfl, rfl⟩ (rn_r hR rfl) rn_cs hl.1 rfl (Nat.le_of_ble_eq_true rfl) dX3_nextToken_37 (fun hn5 H locs hW => ?_)
          refine lv_bipush (v := 10) hx hb dX3_nextToken_40 (by decide) ?_
          refine lv_icmp_ne (tgt := 58) hx hb dX3_nextToken_42 (by decide) (fun hc6 => ?_) (fun hc6 => ?_)
          · replace hf := rn_f hf hc6
            cases hf
            exact kk_8 _ _ _ hW (lv_sub hl [0] rfl)
          · replace hf := rn_t hf hc6
            refine lv_aload_n hx hb dX3_nextToken_45 rfl (lv_at hl 0 rfl) ?_
            refine lv_dup hx hb dX3_nextToken_46 rfl ?_
            refine rr_get X hW 0 3 gf_X3_22 rfl rfl dX3_nextToken_47 ?_
            refine lv_iconst (v := 1) hx hb dX3_nextToken_50 (by decide) ?_
            refine lv_iadd hx hb dX3_nextToken_51 ?_
            refine rr_put X hW 0 3 gp_X3_22 rfl rfl rfl (Nat.le_of_ble_eq_true rfl) (ws' := [(a_this, .inr (3, [.ref a_this_text, .int c_length, .int c_kind, .int (y_start_8 + (1 : Int32)), .int c_end, .int c_value, .int c_error, .int c_errorStart])), (a_this_text, .inl (k 2, 700, .inl c_text))]) rfl dX3_nextToken_52 (fun H locs hW => ?_)
            refine lv_goto (tgt := 8) hx hb dX3_nextToken_55 (by decide) ?_
            exact ih_8 (y_start_8 + (1 : Int32)) _ _ _ hf hW (lv_sub hl [0] rfl)
  exact lp_8 N c_end _ _ _ ht1 hW (lv_sub hl [0] rfl)
def fX3_readNumber (N : Nat) (c_length : Int32) (c_kind : Int32) (c_start : Int32) (c_end : Int32) (c_value : Int32) (c_error : Int32) (c_errorStart : Int32) (c_text : Nat → Int32) (i1 : Int32) (i2 : Int32) : Option (Int32 × Int32 × Int32 × Int32 × Int32 × Int32 × Int32) :=
  if c_error = 0 then
    (fX3_nextToken N c_length c_kind c_start c_end c_value c_text).bind fun t2 =>
    Option.bind (
      if t2.1 = (2 : Int32) then
        if t2.2.2.2 < i1 then
          (fX3_fail t2.2.1 c_error c_errorStart (2 : Int32)).bind fun t6 =>
          some (t6.1, t6.2)
        else
        if t2.2.2.2 ≤ i2 then
          some (c_error, c_errorStart)
        else
        (fX3_fail t2.2.1 c_error c_errorStart (2 : Int32)).bind fun t8 =>
        some (t8.1, t8.2)
      else
      (fX3_fail t2.2.1 c_error c_errorStart (1 : Int32)).bind fun t9 =>
      some (t9.1, t9.2)
      ) fun t3 =>
    if t3.1 = 0 then
      some (t2.2.2.2, t2.1, t2.2.1, t2.2.2.1, t2.2.2.2, t3.1, t3.2)
    else
    some ((-1 : Int32), t2.1, t2.2.1, t2.2.2.1, t2.2.2.2, t3.1, t3.2)
  else
  some ((-1 : Int32), c_kind, c_start, c_end, c_value, c_error, c_errorStart)
set_option maxHeartbeats 4000000 in
set_option maxRecDepth 20000 in
theorem kX3_readNumber (l : Launch) (D : va_G) (k : Nat → ClassId) (z : (Nat → Nat) × (Nat → Nat)) (N : Nat) (a_this : Nat) (a_this_text : Nat) (c_length : Int32) (c_kind : Int32) (c_start : Int32) (c_end : Int32) (c_value : Int32) (c_error : Int32) (c_errorStart : Int32) (c_text : Nat → Int32) (i1 : Int32) (i2 : Int32) {u : Int32 × Int32 × Int32 × Int32 × Int32 × Int32 × Int32} (hf : fX3_readNumber N c_length c_kind c_start c_end c_value c_error c_errorStart c_text i1 i2 = some u) : rn_KI l D k z yX3_readNumber cX3_readNumber 3 .int 2 41 [.ref a_this, .int i1, .int i2] [(a_this, .inr (3, [.ref a_this_text, .int c_length, .int c_kind, .int c_start, .int c_end, .int c_value, .int c_error, .int c_errorStart])), (a_this_text, .inl (k 2, 700, .inl c_text))] [(a_this, .inr (3, [.ref a_this_text, .int c_length, .int u.2.1, .int u.2.2.1, .int u.2.2.2.1, .int u.2.2.2.2.1, .int u.2.2.2.2.2.1, .int u.2.2.2.2.2.2])), (a_this_text, .inl (k 2, 700, .inl c_text))] u.1 := by
  refine rn_KI.go (LOC := [(0, .ref a_this), (1, .int i1), (2, .int i2)]) rfl (by decide) (Nat.le_of_ble_eq_true rfl) rfl ?_
  intro p e s m args below meth c A ls R Q X hR hE hW hl
  have hx := X.1.1
  have hb := X.1.2.1
  unfold fX3_readNumber at hf
  obtain ⟨u0, u1, u2, u3, u4, u5, u6⟩ := u
  dsimp only at hE
  refine lv_aload_n hx hb dX3_readNumber_0 rfl (lv_at hl 0 rfl) ?_
  refine rr_get X hW 0 6 gf_X3_31 rfl rfl dX3_readNumber_1 ?_
  refine lv_if_eq (tgt := 9) hx hb dX3_readNumber_4 (by decide) (fun hc1 => ?_) (fun hc1 => ?_)
  · replace hf := rn_t hf hc1
    refine lv_aload_n hx hb dX3_readNumber_9 rfl (lv_at hl 0 rfl) ?_
    obtain ⟨t2, ht2, hf⟩ := rn_bind hf
    refine rr_callV (As := []) (rest := []) X hW (kX3_nextToken l D k z N a_this a_this_text c_length c_kind c_start c_end c_value c_error c_errorStart c_text ht2) gm_X3_nextToken gl_X3_37 [0, 1] [] [(a_this, .inr (3, [.ref a_this_text, .int c_length, .int t2.1, .int t2.2.1, .int t2.2.2.1, .int t2.2.2.2, .int c_error, .int c_errorStart])), (a_this_text, .inl (k 2, 700, .inl c_text))] rfl rfl rfl rfl ⟨rfl, rfl, rfl, rfl, rfl⟩ (rn_r hR rfl) rn_cs hl.1 rfl (Nat.le_of_ble_eq_true rfl) dX3_readNumber_10 (fun H locs hW => ?_)
    refine lv_aload_n hx hb dX3_readNumber_13 rfl (lv_at hl 0 rfl) ?_
    refine rr_get X hW 0 2 gf_X3_19 rfl rfl dX3_readNumber_14 ?_
    refine lv_iconst (v := 2) hx hb dX3_readNumber_17 (by decide) ?_
    obtain ⟨t3, ht3, hf⟩ := rn_bind hf
    have jnt3 : ∀ (H : Heap) (locs : List Loc) (ls : Array Slot), rn_W D A s [(a_this, .inr (3, [.ref a_this_text, .int c_length, .int t2.1, .int t2.2.1, .int t2.2.2.1, .int t2.2.2.2, .int t3.1, .int t3.2])), (a_this_text, .inl (k 2, 700, .inl c_text))] H locs → lv_has ls 3 [(0, .ref a_this)] → W p l e R s m args below meth c H locs 0 0 Q (F0 m 50 ls []) := by
      intro H locs ls hW hl
      refine lv_aload_n hx hb dX3_readNumber_50 rfl (lv_at hl 0 rfl) ?_
      refine rr_get X hW 0 6 gf_X3_31 rfl rfl dX3_readNumber_51 ?_
      refine lv_if_ne (tgt := 64) hx hb dX3_readNumber_54 (by decide) (fun hc10 => ?_) (fun hc10 => ?_)
      · replace hf := rn_f hf hc10
        refine lv_iconst (v := -1) hx hb dX3_readNumber_64 (by decide) ?_
        cases hf
        exact hE _ _ _ _ hW rfl dX3_readNumber_65
      · replace hf := rn_t hf hc10
        refine lv_aload_n hx hb dX3_readNumber_57 rfl (lv_at hl 0 rfl) ?_
        refine rr_get X hW 0 5 gf_X3_28 rfl rfl dX3_readNumber_58 ?_
        refine lv_goto (tgt := 65) hx hb dX3_readNumber_61 (by decide) ?_
        cases hf
        exact hE _ _ _ _ hW rfl dX3_readNumber_65
    replace hf := ht3
    clear ht3
    refine lv_icmp_eq (tgt := 29) hx hb dX3_readNumber_18 (by decide) (fun hc4 => ?_) (fun hc4 => ?_)
    · replace hf := rn_t hf hc4
      refine lv_aload_n hx hb dX3_readNumber_29 rfl (lv_at hl 0 rfl) ?_
      refine rr_get X hW 0 5 gf_X3_28 rfl rfl dX3_readNumber_30 ?_
      refine lv_iload_n hx hb dX3_readNumber_33 rfl (lv_at hl 1 rfl) ?_
      refine lv_icmp_lt (tgt := 45) hx hb dX3_readNumber_34 (by decide) (fun hc5 => ?_) (fun hc5 => ?_)
      · replace hf := rn_t hf hc5
        refine lv_aload_n hx hb dX3_readNumber_45 rfl (lv_at hl 0 rfl) ?_
        refine lv_iconst (v := 2) hx hb dX3_readNumber_46 (by decide) ?_
        obtain ⟨t6, ht6, hf⟩ := rn_bind hf
        refine rr_callV (As := [.int (2 : Int32)]) (rest := []) X hW (kX3_fail l D k z a_this a_this_text c_length t2.1 t2.2.1 t2.2.2.1 t2.2.2.2 c_error c_errorStart (2 : Int32) ht6) gm_X3_fail gl_X3_44 [0] [1] [(a_this, .inr (3, [.ref a_this_text, .int c_length, .int t2.1, .int t2.2.1, .int t2.2.2.1, .int t2.2.2.2, .int t6.1, .int t6.2])), (a_this_text, .inl (k 2, 700, .inl c_text))] rfl rfl rfl rfl ⟨rfl, rfl, rn_Bw (wr := [(a_this_text, .inl (k 2, 700, .inl c_text))]) rfl rfl, rfl, rfl⟩ (rn_r hR rfl) rn_cs hl.1 rfl (Nat.le_of_ble_eq_true rfl) dX3_readNumber_47 (fun H locs hW => ?_)
        cases hf
        exact jnt3 _ _ _ hW (lv_sub hl [0] rfl)
      · replace hf := rn_f hf hc5
        refine lv_aload_n hx hb dX3_readNumber_37 rfl (lv_at hl 0 rfl) ?_
        refine rr_get X hW 0 5 gf_X3_28 rfl rfl dX3_readNumber_38 ?_
        refine lv_iload_n hx hb dX3_readNumber_41 rfl (lv_at hl 2 rfl) ?_
        refine lv_icmp_le (tgt := 50) hx hb dX3_readNumber_42 (by decide) (fun hc7 => ?_) (fun hc7 => ?_)
        · replace hf := rn_t hf hc7
          cases hf
          exact jnt3 _ _ _ hW (lv_sub hl [0] rfl)
        · replace hf := rn_f hf hc7
          refine lv_aload_n hx hb dX3_readNumber_45 rfl (lv_at hl 0 rfl) ?_
          refine lv_iconst (v := 2) hx hb dX3_readNumber_46 (by decide) ?_
          obtain ⟨t8, ht8, hf⟩ := rn_bind hf
          refine rr_callV (As := [.int (2 : Int32)]) (rest := []) X hW (kX3_fail l D k z a_this a_this_text c_length t2.1 t2.2.1 t2.2.2.1 t2.2.2.2 c_error c_errorStart (2 : Int32) ht8) gm_X3_fail gl_X3_44 [0] [1] [(a_this, .inr (3, [.ref a_this_text, .int c_length, .int t2.1, .int t2.2.1, .int t2.2.2.1, .int t2.2.2.2, .int t8.1, .int t8.2])), (a_this_text, .inl (k 2, 700, .inl c_text))] rfl rfl rfl rfl ⟨rfl, rfl, rn_Bw (wr := [(a_this_text, .inl (k 2, 700, .inl c_text))]) rfl rfl, rfl, rfl⟩ (rn_r hR rfl) rn_cs hl.1 rfl (Nat.le_of_ble_eq_true rfl) dX3_readNumber_47 (fun H locs hW => ?_)
          cases hf
          exact jnt3 _ _ _ hW (lv_sub hl [0] rfl)
    · replace hf := rn_f hf hc4
      refine lv_aload_n hx hb dX3_readNumber_21 rfl (lv_at hl 0 rfl) ?_
      refine lv_iconst (v := 1) hx hb dX3_readNumber_22 (by decide) ?_
      obtain ⟨t9, ht9, hf⟩ := rn_bind hf
      refine rr_callV (As := [.int (1 : Int32)]) (rest := []) X hW (kX3_fail l D k z a_this a_this_text c_length t2.1 t2.2.1 t2.2.2.1 t2.2.2.2 c_error c_errorStart (1 : Int32) ht9) gm_X3_fail gl_X3_44 [0] [1] [(a_this, .inr (3, [.ref a_this_text, .int c_length, .int t2.1, .int t2.2.1, .int t2.2.2.1, .int t2.2.2.2, .int t9.1, .int t9.2])), (a_this_text, .inl (k 2, 700, .inl c_text))] rfl rfl rfl rfl ⟨rfl, rfl, rn_Bw (wr := [(a_this_text, .inl (k 2, 700, .inl c_text))]) rfl rfl, rfl, rfl⟩ (rn_r hR rfl) rn_cs hl.1 rfl (Nat.le_of_ble_eq_true rfl) dX3_readNumber_23 (fun H locs hW => ?_)
      refine lv_goto (tgt := 50) hx hb dX3_readNumber_26 (by decide) ?_
      cases hf
      exact jnt3 _ _ _ hW (lv_sub hl [0] rfl)
  · replace hf := rn_f hf hc1
    refine lv_iconst (v := -1) hx hb dX3_readNumber_7 (by decide) ?_
    cases hf
    exact hE _ _ _ _ hW rfl dX3_readNumber_8
def fX3_readStation (N : Nat) (c_length : Int32) (c_kind : Int32) (c_start : Int32) (c_end : Int32) (c_value : Int32) (c_error : Int32) (c_errorStart : Int32) (c_text : Nat → Int32) (c_p1_stationCount : Int32) (c_p1_stations : Nat → Int32) : Option (Int32 × Int32 × Int32 × Int32 × Int32 × Int32 × Int32 × (Nat → Int32)) :=
  (fX2_stationCount c_p1_stationCount).bind fun t1 =>
  Option.bind (
    if t1 < (8 : Int32) then
      some (c_error, c_errorStart)
    else
    (fX3_fail c_start c_error c_errorStart (3 : Int32)).bind fun t4 =>
    some (t4.1, t4.2)
    ) fun t2 =>
  (fX3_readNumber N c_length c_kind c_start c_end c_value t2.1 t2.2 c_text (0 : Int32) (23 : Int32)).bind fun t5 =>
  (fX3_readNumber N c_length t5.2.1 t5.2.2.1 t5.2.2.2.1 t5.2.2.2.2.1 t5.2.2.2.2.2.1 t5.2.2.2.2.2.2 c_text (0 : Int32) (23 : Int32)).bind fun t6 =>
  (fX3_readNumber N c_length t6.2.1 t6.2.2.1 t6.2.2.2.1 t6.2.2.2.2.1 t6.2.2.2.2.2.1 t6.2.2.2.2.2.2 c_text (1 : Int32) (9 : Int32)).bind fun t7 =>
  if t7.2.2.2.2.2.1 = 0 then
    (fX2_newStation c_p1_stationCount c_p1_stations t5.1 t6.1 t7.1).bind fun t9 =>
    some (t7.2.1, t7.2.2.1, t7.2.2.2.1, t7.2.2.2.2.1, t7.2.2.2.2.2.1, t7.2.2.2.2.2.2, t9.2.1, t9.2.2)
  else
  some (t7.2.1, t7.2.2.1, t7.2.2.2.1, t7.2.2.2.2.1, t7.2.2.2.2.2.1, t7.2.2.2.2.2.2, c_p1_stationCount, c_p1_stations)
set_option maxHeartbeats 4000000 in
set_option maxRecDepth 20000 in
theorem kX3_readStation (l : Launch) (D : va_G) (k : Nat → ClassId) (z : (Nat → Nat) × (Nat → Nat)) (N : Nat) (a_this : Nat) (a_p1 : Nat) (a_this_text : Nat) (a_p1_stations : Nat) (a_p1_links : Nat) (a_p1_messages : Nat) (a_p1_copies : Nat) (a_p1_log : Nat) (a_p1_ways : Nat) (a_p1_frames : Nat) (a_p1_stations_cells : Nat) (c_length : Int32) (c_kind : Int32) (c_start : Int32) (c_end : Int32) (c_value : Int32) (c_error : Int32) (c_errorStart : Int32) (c_text : Nat → Int32) (c_p1_stationCount : Int32) (c_p1_linkCount : Int32) (c_p1_messageCount : Int32) (c_p1_time : Int32) (c_p1_life : Int32) (c_p1_tries : Int32) (c_p1_x : Int32) (c_p1_stations : Nat → Int32) {u : Int32 × Int32 × Int32 × Int32 × Int32 × Int32 × Int32 × (Nat → Int32)} (hf : fX3_readStation N c_length c_kind c_start c_end c_value c_error c_errorStart c_text c_p1_stationCount c_p1_stations = some u) : rn_KV l D k z yX3_readStation cX3_readStation 5 3 63 [.ref a_this, .ref a_p1] [(a_this, .inr (3, [.ref a_this_text, .int c_length, .int c_kind, .int c_start, .int c_end, .int c_value, .int c_error, .int c_errorStart])), (a_this_text, .inl (k 2, 700, .inl c_text)), (a_p1, .inr (2, [.ref a_p1_stations, .ref a_p1_links, .ref a_p1_messages, .ref a_p1_copies, .ref a_p1_log, .ref a_p1_ways, .ref a_p1_frames, .int c_p1_stationCount, .int c_p1_linkCount, .int c_p1_messageCount, .int c_p1_time, .int c_p1_life, .int c_p1_tries, .int c_p1_x])), (a_p1_stations, .inr (4, [.int (8 : Int32), .int (10 : Int32), .ref a_p1_stations_cells])), (a_p1_stations_cells, .inl (k 0, 80, .inl c_p1_stations))] [(a_this, .inr (3, [.ref a_this_text, .int c_length, .int u.1, .int u.2.1, .int u.2.2.1, .int u.2.2.2.1, .int u.2.2.2.2.1, .int u.2.2.2.2.2.1])), (a_this_text, .inl (k 2, 700, .inl c_text)), (a_p1, .inr (2, [.ref a_p1_stations, .ref a_p1_links, .ref a_p1_messages, .ref a_p1_copies, .ref a_p1_log, .ref a_p1_ways, .ref a_p1_frames, .int u.2.2.2.2.2.2.1, .int c_p1_linkCount, .int c_p1_messageCount, .int c_p1_time, .int c_p1_life, .int c_p1_tries, .int c_p1_x])), (a_p1_stations, .inr (4, [.int (8 : Int32), .int (10 : Int32), .ref a_p1_stations_cells])), (a_p1_stations_cells, .inl (k 0, 80, .inl u.2.2.2.2.2.2.2))] := by
  refine rn_KV.go (LOC := [(0, .ref a_this), (1, .ref a_p1)]) rfl (by decide) (Nat.le_of_ble_eq_true rfl) rfl ?_
  intro p e s m args below meth c A ls R Q X hR hE hW hl
  have hx := X.1.1
  have hb := X.1.2.1
  unfold fX3_readStation at hf
  obtain ⟨u0, u1, u2, u3, u4, u5, u6, u7⟩ := u
  dsimp only at hE
  refine lv_aload_n hx hb dX3_readStation_0 rfl (lv_at hl 1 rfl) ?_
  obtain ⟨t1, ht1, hf⟩ := rn_bind hf
  refine rr_callI (As := []) (rest := []) X hW (kX2_stationCount l D k z a_p1 a_p1_stations a_p1_links a_p1_messages a_p1_copies a_p1_log a_p1_ways a_p1_frames c_p1_stationCount c_p1_linkCount c_p1_messageCount c_p1_time c_p1_life c_p1_tries c_p1_x ht1) gm_X2_stationCount gl_X3_92 [2] [0, 1, 3, 4] [(a_this, .inr (3, [.ref a_this_text, .int c_length, .int c_kind, .int c_start, .int c_end, .int c_value, .int c_error, .int c_errorStart])), (a_this_text, .inl (k 2, 700, .inl c_text)), (a_p1, .inr (2, [.ref a_p1_stations, .ref a_p1_links, .ref a_p1_messages, .ref a_p1_copies, .ref a_p1_log, .ref a_p1_ways, .ref a_p1_frames, .int c_p1_stationCount, .int c_p1_linkCount, .int c_p1_messageCount, .int c_p1_time, .int c_p1_life, .int c_p1_tries, .int c_p1_x])), (a_p1_stations, .inr (4, [.int (8 : Int32), .int (10 : Int32), .ref a_p1_stations_cells])), (a_p1_stations_cells, .inl (k 0, 80, .inl c_p1_stations))] rfl rfl rfl rfl ⟨rfl, rfl, rn_Bw (wr := [(a_this, .inr (3, [.ref a_this_text, .int c_length, .int c_kind, .int c_start, .int c_end, .int c_value, .int c_error, .int c_errorStart])), (a_this_text, .inl (k 2, 700, .inl c_text)), (a_p1_stations, .inr (4, [.int (8 : Int32), .int (10 : Int32), .ref a_p1_stations_cells])), (a_p1_stations_cells, .inl (k 0, 80, .inl c_p1_stations))]) rfl rfl, rfl, rfl⟩ (rn_r hR rfl) rn_cs hl.1 rfl (Nat.le_of_ble_eq_true rfl) dX3_readStation_1 (fun hn1 H locs hW => ?_)
  refine lv_bipush (v := 8) hx hb dX3_readStation_4 (by decide) ?_
  obtain ⟨t2, ht2, hf⟩ := rn_bind hf
  have jnt2 : ∀ (H : Heap) (locs : List Loc) (ls : Array Slot), rn_W D A s [(a_this, .inr (3, [.ref a_this_text, .int c_length, .int c_kind, .int c_start, .int c_end, .int c_value, .int t2.1, .int t2.2])), (a_this_text, .inl (k 2, 700, .inl c_text)), (a_p1, .inr (2, [.ref a_p1_stations, .ref a_p1_links, .ref a_p1_messages, .ref a_p1_copies, .ref a_p1_log, .ref a_p1_ways, .ref a_p1_frames, .int c_p1_stationCount, .int c_p1_linkCount, .int c_p1_messageCount, .int c_p1_time, .int c_p1_life, .int c_p1_tries, .int c_p1_x])), (a_p1_stations, .inr (4, [.int (8 : Int32), .int (10 : Int32), .ref a_p1_stations_cells])), (a_p1_stations_cells, .inl (k 0, 80, .inl c_p1_stations))] H locs → lv_has ls 5 [(0, .ref a_this), (1, .ref a_p1)] → W p l e R s m args below meth c H locs 0 0 Q (F0 m 14 ls []) := by
    intro H locs ls hW hl
    refine lv_aload_n hx hb dX3_readStation_14 rfl (lv_at hl 0 rfl) ?_
    refine lv_iconst (v := 0) hx hb dX3_readStation_15 (by decide) ?_
    refine lv_bipush (v := 23) hx hb dX3_readStation_16 (by decide) ?_
    obtain ⟨t5, ht5, hf⟩ := rn_bind hf
    refine rr_callI (As := [.int (0 : Int32), .int (23 : Int32)]) (rest := []) X hW (kX3_readNumber l D k z N a_this a_this_text c_length c_kind c_start c_end c_value t2.1 t2.2 c_text (0 : Int32) (23 : Int32) ht5) gm_X3_readNumber gl_X3_69 [0, 1] [2, 3, 4] [(a_this, .inr (3, [.ref a_this_text, .int c_length, .int t5.2.1, .int t5.2.2.1, .int t5.2.2.2.1, .int t5.2.2.2.2.1, .int t5.2.2.2.2.2.1, .int t5.2.2.2.2.2.2])), (a_this_text, .inl (k 2, 700, .inl c_text)), (a_p1, .inr (2, [.ref a_p1_stations, .ref a_p1_links, .ref a_p1_messages, .ref a_p1_copies, .ref a_p1_log, .ref a_p1_ways, .ref a_p1_frames, .int c_p1_stationCount, .int c_p1_linkCount, .int c_p1_messageCount, .int c_p1_time, .int c_p1_life, .int c_p1_tries, .int c_p1_x])), (a_p1_stations, .inr (4, [.int (8 : Int32), .int (10 : Int32), .ref a_p1_stations_cells])), (a_p1_stations_cells, .inl (k 0, 80, .inl c_p1_stations))] rfl rfl rfl rfl ⟨rfl, rfl, rn_Bw (wr := [(a_p1, .inr (2, [.ref a_p1_stations, .ref a_p1_links, .ref a_p1_messages, .ref a_p1_copies, .ref a_p1_log, .ref a_p1_ways, .ref a_p1_frames, .int c_p1_stationCount, .int c_p1_linkCount, .int c_p1_messageCount, .int c_p1_time, .int c_p1_life, .int c_p1_tries, .int c_p1_x])), (a_p1_stations, .inr (4, [.int (8 : Int32), .int (10 : Int32), .ref a_p1_stations_cells])), (a_p1_stations_cells, .inl (k 0, 80, .inl c_p1_stations))]) rfl rfl, rfl, rfl⟩ (rn_r hR rfl) rn_cs hl.1 rfl (Nat.le_of_ble_eq_true rfl) dX3_readStation_18 (fun hn5 H locs hW => ?_)
    refine lv_istore_n (lv' := [(2, .int t5.1), (0, .ref a_this), (1, .ref a_p1)]) hx hb dX3_readStation_21 rfl hl (Nat.le_of_ble_eq_true rfl) rfl (fun ls hl => ?_)
    refine lv_aload_n hx hb dX3_readStation_22 rfl (lv_at hl 1 rfl) ?_
    refine lv_iconst (v := 0) hx hb dX3_readStation_23 (by decide) ?_
    refine lv_bipush (v := 23) hx hb dX3_readStation_24 (by decide) ?_
    obtain ⟨t6, ht6, hf⟩ := rn_bind hf
    refine rr_callI (As := [.int (0 : Int32), .int (23 : Int32)]) (rest := []) X hW (kX3_readNumber l D k z N a_this a_this_text c_length t5.2.1 t5.2.2.1 t5.2.2.2.1 t5.2.2.2.2.1 t5.2.2.2.2.2.1 t5.2.2.2.2.2.2 c_text (0 : Int32) (23 : Int32) ht6) gm_X3_readNumber gl_X3_69 [0, 1] [2, 3, 4] [(a_this, .inr (3, [.ref a_this_text, .int c_length, .int t6.2.1, .int t6.2.2.1, .int t6.2.2.2.1, .int t6.2.2.2.2.1, .int t6.2.2.2.2.2.1, .int t6.2.2.2.2.2.2])), (a_this_text, .inl (k 2, 700, .inl c_text)), (a_p1, .inr (2, [.ref a_p1_stations, .ref a_p1_links, .ref a_p1_messages, .ref a_p1_copies, .ref a_p1_log, .ref a_p1_ways, .ref a_p1_frames, .int c_p1_stationCount, .int c_p1_linkCount, .int c_p1_messageCount, .int c_p1_time, .int c_p1_life, .int c_p1_tries, .int c_p1_x])), (a_p1_stations, .inr (4, [.int (8 : Int32), .int (10 : Int32), .ref a_p1_stations_cells])), (a_p1_stations_cells, .inl (k 0, 80, .inl c_p1_stations))] rfl rfl rfl rfl ⟨rfl, rfl, rn_Bw (wr := [(a_p1, .inr (2, [.ref a_p1_stations, .ref a_p1_links, .ref a_p1_messages, .ref a_p1_copies, .ref a_p1_log, .ref a_p1_ways, .ref a_p1_frames, .int c_p1_stationCount, .int c_p1_linkCount, .int c_p1_messageCount, .int c_p1_time, .int c_p1_life, .int c_p1_tries, .int c_p1_x])), (a_p1_stations, .inr (4, [.int (8 : Int32), .int (10 : Int32), .ref a_p1_stations_cells])), (a_p1_stations_cells, .inl (k 0, 80, .inl c_p1_stations))]) rfl rfl, rfl, rfl⟩ (rn_r hR rfl) rn_cs hl.1 rfl (Nat.le_of_ble_eq_true rfl) dX3_readStation_26 (fun hn6 H locs hW => ?_)
    refine lv_istore_n (lv' := [(3, .int t6.1), (2, .int t5.1), (0, .ref a_this), (1, .ref a_p1)]) hx hb dX3_readStation_29 rfl hl (Nat.le_of_ble_eq_true rfl) rfl (fun ls hl => ?_)
    refine lv_aload_n hx hb dX3_readStation_30 rfl (lv_at hl 2 rfl) ?_
    refine lv_iconst (v := 1) hx hb dX3_readStation_31 (by decide) ?_
    refine lv_bipush (v := 9) hx hb dX3_readStation_32 (by decide) ?_
    obtain ⟨t7, ht7, hf⟩ := rn_bind hf
    refine rr_callI (As := [.int (1 : Int32), .int (9 : Int32)]) (rest := []) X hW (kX3_readNumber l D k z N a_this a_this_text c_length t6.2.1 t6.2.2.1 t6.2.2.2.1 t6.2.2.2.2.1 t6.2.2.2.2.2.1 t6.2.2.2.2.2.2 c_text (1 : Int32) (9 : Int32) ht7) gm_X3_readNumber gl_X3_69 [0, 1] [2, 3, 4] [(a_this, .inr (3, [.ref a_this_text, .int c_length, .int t7.2.1, .int t7.2.2.1, .int t7.2.2.2.1, .int t7.2.2.2.2.1, .int t7.2.2.2.2.2.1, .int t7.2.2.2.2.2.2])), (a_this_text, .inl (k 2, 700, .inl c_text)), (a_p1, .inr (2, [.ref a_p1_stations, .ref a_p1_links, .ref a_p1_messages, .ref a_p1_copies, .ref a_p1_log, .ref a_p1_ways, .ref a_p1_frames, .int c_p1_stationCount, .int c_p1_linkCount, .int c_p1_messageCount, .int c_p1_time, .int c_p1_life, .int c_p1_tries, .int c_p1_x])), (a_p1_stations, .inr (4, [.int (8 : Int32), .int (10 : Int32), .ref a_p1_stations_cells])), (a_p1_stations_cells, .inl (k 0, 80, .inl c_p1_stations))] rfl rfl rfl rfl ⟨rfl, rfl, rn_Bw (wr := [(a_p1, .inr (2, [.ref a_p1_stations, .ref a_p1_links, .ref a_p1_messages, .ref a_p1_copies, .ref a_p1_log, .ref a_p1_ways, .ref a_p1_frames, .int c_p1_stationCount, .int c_p1_linkCount, .int c_p1_messageCount, .int c_p1_time, .int c_p1_life, .int c_p1_tries, .int c_p1_x])), (a_p1_stations, .inr (4, [.int (8 : Int32), .int (10 : Int32), .ref a_p1_stations_cells])), (a_p1_stations_cells, .inl (k 0, 80, .inl c_p1_stations))]) rfl rfl, rfl, rfl⟩ (rn_r hR rfl) rn_cs hl.1 rfl (Nat.le_of_ble_eq_true rfl) dX3_readStation_34 (fun hn7 H locs hW => ?_)
    refine lv_istore (lv' := [(4, .int t7.1), (3, .int t6.1), (2, .int t5.1), (0, .ref a_this), (1, .ref a_p1)]) hx hb dX3_readStation_37 hl (Nat.le_of_ble_eq_true rfl) rfl (fun ls hl => ?_)
    refine lv_aload_n hx hb dX3_readStation_39 rfl (lv_at hl 3 rfl) ?_
    refine rr_get X hW 0 6 gf_X3_31 rfl rfl dX3_readStation_40 ?_
    refine lv_if_ne (tgt := 55) hx hb dX3_readStation_43 (by decide) (fun hc8 => ?_) (fun hc8 => ?_)
    · replace hf := rn_f hf hc8
      cases hf
      exact hE _ _ _ _ hW dX3_readStation_55
    · replace hf := rn_t hf hc8
      refine lv_aload_n hx hb dX3_readStation_46 rfl (lv_at hl 4 rfl) ?_
      refine lv_iload_n hx hb dX3_readStation_47 rfl (lv_at hl 2 rfl) ?_
      refine lv_iload_n hx hb dX3_readStation_48 rfl (lv_at hl 1 rfl) ?_
      refine lv_iload hx hb dX3_readStation_49 (lv_at hl 0 rfl) ?_
      obtain ⟨t9, ht9, hf⟩ := rn_bind hf
      refine rr_callI (As := [.int t5.1, .int t6.1, .int t7.1]) (rest := []) X hW (kX2_newStation l D k z a_p1 a_p1_stations a_p1_links a_p1_messages a_p1_copies a_p1_log a_p1_ways a_p1_frames a_p1_stations_cells c_p1_stationCount c_p1_linkCount c_p1_messageCount c_p1_time c_p1_life c_p1_tries c_p1_x c_p1_stations t5.1 t6.1 t7.1 ht9) gm_X2_newStation gl_X3_96 [2, 3, 4] [0, 1] [(a_this, .inr (3, [.ref a_this_text, .int c_length, .int t7.2.1, .int t7.2.2.1, .int t7.2.2.2.1, .int t7.2.2.2.2.1, .int t7.2.2.2.2.2.1, .int t7.2.2.2.2.2.2])), (a_this_text, .inl (k 2, 700, .inl c_text)), (a_p1, .inr (2, [.ref a_p1_stations, .ref a_p1_links, .ref a_p1_messages, .ref a_p1_copies, .ref a_p1_log, .ref a_p1_ways, .ref a_p1_frames, .int t9.2.1, .int c_p1_linkCount, .int c_p1_messageCount, .int c_p1_time, .int c_p1_life, .int c_p1_tries, .int c_p1_x])), (a_p1_stations, .inr (4, [.int (8 : Int32), .int (10 : Int32), .ref a_p1_stations_cells])), (a_p1_stations_cells, .inl (k 0, 80, .inl t9.2.2))] rfl rfl rfl rfl ⟨rfl, rfl, rn_Bw (wr := [(a_this, .inr (3, [.ref a_this_text, .int c_length, .int t7.2.1, .int t7.2.2.1, .int t7.2.2.2.1, .int t7.2.2.2.2.1, .int t7.2.2.2.2.2.1, .int t7.2.2.2.2.2.2])), (a_this_text, .inl (k 2, 700, .inl c_text))]) rfl rfl, rfl, rfl⟩ (rn_r hR rfl) rn_cs hl.1 rfl (Nat.le_of_ble_eq_true rfl) dX3_readStation_51 (fun hn9 H locs hW => ?_)
      refine lv_pop hx hb dX3_readStation_54 rfl ?_
      cases hf
      exact hE _ _ _ _ hW dX3_readStation_55
  replace hf := ht2
  clear ht2
  refine lv_icmp_lt (tgt := 14) hx hb dX3_readStation_6 (by decide) (fun hc3 => ?_) (fun hc3 => ?_)
  · replace hf := rn_t hf hc3
    cases hf
    exact jnt2 _ _ _ hW (lv_sub hl [0, 1] rfl)
  · replace hf := rn_f hf hc3
    refine lv_aload_n hx hb dX3_readStation_9 rfl (lv_at hl 0 rfl) ?_
    refine lv_iconst (v := 3) hx hb dX3_readStation_10 (by decide) ?_
    obtain ⟨t4, ht4, hf⟩ := rn_bind hf
    refine rr_callV (As := [.int (3 : Int32)]) (rest := []) X hW (kX3_fail l D k z a_this a_this_text c_length c_kind c_start c_end c_value c_error c_errorStart (3 : Int32) ht4) gm_X3_fail gl_X3_44 [0] [1, 2, 3, 4] [(a_this, .inr (3, [.ref a_this_text, .int c_length, .int c_kind, .int c_start, .int c_end, .int c_value, .int t4.1, .int t4.2])), (a_this_text, .inl (k 2, 700, .inl c_text)), (a_p1, .inr (2, [.ref a_p1_stations, .ref a_p1_links, .ref a_p1_messages, .ref a_p1_copies, .ref a_p1_log, .ref a_p1_ways, .ref a_p1_frames, .int c_p1_stationCount, .int c_p1_linkCount, .int c_p1_messageCount, .int c_p1_time, .int c_p1_life, .int c_p1_tries, .int c_p1_x])), (a_p1_stations, .inr (4, [.int (8 : Int32), .int (10 : Int32), .ref a_p1_stations_cells])), (a_p1_stations_cells, .inl (k 0, 80, .inl c_p1_stations))] rfl rfl rfl rfl ⟨rfl, rfl, rn_Bw (wr := [(a_this_text, .inl (k 2, 700, .inl c_text)), (a_p1, .inr (2, [.ref a_p1_stations, .ref a_p1_links, .ref a_p1_messages, .ref a_p1_copies, .ref a_p1_log, .ref a_p1_ways, .ref a_p1_frames, .int c_p1_stationCount, .int c_p1_linkCount, .int c_p1_messageCount, .int c_p1_time, .int c_p1_life, .int c_p1_tries, .int c_p1_x])), (a_p1_stations, .inr (4, [.int (8 : Int32), .int (10 : Int32), .ref a_p1_stations_cells])), (a_p1_stations_cells, .inl (k 0, 80, .inl c_p1_stations))]) rfl rfl, rfl, rfl⟩ (rn_r hR rfl) rn_cs hl.1 rfl (Nat.le_of_ble_eq_true rfl) dX3_readStation_11 (fun H locs hW => ?_)
    cases hf
    exact jnt2 _ _ _ hW (lv_sub hl [0, 1] rfl)
def fX3_readLink (N : Nat) (c_length : Int32) (c_kind : Int32) (c_start : Int32) (c_end : Int32) (c_value : Int32) (c_error : Int32) (c_errorStart : Int32) (c_text : Nat → Int32) (c_p1_stationCount : Int32) (c_p1_linkCount : Int32) (c_p1_links : Nat → Int32) : Option (Int32 × Int32 × Int32 × Int32 × Int32 × Int32 × Int32 × (Nat → Int32)) :=
  (fX2_linkCount c_p1_linkCount).bind fun t1 =>
  Option.bind (
    if t1 < (16 : Int32) then
      some (c_error, c_errorStart)
    else
    (fX3_fail c_start c_error c_errorStart (3 : Int32)).bind fun t4 =>
    some (t4.1, t4.2)
    ) fun t2 =>
  (fX2_stationCount c_p1_stationCount).bind fun t5 =>
  (fX3_readNumber N c_length c_kind c_start c_end c_value t2.1 t2.2 c_text (0 : Int32) (t5 - (1 : Int32))).bind fun t6 =>
  (fX2_stationCount c_p1_stationCount).bind fun t7 =>
  (fX3_readNumber N c_length t6.2.1 t6.2.2.1 t6.2.2.2.1 t6.2.2.2.2.1 t6.2.2.2.2.2.1 t6.2.2.2.2.2.2 c_text (0 : Int32) (t7 - (1 : Int32))).bind fun t8 =>
  Option.bind (
    if t8.1 = t6.1 then
      (fX3_fail t8.2.2.1 t8.2.2.2.2.2.1 t8.2.2.2.2.2.2 (4 : Int32)).bind fun t11 =>
      some (t11.1, t11.2)
    else
    (fX2_linkBetween N c_p1_linkCount c_p1_links t6.1 t8.1).bind fun t12 =>
    if t12 = (-1 : Int32) then
      some (t8.2.2.2.2.2.1, t8.2.2.2.2.2.2)
    else
    (fX3_fail t8.2.2.1 t8.2.2.2.2.2.1 t8.2.2.2.2.2.2 (4 : Int32)).bind fun t14 =>
    some (t14.1, t14.2)
    ) fun t9 =>
  (fX3_readNumber N c_length t8.2.1 t8.2.2.1 t8.2.2.2.1 t8.2.2.2.2.1 t9.1 t9.2 c_text (0 : Int32) (23 : Int32)).bind fun t15 =>
  (fX3_readNumber N c_length t15.2.1 t15.2.2.1 t15.2.2.2.1 t15.2.2.2.2.1 t15.2.2.2.2.2.1 t15.2.2.2.2.2.2 c_text (0 : Int32) (23 : Int32)).bind fun t16 =>
  (fX3_readNumber N c_length t16.2.1 t16.2.2.1 t16.2.2.2.1 t16.2.2.2.2.1 t16.2.2.2.2.2.1 t16.2.2.2.2.2.2 c_text (0 : Int32) (100 : Int32)).bind fun t17 =>
  if t17.2.2.2.2.2.1 = 0 then
    (fX2_newLink c_p1_linkCount c_p1_links t6.1 t8.1 t15.1 t16.1 t17.1).bind fun t19 =>
    some (t17.2.1, t17.2.2.1, t17.2.2.2.1, t17.2.2.2.2.1, t17.2.2.2.2.2.1, t17.2.2.2.2.2.2, t19.2.1, t19.2.2)
  else
  some (t17.2.1, t17.2.2.1, t17.2.2.2.1, t17.2.2.2.2.1, t17.2.2.2.2.2.1, t17.2.2.2.2.2.2, c_p1_linkCount, c_p1_links)
set_option maxHeartbeats 4000000 in
set_option maxRecDepth 20000 in
theorem kX3_readLink (l : Launch) (D : va_G) (k : Nat → ClassId) (z : (Nat → Nat) × (Nat → Nat)) (N : Nat) (a_this : Nat) (a_p1 : Nat) (a_this_text : Nat) (a_p1_stations : Nat) (a_p1_links : Nat) (a_p1_messages : Nat) (a_p1_copies : Nat) (a_p1_log : Nat) (a_p1_ways : Nat) (a_p1_frames : Nat) (a_p1_links_cells : Nat) (c_length : Int32) (c_kind : Int32) (c_start : Int32) (c_end : Int32) (c_value : Int32) (c_error : Int32) (c_errorStart : Int32) (c_text : Nat → Int32) (c_p1_stationCount : Int32) (c_p1_linkCount : Int32) (c_p1_messageCount : Int32) (c_p1_time : Int32) (c_p1_life : Int32) (c_p1_tries : Int32) (c_p1_x : Int32) (c_p1_links : Nat → Int32) {u : Int32 × Int32 × Int32 × Int32 × Int32 × Int32 × Int32 × (Nat → Int32)} (hf : fX3_readLink N c_length c_kind c_start c_end c_value c_error c_errorStart c_text c_p1_stationCount c_p1_linkCount c_p1_links = some u) : rn_KV l D k z yX3_readLink cX3_readLink 7 3 63 [.ref a_this, .ref a_p1] [(a_this, .inr (3, [.ref a_this_text, .int c_length, .int c_kind, .int c_start, .int c_end, .int c_value, .int c_error, .int c_errorStart])), (a_this_text, .inl (k 2, 700, .inl c_text)), (a_p1, .inr (2, [.ref a_p1_stations, .ref a_p1_links, .ref a_p1_messages, .ref a_p1_copies, .ref a_p1_log, .ref a_p1_ways, .ref a_p1_frames, .int c_p1_stationCount, .int c_p1_linkCount, .int c_p1_messageCount, .int c_p1_time, .int c_p1_life, .int c_p1_tries, .int c_p1_x])), (a_p1_links, .inr (4, [.int (16 : Int32), .int (9 : Int32), .ref a_p1_links_cells])), (a_p1_links_cells, .inl (k 0, 144, .inl c_p1_links))] [(a_this, .inr (3, [.ref a_this_text, .int c_length, .int u.1, .int u.2.1, .int u.2.2.1, .int u.2.2.2.1, .int u.2.2.2.2.1, .int u.2.2.2.2.2.1])), (a_this_text, .inl (k 2, 700, .inl c_text)), (a_p1, .inr (2, [.ref a_p1_stations, .ref a_p1_links, .ref a_p1_messages, .ref a_p1_copies, .ref a_p1_log, .ref a_p1_ways, .ref a_p1_frames, .int c_p1_stationCount, .int u.2.2.2.2.2.2.1, .int c_p1_messageCount, .int c_p1_time, .int c_p1_life, .int c_p1_tries, .int c_p1_x])), (a_p1_links, .inr (4, [.int (16 : Int32), .int (9 : Int32), .ref a_p1_links_cells])), (a_p1_links_cells, .inl (k 0, 144, .inl u.2.2.2.2.2.2.2))] := by
  refine rn_KV.go (LOC := [(0, .ref a_this), (1, .ref a_p1)]) rfl (by decide) (Nat.le_of_ble_eq_true rfl) rfl ?_
  intro p e s m args below meth c A ls R Q X hR hE hW hl
  have hx := X.1.1
  have hb := X.1.2.1
  unfold fX3_readLink at hf
  obtain ⟨u0, u1, u2, u3, u4, u5, u6, u7⟩ := u
  dsimp only at hE
  refine lv_aload_n hx hb dX3_readLink_0 rfl (lv_at hl 1 rfl) ?_
  obtain ⟨t1, ht1, hf⟩ := rn_bind hf
  refine rr_callI (As := []) (rest := []) X hW (kX2_linkCount l D k z a_p1 a_p1_stations a_p1_links a_p1_messages a_p1_copies a_p1_log a_p1_ways a_p1_frames c_p1_stationCount c_p1_linkCount c_p1_messageCount c_p1_time c_p1_life c_p1_tries c_p1_x ht1) gm_X2_linkCount gl_X3_100 [2] [0, 1, 3, 4] [(a_this, .inr (3, [.ref a_this_text, .int c_length, .int c_kind, .int c_start, .int c_end, .int c_value, .int c_error, .int c_errorStart])), (a_this_text, .inl (k 2, 700, .inl c_text)), (a_p1, .inr (2, [.ref a_p1_stations, .ref a_p1_links, .ref a_p1_messages, .ref a_p1_copies, .ref a_p1_log, .ref a_p1_ways, .ref a_p1_frames, .int c_p1_stationCount, .int c_p1_linkCount, .int c_p1_messageCount, .int c_p1_time, .int c_p1_life, .int c_p1_tries, .int c_p1_x])), (a_p1_links, .inr (4, [.int (16 : Int32), .int (9 : Int32), .ref a_p1_links_cells])), (a_p1_links_cells, .inl (k 0, 144, .inl c_p1_links))] rfl rfl rfl rfl ⟨rfl, rfl, rn_Bw (wr := [(a_this, .inr (3, [.ref a_this_text, .int c_length, .int c_kind, .int c_start, .int c_end, .int c_value, .int c_error, .int c_errorStart])), (a_this_text, .inl (k 2, 700, .inl c_text)), (a_p1_links, .inr (4, [.int (16 : Int32), .int (9 : Int32), .ref a_p1_links_cells])), (a_p1_links_cells, .inl (k 0, 144, .inl c_p1_links))]) rfl rfl, rfl, rfl⟩ (rn_r hR rfl) rn_cs hl.1 rfl (Nat.le_of_ble_eq_true rfl) dX3_readLink_1 (fun hn1 H locs hW => ?_)
  refine lv_bipush (v := 16) hx hb dX3_readLink_4 (by decide) ?_
  obtain ⟨t2, ht2, hf⟩ := rn_bind hf
  have jnt2 : ∀ (H : Heap) (locs : List Loc) (ls : Array Slot), rn_W D A s [(a_this, .inr (3, [.ref a_this_text, .int c_length, .int c_kind, .int c_start, .int c_end, .int c_value, .int t2.1, .int t2.2])), (a_this_text, .inl (k 2, 700, .inl c_text)), (a_p1, .inr (2, [.ref a_p1_stations, .ref a_p1_links, .ref a_p1_messages, .ref a_p1_copies, .ref a_p1_log, .ref a_p1_ways, .ref a_p1_frames, .int c_p1_stationCount, .int c_p1_linkCount, .int c_p1_messageCount, .int c_p1_time, .int c_p1_life, .int c_p1_tries, .int c_p1_x])), (a_p1_links, .inr (4, [.int (16 : Int32), .int (9 : Int32), .ref a_p1_links_cells])), (a_p1_links_cells, .inl (k 0, 144, .inl c_p1_links))] H locs → lv_has ls 7 [(0, .ref a_this), (1, .ref a_p1)] → W p l e R s m args below meth c H locs 0 0 Q (F0 m 14 ls []) := by
    intro H locs ls hW hl
    refine lv_aload_n hx hb dX3_readLink_14 rfl (lv_at hl 0 rfl) ?_
    refine lv_iconst (v := 0) hx hb dX3_readLink_15 (by decide) ?_
    refine lv_aload_n hx hb dX3_readLink_16 rfl (lv_at hl 1 rfl) ?_
    obtain ⟨t5, ht5, hf⟩ := rn_bind hf
    refine rr_callI (As := []) (rest := [.int (0 : Int32), .ref a_this]) X hW (kX2_stationCount l D k z a_p1 a_p1_stations a_p1_links a_p1_messages a_p1_copies a_p1_log a_p1_ways a_p1_frames c_p1_stationCount c_p1_linkCount c_p1_messageCount c_p1_time c_p1_life c_p1_tries c_p1_x ht5) gm_X2_stationCount gl_X3_92 [2] [0, 1, 3, 4] [(a_this, .inr (3, [.ref a_this_text, .int c_length, .int c_kind, .int c_start, .int c_end, .int c_value, .int t2.1, .int t2.2])), (a_this_text, .inl (k 2, 700, .inl c_text)), (a_p1, .inr (2, [.ref a_p1_stations, .ref a_p1_links, .ref a_p1_messages, .ref a_p1_copies, .ref a_p1_log, .ref a_p1_ways, .ref a_p1_frames, .int c_p1_stationCount, .int c_p1_linkCount, .int c_p1_messageCount, .int c_p1_time, .int c_p1_life, .int c_p1_tries, .int c_p1_x])), (a_p1_links, .inr (4, [.int (16 : Int32), .int (9 : Int32), .ref a_p1_links_cells])), (a_p1_links_cells, .inl (k 0, 144, .inl c_p1_links))] rfl rfl rfl rfl ⟨rfl, rfl, rn_Bw (wr := [(a_this, .inr (3, [.ref a_this_text, .int c_length, .int c_kind, .int c_start, .int c_end, .int c_value, .int t2.1, .int t2.2])), (a_this_text, .inl (k 2, 700, .inl c_text)), (a_p1_links, .inr (4, [.int (16 : Int32), .int (9 : Int32), .ref a_p1_links_cells])), (a_p1_links_cells, .inl (k 0, 144, .inl c_p1_links))]) rfl rfl, rfl, rfl⟩ (rn_r hR rfl) rn_cs hl.1 rfl (Nat.le_of_ble_eq_true rfl) dX3_readLink_17 (fun hn5 H locs hW => ?_)
    refine lv_iconst (v := 1) hx hb dX3_readLink_20 (by decide) ?_
    refine lv_isub hx hb dX3_readLink_21 ?_
    obtain ⟨t6, ht6, hf⟩ := rn_bind hf
    refine rr_callI (As := [.int (0 : Int32), .int (t5 - (1 : Int32))]) (rest := []) X hW (kX3_readNumber l D k z N a_this a_this_text c_length c_kind c_start c_end c_value t2.1 t2.2 c_text (0 : Int32) (t5 - (1 : Int32)) ht6) gm_X3_readNumber gl_X3_69 [0, 1] [2, 3, 4] [(a_this, .inr (3, [.ref a_this_text, .int c_length, .int t6.2.1, .int t6.2.2.1, .int t6.2.2.2.1, .int t6.2.2.2.2.1, .int t6.2.2.2.2.2.1, .int t6.2.2.2.2.2.2])), (a_this_text, .inl (k 2, 700, .inl c_text)), (a_p1, .inr (2, [.ref a_p1_stations, .ref a_p1_links, .ref a_p1_messages, .ref a_p1_copies, .ref a_p1_log, .ref a_p1_ways, .ref a_p1_frames, .int c_p1_stationCount, .int c_p1_linkCount, .int c_p1_messageCount, .int c_p1_time, .int c_p1_life, .int c_p1_tries, .int c_p1_x])), (a_p1_links, .inr (4, [.int (16 : Int32), .int (9 : Int32), .ref a_p1_links_cells])), (a_p1_links_cells, .inl (k 0, 144, .inl c_p1_links))] rfl rfl rfl rfl ⟨rfl, rfl, rn_Bw (wr := [(a_p1, .inr (2, [.ref a_p1_stations, .ref a_p1_links, .ref a_p1_messages, .ref a_p1_copies, .ref a_p1_log, .ref a_p1_ways, .ref a_p1_frames, .int c_p1_stationCount, .int c_p1_linkCount, .int c_p1_messageCount, .int c_p1_time, .int c_p1_life, .int c_p1_tries, .int c_p1_x])), (a_p1_links, .inr (4, [.int (16 : Int32), .int (9 : Int32), .ref a_p1_links_cells])), (a_p1_links_cells, .inl (k 0, 144, .inl c_p1_links))]) rfl rfl, rfl, rfl⟩ (rn_r hR rfl) rn_cs hl.1 rfl (Nat.le_of_ble_eq_true rfl) dX3_readLink_22 (fun hn6 H locs hW => ?_)
    refine lv_istore_n (lv' := [(2, .int t6.1), (0, .ref a_this), (1, .ref a_p1)]) hx hb dX3_readLink_25 rfl hl (Nat.le_of_ble_eq_true rfl) rfl (fun ls hl => ?_)
    refine lv_aload_n hx hb dX3_readLink_26 rfl (lv_at hl 1 rfl) ?_
    refine lv_iconst (v := 0) hx hb dX3_readLink_27 (by decide) ?_
    refine lv_aload_n hx hb dX3_readLink_28 rfl (lv_at hl 2 rfl) ?_
    obtain ⟨t7, ht7, hf⟩ := rn_bind hf
    refine rr_callI (As := []) (rest := [.int (0 : Int32), .ref a_this]) X hW (kX2_stationCount l D k z a_p1 a_p1_stations a_p1_links a_p1_messages a_p1_copies a_p1_log a_p1_ways a_p1_frames c_p1_stationCount c_p1_linkCount c_p1_messageCount c_p1_time c_p1_life c_p1_tries c_p1_x ht7) gm_X2_stationCount gl_X3_92 [2] [0, 1, 3, 4] [(a_this, .inr (3, [.ref a_this_text, .int c_length, .int t6.2.1, .int t6.2.2.1, .int t6.2.2.2.1, .int t6.2.2.2.2.1, .int t6.2.2.2.2.2.1, .int t6.2.2.2.2.2.2])), (a_this_text, .inl (k 2, 700, .inl c_text)), (a_p1, .inr (2, [.ref a_p1_stations, .ref a_p1_links, .ref a_p1_messages, .ref a_p1_copies, .ref a_p1_log, .ref a_p1_ways, .ref a_p1_frames, .int c_p1_stationCount, .int c_p1_linkCount, .int c_p1_messageCount, .int c_p1_time, .int c_p1_life, .int c_p1_tries, .int c_p1_x])), (a_p1_links, .inr (4, [.int (16 : Int32), .int (9 : Int32), .ref a_p1_links_cells])), (a_p1_links_cells, .inl (k 0, 144, .inl c_p1_links))] rfl rfl rfl rfl ⟨rfl, rfl, rn_Bw (wr := [(a_this, .inr (3, [.ref a_this_text, .int c_length, .int t6.2.1, .int t6.2.2.1, .int t6.2.2.2.1, .int t6.2.2.2.2.1, .int t6.2.2.2.2.2.1, .int t6.2.2.2.2.2.2])), (a_this_text, .inl (k 2, 700, .inl c_text)), (a_p1_links, .inr (4, [.int (16 : Int32), .int (9 : Int32), .ref a_p1_links_cells])), (a_p1_links_cells, .inl (k 0, 144, .inl c_p1_links))]) rfl rfl, rfl, rfl⟩ (rn_r hR rfl) rn_cs hl.1 rfl (Nat.le_of_ble_eq_true rfl) dX3_readLink_29 (fun hn7 H locs hW => ?_)
    refine lv_iconst (v := 1) hx hb dX3_readLink_32 (by decide) ?_
    refine lv_isub hx hb dX3_readLink_33 ?_
    obtain ⟨t8, ht8, hf⟩ := rn_bind hf
    refine rr_callI (As := [.int (0 : Int32), .int (t7 - (1 : Int32))]) (rest := []) X hW (kX3_readNumber l D k z N a_this a_this_text c_length t6.2.1 t6.2.2.1 t6.2.2.2.1 t6.2.2.2.2.1 t6.2.2.2.2.2.1 t6.2.2.2.2.2.2 c_text (0 : Int32) (t7 - (1 : Int32)) ht8) gm_X3_readNumber gl_X3_69 [0, 1] [2, 3, 4] [(a_this, .inr (3, [.ref a_this_text, .int c_length, .int t8.2.1, .int t8.2.2.1, .int t8.2.2.2.1, .int t8.2.2.2.2.1, .int t8.2.2.2.2.2.1, .int t8.2.2.2.2.2.2])), (a_this_text, .inl (k 2, 700, .inl c_text)), (a_p1, .inr (2, [.ref a_p1_stations, .ref a_p1_links, .ref a_p1_messages, .ref a_p1_copies, .ref a_p1_log, .ref a_p1_ways, .ref a_p1_frames, .int c_p1_stationCount, .int c_p1_linkCount, .int c_p1_messageCount, .int c_p1_time, .int c_p1_life, .int c_p1_tries, .int c_p1_x])), (a_p1_links, .inr (4, [.int (16 : Int32), .int (9 : Int32), .ref a_p1_links_cells])), (a_p1_links_cells, .inl (k 0, 144, .inl c_p1_links))] rfl rfl rfl rfl ⟨rfl, rfl, rn_Bw (wr := [(a_p1, .inr (2, [.ref a_p1_stations, .ref a_p1_links, .ref a_p1_messages, .ref a_p1_copies, .ref a_p1_log, .ref a_p1_ways, .ref a_p1_frames, .int c_p1_stationCount, .int c_p1_linkCount, .int c_p1_messageCount, .int c_p1_time, .int c_p1_life, .int c_p1_tries, .int c_p1_x])), (a_p1_links, .inr (4, [.int (16 : Int32), .int (9 : Int32), .ref a_p1_links_cells])), (a_p1_links_cells, .inl (k 0, 144, .inl c_p1_links))]) rfl rfl, rfl, rfl⟩ (rn_r hR rfl) rn_cs hl.1 rfl (Nat.le_of_ble_eq_true rfl) dX3_readLink_34 (fun hn8 H locs hW => ?_)
    refine lv_istore_n (lv' := [(3, .int t8.1), (2, .int t6.1), (0, .ref a_this), (1, .ref a_p1)]) hx hb dX3_readLink_37 rfl hl (Nat.le_of_ble_eq_true rfl) rfl (fun ls hl => ?_)
    refine lv_iload_n hx hb dX3_readLink_38 rfl (lv_at hl 0 rfl) ?_
    refine lv_iload_n hx hb dX3_readLink_39 rfl (lv_at hl 1 rfl) ?_
    obtain ⟨t9, ht9, hf⟩ := rn_bind hf
    have jnt9 : ∀ (H : Heap) (locs : List Loc) (ls : Array Slot), rn_W D A s [(a_this, .inr (3, [.ref a_this_text, .int c_length, .int t8.2.1, .int t8.2.2.1, .int t8.2.2.2.1, .int t8.2.2.2.2.1, .int t9.1, .int t9.2])), (a_this_text, .inl (k 2, 700, .inl c_text)), (a_p1, .inr (2, [.ref a_p1_stations, .ref a_p1_links, .ref a_p1_messages, .ref a_p1_copies, .ref a_p1_log, .ref a_p1_ways, .ref a_p1_frames, .int c_p1_stationCount, .int c_p1_linkCount, .int c_p1_messageCount, .int c_p1_time, .int c_p1_life, .int c_p1_tries, .int c_p1_x])), (a_p1_links, .inr (4, [.int (16 : Int32), .int (9 : Int32), .ref a_p1_links_cells])), (a_p1_links_cells, .inl (k 0, 144, .inl c_p1_links))] H locs → lv_has ls 7 [(0, .ref a_this), (1, .ref a_p1), (2, .int t6.1), (3, .int t8.1)] → W p l e R s m args below meth c H locs 0 0 Q (F0 m 58 ls []) := by
      intro H locs ls hW hl
      refine lv_aload_n hx hb dX3_readLink_58 rfl (lv_at hl 0 rfl) ?_
      refine lv_iconst (v := 0) hx hb dX3_readLink_59 (by decide) ?_
      refine lv_bipush (v := 23) hx hb dX3_readLink_60 (by decide) ?_
      obtain ⟨t15, ht15, hf⟩ := rn_bind hf
      refine rr_callI (As := [.int (0 : Int32), .int (23 : Int32)]) (rest := []) X hW (kX3_readNumber l D k z N a_this a_this_text c_length t8.2.1 t8.2.2.1 t8.2.2.2.1 t8.2.2.2.2.1 t9.1 t9.2 c_text (0 : Int32) (23 : Int32) ht15) gm_X3_readNumber gl_X3_69 [0, 1] [2, 3, 4] [(a_this, .inr (3, [.ref a_this_text, .int c_length, .int t15.2.1, .int t15.2.2.1, .int t15.2.2.2.1, .int t15.2.2.2.2.1, .int t15.2.2.2.2.2.1, .int t15.2.2.2.2.2.2])), (a_this_text, .inl (k 2, 700, .inl c_text)), (a_p1, .inr (2, [.ref a_p1_stations, .ref a_p1_links, .ref a_p1_messages, .ref a_p1_copies, .ref a_p1_log, .ref a_p1_ways, .ref a_p1_frames, .int c_p1_stationCount, .int c_p1_linkCount, .int c_p1_messageCount, .int c_p1_time, .int c_p1_life, .int c_p1_tries, .int c_p1_x])), (a_p1_links, .inr (4, [.int (16 : Int32), .int (9 : Int32), .ref a_p1_links_cells])), (a_p1_links_cells, .inl (k 0, 144, .inl c_p1_links))] rfl rfl rfl rfl ⟨rfl, rfl, rn_Bw (wr := [(a_p1, .inr (2, [.ref a_p1_stations, .ref a_p1_links, .ref a_p1_messages, .ref a_p1_copies, .ref a_p1_log, .ref a_p1_ways, .ref a_p1_frames, .int c_p1_stationCount, .int c_p1_linkCount, .int c_p1_messageCount, .int c_p1_time, .int c_p1_life, .int c_p1_tries, .int c_p1_x])), (a_p1_links, .inr (4, [.int (16 : Int32), .int (9 : Int32), .ref a_p1_links_cells])), (a_p1_links_cells, .inl (k 0, 144, .inl c_p1_links))]) rfl rfl, rfl, rfl⟩ (rn_r hR rfl) rn_cs hl.1 rfl (Nat.le_of_ble_eq_true rfl) dX3_readLink_62 (fun hn15 H locs hW => ?_)
      refine lv_istore (lv' := [(4, .int t15.1), (0, .ref a_this), (1, .ref a_p1), (2, .int t6.1), (3, .int t8.1)]) hx hb dX3_readLink_65 hl (Nat.le_of_ble_eq_true rfl) rfl (fun ls hl => ?_)
      refine lv_aload_n hx hb dX3_readLink_67 rfl (lv_at hl 1 rfl) ?_
      refine lv_iconst (v := 0) hx hb dX3_readLink_68 (by decide) ?_
      refine lv_bipush (v := 23) hx hb dX3_readLink_69 (by decide) ?_
      obtain ⟨t16, ht16, hf⟩ := rn_bind hf
      refine rr_callI (As := [.int (0 : Int32), .int (23 : Int32)]) (rest := []) X hW (kX3_readNumber l D k z N a_this a_this_text c_length t15.2.1 t15.2.2.1 t15.2.2.2.1 t15.2.2.2.2.1 t15.2.2.2.2.2.1 t15.2.2.2.2.2.2 c_text (0 : Int32) (23 : Int32) ht16) gm_X3_readNumber gl_X3_69 [0, 1] [2, 3, 4] [(a_this, .inr (3, [.ref a_this_text, .int c_length, .int t16.2.1, .int t16.2.2.1, .int t16.2.2.2.1, .int t16.2.2.2.2.1, .int t16.2.2.2.2.2.1, .int t16.2.2.2.2.2.2])), (a_this_text, .inl (k 2, 700, .inl c_text)), (a_p1, .inr (2, [.ref a_p1_stations, .ref a_p1_links, .ref a_p1_messages, .ref a_p1_copies, .ref a_p1_log, .ref a_p1_ways, .ref a_p1_frames, .int c_p1_stationCount, .int c_p1_linkCount, .int c_p1_messageCount, .int c_p1_time, .int c_p1_life, .int c_p1_tries, .int c_p1_x])), (a_p1_links, .inr (4, [.int (16 : Int32), .int (9 : Int32), .ref a_p1_links_cells])), (a_p1_links_cells, .inl (k 0, 144, .inl c_p1_links))] rfl rfl rfl rfl ⟨rfl, rfl, rn_Bw (wr := [(a_p1, .inr (2, [.ref a_p1_stations, .ref a_p1_links, .ref a_p1_messages, .ref a_p1_copies, .ref a_p1_log, .ref a_p1_ways, .ref a_p1_frames, .int c_p1_stationCount, .int c_p1_linkCount, .int c_p1_messageCount, .int c_p1_time, .int c_p1_life, .int c_p1_tries, .int c_p1_x])), (a_p1_links, .inr (4, [.int (16 : Int32), .int (9 : Int32), .ref a_p1_links_cells])), (a_p1_links_cells, .inl (k 0, 144, .inl c_p1_links))]) rfl rfl, rfl, rfl⟩ (rn_r hR rfl) rn_cs hl.1 rfl (Nat.le_of_ble_eq_true rfl) dX3_readLink_71 (fun hn16 H locs hW => ?_)
      refine lv_istore (lv' := [(5, .int t16.1), (4, .int t15.1), (0, .ref a_this), (1, .ref a_p1), (2, .int t6.1), (3, .int t8.1)]) hx hb dX3_readLink_74 hl (Nat.le_of_ble_eq_true rfl) rfl (fun ls hl => ?_)
      refine lv_aload_n hx hb dX3_readLink_76 rfl (lv_at hl 2 rfl) ?_
      refine lv_iconst (v := 0) hx hb dX3_readLink_77 (by decide) ?_
      refine lv_bipush (v := 100) hx hb dX3_readLink_78 (by decide) ?_
      obtain ⟨t17, ht17, hf⟩ := rn_bind hf
      refine rr_callI (As := [.int (0 : Int32), .int (100 : Int32)]) (rest := []) X hW (kX3_readNumber l D k z N a_this a_this_text c_length t16.2.1 t16.2.2.1 t16.2.2.2.1 t16.2.2.2.2.1 t16.2.2.2.2.2.1 t16.2.2.2.2.2.2 c_text (0 : Int32) (100 : Int32) ht17) gm_X3_readNumber gl_X3_69 [0, 1] [2, 3, 4] [(a_this, .inr (3, [.ref a_this_text, .int c_length, .int t17.2.1, .int t17.2.2.1, .int t17.2.2.2.1, .int t17.2.2.2.2.1, .int t17.2.2.2.2.2.1, .int t17.2.2.2.2.2.2])), (a_this_text, .inl (k 2, 700, .inl c_text)), (a_p1, .inr (2, [.ref a_p1_stations, .ref a_p1_links, .ref a_p1_messages, .ref a_p1_copies, .ref a_p1_log, .ref a_p1_ways, .ref a_p1_frames, .int c_p1_stationCount, .int c_p1_linkCount, .int c_p1_messageCount, .int c_p1_time, .int c_p1_life, .int c_p1_tries, .int c_p1_x])), (a_p1_links, .inr (4, [.int (16 : Int32), .int (9 : Int32), .ref a_p1_links_cells])), (a_p1_links_cells, .inl (k 0, 144, .inl c_p1_links))] rfl rfl rfl rfl ⟨rfl, rfl, rn_Bw (wr := [(a_p1, .inr (2, [.ref a_p1_stations, .ref a_p1_links, .ref a_p1_messages, .ref a_p1_copies, .ref a_p1_log, .ref a_p1_ways, .ref a_p1_frames, .int c_p1_stationCount, .int c_p1_linkCount, .int c_p1_messageCount, .int c_p1_time, .int c_p1_life, .int c_p1_tries, .int c_p1_x])), (a_p1_links, .inr (4, [.int (16 : Int32), .int (9 : Int32), .ref a_p1_links_cells])), (a_p1_links_cells, .inl (k 0, 144, .inl c_p1_links))]) rfl rfl, rfl, rfl⟩ (rn_r hR rfl) rn_cs hl.1 rfl (Nat.le_of_ble_eq_true rfl) dX3_readLink_80 (fun hn17 H locs hW => ?_)
      refine lv_istore (lv' := [(6, .int t17.1), (5, .int t16.1), (4, .int t15.1), (0, .ref a_this), (1, .ref a_p1), (2, .int t6.1), (3, .int t8.1)]) hx hb dX3_readLink_83 hl (Nat.le_of_ble_eq_true rfl) rfl (fun ls hl => ?_)
      refine lv_aload_n hx hb dX3_readLink_85 rfl (lv_at hl 3 rfl) ?_
      refine rr_get X hW 0 6 gf_X3_31 rfl rfl dX3_readLink_86 ?_
      refine lv_if_ne (tgt := 105) hx hb dX3_readLink_89 (by decide) (fun hc18 => ?_) (fun hc18 => ?_)
      · replace hf := rn_f hf hc18
        cases hf
        exact hE _ _ _ _ hW dX3_readLink_105
      · replace hf := rn_t hf hc18
        refine lv_aload_n hx hb dX3_readLink_92 rfl (lv_at hl 4 rfl) ?_
        refine lv_iload_n hx hb dX3_readLink_93 rfl (lv_at hl 5 rfl) ?_
        refine lv_iload_n hx hb dX3_readLink_94 rfl (lv_at hl 6 rfl) ?_
        refine lv_iload hx hb dX3_readLink_95 (lv_at hl 2 rfl) ?_
        refine lv_iload hx hb dX3_readLink_97 (lv_at hl 1 rfl) ?_
        refine lv_iload hx hb dX3_readLink_99 (lv_at hl 0 rfl) ?_
        obtain ⟨t19, ht19, hf⟩ := rn_bind hf
        refine rr_callI (As := [.int t6.1, .int t8.1, .int t15.1, .int t16.1, .int t17.1]) (rest := []) X hW (kX2_newLink l D k z a_p1 a_p1_stations a_p1_links a_p1_messages a_p1_copies a_p1_log a_p1_ways a_p1_frames a_p1_links_cells c_p1_stationCount c_p1_linkCount c_p1_messageCount c_p1_time c_p1_life c_p1_tries c_p1_x c_p1_links t6.1 t8.1 t15.1 t16.1 t17.1 ht19) gm_X2_newLink gl_X3_106 [2, 3, 4] [0, 1] [(a_this, .inr (3, [.ref a_this_text, .int c_length, .int t17.2.1, .int t17.2.2.1, .int t17.2.2.2.1, .int t17.2.2.2.2.1, .int t17.2.2.2.2.2.1, .int t17.2.2.2.2.2.2])), (a_this_text, .inl (k 2, 700, .inl c_text)), (a_p1, .inr (2, [.ref a_p1_stations, .ref a_p1_links, .ref a_p1_messages, .ref a_p1_copies, .ref a_p1_log, .ref a_p1_ways, .ref a_p1_frames, .int c_p1_stationCount, .int t19.2.1, .int c_p1_messageCount, .int c_p1_time, .int c_p1_life, .int c_p1_tries, .int c_p1_x])), (a_p1_links, .inr (4, [.int (16 : Int32), .int (9 : Int32), .ref a_p1_links_cells])), (a_p1_links_cells, .inl (k 0, 144, .inl t19.2.2))] rfl rfl rfl rfl ⟨rfl, rfl, rn_Bw (wr := [(a_this, .inr (3, [.ref a_this_text, .int c_length, .int t17.2.1, .int t17.2.2.1, .int t17.2.2.2.1, .int t17.2.2.2.2.1, .int t17.2.2.2.2.2.1, .int t17.2.2.2.2.2.2])), (a_this_text, .inl (k 2, 700, .inl c_text))]) rfl rfl, rfl, rfl⟩ (rn_r hR rfl) rn_cs hl.1 rfl (Nat.le_of_ble_eq_true rfl) dX3_readLink_101 (fun hn19 H locs hW => ?_)
        refine lv_pop hx hb dX3_readLink_104 rfl ?_
        cases hf
        exact hE _ _ _ _ hW dX3_readLink_105
    replace hf := ht9
    clear ht9
    refine lv_icmp_eq (tgt := 53) hx hb dX3_readLink_40 (by decide) (fun hc10 => ?_) (fun hc10 => ?_)
    · replace hf := rn_t hf hc10
      refine lv_aload_n hx hb dX3_readLink_53 rfl (lv_at hl 2 rfl) ?_
      refine lv_iconst (v := 4) hx hb dX3_readLink_54 (by decide) ?_
      obtain ⟨t11, ht11, hf⟩ := rn_bind hf
      refine rr_callV (As := [.int (4 : Int32)]) (rest := []) X hW (kX3_fail l D k z a_this a_this_text c_length t8.2.1 t8.2.2.1 t8.2.2.2.1 t8.2.2.2.2.1 t8.2.2.2.2.2.1 t8.2.2.2.2.2.2 (4 : Int32) ht11) gm_X3_fail gl_X3_44 [0] [1, 2, 3, 4] [(a_this, .inr (3, [.ref a_this_text, .int c_length, .int t8.2.1, .int t8.2.2.1, .int t8.2.2.2.1, .int t8.2.2.2.2.1, .int t11.1, .int t11.2])), (a_this_text, .inl (k 2, 700, .inl c_text)), (a_p1, .inr (2, [.ref a_p1_stations, .ref a_p1_links, .ref a_p1_messages, .ref a_p1_copies, .ref a_p1_log, .ref a_p1_ways, .ref a_p1_frames, .int c_p1_stationCount, .int c_p1_linkCount, .int c_p1_messageCount, .int c_p1_time, .int c_p1_life, .int c_p1_tries, .int c_p1_x])), (a_p1_links, .inr (4, [.int (16 : Int32), .int (9 : Int32), .ref a_p1_links_cells])), (a_p1_links_cells, .inl (k 0, 144, .inl c_p1_links))] rfl rfl rfl rfl ⟨rfl, rfl, rn_Bw (wr := [(a_this_text, .inl (k 2, 700, .inl c_text)), (a_p1, .inr (2, [.ref a_p1_stations, .ref a_p1_links, .ref a_p1_messages, .ref a_p1_copies, .ref a_p1_log, .ref a_p1_ways, .ref a_p1_frames, .int c_p1_stationCount, .int c_p1_linkCount, .int c_p1_messageCount, .int c_p1_time, .int c_p1_life, .int c_p1_tries, .int c_p1_x])), (a_p1_links, .inr (4, [.int (16 : Int32), .int (9 : Int32), .ref a_p1_links_cells])), (a_p1_links_cells, .inl (k 0, 144, .inl c_p1_links))]) rfl rfl, rfl, rfl⟩ (rn_r hR rfl) rn_cs hl.1 rfl (Nat.le_of_ble_eq_true rfl) dX3_readLink_55 (fun H locs hW => ?_)
      cases hf
      exact jnt9 _ _ _ hW (lv_sub hl [2, 3, 1, 0] rfl)
    · replace hf := rn_f hf hc10
      refine lv_aload_n hx hb dX3_readLink_43 rfl (lv_at hl 3 rfl) ?_
      refine lv_iload_n hx hb dX3_readLink_44 rfl (lv_at hl 1 rfl) ?_
      refine lv_iload_n hx hb dX3_readLink_45 rfl (lv_at hl 0 rfl) ?_
      obtain ⟨t12, ht12, hf⟩ := rn_bind hf
      refine rr_callI (As := [.int t6.1, .int t8.1]) (rest := []) X hW (kX2_linkBetween l D k z N a_p1 a_p1_stations a_p1_links a_p1_messages a_p1_copies a_p1_log a_p1_ways a_p1_frames a_p1_links_cells c_p1_stationCount c_p1_linkCount c_p1_messageCount c_p1_time c_p1_life c_p1_tries c_p1_x c_p1_links t6.1 t8.1 ht12) gm_X2_linkBetween gl_X3_103 [2, 3, 4] [0, 1] [(a_this, .inr (3, [.ref a_this_text, .int c_length, .int t8.2.1, .int t8.2.2.1, .int t8.2.2.2.1, .int t8.2.2.2.2.1, .int t8.2.2.2.2.2.1, .int t8.2.2.2.2.2.2])), (a_this_text, .inl (k 2, 700, .inl c_text)), (a_p1, .inr (2, [.ref a_p1_stations, .ref a_p1_links, .ref a_p1_messages, .ref a_p1_copies, .ref a_p1_log, .ref a_p1_ways, .ref a_p1_frames, .int c_p1_stationCount, .int c_p1_linkCount, .int c_p1_messageCount, .int c_p1_time, .int c_p1_life, .int c_p1_tries, .int c_p1_x])), (a_p1_links, .inr (4, [.int (16 : Int32), .int (9 : Int32), .ref a_p1_links_cells])), (a_p1_links_cells, .inl (k 0, 144, .inl c_p1_links))] rfl rfl rfl rfl ⟨rfl, rfl, rn_Bw (wr := [(a_this, .inr (3, [.ref a_this_text, .int c_length, .int t8.2.1, .int t8.2.2.1, .int t8.2.2.2.1, .int t8.2.2.2.2.1, .int t8.2.2.2.2.2.1, .int t8.2.2.2.2.2.2])), (a_this_text, .inl (k 2, 700, .inl c_text))]) rfl rfl, rfl, rfl⟩ (rn_r hR rfl) rn_cs hl.1 rfl (Nat.le_of_ble_eq_true rfl) dX3_readLink_46 (fun hn12 H locs hW => ?_)
      refine lv_iconst (v := -1) hx hb dX3_readLink_49 (by decide) ?_
      refine lv_icmp_eq (tgt := 58) hx hb dX3_readLink_50 (by decide) (fun hc13 => ?_) (fun hc13 => ?_)
      · replace hf := rn_t hf hc13
        cases hf
        exact jnt9 _ _ _ hW (lv_sub hl [2, 3, 1, 0] rfl)
      · replace hf := rn_f hf hc13
        refine lv_aload_n hx hb dX3_readLink_53 rfl (lv_at hl 2 rfl) ?_
        refine lv_iconst (v := 4) hx hb dX3_readLink_54 (by decide) ?_
        obtain ⟨t14, ht14, hf⟩ := rn_bind hf
        refine rr_callV (As := [.int (4 : Int32)]) (rest := []) X hW (kX3_fail l D k z a_this a_this_text c_length t8.2.1 t8.2.2.1 t8.2.2.2.1 t8.2.2.2.2.1 t8.2.2.2.2.2.1 t8.2.2.2.2.2.2 (4 : Int32) ht14) gm_X3_fail gl_X3_44 [0] [1, 2, 3, 4] [(a_this, .inr (3, [.ref a_this_text, .int c_length, .int t8.2.1, .int t8.2.2.1, .int t8.2.2.2.1, .int t8.2.2.2.2.1, .int t14.1, .int t14.2])), (a_this_text, .inl (k 2, 700, .inl c_text)), (a_p1, .inr (2, [.ref a_p1_stations, .ref a_p1_links, .ref a_p1_messages, .ref a_p1_copies, .ref a_p1_log, .ref a_p1_ways, .ref a_p1_frames, .int c_p1_stationCount, .int c_p1_linkCount, .int c_p1_messageCount, .int c_p1_time, .int c_p1_life, .int c_p1_tries, .int c_p1_x])), (a_p1_links, .inr (4, [.int (16 : Int32), .int (9 : Int32), .ref a_p1_links_cells])), (a_p1_links_cells, .inl (k 0, 144, .inl c_p1_links))] rfl rfl rfl rfl ⟨rfl, rfl, rn_Bw (wr := [(a_this_text, .inl (k 2, 700, .inl c_text)), (a_p1, .inr (2, [.ref a_p1_stations, .ref a_p1_links, .ref a_p1_messages, .ref a_p1_copies, .ref a_p1_log, .ref a_p1_ways, .ref a_p1_frames, .int c_p1_stationCount, .int c_p1_linkCount, .int c_p1_messageCount, .int c_p1_time, .int c_p1_life, .int c_p1_tries, .int c_p1_x])), (a_p1_links, .inr (4, [.int (16 : Int32), .int (9 : Int32), .ref a_p1_links_cells])), (a_p1_links_cells, .inl (k 0, 144, .inl c_p1_links))]) rfl rfl, rfl, rfl⟩ (rn_r hR rfl) rn_cs hl.1 rfl (Nat.le_of_ble_eq_true rfl) dX3_readLink_55 (fun H locs hW => ?_)
        cases hf
        exact jnt9 _ _ _ hW (lv_sub hl [2, 3, 1, 0] rfl)
  replace hf := ht2
  clear ht2
  refine lv_icmp_lt (tgt := 14) hx hb dX3_readLink_6 (by decide) (fun hc3 => ?_) (fun hc3 => ?_)
  · replace hf := rn_t hf hc3
    cases hf
    exact jnt2 _ _ _ hW (lv_sub hl [0, 1] rfl)
  · replace hf := rn_f hf hc3
    refine lv_aload_n hx hb dX3_readLink_9 rfl (lv_at hl 0 rfl) ?_
    refine lv_iconst (v := 3) hx hb dX3_readLink_10 (by decide) ?_
    obtain ⟨t4, ht4, hf⟩ := rn_bind hf
    refine rr_callV (As := [.int (3 : Int32)]) (rest := []) X hW (kX3_fail l D k z a_this a_this_text c_length c_kind c_start c_end c_value c_error c_errorStart (3 : Int32) ht4) gm_X3_fail gl_X3_44 [0] [1, 2, 3, 4] [(a_this, .inr (3, [.ref a_this_text, .int c_length, .int c_kind, .int c_start, .int c_end, .int c_value, .int t4.1, .int t4.2])), (a_this_text, .inl (k 2, 700, .inl c_text)), (a_p1, .inr (2, [.ref a_p1_stations, .ref a_p1_links, .ref a_p1_messages, .ref a_p1_copies, .ref a_p1_log, .ref a_p1_ways, .ref a_p1_frames, .int c_p1_stationCount, .int c_p1_linkCount, .int c_p1_messageCount, .int c_p1_time, .int c_p1_life, .int c_p1_tries, .int c_p1_x])), (a_p1_links, .inr (4, [.int (16 : Int32), .int (9 : Int32), .ref a_p1_links_cells])), (a_p1_links_cells, .inl (k 0, 144, .inl c_p1_links))] rfl rfl rfl rfl ⟨rfl, rfl, rn_Bw (wr := [(a_this_text, .inl (k 2, 700, .inl c_text)), (a_p1, .inr (2, [.ref a_p1_stations, .ref a_p1_links, .ref a_p1_messages, .ref a_p1_copies, .ref a_p1_log, .ref a_p1_ways, .ref a_p1_frames, .int c_p1_stationCount, .int c_p1_linkCount, .int c_p1_messageCount, .int c_p1_time, .int c_p1_life, .int c_p1_tries, .int c_p1_x])), (a_p1_links, .inr (4, [.int (16 : Int32), .int (9 : Int32), .ref a_p1_links_cells])), (a_p1_links_cells, .inl (k 0, 144, .inl c_p1_links))]) rfl rfl, rfl, rfl⟩ (rn_r hR rfl) rn_cs hl.1 rfl (Nat.le_of_ble_eq_true rfl) dX3_readLink_11 (fun H locs hW => ?_)
    cases hf
    exact jnt2 _ _ _ hW (lv_sub hl [0, 1] rfl)
def fX3_readMessage (N : Nat) (c_length : Int32) (c_kind : Int32) (c_start : Int32) (c_end : Int32) (c_value : Int32) (c_error : Int32) (c_errorStart : Int32) (c_text : Nat → Int32) (c_p1_stationCount : Int32) (c_p1_messageCount : Int32) (c_p1_time : Int32) (c_p1_messages : Nat → Int32) (c_p1_copies : Nat → Int32) (c_p1_log_first : Int32) (c_p1_log_size : Int32) (c_p1_log_events : Nat → Int32) : Option (Int32 × Int32 × Int32 × Int32 × Int32 × Int32 × Int32 × (Nat → Int32) × (Nat → Int32) × Int32 × Int32 × (Nat → Int32)) :=
  (fX2_messageCount c_p1_messageCount).bind fun t1 =>
  Option.bind (
    if t1 < (24 : Int32) then
      some (c_error, c_errorStart)
    else
    (fX3_fail c_start c_error c_errorStart (3 : Int32)).bind fun t4 =>
    some (t4.1, t4.2)
    ) fun t2 =>
  (fX2_stationCount c_p1_stationCount).bind fun t5 =>
  (fX3_readNumber N c_length c_kind c_start c_end c_value t2.1 t2.2 c_text (0 : Int32) (t5 - (1 : Int32))).bind fun t6 =>
  (fX2_stationCount c_p1_stationCount).bind fun t7 =>
  (fX3_readNumber N c_length t6.2.1 t6.2.2.1 t6.2.2.2.1 t6.2.2.2.2.1 t6.2.2.2.2.2.1 t6.2.2.2.2.2.2 c_text (0 : Int32) (t7 - (1 : Int32))).bind fun t8 =>
  Option.bind (
    if t8.1 = t6.1 then
      (fX3_fail t8.2.2.1 t8.2.2.2.2.2.1 t8.2.2.2.2.2.2 (4 : Int32)).bind fun t11 =>
      some (t11.1, t11.2)
    else
    some (t8.2.2.2.2.2.1, t8.2.2.2.2.2.2)
    ) fun t9 =>
  (fX3_readNumber N c_length t8.2.1 t8.2.2.1 t8.2.2.2.1 t8.2.2.2.2.1 t9.1 t9.2 c_text (0 : Int32) (3 : Int32)).bind fun t12 =>
  if t12.2.2.2.2.2.1 = 0 then
    (fX2_newMessage c_p1_messageCount c_p1_time c_p1_messages c_p1_copies c_p1_log_first c_p1_log_size c_p1_log_events t6.1 t8.1 t12.1).bind fun t14 =>
    some (t12.2.1, t12.2.2.1, t12.2.2.2.1, t12.2.2.2.2.1, t12.2.2.2.2.2.1, t12.2.2.2.2.2.2, t14.2.1, t14.2.2.1, t14.2.2.2.1, t14.2.2.2.2.1, t14.2.2.2.2.2.1, t14.2.2.2.2.2.2)
  else
  some (t12.2.1, t12.2.2.1, t12.2.2.2.1, t12.2.2.2.2.1, t12.2.2.2.2.2.1, t12.2.2.2.2.2.2, c_p1_messageCount, c_p1_messages, c_p1_copies, c_p1_log_first, c_p1_log_size, c_p1_log_events)
set_option maxHeartbeats 4000000 in
set_option maxRecDepth 20000 in
theorem kX3_readMessage (l : Launch) (D : va_G) (k : Nat → ClassId) (z : (Nat → Nat) × (Nat → Nat)) (N : Nat) (a_this : Nat) (a_p1 : Nat) (a_this_text : Nat) (a_p1_stations : Nat) (a_p1_links : Nat) (a_p1_messages : Nat) (a_p1_copies : Nat) (a_p1_log : Nat) (a_p1_ways : Nat) (a_p1_frames : Nat) (a_p1_messages_cells : Nat) (a_p1_copies_cells : Nat) (a_p1_log_events : Nat) (a_p1_log_events_cells : Nat) (c_length : Int32) (c_kind : Int32) (c_start : Int32) (c_end : Int32) (c_value : Int32) (c_error : Int32) (c_errorStart : Int32) (c_text : Nat → Int32) (c_p1_stationCount : Int32) (c_p1_linkCount : Int32) (c_p1_messageCount : Int32) (c_p1_time : Int32) (c_p1_life : Int32) (c_p1_tries : Int32) (c_p1_x : Int32) (c_p1_messages : Nat → Int32) (c_p1_copies : Nat → Int32) (c_p1_log_first : Int32) (c_p1_log_size : Int32) (c_p1_log_events : Nat → Int32) {u : Int32 × Int32 × Int32 × Int32 × Int32 × Int32 × Int32 × (Nat → Int32) × (Nat → Int32) × Int32 × Int32 × (Nat → Int32)} (hf : fX3_readMessage N c_length c_kind c_start c_end c_value c_error c_errorStart c_text c_p1_stationCount c_p1_messageCount c_p1_time c_p1_messages c_p1_copies c_p1_log_first c_p1_log_size c_p1_log_events = some u) : rn_KV l D k z yX3_readMessage cX3_readMessage 5 3 75 [.ref a_this, .ref a_p1] [(a_this, .inr (3, [.ref a_this_text, .int c_length, .int c_kind, .int c_start, .int c_end, .int c_value, .int c_error, .int c_errorStart])), (a_this_text, .inl (k 2, 700, .inl c_text)), (a_p1, .inr (2, [.ref a_p1_stations, .ref a_p1_links, .ref a_p1_messages, .ref a_p1_copies, .ref a_p1_log, .ref a_p1_ways, .ref a_p1_frames, .int c_p1_stationCount, .int c_p1_linkCount, .int c_p1_messageCount, .int c_p1_time, .int c_p1_life, .int c_p1_tries, .int c_p1_x])), (a_p1_messages, .inr (4, [.int (24 : Int32), .int (12 : Int32), .ref a_p1_messages_cells])), (a_p1_messages_cells, .inl (k 0, 288, .inl c_p1_messages)), (a_p1_copies, .inr (4, [.int (192 : Int32), .int (5 : Int32), .ref a_p1_copies_cells])), (a_p1_copies_cells, .inl (k 0, 960, .inl c_p1_copies)), (a_p1_log, .inr (0, [.ref a_p1_log_events, .int c_p1_log_first, .int c_p1_log_size])), (a_p1_log_events, .inr (4, [.int (40 : Int32), .int (5 : Int32), .ref a_p1_log_events_cells])), (a_p1_log_events_cells, .inl (k 0, 200, .inl c_p1_log_events))] [(a_this, .inr (3, [.ref a_this_text, .int c_length, .int u.1, .int u.2.1, .int u.2.2.1, .int u.2.2.2.1, .int u.2.2.2.2.1, .int u.2.2.2.2.2.1])), (a_this_text, .inl (k 2, 700, .inl c_text)), (a_p1, .inr (2, [.ref a_p1_stations, .ref a_p1_links, .ref a_p1_messages, .ref a_p1_copies, .ref a_p1_log, .ref a_p1_ways, .ref a_p1_frames, .int c_p1_stationCount, .int c_p1_linkCount, .int u.2.2.2.2.2.2.1, .int c_p1_time, .int c_p1_life, .int c_p1_tries, .int c_p1_x])), (a_p1_messages, .inr (4, [.int (24 : Int32), .int (12 : Int32), .ref a_p1_messages_cells])), (a_p1_messages_cells, .inl (k 0, 288, .inl u.2.2.2.2.2.2.2.1)), (a_p1_copies, .inr (4, [.int (192 : Int32), .int (5 : Int32), .ref a_p1_copies_cells])), (a_p1_copies_cells, .inl (k 0, 960, .inl u.2.2.2.2.2.2.2.2.1)), (a_p1_log, .inr (0, [.ref a_p1_log_events, .int u.2.2.2.2.2.2.2.2.2.1, .int u.2.2.2.2.2.2.2.2.2.2.1])), (a_p1_log_events, .inr (4, [.int (40 : Int32), .int (5 : Int32), .ref a_p1_log_events_cells])), (a_p1_log_events_cells, .inl (k 0, 200, .inl u.2.2.2.2.2.2.2.2.2.2.2))] := by
  refine rn_KV.go (LOC := [(0, .ref a_this), (1, .ref a_p1)]) rfl (by decide) (Nat.le_of_ble_eq_true rfl) rfl ?_
  intro p e s m args below meth c A ls R Q X hR hE hW hl
  have hx := X.1.1
  have hb := X.1.2.1
  unfold fX3_readMessage at hf
  obtain ⟨u0, u1, u2, u3, u4, u5, u6, u7, u8, u9, u10, u11⟩ := u
  dsimp only at hE
  refine lv_aload_n hx hb dX3_readMessage_0 rfl (lv_at hl 1 rfl) ?_
  obtain ⟨t1, ht1, hf⟩ := rn_bind hf
  refine rr_callI (As := []) (rest := []) X hW (kX2_messageCount l D k z a_p1 a_p1_stations a_p1_links a_p1_messages a_p1_copies a_p1_log a_p1_ways a_p1_frames c_p1_stationCount c_p1_linkCount c_p1_messageCount c_p1_time c_p1_life c_p1_tries c_p1_x ht1) gm_X2_messageCount gl_X3_110 [2] [0, 1, 3, 4, 5, 6, 7, 8, 9] [(a_this, .inr (3, [.ref a_this_text, .int c_length, .int c_kind, .int c_start, .int c_end, .int c_value, .int c_error, .int c_errorStart])), (a_this_text, .inl (k 2, 700, .inl c_text)), (a_p1, .inr (2, [.ref a_p1_stations, .ref a_p1_links, .ref a_p1_messages, .ref a_p1_copies, .ref a_p1_log, .ref a_p1_ways, .ref a_p1_frames, .int c_p1_stationCount, .int c_p1_linkCount, .int c_p1_messageCount, .int c_p1_time, .int c_p1_life, .int c_p1_tries, .int c_p1_x])), (a_p1_messages, .inr (4, [.int (24 : Int32), .int (12 : Int32), .ref a_p1_messages_cells])), (a_p1_messages_cells, .inl (k 0, 288, .inl c_p1_messages)), (a_p1_copies, .inr (4, [.int (192 : Int32), .int (5 : Int32), .ref a_p1_copies_cells])), (a_p1_copies_cells, .inl (k 0, 960, .inl c_p1_copies)), (a_p1_log, .inr (0, [.ref a_p1_log_events, .int c_p1_log_first, .int c_p1_log_size])), (a_p1_log_events, .inr (4, [.int (40 : Int32), .int (5 : Int32), .ref a_p1_log_events_cells])), (a_p1_log_events_cells, .inl (k 0, 200, .inl c_p1_log_events))] rfl rfl rfl rfl ⟨rfl, rfl, rn_Bw (wr := [(a_this, .inr (3, [.ref a_this_text, .int c_length, .int c_kind, .int c_start, .int c_end, .int c_value, .int c_error, .int c_errorStart])), (a_this_text, .inl (k 2, 700, .inl c_text)), (a_p1_messages, .inr (4, [.int (24 : Int32), .int (12 : Int32), .ref a_p1_messages_cells])), (a_p1_messages_cells, .inl (k 0, 288, .inl c_p1_messages)), (a_p1_copies, .inr (4, [.int (192 : Int32), .int (5 : Int32), .ref a_p1_copies_cells])), (a_p1_copies_cells, .inl (k 0, 960, .inl c_p1_copies)), (a_p1_log, .inr (0, [.ref a_p1_log_events, .int c_p1_log_first, .int c_p1_log_size])), (a_p1_log_events, .inr (4, [.int (40 : Int32), .int (5 : Int32), .ref a_p1_log_events_cells])), (a_p1_log_events_cells, .inl (k 0, 200, .inl c_p1_log_events))]) rfl rfl, rfl, rfl⟩ (rn_r hR rfl) rn_cs hl.1 rfl (Nat.le_of_ble_eq_true rfl) dX3_readMessage_1 (fun hn1 H locs hW => ?_)
  refine lv_bipush (v := 24) hx hb dX3_readMessage_4 (by decide) ?_
  obtain ⟨t2, ht2, hf⟩ := rn_bind hf
  have jnt2 : ∀ (H : Heap) (locs : List Loc) (ls : Array Slot), rn_W D A s [(a_this, .inr (3, [.ref a_this_text, .int c_length, .int c_kind, .int c_start, .int c_end, .int c_value, .int t2.1, .int t2.2])), (a_this_text, .inl (k 2, 700, .inl c_text)), (a_p1, .inr (2, [.ref a_p1_stations, .ref a_p1_links, .ref a_p1_messages, .ref a_p1_copies, .ref a_p1_log, .ref a_p1_ways, .ref a_p1_frames, .int c_p1_stationCount, .int c_p1_linkCount, .int c_p1_messageCount, .int c_p1_time, .int c_p1_life, .int c_p1_tries, .int c_p1_x])), (a_p1_messages, .inr (4, [.int (24 : Int32), .int (12 : Int32), .ref a_p1_messages_cells])), (a_p1_messages_cells, .inl (k 0, 288, .inl c_p1_messages)), (a_p1_copies, .inr (4, [.int (192 : Int32), .int (5 : Int32), .ref a_p1_copies_cells])), (a_p1_copies_cells, .inl (k 0, 960, .inl c_p1_copies)), (a_p1_log, .inr (0, [.ref a_p1_log_events, .int c_p1_log_first, .int c_p1_log_size])), (a_p1_log_events, .inr (4, [.int (40 : Int32), .int (5 : Int32), .ref a_p1_log_events_cells])), (a_p1_log_events_cells, .inl (k 0, 200, .inl c_p1_log_events))] H locs → lv_has ls 5 [(0, .ref a_this), (1, .ref a_p1)] → W p l e R s m args below meth c H locs 0 0 Q (F0 m 14 ls []) := by
    intro H locs ls hW hl
    refine lv_aload_n hx hb dX3_readMessage_14 rfl (lv_at hl 0 rfl) ?_
    refine lv_iconst (v := 0) hx hb dX3_readMessage_15 (by decide) ?_
    refine lv_aload_n hx hb dX3_readMessage_16 rfl (lv_at hl 1 rfl) ?_
    obtain ⟨t5, ht5, hf⟩ := rn_bind hf
    refine rr_callI (As := []) (rest := [.int (0 : Int32), .ref a_this]) X hW (kX2_stationCount l D k z a_p1 a_p1_stations a_p1_links a_p1_messages a_p1_copies a_p1_log a_p1_ways a_p1_frames c_p1_stationCount c_p1_linkCount c_p1_messageCount c_p1_time c_p1_life c_p1_tries c_p1_x ht5) gm_X2_stationCount gl_X3_92 [2] [0, 1, 3, 4, 5, 6, 7, 8, 9] [(a_this, .inr (3, [.ref a_this_text, .int c_length, .int c_kind, .int c_start, .int c_end, .int c_value, .int t2.1, .int t2.2])), (a_this_text, .inl (k 2, 700, .inl c_text)), (a_p1, .inr (2, [.ref a_p1_stations, .ref a_p1_links, .ref a_p1_messages, .ref a_p1_copies, .ref a_p1_log, .ref a_p1_ways, .ref a_p1_frames, .int c_p1_stationCount, .int c_p1_linkCount, .int c_p1_messageCount, .int c_p1_time, .int c_p1_life, .int c_p1_tries, .int c_p1_x])), (a_p1_messages, .inr (4, [.int (24 : Int32), .int (12 : Int32), .ref a_p1_messages_cells])), (a_p1_messages_cells, .inl (k 0, 288, .inl c_p1_messages)), (a_p1_copies, .inr (4, [.int (192 : Int32), .int (5 : Int32), .ref a_p1_copies_cells])), (a_p1_copies_cells, .inl (k 0, 960, .inl c_p1_copies)), (a_p1_log, .inr (0, [.ref a_p1_log_events, .int c_p1_log_first, .int c_p1_log_size])), (a_p1_log_events, .inr (4, [.int (40 : Int32), .int (5 : Int32), .ref a_p1_log_events_cells])), (a_p1_log_events_cells, .inl (k 0, 200, .inl c_p1_log_events))] rfl rfl rfl rfl ⟨rfl, rfl, rn_Bw (wr := [(a_this, .inr (3, [.ref a_this_text, .int c_length, .int c_kind, .int c_start, .int c_end, .int c_value, .int t2.1, .int t2.2])), (a_this_text, .inl (k 2, 700, .inl c_text)), (a_p1_messages, .inr (4, [.int (24 : Int32), .int (12 : Int32), .ref a_p1_messages_cells])), (a_p1_messages_cells, .inl (k 0, 288, .inl c_p1_messages)), (a_p1_copies, .inr (4, [.int (192 : Int32), .int (5 : Int32), .ref a_p1_copies_cells])), (a_p1_copies_cells, .inl (k 0, 960, .inl c_p1_copies)), (a_p1_log, .inr (0, [.ref a_p1_log_events, .int c_p1_log_first, .int c_p1_log_size])), (a_p1_log_events, .inr (4, [.int (40 : Int32), .int (5 : Int32), .ref a_p1_log_events_cells])), (a_p1_log_events_cells, .inl (k 0, 200, .inl c_p1_log_events))]) rfl rfl, rfl, rfl⟩ (rn_r hR rfl) rn_cs hl.1 rfl (Nat.le_of_ble_eq_true rfl) dX3_readMessage_17 (fun hn5 H locs hW => ?_)
    refine lv_iconst (v := 1) hx hb dX3_readMessage_20 (by decide) ?_
    refine lv_isub hx hb dX3_readMessage_21 ?_
    obtain ⟨t6, ht6, hf⟩ := rn_bind hf
    refine rr_callI (As := [.int (0 : Int32), .int (t5 - (1 : Int32))]) (rest := []) X hW (kX3_readNumber l D k z N a_this a_this_text c_length c_kind c_start c_end c_value t2.1 t2.2 c_text (0 : Int32) (t5 - (1 : Int32)) ht6) gm_X3_readNumber gl_X3_69 [0, 1] [2, 3, 4, 5, 6, 7, 8, 9] [(a_this, .inr (3, [.ref a_this_text, .int c_length, .int t6.2.1, .int t6.2.2.1, .int t6.2.2.2.1, .int t6.2.2.2.2.1, .int t6.2.2.2.2.2.1, .int t6.2.2.2.2.2.2])), (a_this_text, .inl (k 2, 700, .inl c_text)), (a_p1, .inr (2, [.ref a_p1_stations, .ref a_p1_links, .ref a_p1_messages, .ref a_p1_copies, .ref a_p1_log, .ref a_p1_ways, .ref a_p1_frames, .int c_p1_stationCount, .int c_p1_linkCount, .int c_p1_messageCount, .int c_p1_time, .int c_p1_life, .int c_p1_tries, .int c_p1_x])), (a_p1_messages, .inr (4, [.int (24 : Int32), .int (12 : Int32), .ref a_p1_messages_cells])), (a_p1_messages_cells, .inl (k 0, 288, .inl c_p1_messages)), (a_p1_copies, .inr (4, [.int (192 : Int32), .int (5 : Int32), .ref a_p1_copies_cells])), (a_p1_copies_cells, .inl (k 0, 960, .inl c_p1_copies)), (a_p1_log, .inr (0, [.ref a_p1_log_events, .int c_p1_log_first, .int c_p1_log_size])), (a_p1_log_events, .inr (4, [.int (40 : Int32), .int (5 : Int32), .ref a_p1_log_events_cells])), (a_p1_log_events_cells, .inl (k 0, 200, .inl c_p1_log_events))] rfl rfl rfl rfl ⟨rfl, rfl, rn_Bw (wr := [(a_p1, .inr (2, [.ref a_p1_stations, .ref a_p1_links, .ref a_p1_messages, .ref a_p1_copies, .ref a_p1_log, .ref a_p1_ways, .ref a_p1_frames, .int c_p1_stationCount, .int c_p1_linkCount, .int c_p1_messageCount, .int c_p1_time, .int c_p1_life, .int c_p1_tries, .int c_p1_x])), (a_p1_messages, .inr (4, [.int (24 : Int32), .int (12 : Int32), .ref a_p1_messages_cells])), (a_p1_messages_cells, .inl (k 0, 288, .inl c_p1_messages)), (a_p1_copies, .inr (4, [.int (192 : Int32), .int (5 : Int32), .ref a_p1_copies_cells])), (a_p1_copies_cells, .inl (k 0, 960, .inl c_p1_copies)), (a_p1_log, .inr (0, [.ref a_p1_log_events, .int c_p1_log_first, .int c_p1_log_size])), (a_p1_log_events, .inr (4, [.int (40 : Int32), .int (5 : Int32), .ref a_p1_log_events_cells])), (a_p1_log_events_cells, .inl (k 0, 200, .inl c_p1_log_events))]) rfl rfl, rfl, rfl⟩ (rn_r hR rfl) rn_cs hl.1 rfl (Nat.le_of_ble_eq_true rfl) dX3_readMessage_22 (fun hn6 H locs hW => ?_)
    refine lv_istore_n (lv' := [(2, .int t6.1), (0, .ref a_this), (1, .ref a_p1)]) hx hb dX3_readMessage_25 rfl hl (Nat.le_of_ble_eq_true rfl) rfl (fun ls hl => ?_)
    refine lv_aload_n hx hb dX3_readMessage_26 rfl (lv_at hl 1 rfl) ?_
    refine lv_iconst (v := 0) hx hb dX3_readMessage_27 (by decide) ?_
    refine lv_aload_n hx hb dX3_readMessage_28 rfl (lv_at hl 2 rfl) ?_
    obtain ⟨t7, ht7, hf⟩ := rn_bind hf
    refine rr_callI (As := []) (rest := [.int (0 : Int32), .ref a_this]) X hW (kX2_stationCount l D k z a_p1 a_p1_stations a_p1_links a_p1_messages a_p1_copies a_p1_log a_p1_ways a_p1_frames c_p1_stationCount c_p1_linkCount c_p1_messageCount c_p1_time c_p1_life c_p1_tries c_p1_x ht7) gm_X2_stationCount gl_X3_92 [2] [0, 1, 3, 4, 5, 6, 7, 8, 9] [(a_this, .inr (3, [.ref a_this_text, .int c_length, .int t6.2.1, .int t6.2.2.1, .int t6.2.2.2.1, .int t6.2.2.2.2.1, .int t6.2.2.2.2.2.1, .int t6.2.2.2.2.2.2])), (a_this_text, .inl (k 2, 700, .inl c_text)), (a_p1, .inr (2, [.ref a_p1_stations, .ref a_p1_links, .ref a_p1_messages, .ref a_p1_copies, .ref a_p1_log, .ref a_p1_ways, .ref a_p1_frames, .int c_p1_stationCount, .int c_p1_linkCount, .int c_p1_messageCount, .int c_p1_time, .int c_p1_life, .int c_p1_tries, .int c_p1_x])), (a_p1_messages, .inr (4, [.int (24 : Int32), .int (12 : Int32), .ref a_p1_messages_cells])), (a_p1_messages_cells, .inl (k 0, 288, .inl c_p1_messages)), (a_p1_copies, .inr (4, [.int (192 : Int32), .int (5 : Int32), .ref a_p1_copies_cells])), (a_p1_copies_cells, .inl (k 0, 960, .inl c_p1_copies)), (a_p1_log, .inr (0, [.ref a_p1_log_events, .int c_p1_log_first, .int c_p1_log_size])), (a_p1_log_events, .inr (4, [.int (40 : Int32), .int (5 : Int32), .ref a_p1_log_events_cells])), (a_p1_log_events_cells, .inl (k 0, 200, .inl c_p1_log_events))] rfl rfl rfl rfl ⟨rfl, rfl, rn_Bw (wr := [(a_this, .inr (3, [.ref a_this_text, .int c_length, .int t6.2.1, .int t6.2.2.1, .int t6.2.2.2.1, .int t6.2.2.2.2.1, .int t6.2.2.2.2.2.1, .int t6.2.2.2.2.2.2])), (a_this_text, .inl (k 2, 700, .inl c_text)), (a_p1_messages, .inr (4, [.int (24 : Int32), .int (12 : Int32), .ref a_p1_messages_cells])), (a_p1_messages_cells, .inl (k 0, 288, .inl c_p1_messages)), (a_p1_copies, .inr (4, [.int (192 : Int32), .int (5 : Int32), .ref a_p1_copies_cells])), (a_p1_copies_cells, .inl (k 0, 960, .inl c_p1_copies)), (a_p1_log, .inr (0, [.ref a_p1_log_events, .int c_p1_log_first, .int c_p1_log_size])), (a_p1_log_events, .inr (4, [.int (40 : Int32), .int (5 : Int32), .ref a_p1_log_events_cells])), (a_p1_log_events_cells, .inl (k 0, 200, .inl c_p1_log_events))]) rfl rfl, rfl, rfl⟩ (rn_r hR rfl) rn_cs hl.1 rfl (Nat.le_of_ble_eq_true rfl) dX3_readMessage_29 (fun hn7 H locs hW => ?_)
    refine lv_iconst (v := 1) hx hb dX3_readMessage_32 (by decide) ?_
    refine lv_isub hx hb dX3_readMessage_33 ?_
    obtain ⟨t8, ht8, hf⟩ := rn_bind hf
    refine rr_callI (As := [.int (0 : Int32), .int (t7 - (1 : Int32))]) (rest := []) X hW (kX3_readNumber l D k z N a_this a_this_text c_length t6.2.1 t6.2.2.1 t6.2.2.2.1 t6.2.2.2.2.1 t6.2.2.2.2.2.1 t6.2.2.2.2.2.2 c_text (0 : Int32) (t7 - (1 : Int32)) ht8) gm_X3_readNumber gl_X3_69 [0, 1] [2, 3, 4, 5, 6, 7, 8, 9] [(a_this, .inr (3, [.ref a_this_text, .int c_length, .int t8.2.1, .int t8.2.2.1, .int t8.2.2.2.1, .int t8.2.2.2.2.1, .int t8.2.2.2.2.2.1, .int t8.2.2.2.2.2.2])), (a_this_text, .inl (k 2, 700, .inl c_text)), (a_p1, .inr (2, [.ref a_p1_stations, .ref a_p1_links, .ref a_p1_messages, .ref a_p1_copies, .ref a_p1_log, .ref a_p1_ways, .ref a_p1_frames, .int c_p1_stationCount, .int c_p1_linkCount, .int c_p1_messageCount, .int c_p1_time, .int c_p1_life, .int c_p1_tries, .int c_p1_x])), (a_p1_messages, .inr (4, [.int (24 : Int32), .int (12 : Int32), .ref a_p1_messages_cells])), (a_p1_messages_cells, .inl (k 0, 288, .inl c_p1_messages)), (a_p1_copies, .inr (4, [.int (192 : Int32), .int (5 : Int32), .ref a_p1_copies_cells])), (a_p1_copies_cells, .inl (k 0, 960, .inl c_p1_copies)), (a_p1_log, .inr (0, [.ref a_p1_log_events, .int c_p1_log_first, .int c_p1_log_size])), (a_p1_log_events, .inr (4, [.int (40 : Int32), .int (5 : Int32), .ref a_p1_log_events_cells])), (a_p1_log_events_cells, .inl (k 0, 200, .inl c_p1_log_events))] rfl rfl rfl rfl ⟨rfl, rfl, rn_Bw (wr := [(a_p1, .inr (2, [.ref a_p1_stations, .ref a_p1_links, .ref a_p1_messages, .ref a_p1_copies, .ref a_p1_log, .ref a_p1_ways, .ref a_p1_frames, .int c_p1_stationCount, .int c_p1_linkCount, .int c_p1_messageCount, .int c_p1_time, .int c_p1_life, .int c_p1_tries, .int c_p1_x])), (a_p1_messages, .inr (4, [.int (24 : Int32), .int (12 : Int32), .ref a_p1_messages_cells])), (a_p1_messages_cells, .inl (k 0, 288, .inl c_p1_messages)), (a_p1_copies, .inr (4, [.int (192 : Int32), .int (5 : Int32), .ref a_p1_copies_cells])), (a_p1_copies_cells, .inl (k 0, 960, .inl c_p1_copies)), (a_p1_log, .inr (0, [.ref a_p1_log_events, .int c_p1_log_first, .int c_p1_log_size])), (a_p1_log_events, .inr (4, [.int (40 : Int32), .int (5 : Int32), .ref a_p1_log_events_cells])), (a_p1_log_events_cells, .inl (k 0, 200, .inl c_p1_log_events))]) rfl rfl, rfl, rfl⟩ (rn_r hR rfl) rn_cs hl.1 rfl (Nat.le_of_ble_eq_true rfl) dX3_readMessage_34 (fun hn8 H locs hW => ?_)
    refine lv_istore_n (lv' := [(3, .int t8.1), (2, .int t6.1), (0, .ref a_this), (1, .ref a_p1)]) hx hb dX3_readMessage_37 rfl hl (Nat.le_of_ble_eq_true rfl) rfl (fun ls hl => ?_)
    refine lv_iload_n hx hb dX3_readMessage_38 rfl (lv_at hl 0 rfl) ?_
    refine lv_iload_n hx hb dX3_readMessage_39 rfl (lv_at hl 1 rfl) ?_
    obtain ⟨t9, ht9, hf⟩ := rn_bind hf
    have jnt9 : ∀ (H : Heap) (locs : List Loc) (ls : Array Slot), rn_W D A s [(a_this, .inr (3, [.ref a_this_text, .int c_length, .int t8.2.1, .int t8.2.2.1, .int t8.2.2.2.1, .int t8.2.2.2.2.1, .int t9.1, .int t9.2])), (a_this_text, .inl (k 2, 700, .inl c_text)), (a_p1, .inr (2, [.ref a_p1_stations, .ref a_p1_links, .ref a_p1_messages, .ref a_p1_copies, .ref a_p1_log, .ref a_p1_ways, .ref a_p1_frames, .int c_p1_stationCount, .int c_p1_linkCount, .int c_p1_messageCount, .int c_p1_time, .int c_p1_life, .int c_p1_tries, .int c_p1_x])), (a_p1_messages, .inr (4, [.int (24 : Int32), .int (12 : Int32), .ref a_p1_messages_cells])), (a_p1_messages_cells, .inl (k 0, 288, .inl c_p1_messages)), (a_p1_copies, .inr (4, [.int (192 : Int32), .int (5 : Int32), .ref a_p1_copies_cells])), (a_p1_copies_cells, .inl (k 0, 960, .inl c_p1_copies)), (a_p1_log, .inr (0, [.ref a_p1_log_events, .int c_p1_log_first, .int c_p1_log_size])), (a_p1_log_events, .inr (4, [.int (40 : Int32), .int (5 : Int32), .ref a_p1_log_events_cells])), (a_p1_log_events_cells, .inl (k 0, 200, .inl c_p1_log_events))] H locs → lv_has ls 5 [(0, .ref a_this), (1, .ref a_p1), (2, .int t6.1), (3, .int t8.1)] → W p l e R s m args below meth c H locs 0 0 Q (F0 m 48 ls []) := by
      intro H locs ls hW hl
      refine lv_aload_n hx hb dX3_readMessage_48 rfl (lv_at hl 0 rfl) ?_
      refine lv_iconst (v := 0) hx hb dX3_readMessage_49 (by decide) ?_
      refine lv_iconst (v := 3) hx hb dX3_readMessage_50 (by decide) ?_
      obtain ⟨t12, ht12, hf⟩ := rn_bind hf
      refine rr_callI (As := [.int (0 : Int32), .int (3 : Int32)]) (rest := []) X hW (kX3_readNumber l D k z N a_this a_this_text c_length t8.2.1 t8.2.2.1 t8.2.2.2.1 t8.2.2.2.2.1 t9.1 t9.2 c_text (0 : Int32) (3 : Int32) ht12) gm_X3_readNumber gl_X3_69 [0, 1] [2, 3, 4, 5, 6, 7, 8, 9] [(a_this, .inr (3, [.ref a_this_text, .int c_length, .int t12.2.1, .int t12.2.2.1, .int t12.2.2.2.1, .int t12.2.2.2.2.1, .int t12.2.2.2.2.2.1, .int t12.2.2.2.2.2.2])), (a_this_text, .inl (k 2, 700, .inl c_text)), (a_p1, .inr (2, [.ref a_p1_stations, .ref a_p1_links, .ref a_p1_messages, .ref a_p1_copies, .ref a_p1_log, .ref a_p1_ways, .ref a_p1_frames, .int c_p1_stationCount, .int c_p1_linkCount, .int c_p1_messageCount, .int c_p1_time, .int c_p1_life, .int c_p1_tries, .int c_p1_x])), (a_p1_messages, .inr (4, [.int (24 : Int32), .int (12 : Int32), .ref a_p1_messages_cells])), (a_p1_messages_cells, .inl (k 0, 288, .inl c_p1_messages)), (a_p1_copies, .inr (4, [.int (192 : Int32), .int (5 : Int32), .ref a_p1_copies_cells])), (a_p1_copies_cells, .inl (k 0, 960, .inl c_p1_copies)), (a_p1_log, .inr (0, [.ref a_p1_log_events, .int c_p1_log_first, .int c_p1_log_size])), (a_p1_log_events, .inr (4, [.int (40 : Int32), .int (5 : Int32), .ref a_p1_log_events_cells])), (a_p1_log_events_cells, .inl (k 0, 200, .inl c_p1_log_events))] rfl rfl rfl rfl ⟨rfl, rfl, rn_Bw (wr := [(a_p1, .inr (2, [.ref a_p1_stations, .ref a_p1_links, .ref a_p1_messages, .ref a_p1_copies, .ref a_p1_log, .ref a_p1_ways, .ref a_p1_frames, .int c_p1_stationCount, .int c_p1_linkCount, .int c_p1_messageCount, .int c_p1_time, .int c_p1_life, .int c_p1_tries, .int c_p1_x])), (a_p1_messages, .inr (4, [.int (24 : Int32), .int (12 : Int32), .ref a_p1_messages_cells])), (a_p1_messages_cells, .inl (k 0, 288, .inl c_p1_messages)), (a_p1_copies, .inr (4, [.int (192 : Int32), .int (5 : Int32), .ref a_p1_copies_cells])), (a_p1_copies_cells, .inl (k 0, 960, .inl c_p1_copies)), (a_p1_log, .inr (0, [.ref a_p1_log_events, .int c_p1_log_first, .int c_p1_log_size])), (a_p1_log_events, .inr (4, [.int (40 : Int32), .int (5 : Int32), .ref a_p1_log_events_cells])), (a_p1_log_events_cells, .inl (k 0, 200, .inl c_p1_log_events))]) rfl rfl, rfl, rfl⟩ (rn_r hR rfl) rn_cs hl.1 rfl (Nat.le_of_ble_eq_true rfl) dX3_readMessage_51 (fun hn12 H locs hW => ?_)
      refine lv_istore (lv' := [(4, .int t12.1), (0, .ref a_this), (1, .ref a_p1), (2, .int t6.1), (3, .int t8.1)]) hx hb dX3_readMessage_54 hl (Nat.le_of_ble_eq_true rfl) rfl (fun ls hl => ?_)
      refine lv_aload_n hx hb dX3_readMessage_56 rfl (lv_at hl 1 rfl) ?_
      refine rr_get X hW 0 6 gf_X3_31 rfl rfl dX3_readMessage_57 ?_
      refine lv_if_ne (tgt := 72) hx hb dX3_readMessage_60 (by decide) (fun hc13 => ?_) (fun hc13 => ?_)
      · replace hf := rn_f hf hc13
        cases hf
        exact hE _ _ _ _ hW dX3_readMessage_72
      · replace hf := rn_t hf hc13
        refine lv_aload_n hx hb dX3_readMessage_63 rfl (lv_at hl 2 rfl) ?_
        refine lv_iload_n hx hb dX3_readMessage_64 rfl (lv_at hl 3 rfl) ?_
        refine lv_iload_n hx hb dX3_readMessage_65 rfl (lv_at hl 4 rfl) ?_
        refine lv_iload hx hb dX3_readMessage_66 (lv_at hl 0 rfl) ?_
        obtain ⟨t14, ht14, hf⟩ := rn_bind hf
        refine rr_callI (As := [.int t6.1, .int t8.1, .int t12.1]) (rest := []) X hW (kX2_newMessage l D k z a_p1 a_p1_stations a_p1_links a_p1_messages a_p1_copies a_p1_log a_p1_ways a_p1_frames a_p1_messages_cells a_p1_copies_cells a_p1_log_events a_p1_log_events_cells c_p1_stationCount c_p1_linkCount c_p1_messageCount c_p1_time c_p1_life c_p1_tries c_p1_x c_p1_messages c_p1_copies c_p1_log_first c_p1_log_size c_p1_log_events t6.1 t8.1 t12.1 ht14) gm_X2_newMessage gl_X3_113 [2, 3, 4, 5, 6, 7, 8, 9] [0, 1] [(a_this, .inr (3, [.ref a_this_text, .int c_length, .int t12.2.1, .int t12.2.2.1, .int t12.2.2.2.1, .int t12.2.2.2.2.1, .int t12.2.2.2.2.2.1, .int t12.2.2.2.2.2.2])), (a_this_text, .inl (k 2, 700, .inl c_text)), (a_p1, .inr (2, [.ref a_p1_stations, .ref a_p1_links, .ref a_p1_messages, .ref a_p1_copies, .ref a_p1_log, .ref a_p1_ways, .ref a_p1_frames, .int c_p1_stationCount, .int c_p1_linkCount, .int t14.2.1, .int c_p1_time, .int c_p1_life, .int c_p1_tries, .int c_p1_x])), (a_p1_messages, .inr (4, [.int (24 : Int32), .int (12 : Int32), .ref a_p1_messages_cells])), (a_p1_messages_cells, .inl (k 0, 288, .inl t14.2.2.1)), (a_p1_copies, .inr (4, [.int (192 : Int32), .int (5 : Int32), .ref a_p1_copies_cells])), (a_p1_copies_cells, .inl (k 0, 960, .inl t14.2.2.2.1)), (a_p1_log, .inr (0, [.ref a_p1_log_events, .int t14.2.2.2.2.1, .int t14.2.2.2.2.2.1])), (a_p1_log_events, .inr (4, [.int (40 : Int32), .int (5 : Int32), .ref a_p1_log_events_cells])), (a_p1_log_events_cells, .inl (k 0, 200, .inl t14.2.2.2.2.2.2))] rfl rfl rfl rfl ⟨rfl, rfl, rn_Bw (wr := [(a_this, .inr (3, [.ref a_this_text, .int c_length, .int t12.2.1, .int t12.2.2.1, .int t12.2.2.2.1, .int t12.2.2.2.2.1, .int t12.2.2.2.2.2.1, .int t12.2.2.2.2.2.2])), (a_this_text, .inl (k 2, 700, .inl c_text))]) rfl rfl, rfl, rfl⟩ (rn_r hR rfl) rn_cs hl.1 rfl (Nat.le_of_ble_eq_true rfl) dX3_readMessage_68 (fun hn14 H locs hW => ?_)
        refine lv_pop hx hb dX3_readMessage_71 rfl ?_
        cases hf
        exact hE _ _ _ _ hW dX3_readMessage_72
    replace hf := ht9
    clear ht9
    refine lv_icmp_ne (tgt := 48) hx hb dX3_readMessage_40 (by decide) (fun hc10 => ?_) (fun hc10 => ?_)
    · replace hf := rn_f hf hc10
      cases hf
      exact jnt9 _ _ _ hW (lv_sub hl [2, 3, 1, 0] rfl)
    · replace hf := rn_t hf hc10
      refine lv_aload_n hx hb dX3_readMessage_43 rfl (lv_at hl 2 rfl) ?_
      refine lv_iconst (v := 4) hx hb dX3_readMessage_44 (by decide) ?_
      obtain ⟨t11, ht11, hf⟩ := rn_bind hf
      refine rr_callV (As := [.int (4 : Int32)]) (rest := []) X hW (kX3_fail l D k z a_this a_this_text c_length t8.2.1 t8.2.2.1 t8.2.2.2.1 t8.2.2.2.2.1 t8.2.2.2.2.2.1 t8.2.2.2.2.2.2 (4 : Int32) ht11) gm_X3_fail gl_X3_44 [0] [1, 2, 3, 4, 5, 6, 7, 8, 9] [(a_this, .inr (3, [.ref a_this_text, .int c_length, .int t8.2.1, .int t8.2.2.1, .int t8.2.2.2.1, .int t8.2.2.2.2.1, .int t11.1, .int t11.2])), (a_this_text, .inl (k 2, 700, .inl c_text)), (a_p1, .inr (2, [.ref a_p1_stations, .ref a_p1_links, .ref a_p1_messages, .ref a_p1_copies, .ref a_p1_log, .ref a_p1_ways, .ref a_p1_frames, .int c_p1_stationCount, .int c_p1_linkCount, .int c_p1_messageCount, .int c_p1_time, .int c_p1_life, .int c_p1_tries, .int c_p1_x])), (a_p1_messages, .inr (4, [.int (24 : Int32), .int (12 : Int32), .ref a_p1_messages_cells])), (a_p1_messages_cells, .inl (k 0, 288, .inl c_p1_messages)), (a_p1_copies, .inr (4, [.int (192 : Int32), .int (5 : Int32), .ref a_p1_copies_cells])), (a_p1_copies_cells, .inl (k 0, 960, .inl c_p1_copies)), (a_p1_log, .inr (0, [.ref a_p1_log_events, .int c_p1_log_first, .int c_p1_log_size])), (a_p1_log_events, .inr (4, [.int (40 : Int32), .int (5 : Int32), .ref a_p1_log_events_cells])), (a_p1_log_events_cells, .inl (k 0, 200, .inl c_p1_log_events))] rfl rfl rfl rfl ⟨rfl, rfl, rn_Bw (wr := [(a_this_text, .inl (k 2, 700, .inl c_text)), (a_p1, .inr (2, [.ref a_p1_stations, .ref a_p1_links, .ref a_p1_messages, .ref a_p1_copies, .ref a_p1_log, .ref a_p1_ways, .ref a_p1_frames, .int c_p1_stationCount, .int c_p1_linkCount, .int c_p1_messageCount, .int c_p1_time, .int c_p1_life, .int c_p1_tries, .int c_p1_x])), (a_p1_messages, .inr (4, [.int (24 : Int32), .int (12 : Int32), .ref a_p1_messages_cells])), (a_p1_messages_cells, .inl (k 0, 288, .inl c_p1_messages)), (a_p1_copies, .inr (4, [.int (192 : Int32), .int (5 : Int32), .ref a_p1_copies_cells])), (a_p1_copies_cells, .inl (k 0, 960, .inl c_p1_copies)), (a_p1_log, .inr (0, [.ref a_p1_log_events, .int c_p1_log_first, .int c_p1_log_size])), (a_p1_log_events, .inr (4, [.int (40 : Int32), .int (5 : Int32), .ref a_p1_log_events_cells])), (a_p1_log_events_cells, .inl (k 0, 200, .inl c_p1_log_events))]) rfl rfl, rfl, rfl⟩ (rn_r hR rfl) rn_cs hl.1 rfl (Nat.le_of_ble_eq_true rfl) dX3_readMessage_45 (fun H locs hW => ?_)
      cases hf
      exact jnt9 _ _ _ hW (lv_sub hl [2, 3, 1, 0] rfl)
  replace hf := ht2
  clear ht2
  refine lv_icmp_lt (tgt := 14) hx hb dX3_readMessage_6 (by decide) (fun hc3 => ?_) (fun hc3 => ?_)
  · replace hf := rn_t hf hc3
    cases hf
    exact jnt2 _ _ _ hW (lv_sub hl [0, 1] rfl)
  · replace hf := rn_f hf hc3
    refine lv_aload_n hx hb dX3_readMessage_9 rfl (lv_at hl 0 rfl) ?_
    refine lv_iconst (v := 3) hx hb dX3_readMessage_10 (by decide) ?_
    obtain ⟨t4, ht4, hf⟩ := rn_bind hf
    refine rr_callV (As := [.int (3 : Int32)]) (rest := []) X hW (kX3_fail l D k z a_this a_this_text c_length c_kind c_start c_end c_value c_error c_errorStart (3 : Int32) ht4) gm_X3_fail gl_X3_44 [0] [1, 2, 3, 4, 5, 6, 7, 8, 9] [(a_this, .inr (3, [.ref a_this_text, .int c_length, .int c_kind, .int c_start, .int c_end, .int c_value, .int t4.1, .int t4.2])), (a_this_text, .inl (k 2, 700, .inl c_text)), (a_p1, .inr (2, [.ref a_p1_stations, .ref a_p1_links, .ref a_p1_messages, .ref a_p1_copies, .ref a_p1_log, .ref a_p1_ways, .ref a_p1_frames, .int c_p1_stationCount, .int c_p1_linkCount, .int c_p1_messageCount, .int c_p1_time, .int c_p1_life, .int c_p1_tries, .int c_p1_x])), (a_p1_messages, .inr (4, [.int (24 : Int32), .int (12 : Int32), .ref a_p1_messages_cells])), (a_p1_messages_cells, .inl (k 0, 288, .inl c_p1_messages)), (a_p1_copies, .inr (4, [.int (192 : Int32), .int (5 : Int32), .ref a_p1_copies_cells])), (a_p1_copies_cells, .inl (k 0, 960, .inl c_p1_copies)), (a_p1_log, .inr (0, [.ref a_p1_log_events, .int c_p1_log_first, .int c_p1_log_size])), (a_p1_log_events, .inr (4, [.int (40 : Int32), .int (5 : Int32), .ref a_p1_log_events_cells])), (a_p1_log_events_cells, .inl (k 0, 200, .inl c_p1_log_events))] rfl rfl rfl rfl ⟨rfl, rfl, rn_Bw (wr := [(a_this_text, .inl (k 2, 700, .inl c_text)), (a_p1, .inr (2, [.ref a_p1_stations, .ref a_p1_links, .ref a_p1_messages, .ref a_p1_copies, .ref a_p1_log, .ref a_p1_ways, .ref a_p1_frames, .int c_p1_stationCount, .int c_p1_linkCount, .int c_p1_messageCount, .int c_p1_time, .int c_p1_life, .int c_p1_tries, .int c_p1_x])), (a_p1_messages, .inr (4, [.int (24 : Int32), .int (12 : Int32), .ref a_p1_messages_cells])), (a_p1_messages_cells, .inl (k 0, 288, .inl c_p1_messages)), (a_p1_copies, .inr (4, [.int (192 : Int32), .int (5 : Int32), .ref a_p1_copies_cells])), (a_p1_copies_cells, .inl (k 0, 960, .inl c_p1_copies)), (a_p1_log, .inr (0, [.ref a_p1_log_events, .int c_p1_log_first, .int c_p1_log_size])), (a_p1_log_events, .inr (4, [.int (40 : Int32), .int (5 : Int32), .ref a_p1_log_events_cells])), (a_p1_log_events_cells, .inl (k 0, 200, .inl c_p1_log_events))]) rfl rfl, rfl, rfl⟩ (rn_r hR rfl) rn_cs hl.1 rfl (Nat.le_of_ble_eq_true rfl) dX3_readMessage_11 (fun H locs hW => ?_)
    cases hf
    exact jnt2 _ _ _ hW (lv_sub hl [0, 1] rfl)
def fX3_readSemicolon (N : Nat) (c_length : Int32) (c_kind : Int32) (c_start : Int32) (c_end : Int32) (c_value : Int32) (c_error : Int32) (c_errorStart : Int32) (c_text : Nat → Int32) : Option (Int32 × Int32 × Int32 × Int32 × Int32 × Int32) :=
  if c_error = 0 then
    (fX3_nextToken N c_length c_kind c_start c_end c_value c_text).bind fun t2 =>
    if t2.1 = (3 : Int32) then
      some (t2.1, t2.2.1, t2.2.2.1, t2.2.2.2, c_error, c_errorStart)
    else
    (fX3_fail t2.2.1 c_error c_errorStart (1 : Int32)).bind fun t4 =>
    some (t2.1, t2.2.1, t2.2.2.1, t2.2.2.2, t4.1, t4.2)
  else
  some (c_kind, c_start, c_end, c_value, c_error, c_errorStart)
set_option maxHeartbeats 4000000 in
set_option maxRecDepth 20000 in
theorem kX3_readSemicolon (l : Launch) (D : va_G) (k : Nat → ClassId) (z : (Nat → Nat) × (Nat → Nat)) (N : Nat) (a_this : Nat) (a_this_text : Nat) (c_length : Int32) (c_kind : Int32) (c_start : Int32) (c_end : Int32) (c_value : Int32) (c_error : Int32) (c_errorStart : Int32) (c_text : Nat → Int32) {u : Int32 × Int32 × Int32 × Int32 × Int32 × Int32} (hf : fX3_readSemicolon N c_length c_kind c_start c_end c_value c_error c_errorStart c_text = some u) : rn_KV l D k z yX3_readSemicolon cX3_readSemicolon 1 2 41 [.ref a_this] [(a_this, .inr (3, [.ref a_this_text, .int c_length, .int c_kind, .int c_start, .int c_end, .int c_value, .int c_error, .int c_errorStart])), (a_this_text, .inl (k 2, 700, .inl c_text))] [(a_this, .inr (3, [.ref a_this_text, .int c_length, .int u.1, .int u.2.1, .int u.2.2.1, .int u.2.2.2.1, .int u.2.2.2.2.1, .int u.2.2.2.2.2])), (a_this_text, .inl (k 2, 700, .inl c_text))] := by
  refine rn_KV.go (LOC := [(0, .ref a_this)]) rfl (by decide) (Nat.le_of_ble_eq_true rfl) rfl ?_
  intro p e s m args below meth c A ls R Q X hR hE hW hl
  have hx := X.1.1
  have hb := X.1.2.1
  unfold fX3_readSemicolon at hf
  obtain ⟨u0, u1, u2, u3, u4, u5⟩ := u
  dsimp only at hE
  refine lv_aload_n hx hb dX3_readSemicolon_0 rfl (lv_at hl 0 rfl) ?_
  refine rr_get X hW 0 6 gf_X3_31 rfl rfl dX3_readSemicolon_1 ?_
  refine lv_if_eq (tgt := 8) hx hb dX3_readSemicolon_4 (by decide) (fun hc1 => ?_) (fun hc1 => ?_)
  · replace hf := rn_t hf hc1
    refine lv_aload_n hx hb dX3_readSemicolon_8 rfl (lv_at hl 0 rfl) ?_
    obtain ⟨t2, ht2, hf⟩ := rn_bind hf
    refine rr_callV (As := []) (rest := []) X hW (kX3_nextToken l D k z N a_this a_this_text c_length c_kind c_start c_end c_value c_error c_errorStart c_text ht2) gm_X3_nextToken gl_X3_37 [0, 1] [] [(a_this, .inr (3, [.ref a_this_text, .int c_length, .int t2.1, .int t2.2.1, .int t2.2.2.1, .int t2.2.2.2, .int c_error, .int c_errorStart])), (a_this_text, .inl (k 2, 700, .inl c_text))] rfl rfl rfl rfl ⟨rfl, rfl, rfl, rfl, rfl⟩ (rn_r hR rfl) rn_cs hl.1 rfl (Nat.le_of_ble_eq_true rfl) dX3_readSemicolon_9 (fun H locs hW => ?_)
    refine lv_aload_n hx hb dX3_readSemicolon_12 rfl (lv_at hl 0 rfl) ?_
    refine rr_get X hW 0 2 gf_X3_19 rfl rfl dX3_readSemicolon_13 ?_
    refine lv_iconst (v := 3) hx hb dX3_readSemicolon_16 (by decide) ?_
    refine lv_icmp_eq (tgt := 25) hx hb dX3_readSemicolon_17 (by decide) (fun hc3 => ?_) (fun hc3 => ?_)
    · replace hf := rn_t hf hc3
      cases hf
      exact hE _ _ _ _ hW dX3_readSemicolon_25
    · replace hf := rn_f hf hc3
      refine lv_aload_n hx hb dX3_readSemicolon_20 rfl (lv_at hl 0 rfl) ?_
      refine lv_iconst (v := 1) hx hb dX3_readSemicolon_21 (by decide) ?_
      obtain ⟨t4, ht4, hf⟩ := rn_bind hf
      refine rr_callV (As := [.int (1 : Int32)]) (rest := []) X hW (kX3_fail l D k z a_this a_this_text c_length t2.1 t2.2.1 t2.2.2.1 t2.2.2.2 c_error c_errorStart (1 : Int32) ht4) gm_X3_fail gl_X3_44 [0] [1] [(a_this, .inr (3, [.ref a_this_text, .int c_length, .int t2.1, .int t2.2.1, .int t2.2.2.1, .int t2.2.2.2, .int t4.1, .int t4.2])), (a_this_text, .inl (k 2, 700, .inl c_text))] rfl rfl rfl rfl ⟨rfl, rfl, rn_Bw (wr := [(a_this_text, .inl (k 2, 700, .inl c_text))]) rfl rfl, rfl, rfl⟩ (rn_r hR rfl) rn_cs hl.1 rfl (Nat.le_of_ble_eq_true rfl) dX3_readSemicolon_22 (fun H locs hW => ?_)
      cases hf
      exact hE _ _ _ _ hW dX3_readSemicolon_25
  · replace hf := rn_f hf hc1
    cases hf
    exact hE _ _ _ _ hW dX3_readSemicolon_7
