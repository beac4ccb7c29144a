/-! generated (wip/whole/gen/emit.py): functions and contracts: 12.fX1 -/
def fX1_clear (c_length : Int32) : Option (Int32) :=
  some (0 : Int32)
set_option maxHeartbeats 4000000 in
set_option maxRecDepth 20000 in
theorem kX1_clear (l : Launch) (D : va_G) (k : Nat → ClassId) (z : (Nat → Nat) × (Nat → Nat)) (a_this : Nat) (a_this_bytes : Nat) (c_length : Int32) {u : Int32} (hf : fX1_clear c_length = some u) : rn_KV l D k z yX1_clear cX1_clear 1 0 0 [.ref a_this] [(a_this, .inr (1, [.ref a_this_bytes, .int c_length]))] [(a_this, .inr (1, [.ref a_this_bytes, .int u]))] := by
  refine rn_KV.go (LOC := [(0, .ref a_this)]) rfl (by decide) (Nat.le_of_ble_eq_true rfl) rfl ?_
  intro p e s m args below meth c A ls R Q X hR hE hW hl
  have hx := X.1.1
  have hb := X.1.2.1
  unfold fX1_clear at hf
  refine lv_aload_n hx hb dX1_clear_0 rfl (lv_at hl 0 rfl) ?_
  refine lv_iconst (v := 0) hx hb dX1_clear_1 (by decide) ?_
  refine rr_put X hW 0 1 gp_X1_15 rfl rfl rfl (Nat.le_of_ble_eq_true rfl) (ws' := [(a_this, .inr (1, [.ref a_this_bytes, .int (0 : Int32)]))]) rfl dX1_clear_2 (fun H locs hW => ?_)
  cases hf
  exact hE _ _ _ _ hW dX1_clear_5
def fX1_length (c_length : Int32) : Option (Int32) :=
  some c_length
set_option maxHeartbeats 4000000 in
set_option maxRecDepth 20000 in
theorem kX1_length (l : Launch) (D : va_G) (k : Nat → ClassId) (z : (Nat → Nat) × (Nat → Nat)) (a_this : Nat) (a_this_bytes : Nat) (c_length : Int32) {u : Int32} (hf : fX1_length c_length = some u) : rn_KI l D k z yX1_length cX1_length 1 .int 0 0 [.ref a_this] [(a_this, .inr (1, [.ref a_this_bytes, .int c_length]))] [(a_this, .inr (1, [.ref a_this_bytes, .int c_length]))] u := by
  refine rn_KI.go (LOC := [(0, .ref a_this)]) rfl (by decide) (Nat.le_of_ble_eq_true rfl) rfl ?_
  intro p e s m args below meth c A ls R Q X hR hE hW hl
  have hx := X.1.1
  have hb := X.1.2.1
  unfold fX1_length at hf
  refine lv_aload_n hx hb dX1_length_0 rfl (lv_at hl 0 rfl) ?_
  refine rr_get X hW 0 1 gf_X1_15 rfl rfl dX1_length_1 ?_
  cases hf
  exact hE _ _ _ _ hW rfl dX1_length_4
def fX1_byteAt (c_length : Int32) (c_bytes : Nat → Int32) (i1 : Int32) : Option (Int32) :=
  if i1 < 0 then
    some (-1 : Int32)
  else
  if c_length ≤ i1 then
    some (-1 : Int32)
  else
  if (Int32.ofNat 64) ≤ i1 then
    some (-1 : Int32)
  else
  rn_g i1 64 <|
  some (c_bytes i1.toNatClampNeg)
set_option maxHeartbeats 4000000 in
set_option maxRecDepth 20000 in
theorem kX1_byteAt (l : Launch) (D : va_G) (k : Nat → ClassId) (z : (Nat → Nat) × (Nat → Nat)) (a_this : Nat) (a_this_bytes : Nat) (c_length : Int32) (c_bytes : Nat → Int32) (i1 : Int32) {u : Int32} (hf : fX1_byteAt c_length c_bytes i1 = some u) : rn_KI l D k z yX1_byteAt cX1_byteAt 2 .int 0 0 [.ref a_this, .int i1] [(a_this, .inr (1, [.ref a_this_bytes, .int c_length])), (a_this_bytes, .inl (k 2, 64, .inl c_bytes))] [(a_this, .inr (1, [.ref a_this_bytes, .int c_length])), (a_this_bytes, .inl (k 2, 64, .inl c_bytes))] u := by
  refine rn_KI.go (LOC := [(0, .ref a_this), (1, .int i1)]) rfl (by decide) (Nat.le_of_ble_eq_true rfl) rfl ?_
  intro p e s m args below meth c A ls R Q X hR hE hW hl
  have hx := X.1.1
  have hb := X.1.2.1
  unfold fX1_byteAt at hf
  refine lv_iload_n hx hb dX1_byteAt_0 rfl (lv_at hl 1 rfl) ?_
  refine lv_if_lt (tgt := 30) hx hb dX1_byteAt_1 (by decide) (fun hc1 => ?_) (fun hc1 => ?_)
  · replace hf := rn_t hf hc1
    refine lv_iconst (v := -1) hx hb dX1_byteAt_30 (by decide) ?_
    cases hf
    exact hE _ _ _ _ hW rfl dX1_byteAt_31
  · replace hf := rn_f hf hc1
    refine lv_iload_n hx hb dX1_byteAt_4 rfl (lv_at hl 1 rfl) ?_
    refine lv_aload_n hx hb dX1_byteAt_5 rfl (lv_at hl 0 rfl) ?_
    refine rr_get X hW 0 1 gf_X1_15 rfl rfl dX1_byteAt_6 ?_
    refine lv_icmp_ge (tgt := 30) hx hb dX1_byteAt_9 (by decide) (fun hc2 => ?_) (fun hc2 => ?_)
    · replace hf := rn_t hf hc2
      refine lv_iconst (v := -1) hx hb dX1_byteAt_30 (by decide) ?_
      cases hf
      exact hE _ _ _ _ hW rfl dX1_byteAt_31
    · replace hf := rn_f hf hc2
      refine lv_iload_n hx hb dX1_byteAt_12 rfl (lv_at hl 1 rfl) ?_
      refine lv_aload_n hx hb dX1_byteAt_13 rfl (lv_at hl 0 rfl) ?_
      refine rr_get X hW 0 0 gf_X1_9 rfl rfl dX1_byteAt_14 ?_
      refine rr_alen X hW 1 2 rfl rfl dX1_byteAt_17 ?_
      refine lv_icmp_ge (tgt := 30) hx hb dX1_byteAt_18 (by decide) (fun hc3 => ?_) (fun hc3 => ?_)
      · replace hf := rn_t hf hc3
        refine lv_iconst (v := -1) hx hb dX1_byteAt_30 (by decide) ?_
        cases hf
        exact hE _ _ _ _ hW rfl dX1_byteAt_31
      · replace hf := rn_f hf hc3
        refine lv_aload_n hx hb dX1_byteAt_21 rfl (lv_at hl 0 rfl) ?_
        refine rr_get X hW 0 0 gf_X1_9 rfl rfl dX1_byteAt_22 ?_
        refine lv_iload_n hx hb dX1_byteAt_25 rfl (lv_at hl 1 rfl) ?_
        obtain ⟨hg4, hf⟩ := rn_g_s hf
        refine rr_bald X hW 1 rfl hg4 dX1_byteAt_26 ?_
        refine lv_goto (tgt := 31) hx hb dX1_byteAt_27 (by decide) ?_
        cases hf
        exact hE _ _ _ _ hW rfl dX1_byteAt_31
def fX1_put (c_length : Int32) (c_bytes : Nat → Int32) (i1 : Int32) : Option (Int32 × (Nat → Int32)) :=
  if c_length < 0 then
    some (c_length, c_bytes)
  else
  if (Int32.ofNat 64) ≤ c_length then
    some (c_length, c_bytes)
  else
  rn_g c_length 64 <|
  rn_let (upd c_bytes c_length.toNatClampNeg (vp_nar .byte ((i1).toInt8.toInt32))) fun w4 =>
  some ((c_length + (1 : Int32)), w4)
set_option maxHeartbeats 4000000 in
set_option maxRecDepth 20000 in
theorem kX1_put (l : Launch) (D : va_G) (k : Nat → ClassId) (z : (Nat → Nat) × (Nat → Nat)) (a_this : Nat) (a_this_bytes : Nat) (c_length : Int32) (c_bytes : Nat → Int32) (i1 : Int32) {u : Int32 × (Nat → Int32)} (hf : fX1_put c_length c_bytes i1 = some u) : rn_KV l D k z yX1_put cX1_put 2 0 0 [.ref a_this, .int i1] [(a_this, .inr (1, [.ref a_this_bytes, .int c_length])), (a_this_bytes, .inl (k 2, 64, .inl c_bytes))] [(a_this, .inr (1, [.ref a_this_bytes, .int u.1])), (a_this_bytes, .inl (k 2, 64, .inl u.2))] := by
  refine rn_KV.go (LOC := [(0, .ref a_this), (1, .int i1)]) rfl (by decide) (Nat.le_of_ble_eq_true rfl) rfl ?_
  intro p e s m args below meth c A ls R Q X hR hE hW hl
  have hx := X.1.1
  have hb := X.1.2.1
  unfold fX1_put at hf
  refine lv_aload_n hx hb dX1_put_0 rfl (lv_at hl 0 rfl) ?_
  refine rr_get X hW 0 1 gf_X1_15 rfl rfl dX1_put_1 ?_
  refine lv_if_lt (tgt := 40) hx hb dX1_put_4 (by decide) (fun hc1 => ?_) (fun hc1 => ?_)
  · replace hf := rn_t hf hc1
    cases hf
    exact hE _ _ _ _ hW dX1_put_40
  · replace hf := rn_f hf hc1
    refine lv_aload_n hx hb dX1_put_7 rfl (lv_at hl 0 rfl) ?_
    refine rr_get X hW 0 1 gf_X1_15 rfl rfl dX1_put_8 ?_
    refine lv_aload_n hx hb dX1_put_11 rfl (lv_at hl 0 rfl) ?_
    refine rr_get X hW 0 0 gf_X1_9 rfl rfl dX1_put_12 ?_
    refine rr_alen X hW 1 2 rfl rfl dX1_put_15 ?_
    refine lv_icmp_ge (tgt := 40) hx hb dX1_put_16 (by decide) (fun hc2 => ?_) (fun hc2 => ?_)
    · replace hf := rn_t hf hc2
      cases hf
      exact hE _ _ _ _ hW dX1_put_40
    · replace hf := rn_f hf hc2
      refine lv_aload_n hx hb dX1_put_19 rfl (lv_at hl 0 rfl) ?_
      refine rr_get X hW 0 0 gf_X1_9 rfl rfl dX1_put_20 ?_
      refine lv_aload_n hx hb dX1_put_23 rfl (lv_at hl 0 rfl) ?_
      refine rr_get X hW 0 1 gf_X1_15 rfl rfl dX1_put_24 ?_
      refine lv_iload_n hx hb dX1_put_27 rfl (lv_at hl 1 rfl) ?_
      refine lv_i2b (v := ((i1).toInt8.toInt32)) hx hb dX1_put_28 rfl ?_
      obtain ⟨hg3, hf⟩ := rn_g_s hf
      obtain ⟨w4, hw4, hf⟩ := rn_let_s hf
      refine rr_bast' X hW 1 rfl hg3 hw4 (ws' := [(a_this, .inr (1, [.ref a_this_bytes, .int c_length])), (a_this_bytes, .inl (k 2, 64, .inl w4))]) rfl dX1_put_29 (fun H locs hW => ?_)
      refine lv_aload_n hx hb dX1_put_30 rfl (lv_at hl 0 rfl) ?_
      refine lv_dup hx hb dX1_put_31 rfl ?_
      refine rr_get X hW 0 1 gf_X1_15 rfl rfl dX1_put_32 ?_
      refine lv_iconst (v := 1) hx hb dX1_put_35 (by decide) ?_
      refine lv_iadd hx hb dX1_put_36 ?_
      refine rr_put X hW 0 1 gp_X1_15 rfl rfl rfl (Nat.le_of_ble_eq_true rfl) (ws' := [(a_this, .inr (1, [.ref a_this_bytes, .int (c_length + (1 : Int32))])), (a_this_bytes, .inl (k 2, 64, .inl w4))]) rfl dX1_put_37 (fun H locs hW => ?_)
      cases hf
      exact hE _ _ _ _ hW dX1_put_40
def lX1_putNumber_3 (i1 : Int32) : Nat → Int32 → Int32 → (Nat → Int32) → Option (Int32 × (Nat → Int32))
  | 0, _, _, _ => none
  | n+1, x2_3, y_length_3, y_bytes_3 =>
    if x2_3 ≤ 0 then
      some (y_length_3, y_bytes_3)
    else
    if x2_3 ≤ i1 then
      rn_z (x2_3 = 0) <|
      (fX1_put y_length_3 y_bytes_3 ((48 : Int32) + (rn_rem (i1 / x2_3) (10 : Int32)))).bind fun t5 =>
      lX1_putNumber_3 i1 n (x2_3 / (10 : Int32)) t5.1 t5.2
    else
    if x2_3 = (1 : Int32) then
      rn_z (x2_3 = 0) <|
      (fX1_put y_length_3 y_bytes_3 ((48 : Int32) + (rn_rem (i1 / x2_3) (10 : Int32)))).bind fun t8 =>
      lX1_putNumber_3 i1 n (x2_3 / (10 : Int32)) t8.1 t8.2
    else
    lX1_putNumber_3 i1 n (x2_3 / (10 : Int32)) y_length_3 y_bytes_3
def fX1_putNumber (N : Nat) (c_length : Int32) (c_bytes : Nat → Int32) (i1 : Int32) : Option (Int32 × (Nat → Int32)) :=
  (lX1_putNumber_3 i1 N (1000000000 : Int32) c_length c_bytes).bind fun t1 =>
  some (t1.1, t1.2)
set_option maxHeartbeats 4000000 in
set_option maxRecDepth 20000 in
theorem kX1_putNumber (l : Launch) (D : va_G) (k : Nat → ClassId) (z : (Nat → Nat) × (Nat → Nat)) (N : Nat) (a_this : Nat) (a_this_bytes : Nat) (c_length : Int32) (c_bytes : Nat → Int32) (i1 : Int32) {u : Int32 × (Nat → Int32)} (hf : fX1_putNumber N c_length c_bytes i1 = some u) : rn_KV l D k z yX1_putNumber cX1_putNumber 3 1 21 [.ref a_this, .int i1] [(a_this, .inr (1, [.ref a_this_bytes, .int c_length])), (a_this_bytes, .inl (k 2, 64, .inl c_bytes))] [(a_this, .inr (1, [.ref a_this_bytes, .int u.1])), (a_this_bytes, .inl (k 2, 64, .inl u.2))] := by
  refine rn_KV.go (LOC := [(0, .ref a_this), (1, .int i1)]) rfl (by decide) (Nat.le_of_ble_eq_true rfl) rfl ?_
  intro p e s m args below meth c A ls R Q X hR hE hW hl
  have hx := X.1.1
  have hb := X.1.2.1
  unfold fX1_putNumber at hf
  refine rr_ldc X gk_X1_32 dX1_putNumber_0 ?_
  refine lv_istore_n (lv' := [(2, .int (1000000000 : Int32)), (0, .ref a_this), (1, .int i1)]) hx hb dX1_putNumber_2 rfl hl (Nat.le_of_ble_eq_true rfl) rfl (fun ls hl => ?_)
  obtain ⟨t1, ht1, hf⟩ := rn_bind hf
  have kk_3 : ∀ (H : Heap) (locs : List Loc) (ls : Array Slot), rn_W D A s [(a_this, .inr (1, [.ref a_this_bytes, .int t1.1])), (a_this_bytes, .inl (k 2, 64, .inl t1.2))] H locs → lv_has ls 3 [] → W p l e R s m args below meth c H locs 0 0 Q (F0 m 38 ls []) := by
    intro H locs ls hW hl
    cases hf
    exact hE _ _ _ _ hW dX1_putNumber_38
  clear hf
  have lp_3 : ∀ (n : Nat) (x2_3 : Int32) (y_length_3 : Int32) (y_bytes_3 : Nat → Int32) (H : Heap) (locs : List Loc) (ls : Array Slot), lX1_putNumber_3 i1 n x2_3 y_length_3 y_bytes_3 = some t1 → rn_W D A s [(a_this, .inr (1, [.ref a_this_bytes, .int y_length_3])), (a_this_bytes, .inl (k 2, 64, .inl y_bytes_3))] H locs → lv_has ls 3 [(0, .ref a_this), (1, .int i1), (2, .int x2_3)] → W p l e R s m args below meth c H locs 0 0 Q (F0 m 3 ls []) := by
    intro n
    induction n with
    | zero => intro x2_3 y_length_3 y_bytes_3 H locs ls hf; exact absurd hf (by rw [lX1_putNumber_3]; exact fun h => nomatch h)
    | succ n ih_3 =>
      intro x2_3 y_length_3 y_bytes_3 H locs ls hf hW hl
      rw [lX1_putNumber_3] at hf
      refine lv_iload_n hx hb dX1_putNumber_3 rfl (lv_at hl 2 rfl) ?_
      refine lv_if_le (tgt := 38) hx hb dX1_putNumber_4 (by decide) (fun hc2 => ?_) (fun hc2 => ?_)
      · replace hf := rn_t hf hc2
        cases hf
        exact kk_3 _ _ _ hW (lv_sub hl [] rfl)
      · replace hf := rn_f hf hc2
        refine lv_iload_n hx hb dX1_putNumber_7 rfl (lv_at hl 2 rfl) ?_
        refine lv_iload_n hx hb dX1_putNumber_8 rfl (lv_at hl 1 rfl) ?_
        refine lv_icmp_le (tgt := 17) hx hb dX1_putNumber_9 (by decide) (fun hc3 => ?_) (fun hc3 => ?_)
        · replace hf := rn_t hf hc3
          refine lv_aload_n hx hb dX1_putNumber_17 rfl (lv_at hl 0 rfl) ?_
          refine lv_bipush (v := 48) hx hb dX1_putNumber_18 (by decide) ?_
          refine lv_iload_n hx hb dX1_putNumber_20 rfl (lv_at hl 1 rfl) ?_
          refine lv_iload_n hx hb dX1_putNumber_21 rfl (lv_at hl 2 rfl) ?_
          obtain ⟨hz4, hf⟩ := rn_z_s hf
          refine lv_idiv hx hb dX1_putNumber_22 hz4 ?_
          refine lv_bipush (v := 10) hx hb dX1_putNumber_23 (by decide) ?_
          refine rr_irem hx hb dX1_putNumber_25 (by decide) ?_
          refine lv_iadd hx hb dX1_putNumber_26 ?_
          obtain ⟨t5, ht5, hf⟩ := rn_bind hf
          refine rr_callV (As := [.int ((48 : Int32) + (rn_rem (i1 / x2_3) (10 : Int32)))]) (rest := []) X hW (kX1_put l D k z a_this a_this_bytes y_length_3 y_bytes_3 ((48 : Int32) + (rn_rem (i1 / x2_3) (10 : Int32))) ht5) gm_X1_put gl_X1_28 [0, 1] [] [(a_this, .inr (1, [.ref a_this_bytes, .int t5.1])), (a_this_bytes, .inl (k 2, 64, .inl t5.2))] rfl rfl rfl rfl ⟨rfl, rfl, rfl, rfl, rfl⟩ (rn_r hR rfl) rn_cs hl.1 rfl (Nat.le_of_ble_eq_true rfl) dX1_putNumber_27 (fun H locs hW => ?_)
          refine lv_iload_n hx hb dX1_putNumber_30 rfl (lv_at hl 2 rfl) ?_
          refine lv_bipush (v := 10) hx hb dX1_putNumber_31 (by decide) ?_
          refine lv_idiv hx hb dX1_putNumber_33 (by decide) ?_
          refine lv_istore_n (lv' := [(2, .int (x2_3 / (10 : Int32))), (0, .ref a_this), (1, .int i1)]) hx hb dX1_putNumber_34 rfl hl (Nat.le_of_ble_eq_true rfl) rfl (fun ls hl => ?_)
          refine lv_goto (tgt := 3) hx hb dX1_putNumber_35 (by decide) ?_
          exact ih_3 (x2_3 / (10 : Int32)) t5.1 t5.2 _ _ _ hf hW (lv_sub hl [1, 2, 0] rfl)
        · replace hf := rn_f hf hc3
          refine lv_iload_n hx hb dX1_putNumber_12 rfl (lv_at hl 2 rfl) ?_
          refine lv_iconst (v := 1) hx hb dX1_putNumber_13 (by decide) ?_
          refine lv_icmp_ne (tgt := 30) hx hb dX1_putNumber_14 (by decide) (fun hc6 => ?_) (fun hc6 => ?_)
          · replace hf := rn_f hf hc6
            refine lv_iload_n hx hb dX1_putNumber_30 rfl (lv_at hl 2 rfl) ?_
            refine lv_bipush (v := 10) hx hb dX1_putNumber_31 (by decide) ?_
            refine lv_idiv hx hb dX1_putNumber_33 (by decide) ?_
            refine lv_istore_n (lv' := [(2, .int (x2_3 / (10 : Int32))), (0, .ref a_this), (1, .int i1)]) hx hb dX1_putNumber_34 rfl hl (Nat.le_of_ble_eq_true rfl) rfl (fun ls hl => ?_)
            refine lv_goto (tgt := 3) hx hb dX1_putNumber_35 (by decide) ?_
            exact ih_3 (x2_3 / (10 : Int32)) y_length_3 y_bytes_3 _ _ _ hf hW (lv_sub hl [1, 2, 0] rfl)
          · replace hf := rn_t hf hc6
            refine lv_aload_n hx hb dX1_putNumber_17 rfl (lv_at hl 0 rfl) ?_
            refine lv_bipush (v := 48) hx hb dX1_putNumber_18 (by decide) ?_
            refine lv_iload_n hx hb dX1_putNumber_20 rfl (lv_at hl 1 rfl) ?_
            refine lv_iload_n hx hb dX1_putNumber_21 rfl (lv_at hl 2 rfl) ?_
            obtain ⟨hz7, hf⟩ := rn_z_s hf
            refine lv_idiv hx hb dX1_putNumber_22 hz7 ?_
            refine lv_bipush (v := 10) hx hb dX1_putNumber_23 (by decide) ?_
            refine rr_irem hx hb dX1_putNumber_25 (by decide) ?_
            refine lv_iadd hx hb dX1_putNumber_26 ?_
            obtain ⟨t8, ht8, hf⟩ := rn_bind hf
            refine rr_callV (As := [.int ((48 : Int32) + (rn_rem (i1 / x2_3) (10 : Int32)))]) (rest := []) X hW (kX1_put l D k z a_this a_this_bytes y_length_3 y_bytes_3 ((48 : Int32) + (rn_rem (i1 / x2_3) (10 : Int32))) ht8) gm_X1_put gl_X1_28 [0, 1] [] [(a_this, .inr (1, [.ref a_this_bytes, .int t8.1])), (a_this_bytes, .inl (k 2, 64, .inl t8.2))] rfl rfl rfl rfl ⟨rfl, rfl, rfl, rfl, rfl⟩ (rn_r hR rfl) rn_cs hl.1 rfl (Nat.le_of_ble_eq_true rfl) dX1_putNumber_27 (fun H locs hW => ?_)
            refine lv_iload_n hx hb dX1_putNumber_30 rfl (lv_at hl 2 rfl) ?_
            refine lv_bipush (v := 10) hx hb dX1_putNumber_31 (by decide) ?_
            refine lv_idiv hx hb dX1_putNumber_33 (by decide) ?_
            refine lv_istore_n (lv' := [(2, .int (x2_3 / (10 : Int32))), (0, .ref a_this), (1, .int i1)]) hx hb dX1_putNumber_34 rfl hl (Nat.le_of_ble_eq_true rfl) rfl (fun ls hl => ?_)
            refine lv_goto (tgt := 3) hx hb dX1_putNumber_35 (by decide) ?_
            exact ih_3 (x2_3 / (10 : Int32)) t8.1 t8.2 _ _ _ hf hW (lv_sub hl [1, 2, 0] rfl)
  exact lp_3 N (1000000000 : Int32) c_length c_bytes _ _ _ ht1 hW (lv_sub hl [1, 2, 0] rfl)
