/-! generated (wip/whole/gen/emit.py): functions and contracts: 10.fX4 -/
def fX4_get (rw_this : Int32) (cl_this : Int32) (n_this : Nat) (c_cells : Nat → Int32) (i1 : Int32) (i2 : Int32) : Option (Int32) :=
  if i1 < 0 then
    some (-1 : Int32)
  else
  if rw_this ≤ i1 then
    some (-1 : Int32)
  else
  if i2 < 0 then
    some (-1 : Int32)
  else
  if i2 < cl_this then
    if ((i1 * cl_this) + i2) < 0 then
      some (-1 : Int32)
    else
    if (Int32.ofNat n_this) ≤ ((i1 * cl_this) + i2) then
      some (-1 : Int32)
    else
    rn_g ((i1 * cl_this) + i2) n_this <|
    some (c_cells ((i1 * cl_this) + i2).toNatClampNeg)
  else
  some (-1 : Int32)
set_option maxHeartbeats 4000000 in
set_option maxRecDepth 20000 in
theorem kX4_get (l : Launch) (D : va_G) (k : Nat → ClassId) (z : (Nat → Nat) × (Nat → Nat)) (a_this : Nat) (a_this_cells : Nat) (rw_this : Int32) (cl_this : Int32) (n_this : Nat) (c_cells : Nat → Int32) (i1 : Int32) (i2 : Int32) {u : Int32} (hf : fX4_get rw_this cl_this n_this c_cells i1 i2 = some u) : rn_KI l D k z yX4_get cX4_get 4 .int 0 0 [.ref a_this, .int i1, .int i2] [(a_this, .inr (4, [.int rw_this, .int cl_this, .ref a_this_cells])), (a_this_cells, .inl (k 0, n_this, .inl c_cells))] [(a_this, .inr (4, [.int rw_this, .int cl_this, .ref a_this_cells])), (a_this_cells, .inl (k 0, n_this, .inl c_cells))] u := by
  refine rn_KI.go (LOC := [(0, .ref a_this), (1, .int i1), (2, .int i2)]) rfl (by decide) (Nat.le_of_ble_eq_true rfl) rfl ?_
  intro p e s m args below meth c A ls R Q X hR hE hW hl
  have hx := X.1.1
  have hb := X.1.2.1
  unfold fX4_get at hf
  refine lv_iload_n hx hb dX4_get_0 rfl (lv_at hl 1 rfl) ?_
  refine lv_if_lt (tgt := 24) hx hb dX4_get_1 (by decide) (fun hc1 => ?_) (fun hc1 => ?_)
  · replace hf := rn_t hf hc1
    refine lv_iconst (v := -1) hx hb dX4_get_24 (by decide) ?_
    cases hf
    exact hE _ _ _ _ hW rfl dX4_get_25
  · replace hf := rn_f hf hc1
    refine lv_iload_n hx hb dX4_get_4 rfl (lv_at hl 1 rfl) ?_
    refine lv_aload_n hx hb dX4_get_5 rfl (lv_at hl 0 rfl) ?_
    refine rr_get X hW 0 0 gf_X4_9 rfl rfl dX4_get_6 ?_
    refine lv_icmp_ge (tgt := 24) hx hb dX4_get_9 (by decide) (fun hc2 => ?_) (fun hc2 => ?_)
    · replace hf := rn_t hf hc2
      refine lv_iconst (v := -1) hx hb dX4_get_24 (by decide) ?_
      cases hf
      exact hE _ _ _ _ hW rfl dX4_get_25
    · replace hf := rn_f hf hc2
      refine lv_iload_n hx hb dX4_get_12 rfl (lv_at hl 2 rfl) ?_
      refine lv_if_lt (tgt := 24) hx hb dX4_get_13 (by decide) (fun hc3 => ?_) (fun hc3 => ?_)
      · replace hf := rn_t hf hc3
        refine lv_iconst (v := -1) hx hb dX4_get_24 (by decide) ?_
        cases hf
        exact hE _ _ _ _ hW rfl dX4_get_25
      · replace hf := rn_f hf hc3
        refine lv_iload_n hx hb dX4_get_16 rfl (lv_at hl 2 rfl) ?_
        refine lv_aload_n hx hb dX4_get_17 rfl (lv_at hl 0 rfl) ?_
        refine rr_get X hW 0 1 gf_X4_15 rfl rfl dX4_get_18 ?_
        refine lv_icmp_lt (tgt := 26) hx hb dX4_get_21 (by decide) (fun hc4 => ?_) (fun hc4 => ?_)
        · replace hf := rn_t hf hc4
          refine lv_iload_n hx hb dX4_get_26 rfl (lv_at hl 1 rfl) ?_
          refine lv_aload_n hx hb dX4_get_27 rfl (lv_at hl 0 rfl) ?_
          refine rr_get X hW 0 1 gf_X4_15 rfl rfl dX4_get_28 ?_
          refine lv_imul hx hb dX4_get_31 ?_
          refine lv_iload_n hx hb dX4_get_32 rfl (lv_at hl 2 rfl) ?_
          refine lv_iadd hx hb dX4_get_33 ?_
          refine lv_istore_n (lv' := [(3, .int ((i1 * cl_this) + i2)), (0, .ref a_this), (1, .int i1), (2, .int i2)]) hx hb dX4_get_34 rfl hl (Nat.le_of_ble_eq_true rfl) rfl (fun ls hl => ?_)
          refine lv_iload_n hx hb dX4_get_35 rfl (lv_at hl 0 rfl) ?_
          refine lv_if_lt (tgt := 57) hx hb dX4_get_36 (by decide) (fun hc5 => ?_) (fun hc5 => ?_)
          · replace hf := rn_t hf hc5
            refine lv_iconst (v := -1) hx hb dX4_get_57 (by decide) ?_
            cases hf
            exact hE _ _ _ _ hW rfl dX4_get_58
          · replace hf := rn_f hf hc5
            refine lv_iload_n hx hb dX4_get_39 rfl (lv_at hl 0 rfl) ?_
            refine lv_aload_n hx hb dX4_get_40 rfl (lv_at hl 1 rfl) ?_
            refine rr_get X hW 0 2 gf_X4_18 rfl rfl dX4_get_41 ?_
            refine rr_alen X hW 1 0 rfl rfl dX4_get_44 ?_
            refine lv_icmp_ge (tgt := 57) hx hb dX4_get_45 (by decide) (fun hc6 => ?_) (fun hc6 => ?_)
            · replace hf := rn_t hf hc6
              refine lv_iconst (v := -1) hx hb dX4_get_57 (by decide) ?_
              cases hf
              exact hE _ _ _ _ hW rfl dX4_get_58
            · replace hf := rn_f hf hc6
              refine lv_aload_n hx hb dX4_get_48 rfl (lv_at hl 1 rfl) ?_
              refine rr_get X hW 0 2 gf_X4_18 rfl rfl dX4_get_49 ?_
              refine lv_iload_n hx hb dX4_get_52 rfl (lv_at hl 0 rfl) ?_
              obtain ⟨hg7, hf⟩ := rn_g_s hf
              refine rr_iald X hW 1 rfl hg7 dX4_get_53 ?_
              refine lv_goto (tgt := 58) hx hb dX4_get_54 (by decide) ?_
              cases hf
              exact hE _ _ _ _ hW rfl dX4_get_58
        · replace hf := rn_f hf hc4
          refine lv_iconst (v := -1) hx hb dX4_get_24 (by decide) ?_
          cases hf
          exact hE _ _ _ _ hW rfl dX4_get_25
def fX4_set (rw_this : Int32) (cl_this : Int32) (n_this : Nat) (c_cells : Nat → Int32) (i1 : Int32) (i2 : Int32) (i3 : Int32) : Option ((Nat → Int32)) :=
  if i1 < 0 then
    some c_cells
  else
  if rw_this ≤ i1 then
    some c_cells
  else
  if i2 < 0 then
    some c_cells
  else
  if i2 < cl_this then
    if ((i1 * cl_this) + i2) < 0 then
      some c_cells
    else
    if (Int32.ofNat n_this) ≤ ((i1 * cl_this) + i2) then
      some c_cells
    else
    rn_g ((i1 * cl_this) + i2) n_this <|
    rn_let (upd c_cells ((i1 * cl_this) + i2).toNatClampNeg i3) fun w8 =>
    some w8
  else
  some c_cells
set_option maxHeartbeats 4000000 in
set_option maxRecDepth 20000 in
theorem kX4_set (l : Launch) (D : va_G) (k : Nat → ClassId) (z : (Nat → Nat) × (Nat → Nat)) (a_this : Nat) (a_this_cells : Nat) (rw_this : Int32) (cl_this : Int32) (n_this : Nat) (c_cells : Nat → Int32) (i1 : Int32) (i2 : Int32) (i3 : Int32) {u : (Nat → Int32)} (hf : fX4_set rw_this cl_this n_this c_cells i1 i2 i3 = some u) : rn_KV l D k z yX4_set cX4_set 5 0 0 [.ref a_this, .int i1, .int i2, .int i3] [(a_this, .inr (4, [.int rw_this, .int cl_this, .ref a_this_cells])), (a_this_cells, .inl (k 0, n_this, .inl c_cells))] [(a_this, .inr (4, [.int rw_this, .int cl_this, .ref a_this_cells])), (a_this_cells, .inl (k 0, n_this, .inl u))] := by
  refine rn_KV.go (LOC := [(0, .ref a_this), (1, .int i1), (2, .int i2), (3, .int i3)]) rfl (by decide) (Nat.le_of_ble_eq_true rfl) rfl ?_
  intro p e s m args below meth c A ls R Q X hR hE hW hl
  have hx := X.1.1
  have hb := X.1.2.1
  unfold fX4_set at hf
  refine lv_iload_n hx hb dX4_set_0 rfl (lv_at hl 1 rfl) ?_
  refine lv_if_lt (tgt := 24) hx hb dX4_set_1 (by decide) (fun hc1 => ?_) (fun hc1 => ?_)
  · replace hf := rn_t hf hc1
    cases hf
    exact hE _ _ _ _ hW dX4_set_24
  · replace hf := rn_f hf hc1
    refine lv_iload_n hx hb dX4_set_4 rfl (lv_at hl 1 rfl) ?_
    refine lv_aload_n hx hb dX4_set_5 rfl (lv_at hl 0 rfl) ?_
    refine rr_get X hW 0 0 gf_X4_9 rfl rfl dX4_set_6 ?_
    refine lv_icmp_ge (tgt := 24) hx hb dX4_set_9 (by decide) (fun hc2 => ?_) (fun hc2 => ?_)
    · replace hf := rn_t hf hc2
      cases hf
      exact hE _ _ _ _ hW dX4_set_24
    · replace hf := rn_f hf hc2
      refine lv_iload_n hx hb dX4_set_12 rfl (lv_at hl 2 rfl) ?_
      refine lv_if_lt (tgt := 24) hx hb dX4_set_13 (by decide) (fun hc3 => ?_) (fun hc3 => ?_)
      · replace hf := rn_t hf hc3
        cases hf
        exact hE _ _ _ _ hW dX4_set_24
      · replace hf := rn_f hf hc3
        refine lv_iload_n hx hb dX4_set_16 rfl (lv_at hl 2 rfl) ?_
        refine lv_aload_n hx hb dX4_set_17 rfl (lv_at hl 0 rfl) ?_
        refine rr_get X hW 0 1 gf_X4_15 rfl rfl dX4_set_18 ?_
        refine lv_icmp_lt (tgt := 25) hx hb dX4_set_21 (by decide) (fun hc4 => ?_) (fun hc4 => ?_)
        · replace hf := rn_t hf hc4
          refine lv_iload_n hx hb dX4_set_25 rfl (lv_at hl 1 rfl) ?_
          refine lv_aload_n hx hb dX4_set_26 rfl (lv_at hl 0 rfl) ?_
          refine rr_get X hW 0 1 gf_X4_15 rfl rfl dX4_set_27 ?_
          refine lv_imul hx hb dX4_set_30 ?_
          refine lv_iload_n hx hb dX4_set_31 rfl (lv_at hl 2 rfl) ?_
          refine lv_iadd hx hb dX4_set_32 ?_
          refine lv_istore (lv' := [(4, .int ((i1 * cl_this) + i2)), (0, .ref a_this), (1, .int i1), (2, .int i2), (3, .int i3)]) hx hb dX4_set_33 hl (Nat.le_of_ble_eq_true rfl) rfl (fun ls hl => ?_)
          refine lv_iload hx hb dX4_set_35 (lv_at hl 0 rfl) ?_
          refine lv_if_lt (tgt := 58) hx hb dX4_set_37 (by decide) (fun hc5 => ?_) (fun hc5 => ?_)
          · replace hf := rn_t hf hc5
            cases hf
            exact hE _ _ _ _ hW dX4_set_58
          · replace hf := rn_f hf hc5
            refine lv_iload hx hb dX4_set_40 (lv_at hl 0 rfl) ?_
            refine lv_aload_n hx hb dX4_set_42 rfl (lv_at hl 1 rfl) ?_
            refine rr_get X hW 0 2 gf_X4_18 rfl rfl dX4_set_43 ?_
            refine rr_alen X hW 1 0 rfl rfl dX4_set_46 ?_
            refine lv_icmp_ge (tgt := 58) hx hb dX4_set_47 (by decide) (fun hc6 => ?_) (fun hc6 => ?_)
            · replace hf := rn_t hf hc6
              cases hf
              exact hE _ _ _ _ hW dX4_set_58
            · replace hf := rn_f hf hc6
              refine lv_aload_n hx hb dX4_set_50 rfl (lv_at hl 1 rfl) ?_
              refine rr_get X hW 0 2 gf_X4_18 rfl rfl dX4_set_51 ?_
              refine lv_iload hx hb dX4_set_54 (lv_at hl 0 rfl) ?_
              refine lv_iload_n hx hb dX4_set_56 rfl (lv_at hl 4 rfl) ?_
              obtain ⟨hg7, hf⟩ := rn_g_s hf
              obtain ⟨w8, hw8, hf⟩ := rn_let_s hf
              refine rr_iast' X hW 1 rfl hg7 hw8 (ws' := [(a_this, .inr (4, [.int rw_this, .int cl_this, .ref a_this_cells])), (a_this_cells, .inl (k 0, n_this, .inl w8))]) rfl dX4_set_57 (fun H locs hW => ?_)
              cases hf
              exact hE _ _ _ _ hW dX4_set_58
        · replace hf := rn_f hf hc4
          cases hf
          exact hE _ _ _ _ hW dX4_set_24
def fX4_add (rw_this : Int32) (cl_this : Int32) (n_this : Nat) (c_cells : Nat → Int32) (i1 : Int32) (i2 : Int32) (i3 : Int32) : Option ((Nat → Int32)) :=
  (fX4_get rw_this cl_this n_this c_cells i1 i2).bind fun t1 =>
  (fX4_set rw_this cl_this n_this c_cells i1 i2 (t1 + i3)).bind fun t2 =>
  some t2
set_option maxHeartbeats 4000000 in
set_option maxRecDepth 20000 in
theorem kX4_add (l : Launch) (D : va_G) (k : Nat → ClassId) (z : (Nat → Nat) × (Nat → Nat)) (a_this : Nat) (a_this_cells : Nat) (rw_this : Int32) (cl_this : Int32) (n_this : Nat) (c_cells : Nat → Int32) (i1 : Int32) (i2 : Int32) (i3 : Int32) {u : (Nat → Int32)} (hf : fX4_add rw_this cl_this n_this c_cells i1 i2 i3 = some u) : rn_KV l D k z yX4_add cX4_add 4 1 24 [.ref a_this, .int i1, .int i2, .int i3] [(a_this, .inr (4, [.int rw_this, .int cl_this, .ref a_this_cells])), (a_this_cells, .inl (k 0, n_this, .inl c_cells))] [(a_this, .inr (4, [.int rw_this, .int cl_this, .ref a_this_cells])), (a_this_cells, .inl (k 0, n_this, .inl u))] := by
  refine rn_KV.go (LOC := [(0, .ref a_this), (1, .int i1), (2, .int i2), (3, .int i3)]) rfl (by decide) (Nat.le_of_ble_eq_true rfl) rfl ?_
  intro p e s m args below meth c A ls R Q X hR hE hW hl
  have hx := X.1.1
  have hb := X.1.2.1
  unfold fX4_add at hf
  refine lv_aload_n hx hb dX4_add_0 rfl (lv_at hl 0 rfl) ?_
  refine lv_iload_n hx hb dX4_add_1 rfl (lv_at hl 1 rfl) ?_
  refine lv_iload_n hx hb dX4_add_2 rfl (lv_at hl 2 rfl) ?_
  refine lv_aload_n hx hb dX4_add_3 rfl (lv_at hl 0 rfl) ?_
  refine lv_iload_n hx hb dX4_add_4 rfl (lv_at hl 1 rfl) ?_
  refine lv_iload_n hx hb dX4_add_5 rfl (lv_at hl 2 rfl) ?_
  obtain ⟨t1, ht1, hf⟩ := rn_bind hf
  refine rr_callI (As := [.int i1, .int i2]) (rest := [.int i2, .int i1, .ref a_this]) X hW (kX4_get l D k z a_this a_this_cells rw_this cl_this n_this c_cells i1 i2 ht1) gm_X4_get gl_X4_22 [0, 1] [] [(a_this, .inr (4, [.int rw_this, .int cl_this, .ref a_this_cells])), (a_this_cells, .inl (k 0, n_this, .inl c_cells))] rfl rfl rfl rfl ⟨rfl, rfl, rfl, rfl, rfl⟩ (rn_r hR rfl) rn_cs hl.1 rfl (Nat.le_of_ble_eq_true rfl) dX4_add_6 (fun hn1 H locs hW => ?_)
  refine lv_iload_n hx hb dX4_add_9 rfl (lv_at hl 3 rfl) ?_
  refine lv_iadd hx hb dX4_add_10 ?_
  obtain ⟨t2, ht2, hf⟩ := rn_bind hf
  refine rr_callV (As := [.int i1, .int i2, .int (t1 + i3)]) (rest := []) X hW (kX4_set l D k z a_this a_this_cells rw_this cl_this n_this c_cells i1 i2 (t1 + i3) ht2) gm_X4_set gl_X4_26 [0, 1] [] [(a_this, .inr (4, [.int rw_this, .int cl_this, .ref a_this_cells])), (a_this_cells, .inl (k 0, n_this, .inl t2))] rfl rfl rfl rfl ⟨rfl, rfl, rfl, rfl, rfl⟩ (rn_r hR rfl) rn_cs hl.1 rfl (Nat.le_of_ble_eq_true rfl) dX4_add_11 (fun H locs hW => ?_)
  cases hf
  exact hE _ _ _ _ hW dX4_add_14
def lX4_sum_4 (rw_this : Int32) (cl_this : Int32) (n_this : Nat) (c_cells : Nat → Int32) (i1 : Int32) : Nat → Int32 → Int32 → Option (Int32)
  | 0, _, _ => none
  | n+1, x2_4, x3_4 =>
    if rw_this ≤ x3_4 then
      some x2_4
    else
    (fX4_get rw_this cl_this n_this c_cells x3_4 i1).bind fun t3 =>
    lX4_sum_4 rw_this cl_this n_this c_cells i1 n (x2_4 + t3) (x3_4 + (1 : Int32))
def fX4_sum (N : Nat) (rw_this : Int32) (cl_this : Int32) (n_this : Nat) (c_cells : Nat → Int32) (i1 : Int32) : Option (Int32) :=
  (lX4_sum_4 rw_this cl_this n_this c_cells i1 N (0 : Int32) (0 : Int32)).bind fun t1 =>
  some t1
set_option maxHeartbeats 4000000 in
set_option maxRecDepth 20000 in
theorem kX4_sum (l : Launch) (D : va_G) (k : Nat → ClassId) (z : (Nat → Nat) × (Nat → Nat)) (N : Nat) (a_this : Nat) (a_this_cells : Nat) (rw_this : Int32) (cl_this : Int32) (n_this : Nat) (c_cells : Nat → Int32) (i1 : Int32) {u : Int32} (hf : fX4_sum N rw_this cl_this n_this c_cells i1 = some u) : rn_KI l D k z yX4_sum cX4_sum 4 .int 1 23 [.ref a_this, .int i1] [(a_this, .inr (4, [.int rw_this, .int cl_this, .ref a_this_cells])), (a_this_cells, .inl (k 0, n_this, .inl c_cells))] [(a_this, .inr (4, [.int rw_this, .int cl_this, .ref a_this_cells])), (a_this_cells, .inl (k 0, n_this, .inl c_cells))] u := by
  refine rn_KI.go (LOC := [(0, .ref a_this), (1, .int i1)]) rfl (by decide) (Nat.le_of_ble_eq_true rfl) rfl ?_
  intro p e s m args below meth c A ls R Q X hR hE hW hl
  have hx := X.1.1
  have hb := X.1.2.1
  unfold fX4_sum at hf
  refine lv_iconst (v := 0) hx hb dX4_sum_0 (by decide) ?_
  refine lv_istore_n (lv' := [(2, .int (0 : Int32)), (0, .ref a_this), (1, .int i1)]) hx hb dX4_sum_1 rfl hl (Nat.le_of_ble_eq_true rfl) rfl (fun ls hl => ?_)
  refine lv_iconst (v := 0) hx hb dX4_sum_2 (by decide) ?_
  refine lv_istore_n (lv' := [(3, .int (0 : Int32)), (2, .int (0 : Int32)), (0, .ref a_this), (1, .int i1)]) hx hb dX4_sum_3 rfl hl (Nat.le_of_ble_eq_true rfl) rfl (fun ls hl => ?_)
  obtain ⟨t1, ht1, hf⟩ := rn_bind hf
  have kk_4 : ∀ (H : Heap) (locs : List Loc) (ls : Array Slot), rn_W D A s [(a_this, .inr (4, [.int rw_this, .int cl_this, .ref a_this_cells])), (a_this_cells, .inl (k 0, n_this, .inl c_cells))] H locs → lv_has ls 4 [(2, .int t1)] → W p l e R s m args below meth c H locs 0 0 Q (F0 m 27 ls []) := by
    intro H locs ls hW hl
    refine lv_iload_n hx hb dX4_sum_27 rfl (lv_at hl 0 rfl) ?_
    cases hf
    exact hE _ _ _ _ hW rfl dX4_sum_28
  clear hf
  have lp_4 : ∀ (n : Nat) (x2_4 : Int32) (x3_4 : Int32) (H : Heap) (locs : List Loc) (ls : Array Slot), lX4_sum_4 rw_this cl_this n_this c_cells i1 n x2_4 x3_4 = some t1 → rn_W D A s [(a_this, .inr (4, [.int rw_this, .int cl_this, .ref a_this_cells])), (a_this_cells, .inl (k 0, n_this, .inl c_cells))] H locs → lv_has ls 4 [(0, .ref a_this), (1, .int i1), (2, .int x2_4), (3, .int x3_4)] → W p l e R s m args below meth c H locs 0 0 Q (F0 m 4 ls []) := by
    intro n
    induction n with
    | zero => intro x2_4 x3_4 H locs ls hf; exact absurd hf (by rw [lX4_sum_4]; exact fun h => nomatch h)
    | succ n ih_4 =>
      intro x2_4 x3_4 H locs ls hf hW hl
      rw [lX4_sum_4] at hf
      refine lv_iload_n hx hb dX4_sum_4 rfl (lv_at hl 3 rfl) ?_
      refine lv_aload_n hx hb dX4_sum_5 rfl (lv_at hl 0 rfl) ?_
      refine rr_get X hW 0 0 gf_X4_9 rfl rfl dX4_sum_6 ?_
      refine lv_icmp_ge (tgt := 27) hx hb dX4_sum_9 (by decide) (fun hc2 => ?_) (fun hc2 => ?_)
      · replace hf := rn_t hf hc2
        cases hf
        exact kk_4 _ _ _ hW (lv_sub hl [2] rfl)
      · replace hf := rn_f hf hc2
        refine lv_iload_n hx hb dX4_sum_12 rfl (lv_at hl 2 rfl) ?_
        refine lv_aload_n hx hb dX4_sum_13 rfl (lv_at hl 0 rfl) ?_
        refine lv_iload_n hx hb dX4_sum_14 rfl (lv_at hl 3 rfl) ?_
        refine lv_iload_n hx hb dX4_sum_15 rfl (lv_at hl 1 rfl) ?_
        obtain ⟨t3, ht3, hf⟩ := rn_bind hf
        refine rr_callI (As := [.int x3_4, .int i1]) (rest := [.int x2_4]) X hW (kX4_get l D k z a_this a_this_cells rw_this cl_this n_this c_cells x3_4 i1 ht3) gm_X4_get gl_X4_22 [0, 1] [] [(a_this, .inr (4, [.int rw_this, .int cl_this, .ref a_this_cells])), (a_this_cells, .inl (k 0, n_this, .inl c_cells))] rfl rfl rfl rfl ⟨rfl, rfl, rfl, rfl, rfl⟩ (rn_r hR rfl) rn_cs hl.1 rfl (Nat.le_of_ble_eq_true rfl) dX4_sum_16 (fun hn3 H locs hW => ?_)
        refine lv_iadd hx hb dX4_sum_19 ?_
        refine lv_istore_n (lv' := [(2, .int (x2_4 + t3)), (0, .ref a_this), (1, .int i1), (3, .int x3_4)]) hx hb dX4_sum_20 rfl hl (Nat.le_of_ble_eq_true rfl) rfl (fun ls hl => ?_)
        refine lv_iinc (v := (x3_4 + (1 : Int32))) (lv' := [(3, .int (x3_4 + (1 : Int32))), (2, .int (x2_4 + t3)), (0, .ref a_this), (1, .int i1)]) hx hb dX4_sum_21 hl (k := 3) rfl (congrArg (fun q => _ + q) (by decide)) (Nat.le_of_ble_eq_true rfl) rfl (fun ls hl => ?_)
        refine lv_goto (tgt := 4) hx hb dX4_sum_24 (by decide) ?_
        exact ih_4 (x2_4 + t3) (x3_4 + (1 : Int32)) _ _ _ hf hW (lv_sub hl [2, 3, 1, 0] rfl)
  exact lp_4 N (0 : Int32) (0 : Int32) _ _ _ ht1 hW (lv_sub hl [2, 3, 1, 0] rfl)
