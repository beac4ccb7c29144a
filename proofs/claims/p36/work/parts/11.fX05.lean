/-! generated (wip/whole/gen/emit.py): functions and contracts: 11.fX05 -/
def fX0_size (c_size : Int32) : Option (Int32) :=
  some c_size
set_option maxHeartbeats 4000000 in
set_option maxRecDepth 20000 in
theorem kX0_size (l : Launch) (D : va_G) (k : Nat → ClassId) (z : (Nat → Nat) × (Nat → Nat)) (a_this : Nat) (a_this_events : Nat) (c_first : Int32) (c_size : Int32) {u : Int32} (hf : fX0_size c_size = some u) : rn_KI l D k z yX0_size cX0_size 1 .int 0 0 [.ref a_this] [(a_this, .inr (0, [.ref a_this_events, .int c_first, .int c_size]))] [(a_this, .inr (0, [.ref a_this_events, .int c_first, .int c_size]))] u := by
  refine rn_KI.go (LOC := [(0, .ref a_this)]) rfl (by decide) (Nat.le_of_ble_eq_true rfl) rfl ?_
  intro p e s m args below meth c A ls R Q X hR hE hW hl
  have hx := X.1.1
  have hb := X.1.2.1
  unfold fX0_size at hf
  refine lv_aload_n hx hb dX0_size_0 rfl (lv_at hl 0 rfl) ?_
  refine rr_get X hW 0 2 gf_X0_24 rfl rfl dX0_size_1 ?_
  cases hf
  exact hE _ _ _ _ hW rfl dX0_size_4
def fX0_number (c_first : Int32) (c_events : Nat → Int32) (i1 : Int32) (i2 : Int32) : Option (Int32) :=
  (fX4_get (40 : Int32) (5 : Int32) 200 c_events (rn_rem (c_first + i1) (40 : Int32)) i2).bind fun t1 =>
  some t1
set_option maxHeartbeats 4000000 in
set_option maxRecDepth 20000 in
theorem kX0_number (l : Launch) (D : va_G) (k : Nat → ClassId) (z : (Nat → Nat) × (Nat → Nat)) (a_this : Nat) (a_this_events : Nat) (a_this_events_cells : Nat) (c_first : Int32) (c_size : Int32) (c_events : Nat → Int32) (i1 : Int32) (i2 : Int32) {u : Int32} (hf : fX0_number c_first c_events i1 i2 = some u) : rn_KI l D k z yX0_number cX0_number 3 .int 1 23 [.ref a_this, .int i1, .int i2] [(a_this, .inr (0, [.ref a_this_events, .int c_first, .int c_size])), (a_this_events, .inr (4, [.int (40 : Int32), .int (5 : Int32), .ref a_this_events_cells])), (a_this_events_cells, .inl (k 0, 200, .inl c_events))] [(a_this, .inr (0, [.ref a_this_events, .int c_first, .int c_size])), (a_this_events, .inr (4, [.int (40 : Int32), .int (5 : Int32), .ref a_this_events_cells])), (a_this_events_cells, .inl (k 0, 200, .inl c_events))] u := by
  refine rn_KI.go (LOC := [(0, .ref a_this), (1, .int i1), (2, .int i2)]) rfl (by decide) (Nat.le_of_ble_eq_true rfl) rfl ?_
  intro p e s m args below meth c A ls R Q X hR hE hW hl
  have hx := X.1.1
  have hb := X.1.2.1
  unfold fX0_number at hf
  refine lv_aload_n hx hb dX0_number_0 rfl (lv_at hl 0 rfl) ?_
  refine rr_get X hW 0 0 gf_X0_14 rfl rfl dX0_number_1 ?_
  refine lv_aload_n hx hb dX0_number_4 rfl (lv_at hl 0 rfl) ?_
  refine rr_get X hW 0 1 gf_X0_20 rfl rfl dX0_number_5 ?_
  refine lv_iload_n hx hb dX0_number_8 rfl (lv_at hl 1 rfl) ?_
  refine lv_iadd hx hb dX0_number_9 ?_
  refine lv_bipush (v := 40) hx hb dX0_number_10 (by decide) ?_
  refine rr_irem hx hb dX0_number_12 (by decide) ?_
  refine lv_iload_n hx hb dX0_number_13 rfl (lv_at hl 2 rfl) ?_
  obtain ⟨t1, ht1, hf⟩ := rn_bind hf
  refine rr_callI (As := [.int (rn_rem (c_first + i1) (40 : Int32)), .int i2]) (rest := []) X hW (kX4_get l D k z a_this_events a_this_events_cells (40 : Int32) (5 : Int32) 200 c_events (rn_rem (c_first + i1) (40 : Int32)) i2 ht1) gm_X4_get gl_X0_34 [1, 2] [0] [(a_this, .inr (0, [.ref a_this_events, .int c_first, .int c_size])), (a_this_events, .inr (4, [.int (40 : Int32), .int (5 : Int32), .ref a_this_events_cells])), (a_this_events_cells, .inl (k 0, 200, .inl c_events))] rfl rfl rfl rfl ⟨rfl, rfl, rn_Bw (wr := [(a_this, .inr (0, [.ref a_this_events, .int c_first, .int c_size]))]) rfl rfl, rfl, rfl⟩ (rn_r hR rfl) rn_cs hl.1 rfl (Nat.le_of_ble_eq_true rfl) dX0_number_14 (fun hn1 H locs hW => ?_)
  cases hf
  exact hE _ _ _ _ hW rfl dX0_number_17
def fX0_add (c_first : Int32) (c_size : Int32) (c_events : Nat → Int32) (i1 : Int32) (i2 : Int32) (i3 : Int32) (i4 : Int32) (i5 : Int32) : Option (Int32 × Int32 × (Nat → Int32)) :=
  Option.bind (
    if (40 : Int32) ≤ c_size then
      rn_let (rn_rem (c_first + (1 : Int32)) (40 : Int32)) fun v3 =>
      some (v3, c_size)
    else
    some (c_first, (c_size + (1 : Int32)))
    ) fun t1 =>
  (fX4_set (40 : Int32) (5 : Int32) 200 c_events (rn_rem (c_first + c_size) (40 : Int32)) (0 : Int32) i1).bind fun t4 =>
  (fX4_set (40 : Int32) (5 : Int32) 200 t4 (rn_rem (c_first + c_size) (40 : Int32)) (1 : Int32) i2).bind fun t5 =>
  (fX4_set (40 : Int32) (5 : Int32) 200 t5 (rn_rem (c_first + c_size) (40 : Int32)) (2 : Int32) i3).bind fun t6 =>
  (fX4_set (40 : Int32) (5 : Int32) 200 t6 (rn_rem (c_first + c_size) (40 : Int32)) (3 : Int32) i4).bind fun t7 =>
  (fX4_set (40 : Int32) (5 : Int32) 200 t7 (rn_rem (c_first + c_size) (40 : Int32)) (4 : Int32) i5).bind fun t8 =>
  some (t1.1, t1.2, t8)
set_option maxHeartbeats 4000000 in
set_option maxRecDepth 20000 in
theorem kX0_add (l : Launch) (D : va_G) (k : Nat → ClassId) (z : (Nat → Nat) × (Nat → Nat)) (a_this : Nat) (a_this_events : Nat) (a_this_events_cells : Nat) (c_first : Int32) (c_size : Int32) (c_events : Nat → Int32) (i1 : Int32) (i2 : Int32) (i3 : Int32) (i4 : Int32) (i5 : Int32) {u : Int32 × Int32 × (Nat → Int32)} (hf : fX0_add c_first c_size c_events i1 i2 i3 i4 i5 = some u) : rn_KV l D k z yX0_add cX0_add 7 1 24 [.ref a_this, .int i1, .int i2, .int i3, .int i4, .int i5] [(a_this, .inr (0, [.ref a_this_events, .int c_first, .int c_size])), (a_this_events, .inr (4, [.int (40 : Int32), .int (5 : Int32), .ref a_this_events_cells])), (a_this_events_cells, .inl (k 0, 200, .inl c_events))] [(a_this, .inr (0, [.ref a_this_events, .int u.1, .int u.2.1])), (a_this_events, .inr (4, [.int (40 : Int32), .int (5 : Int32), .ref a_this_events_cells])), (a_this_events_cells, .inl (k 0, 200, .inl u.2.2))] := by
  refine rn_KV.go (LOC := [(0, .ref a_this), (1, .int i1), (2, .int i2), (3, .int i3), (4, .int i4), (5, .int i5)]) rfl (by decide) (Nat.le_of_ble_eq_true rfl) rfl ?_
  intro p e s m args below meth c A ls R Q X hR hE hW hl
  have hx := X.1.1
  have hb := X.1.2.1
  unfold fX0_add at hf
  refine lv_aload_n hx hb dX0_add_0 rfl (lv_at hl 0 rfl) ?_
  refine rr_get X hW 0 1 gf_X0_20 rfl rfl dX0_add_1 ?_
  refine lv_aload_n hx hb dX0_add_4 rfl (lv_at hl 0 rfl) ?_
  refine rr_get X hW 0 2 gf_X0_24 rfl rfl dX0_add_5 ?_
  refine lv_iadd hx hb dX0_add_8 ?_
  refine lv_bipush (v := 40) hx hb dX0_add_9 (by decide) ?_
  refine rr_irem hx hb dX0_add_11 (by decide) ?_
  refine lv_istore (lv' := [(6, .int (rn_rem (c_first + c_size) (40 : Int32))), (0, .ref a_this), (1, .int i1), (2, .int i2), (3, .int i3), (4, .int i4), (5, .int i5)]) hx hb dX0_add_12 hl (Nat.le_of_ble_eq_true rfl) rfl (fun ls hl => ?_)
  refine lv_aload_n hx hb dX0_add_14 rfl (lv_at hl 1 rfl) ?_
  refine rr_get X hW 0 2 gf_X0_24 rfl rfl dX0_add_15 ?_
  refine lv_bipush (v := 40) hx hb dX0_add_18 (by decide) ?_
  obtain ⟨t1, ht1, hf⟩ := rn_bind hf
  have jnt1 : ∀ (H : Heap) (locs : List Loc) (ls : Array Slot), rn_W D A s [(a_this, .inr (0, [.ref a_this_events, .int t1.1, .int t1.2])), (a_this_events, .inr (4, [.int (40 : Int32), .int (5 : Int32), .ref a_this_events_cells])), (a_this_events_cells, .inl (k 0, 200, .inl c_events))] H locs → lv_has ls 7 [(0, .ref a_this), (1, .int i1), (2, .int i2), (3, .int i3), (4, .int i4), (5, .int i5), (6, .int (rn_rem (c_first + c_size) (40 : Int32)))] → W p l e R s m args below meth c H locs 0 0 Q (F0 m 49 ls []) := by
    intro H locs ls hW hl
    refine lv_aload_n hx hb dX0_add_49 rfl (lv_at hl 0 rfl) ?_
    refine rr_get X hW 0 0 gf_X0_14 rfl rfl dX0_add_50 ?_
    refine lv_iload hx hb dX0_add_53 (lv_at hl 6 rfl) ?_
    refine lv_iconst (v := 0) hx hb dX0_add_55 (by decide) ?_
    refine lv_iload_n hx hb dX0_add_56 rfl (lv_at hl 1 rfl) ?_
    obtain ⟨t4, ht4, hf⟩ := rn_bind hf
    refine rr_callV (As := [.int (rn_rem (c_first + c_size) (40 : Int32)), .int (0 : Int32), .int i1]) (rest := []) X hW (kX4_set l D k z a_this_events a_this_events_cells (40 : Int32) (5 : Int32) 200 c_events (rn_rem (c_first + c_size) (40 : Int32)) (0 : Int32) i1 ht4) gm_X4_set gl_X0_38 [1, 2] [0] [(a_this, .inr (0, [.ref a_this_events, .int t1.1, .int t1.2])), (a_this_events, .inr (4, [.int (40 : Int32), .int (5 : Int32), .ref a_this_events_cells])), (a_this_events_cells, .inl (k 0, 200, .inl t4))] rfl rfl rfl rfl ⟨rfl, rfl, rn_Bw (wr := [(a_this, .inr (0, [.ref a_this_events, .int t1.1, .int t1.2]))]) rfl rfl, rfl, rfl⟩ (rn_r hR rfl) rn_cs hl.1 rfl (Nat.le_of_ble_eq_true rfl) dX0_add_57 (fun H locs hW => ?_)
    refine lv_aload_n hx hb dX0_add_60 rfl (lv_at hl 0 rfl) ?_
    refine rr_get X hW 0 0 gf_X0_14 rfl rfl dX0_add_61 ?_
    refine lv_iload hx hb dX0_add_64 (lv_at hl 6 rfl) ?_
    refine lv_iconst (v := 1) hx hb dX0_add_66 (by decide) ?_
    refine lv_iload_n hx hb dX0_add_67 rfl (lv_at hl 2 rfl) ?_
    obtain ⟨t5, ht5, hf⟩ := rn_bind hf
    refine rr_callV (As := [.int (rn_rem (c_first + c_size) (40 : Int32)), .int (1 : Int32), .int i2]) (rest := []) X hW (kX4_set l D k z a_this_events a_this_events_cells (40 : Int32) (5 : Int32) 200 t4 (rn_rem (c_first + c_size) (40 : Int32)) (1 : Int32) i2 ht5) gm_X4_set gl_X0_38 [1, 2] [0] [(a_this, .inr (0, [.ref a_this_events, .int t1.1, .int t1.2])), (a_this_events, .inr (4, [.int (40 : Int32), .int (5 : Int32), .ref a_this_events_cells])), (a_this_events_cells, .inl (k 0, 200, .inl t5))] rfl rfl rfl rfl ⟨rfl, rfl, rn_Bw (wr := [(a_this, .inr (0, [.ref a_this_events, .int t1.1, .int t1.2]))]) rfl rfl, rfl, rfl⟩ (rn_r hR rfl) rn_cs hl.1 rfl (Nat.le_of_ble_eq_true rfl) dX0_add_68 (fun H locs hW => ?_)
    refine lv_aload_n hx hb dX0_add_71 rfl (lv_at hl 0 rfl) ?_
    refine rr_get X hW 0 0 gf_X0_14 rfl rfl dX0_add_72 ?_
    refine lv_iload hx hb dX0_add_75 (lv_at hl 6 rfl) ?_
    refine lv_iconst (v := 2) hx hb dX0_add_77 (by decide) ?_
    refine lv_iload_n hx hb dX0_add_78 rfl (lv_at hl 3 rfl) ?_
    obtain ⟨t6, ht6, hf⟩ := rn_bind hf
    refine rr_callV (As := [.int (rn_rem (c_first + c_size) (40 : Int32)), .int (2 : Int32), .int i3]) (rest := []) X hW (kX4_set l D k z a_this_events a_this_events_cells (40 : Int32) (5 : Int32) 200 t5 (rn_rem (c_first + c_size) (40 : Int32)) (2 : Int32) i3 ht6) gm_X4_set gl_X0_38 [1, 2] [0] [(a_this, .inr (0, [.ref a_this_events, .int t1.1, .int t1.2])), (a_this_events, .inr (4, [.int (40 : Int32), .int (5 : Int32), .ref a_this_events_cells])), (a_this_events_cells, .inl (k 0, 200, .inl t6))] rfl rfl rfl rfl ⟨rfl, rfl, rn_Bw (wr := [(a_this, .inr (0, [.ref a_this_events, .int t1.1, .int t1.2]))]) rfl rfl, rfl, rfl⟩ (rn_r hR rfl) rn_cs hl.1 rfl (Nat.le_of_ble_eq_true rfl) dX0_add_79 (fun H locs hW => ?_)
    refine lv_aload_n hx hb dX0_add_82 rfl (lv_at hl 0 rfl) ?_
    refine rr_get X hW 0 0 gf_X0_14 rfl rfl dX0_add_83 ?_
    refine lv_iload hx hb dX0_add_86 (lv_at hl 6 rfl) ?_
    refine lv_iconst (v := 3) hx hb dX0_add_88 (by decide) ?_
    refine lv_iload hx hb dX0_add_89 (lv_at hl 4 rfl) ?_
    obtain ⟨t7, ht7, hf⟩ := rn_bind hf
    refine rr_callV (As := [.int (rn_rem (c_first + c_size) (40 : Int32)), .int (3 : Int32), .int i4]) (rest := []) X hW (kX4_set l D k z a_this_events a_this_events_cells (40 : Int32) (5 : Int32) 200 t6 (rn_rem (c_first + c_size) (40 : Int32)) (3 : Int32) i4 ht7) gm_X4_set gl_X0_38 [1, 2] [0] [(a_this, .inr (0, [.ref a_this_events, .int t1.1, .int t1.2])), (a_this_events, .inr (4, [.int (40 : Int32), .int (5 : Int32), .ref a_this_events_cells])), (a_this_events_cells, .inl (k 0, 200, .inl t7))] rfl rfl rfl rfl ⟨rfl, rfl, rn_Bw (wr := [(a_this, .inr (0, [.ref a_this_events, .int t1.1, .int t1.2]))]) rfl rfl, rfl, rfl⟩ (rn_r hR rfl) rn_cs hl.1 rfl (Nat.le_of_ble_eq_true rfl) dX0_add_91 (fun H locs hW => ?_)
    refine lv_aload_n hx hb dX0_add_94 rfl (lv_at hl 0 rfl) ?_
    refine rr_get X hW 0 0 gf_X0_14 rfl rfl dX0_add_95 ?_
    refine lv_iload hx hb dX0_add_98 (lv_at hl 6 rfl) ?_
    refine lv_iconst (v := 4) hx hb dX0_add_100 (by decide) ?_
    refine lv_iload hx hb dX0_add_101 (lv_at hl 5 rfl) ?_
    obtain ⟨t8, ht8, hf⟩ := rn_bind hf
    refine rr_callV (As := [.int (rn_rem (c_first + c_size) (40 : Int32)), .int (4 : Int32), .int i5]) (rest := []) X hW (kX4_set l D k z a_this_events a_this_events_cells (40 : Int32) (5 : Int32) 200 t7 (rn_rem (c_first + c_size) (40 : Int32)) (4 : Int32) i5 ht8) gm_X4_set gl_X0_38 [1, 2] [0] [(a_this, .inr (0, [.ref a_this_events, .int t1.1, .int t1.2])), (a_this_events, .inr (4, [.int (40 : Int32), .int (5 : Int32), .ref a_this_events_cells])), (a_this_events_cells, .inl (k 0, 200, .inl t8))] rfl rfl rfl rfl ⟨rfl, rfl, rn_Bw (wr := [(a_this, .inr (0, [.ref a_this_events, .int t1.1, .int t1.2]))]) rfl rfl, rfl, rfl⟩ (rn_r hR rfl) rn_cs hl.1 rfl (Nat.le_of_ble_eq_true rfl) dX0_add_103 (fun H locs hW => ?_)
    cases hf
    exact hE _ _ _ _ hW dX0_add_106
  replace hf := ht1
  clear ht1
  refine lv_icmp_ge (tgt := 36) hx hb dX0_add_20 (by decide) (fun hc2 => ?_) (fun hc2 => ?_)
  · replace hf := rn_t hf hc2
    refine lv_aload_n hx hb dX0_add_36 rfl (lv_at hl 1 rfl) ?_
    refine lv_aload_n hx hb dX0_add_37 rfl (lv_at hl 1 rfl) ?_
    refine rr_get X hW 0 1 gf_X0_20 rfl rfl dX0_add_38 ?_
    refine lv_iconst (v := 1) hx hb dX0_add_41 (by decide) ?_
    refine lv_iadd hx hb dX0_add_42 ?_
    refine lv_bipush (v := 40) hx hb dX0_add_43 (by decide) ?_
    refine rr_irem hx hb dX0_add_45 (by decide) ?_
    obtain ⟨v3, hv3, hf⟩ := rn_let_s hf
    refine rn_topi hv3 ?_
    refine rr_put X hW 0 1 gp_X0_20 rfl rfl rfl (Nat.le_of_ble_eq_true rfl) (ws' := [(a_this, .inr (0, [.ref a_this_events, .int v3, .int c_size])), (a_this_events, .inr (4, [.int (40 : Int32), .int (5 : Int32), .ref a_this_events_cells])), (a_this_events_cells, .inl (k 0, 200, .inl c_events))]) rfl dX0_add_46 (fun H locs hW => ?_)
    cases hf
    exact jnt1 _ _ _ hW (lv_sub hl [1, 2, 3, 4, 5, 6, 0] rfl)
  · replace hf := rn_f hf hc2
    refine lv_aload_n hx hb dX0_add_23 rfl (lv_at hl 1 rfl) ?_
    refine lv_dup hx hb dX0_add_24 rfl ?_
    refine rr_get X hW 0 2 gf_X0_24 rfl rfl dX0_add_25 ?_
    refine lv_iconst (v := 1) hx hb dX0_add_28 (by decide) ?_
    refine lv_iadd hx hb dX0_add_29 ?_
    refine rr_put X hW 0 2 gp_X0_24 rfl rfl rfl (Nat.le_of_ble_eq_true rfl) (ws' := [(a_this, .inr (0, [.ref a_this_events, .int c_first, .int (c_size + (1 : Int32))])), (a_this_events, .inr (4, [.int (40 : Int32), .int (5 : Int32), .ref a_this_events_cells])), (a_this_events_cells, .inl (k 0, 200, .inl c_events))]) rfl dX0_add_30 (fun H locs hW => ?_)
    refine lv_goto (tgt := 49) hx hb dX0_add_33 (by decide) ?_
    cases hf
    exact jnt1 _ _ _ hW (lv_sub hl [1, 2, 3, 4, 5, 6, 0] rfl)
def lX5_clear_2 : Nat → Int32 → (Nat → Int64) → Option ((Nat → Int64))
  | 0, _, _ => none
  | n+1, x1_2, y_heard_2 =>
    if (Int32.ofNat 24) ≤ x1_2 then
      some y_heard_2
    else
    rn_g x1_2 24 <|
    rn_let (vp_updL y_heard_2 x1_2.toNatClampNeg (0 : Int64)) fun w4 =>
    lX5_clear_2  n (x1_2 + (1 : Int32)) w4
def fX5_clear (N : Nat) (c_heard : Nat → Int64) : Option ((Nat → Int64)) :=
  (lX5_clear_2  N (0 : Int32) c_heard).bind fun t1 =>
  some t1
set_option maxHeartbeats 4000000 in
set_option maxRecDepth 20000 in
theorem kX5_clear (l : Launch) (D : va_G) (k : Nat → ClassId) (z : (Nat → Nat) × (Nat → Nat)) (N : Nat) (a_this : Nat) (a_this_heard : Nat) (c_arrival : Int32) (c_fewest : Int32) (c_next : Int32) (c_heard : Nat → Int64) {u : (Nat → Int64)} (hf : fX5_clear N c_heard = some u) : rn_KV l D k z yX5_clear cX5_clear 2 0 0 [.ref a_this] [(a_this, .inr (5, [.ref a_this_heard, .int c_arrival, .int c_fewest, .int c_next])), (a_this_heard, .inl (k 1, 24, .inr (.inl c_heard)))] [(a_this, .inr (5, [.ref a_this_heard, .int c_arrival, .int c_fewest, .int c_next])), (a_this_heard, .inl (k 1, 24, .inr (.inl u)))] := by
  refine rn_KV.go (LOC := [(0, .ref a_this)]) rfl (by decide) (Nat.le_of_ble_eq_true rfl) rfl ?_
  intro p e s m args below meth c A ls R Q X hR hE hW hl
  have hx := X.1.1
  have hb := X.1.2.1
  unfold fX5_clear at hf
  refine lv_iconst (v := 0) hx hb dX5_clear_0 (by decide) ?_
  refine lv_istore_n (lv' := [(1, .int (0 : Int32)), (0, .ref a_this)]) hx hb dX5_clear_1 rfl hl (Nat.le_of_ble_eq_true rfl) rfl (fun ls hl => ?_)
  obtain ⟨t1, ht1, hf⟩ := rn_bind hf
  have kk_2 : ∀ (H : Heap) (locs : List Loc) (ls : Array Slot), rn_W D A s [(a_this, .inr (5, [.ref a_this_heard, .int c_arrival, .int c_fewest, .int c_next])), (a_this_heard, .inl (k 1, 24, .inr (.inl t1)))] H locs → lv_has ls 2 [] → W p l e R s m args below meth c H locs 0 0 Q (F0 m 24 ls []) := by
    intro H locs ls hW hl
    cases hf
    exact hE _ _ _ _ hW dX5_clear_24
  clear hf
  have lp_2 : ∀ (n : Nat) (x1_2 : Int32) (y_heard_2 : Nat → Int64) (H : Heap) (locs : List Loc) (ls : Array Slot), lX5_clear_2  n x1_2 y_heard_2 = some t1 → rn_W D A s [(a_this, .inr (5, [.ref a_this_heard, .int c_arrival, .int c_fewest, .int c_next])), (a_this_heard, .inl (k 1, 24, .inr (.inl y_heard_2)))] H locs → lv_has ls 2 [(0, .ref a_this), (1, .int x1_2)] → W p l e R s m args below meth c H locs 0 0 Q (F0 m 2 ls []) := by
    intro n
    induction n with
    | zero => intro x1_2 y_heard_2 H locs ls hf; exact absurd hf (by rw [lX5_clear_2]; exact fun h => nomatch h)
    | succ n ih_2 =>
      intro x1_2 y_heard_2 H locs ls hf hW hl
      rw [lX5_clear_2] at hf
      refine lv_iload_n hx hb dX5_clear_2 rfl (lv_at hl 1 rfl) ?_
      refine lv_aload_n hx hb dX5_clear_3 rfl (lv_at hl 0 rfl) ?_
      refine rr_get X hW 0 0 gf_X5_9 rfl rfl dX5_clear_4 ?_
      refine rr_alen X hW 1 1 rfl rfl dX5_clear_7 ?_
      refine lv_icmp_ge (tgt := 24) hx hb dX5_clear_8 (by decide) (fun hc2 => ?_) (fun hc2 => ?_)
      · replace hf := rn_t hf hc2
        cases hf
        exact kk_2 _ _ _ hW (lv_sub hl [] rfl)
      · replace hf := rn_f hf hc2
        refine lv_aload_n hx hb dX5_clear_11 rfl (lv_at hl 0 rfl) ?_
        refine rr_get X hW 0 0 gf_X5_9 rfl rfl dX5_clear_12 ?_
        refine lv_iload_n hx hb dX5_clear_15 rfl (lv_at hl 1 rfl) ?_
        refine lv_lconst (v := 0) hx hb dX5_clear_16 (by decide) ?_
        obtain ⟨hg3, hf⟩ := rn_g_s hf
        obtain ⟨w4, hw4, hf⟩ := rn_let_s hf
        refine rr_last' X hW 1 rfl hg3 hw4 (ws' := [(a_this, .inr (5, [.ref a_this_heard, .int c_arrival, .int c_fewest, .int c_next])), (a_this_heard, .inl (k 1, 24, .inr (.inl w4)))]) rfl dX5_clear_17 (fun H locs hW => ?_)
        refine lv_iinc (v := (x1_2 + (1 : Int32))) (lv' := [(1, .int (x1_2 + (1 : Int32))), (0, .ref a_this)]) hx hb dX5_clear_18 hl (k := 1) rfl (congrArg (fun q => _ + q) (by decide)) (Nat.le_of_ble_eq_true rfl) rfl (fun ls hl => ?_)
        refine lv_goto (tgt := 2) hx hb dX5_clear_21 (by decide) ?_
        exact ih_2 (x1_2 + (1 : Int32)) w4 _ _ _ hf hW (lv_sub hl [1, 0] rfl)
  exact lp_2 N (0 : Int32) c_heard _ _ _ ht1 hW (lv_sub hl [1, 0] rfl)
def fX5_connect (c_heard : Nat → Int64) (i1 : Int32) (i2 : Int32) (i3 : Int32) : Option ((Nat → Int64)) :=
  if i1 < 0 then
    some c_heard
  else
  if (Int32.ofNat 24) ≤ i1 then
    some c_heard
  else
  rn_g i1 24 <|
  rn_g i1 24 <|
  rn_let (vp_updL c_heard i1.toNatClampNeg ((c_heard i1.toNatClampNeg) ||| ((rn_lshl (1 : Int64) ((i2 * (8 : Int32)) + i3)) ||| (rn_lshl (1 : Int64) ((i3 * (8 : Int32)) + i2))))) fun w5 =>
  some w5
set_option maxHeartbeats 4000000 in
set_option maxRecDepth 20000 in
theorem kX5_connect (l : Launch) (D : va_G) (k : Nat → ClassId) (z : (Nat → Nat) × (Nat → Nat)) (a_this : Nat) (a_this_heard : Nat) (c_arrival : Int32) (c_fewest : Int32) (c_next : Int32) (c_heard : Nat → Int64) (i1 : Int32) (i2 : Int32) (i3 : Int32) {u : (Nat → Int64)} (hf : fX5_connect c_heard i1 i2 i3 = some u) : rn_KV l D k z yX5_connect cX5_connect 4 0 0 [.ref a_this, .int i1, .int i2, .int i3] [(a_this, .inr (5, [.ref a_this_heard, .int c_arrival, .int c_fewest, .int c_next])), (a_this_heard, .inl (k 1, 24, .inr (.inl c_heard)))] [(a_this, .inr (5, [.ref a_this_heard, .int c_arrival, .int c_fewest, .int c_next])), (a_this_heard, .inl (k 1, 24, .inr (.inl u)))] := by
  refine rn_KV.go (LOC := [(0, .ref a_this), (1, .int i1), (2, .int i2), (3, .int i3)]) rfl (by decide) (Nat.le_of_ble_eq_true rfl) rfl ?_
  intro p e s m args below meth c A ls R Q X hR hE hW hl
  have hx := X.1.1
  have hb := X.1.2.1
  unfold fX5_connect at hf
  refine lv_iload_n hx hb dX5_connect_0 rfl (lv_at hl 1 rfl) ?_
  refine lv_if_lt (tgt := 39) hx hb dX5_connect_1 (by decide) (fun hc1 => ?_) (fun hc1 => ?_)
  · replace hf := rn_t hf hc1
    cases hf
    exact hE _ _ _ _ hW dX5_connect_39
  · replace hf := rn_f hf hc1
    refine lv_iload_n hx hb dX5_connect_4 rfl (lv_at hl 1 rfl) ?_
    refine lv_aload_n hx hb dX5_connect_5 rfl (lv_at hl 0 rfl) ?_
    refine rr_get X hW 0 0 gf_X5_9 rfl rfl dX5_connect_6 ?_
    refine rr_alen X hW 1 1 rfl rfl dX5_connect_9 ?_
    refine lv_icmp_ge (tgt := 39) hx hb dX5_connect_10 (by decide) (fun hc2 => ?_) (fun hc2 => ?_)
    · replace hf := rn_t hf hc2
      cases hf
      exact hE _ _ _ _ hW dX5_connect_39
    · replace hf := rn_f hf hc2
      refine lv_aload_n hx hb dX5_connect_13 rfl (lv_at hl 0 rfl) ?_
      refine rr_get X hW 0 0 gf_X5_9 rfl rfl dX5_connect_14 ?_
      refine lv_iload_n hx hb dX5_connect_17 rfl (lv_at hl 1 rfl) ?_
      refine lv_dup2_11 hx hb dX5_connect_18 rfl rfl ?_
      obtain ⟨hg3, hf⟩ := rn_g_s hf
      refine rr_lald X hW 1 rfl hg3 dX5_connect_19 ?_
      refine lv_lconst (v := 1) hx hb dX5_connect_20 (by decide) ?_
      refine lv_iload_n hx hb dX5_connect_21 rfl (lv_at hl 2 rfl) ?_
      refine lv_bipush (v := 8) hx hb dX5_connect_22 (by decide) ?_
      refine lv_imul hx hb dX5_connect_24 ?_
      refine lv_iload_n hx hb dX5_connect_25 rfl (lv_at hl 3 rfl) ?_
      refine lv_iadd hx hb dX5_connect_26 ?_
      refine lv_lshl (v := (rn_lshl (1 : Int64) ((i2 * (8 : Int32)) + i3))) hx hb dX5_connect_27 rfl ?_
      refine lv_lconst (v := 1) hx hb dX5_connect_28 (by decide) ?_
      refine lv_iload_n hx hb dX5_connect_29 rfl (lv_at hl 3 rfl) ?_
      refine lv_bipush (v := 8) hx hb dX5_connect_30 (by decide) ?_
      refine lv_imul hx hb dX5_connect_32 ?_
      refine lv_iload_n hx hb dX5_connect_33 rfl (lv_at hl 2 rfl) ?_
      refine lv_iadd hx hb dX5_connect_34 ?_
      refine lv_lshl (v := (rn_lshl (1 : Int64) ((i3 * (8 : Int32)) + i2))) hx hb dX5_connect_35 rfl ?_
      refine lv_lor hx hb dX5_connect_36 ?_
      refine lv_lor hx hb dX5_connect_37 ?_
      obtain ⟨hg4, hf⟩ := rn_g_s hf
      obtain ⟨w5, hw5, hf⟩ := rn_let_s hf
      refine rr_last' X hW 1 rfl hg4 hw5 (ws' := [(a_this, .inr (5, [.ref a_this_heard, .int c_arrival, .int c_fewest, .int c_next])), (a_this_heard, .inl (k 1, 24, .inr (.inl w5)))]) rfl dX5_connect_38 (fun H locs hW => ?_)
      cases hf
      exact hE _ _ _ _ hW dX5_connect_39
def fX5_heardAt (c_heard : Nat → Int64) (i1 : Int32) : Option (Int64) :=
  if (rn_rem i1 (24 : Int32)) < 0 then
    some (0 : Int64)
  else
  if (Int32.ofNat 24) ≤ (rn_rem i1 (24 : Int32)) then
    some (0 : Int64)
  else
  rn_g (rn_rem i1 (24 : Int32)) 24 <|
  some (c_heard (rn_rem i1 (24 : Int32)).toNatClampNeg)
set_option maxHeartbeats 4000000 in
set_option maxRecDepth 20000 in
theorem kX5_heardAt (l : Launch) (D : va_G) (k : Nat → ClassId) (z : (Nat → Nat) × (Nat → Nat)) (a_this : Nat) (a_this_heard : Nat) (c_arrival : Int32) (c_fewest : Int32) (c_next : Int32) (c_heard : Nat → Int64) (i1 : Int32) {u : Int64} (hf : fX5_heardAt c_heard i1 = some u) : rn_KL l D k z yX5_heardAt cX5_heardAt 3 0 0 [.ref a_this, .int i1] [(a_this, .inr (5, [.ref a_this_heard, .int c_arrival, .int c_fewest, .int c_next])), (a_this_heard, .inl (k 1, 24, .inr (.inl c_heard)))] [(a_this, .inr (5, [.ref a_this_heard, .int c_arrival, .int c_fewest, .int c_next])), (a_this_heard, .inl (k 1, 24, .inr (.inl c_heard)))] u := by
  refine rn_KL.go (LOC := [(0, .ref a_this), (1, .int i1)]) rfl (by decide) (Nat.le_of_ble_eq_true rfl) rfl ?_
  intro p e s m args below meth c A ls R Q X hR hE hW hl
  have hx := X.1.1
  have hb := X.1.2.1
  unfold fX5_heardAt at hf
  refine lv_iload_n hx hb dX5_heardAt_0 rfl (lv_at hl 1 rfl) ?_
  refine lv_bipush (v := 24) hx hb dX5_heardAt_1 (by decide) ?_
  refine rr_irem hx hb dX5_heardAt_3 (by decide) ?_
  refine lv_istore_n (lv' := [(2, .int (rn_rem i1 (24 : Int32))), (0, .ref a_this), (1, .int i1)]) hx hb dX5_heardAt_4 rfl hl (Nat.le_of_ble_eq_true rfl) rfl (fun ls hl => ?_)
  refine lv_iload_n hx hb dX5_heardAt_5 rfl (lv_at hl 0 rfl) ?_
  refine lv_if_lt (tgt := 27) hx hb dX5_heardAt_6 (by decide) (fun hc1 => ?_) (fun hc1 => ?_)
  · replace hf := rn_t hf hc1
    refine lv_lconst (v := 0) hx hb dX5_heardAt_27 (by decide) ?_
    cases hf
    exact hE _ _ _ _ hW dX5_heardAt_28
  · replace hf := rn_f hf hc1
    refine lv_iload_n hx hb dX5_heardAt_9 rfl (lv_at hl 0 rfl) ?_
    refine lv_aload_n hx hb dX5_heardAt_10 rfl (lv_at hl 1 rfl) ?_
    refine rr_get X hW 0 0 gf_X5_9 rfl rfl dX5_heardAt_11 ?_
    refine rr_alen X hW 1 1 rfl rfl dX5_heardAt_14 ?_
    refine lv_icmp_ge (tgt := 27) hx hb dX5_heardAt_15 (by decide) (fun hc2 => ?_) (fun hc2 => ?_)
    · replace hf := rn_t hf hc2
      refine lv_lconst (v := 0) hx hb dX5_heardAt_27 (by decide) ?_
      cases hf
      exact hE _ _ _ _ hW dX5_heardAt_28
    · replace hf := rn_f hf hc2
      refine lv_aload_n hx hb dX5_heardAt_18 rfl (lv_at hl 1 rfl) ?_
      refine rr_get X hW 0 0 gf_X5_9 rfl rfl dX5_heardAt_19 ?_
      refine lv_iload_n hx hb dX5_heardAt_22 rfl (lv_at hl 0 rfl) ?_
      obtain ⟨hg3, hf⟩ := rn_g_s hf
      refine rr_lald X hW 1 rfl hg3 dX5_heardAt_23 ?_
      refine lv_goto (tgt := 28) hx hb dX5_heardAt_24 (by decide) ?_
      cases hf
      exact hE _ _ _ _ hW dX5_heardAt_28
def fX5_setOf (j0 : Int64) (i2 : Int32) : Option (Int32) :=
  some (((rn_lushr j0 (i2 * (8 : Int32))).toInt32) &&& (255 : Int32))
set_option maxHeartbeats 4000000 in
set_option maxRecDepth 20000 in
theorem kX5_setOf (l : Launch) (D : va_G) (k : Nat → ClassId) (z : (Nat → Nat) × (Nat → Nat)) (j0 : Int64) (i2 : Int32) {u : Int32} (hf : fX5_setOf j0 i2 = some u) : rn_KI l D k z yX5_setOf cX5_setOf 3 .int 0 0 [.long j0, .int i2] [] [] u := by
  refine rn_KI.go (LOC := [(0, .long j0), (2, .int i2)]) rfl (by decide) (Nat.le_of_ble_eq_true rfl) rfl ?_
  intro p e s m args below meth c A ls R Q X hR hE hW hl
  have hx := X.1.1
  have hb := X.1.2.1
  unfold fX5_setOf at hf
  refine lv_lload_n hx hb dX5_setOf_0 rfl (lv_at hl 0 rfl) ?_
  refine lv_iload_n hx hb dX5_setOf_1 rfl (lv_at hl 1 rfl) ?_
  refine lv_bipush (v := 8) hx hb dX5_setOf_2 (by decide) ?_
  refine lv_imul hx hb dX5_setOf_4 ?_
  refine lv_lushr (v := (rn_lushr j0 (i2 * (8 : Int32)))) hx hb dX5_setOf_5 rfl ?_
  refine lv_l2i (v := ((rn_lushr j0 (i2 * (8 : Int32))).toInt32)) hx hb dX5_setOf_6 rfl ?_
  refine lv_sipush (v := 255) hx hb dX5_setOf_7 (by decide) ?_
  refine lv_iand hx hb dX5_setOf_10 ?_
  cases hf
  exact hE _ _ _ _ hW rfl dX5_setOf_11
def fX5_goesFrom (c_heard : Nat → Int64) (i1 : Int32) (i2 : Int32) (i3 : Int32) : Option (Int32) :=
  (fX5_heardAt c_heard i2).bind fun t1 =>
  (fX5_setOf t1 i1).bind fun t2 =>
  if (t2 &&& (i3 ^^^ (-1 : Int32))) = 0 then
    some (0 : Int32)
  else
  some (1 : Int32)
set_option maxHeartbeats 4000000 in
set_option maxRecDepth 20000 in
theorem kX5_goesFrom (l : Launch) (D : va_G) (k : Nat → ClassId) (z : (Nat → Nat) × (Nat → Nat)) (a_this : Nat) (a_this_heard : Nat) (c_arrival : Int32) (c_fewest : Int32) (c_next : Int32) (c_heard : Nat → Int64) (i1 : Int32) (i2 : Int32) (i3 : Int32) {u : Int32} (hf : fX5_goesFrom c_heard i1 i2 i3 = some u) : rn_KI l D k z yX5_goesFrom cX5_goesFrom 4 .boolean 1 22 [.ref a_this, .int i1, .int i2, .int i3] [(a_this, .inr (5, [.ref a_this_heard, .int c_arrival, .int c_fewest, .int c_next])), (a_this_heard, .inl (k 1, 24, .inr (.inl c_heard)))] [(a_this, .inr (5, [.ref a_this_heard, .int c_arrival, .int c_fewest, .int c_next])), (a_this_heard, .inl (k 1, 24, .inr (.inl c_heard)))] u := by
  refine rn_KI.go (LOC := [(0, .ref a_this), (1, .int i1), (2, .int i2), (3, .int i3)]) rfl (by decide) (Nat.le_of_ble_eq_true rfl) rfl ?_
  intro p e s m args below meth c A ls R Q X hR hE hW hl
  have hx := X.1.1
  have hb := X.1.2.1
  unfold fX5_goesFrom at hf
  refine lv_aload_n hx hb dX5_goesFrom_0 rfl (lv_at hl 0 rfl) ?_
  refine lv_iload_n hx hb dX5_goesFrom_1 rfl (lv_at hl 2 rfl) ?_
  obtain ⟨t1, ht1, hf⟩ := rn_bind hf
  refine rr_callL (As := [.int i2]) (rest := []) X hW (kX5_heardAt l D k z a_this a_this_heard c_arrival c_fewest c_next c_heard i2 ht1) gm_X5_heardAt gl_X5_37 [0, 1] [] [(a_this, .inr (5, [.ref a_this_heard, .int c_arrival, .int c_fewest, .int c_next])), (a_this_heard, .inl (k 1, 24, .inr (.inl c_heard)))] rfl rfl rfl rfl ⟨rfl, rfl, rfl, rfl, rfl⟩ (rn_r hR rfl) rn_cs hl.1 rfl (Nat.le_of_ble_eq_true rfl) dX5_goesFrom_2 (fun H locs hW => ?_)
  refine lv_iload_n hx hb dX5_goesFrom_5 rfl (lv_at hl 1 rfl) ?_
  obtain ⟨t2, ht2, hf⟩ := rn_bind hf
  refine rr_scalI (As := [.long t1, .int i1]) (rest := []) X hW (kX5_setOf l D k z t1 i1 ht2) gm_X5_setOf gl_X5_41 [] [0, 1] [(a_this, .inr (5, [.ref a_this_heard, .int c_arrival, .int c_fewest, .int c_next])), (a_this_heard, .inl (k 1, 24, .inr (.inl c_heard)))] rfl rfl ⟨rfl, rfl, rn_Bw (wr := [(a_this, .inr (5, [.ref a_this_heard, .int c_arrival, .int c_fewest, .int c_next])), (a_this_heard, .inl (k 1, 24, .inr (.inl c_heard)))]) rfl rfl, rfl, rfl⟩ (rn_r hR rfl) rn_cs hl.1 rfl (Nat.le_of_ble_eq_true rfl) dX5_goesFrom_6 (fun hn2 H locs hW => ?_)
  refine lv_iload_n hx hb dX5_goesFrom_9 rfl (lv_at hl 3 rfl) ?_
  refine lv_iconst (v := -1) hx hb dX5_goesFrom_10 (by decide) ?_
  refine lv_ixor hx hb dX5_goesFrom_11 ?_
  refine lv_iand hx hb dX5_goesFrom_12 ?_
  refine lv_if_eq (tgt := 20) hx hb dX5_goesFrom_13 (by decide) (fun hc3 => ?_) (fun hc3 => ?_)
  · replace hf := rn_t hf hc3
    refine lv_iconst (v := 0) hx hb dX5_goesFrom_20 (by decide) ?_
    cases hf
    exact hE _ _ _ _ hW (show narrow .boolean (.int (0 : Int32)) = .int (0 : Int32) from rfl) dX5_goesFrom_21
  · replace hf := rn_f hf hc3
    refine lv_iconst (v := 1) hx hb dX5_goesFrom_16 (by decide) ?_
    refine lv_goto (tgt := 21) hx hb dX5_goesFrom_17 (by decide) ?_
    cases hf
    exact hE _ _ _ _ hW (show narrow .boolean (.int (1 : Int32)) = .int (1 : Int32) from rfl) dX5_goesFrom_21
def lX5_heardBy_5 (i0 : Int32) (j1 : Int64) : Nat → Int64 → Int32 → Option (Int64)
  | 0, _, _ => none
  | n+1, x3_5, x5_5 =>
    if (8 : Int32) ≤ x5_5 then
      some x3_5
    else
    if ((i0 >>> (x5_5 &&& (31 : Int32))) &&& (1 : Int32)) = (1 : Int32) then
      rn_let (x3_5 ||| (rn_lushr j1 (x5_5 * (8 : Int32)))) fun v4 =>
      lX5_heardBy_5 i0 j1 n v4 (x5_5 + (1 : Int32))
    else
    lX5_heardBy_5 i0 j1 n x3_5 (x5_5 + (1 : Int32))
def fX5_heardBy (N : Nat) (i0 : Int32) (j1 : Int64) : Option (Int32) :=
  (lX5_heardBy_5 i0 j1 N (0 : Int64) (0 : Int32)).bind fun t1 =>
  some (((t1).toInt32) &&& (255 : Int32))
set_option maxHeartbeats 4000000 in
set_option maxRecDepth 20000 in
theorem kX5_heardBy (l : Launch) (D : va_G) (k : Nat → ClassId) (z : (Nat → Nat) × (Nat → Nat)) (N : Nat) (i0 : Int32) (j1 : Int64) {u : Int32} (hf : fX5_heardBy N i0 j1 = some u) : rn_KI l D k z yX5_heardBy cX5_heardBy 6 .int 0 0 [.int i0, .long j1] [] [] u := by
  refine rn_KI.go (LOC := [(0, .int i0), (1, .long j1)]) rfl (by decide) (Nat.le_of_ble_eq_true rfl) rfl ?_
  intro p e s m args below meth c A ls R Q X hR hE hW hl
  have hx := X.1.1
  have hb := X.1.2.1
  unfold fX5_heardBy at hf
  refine lv_lconst (v := 0) hx hb dX5_heardBy_0 (by decide) ?_
  refine lv_lstore_n (lv' := [(3, .long (0 : Int64)), (0, .int i0), (1, .long j1)]) hx hb dX5_heardBy_1 rfl hl (Nat.le_of_ble_eq_true rfl) rfl (fun ls hl => ?_)
  refine lv_iconst (v := 0) hx hb dX5_heardBy_2 (by decide) ?_
  refine lv_istore (lv' := [(5, .int (0 : Int32)), (3, .long (0 : Int64)), (0, .int i0), (1, .long j1)]) hx hb dX5_heardBy_3 hl (Nat.le_of_ble_eq_true rfl) rfl (fun ls hl => ?_)
  obtain ⟨t1, ht1, hf⟩ := rn_bind hf
  have kk_5 : ∀ (H : Heap) (locs : List Loc) (ls : Array Slot), rn_W D A s [] H locs → lv_has ls 6 [(3, .long t1)] → W p l e R s m args below meth c H locs 0 0 Q (F0 m 38 ls []) := by
    intro H locs ls hW hl
    refine lv_lload_n hx hb dX5_heardBy_38 rfl (lv_at hl 0 rfl) ?_
    refine lv_l2i (v := ((t1).toInt32)) hx hb dX5_heardBy_39 rfl ?_
    refine lv_sipush (v := 255) hx hb dX5_heardBy_40 (by decide) ?_
    refine lv_iand hx hb dX5_heardBy_43 ?_
    cases hf
    exact hE _ _ _ _ hW rfl dX5_heardBy_44
  clear hf
  have lp_5 : ∀ (n : Nat) (x3_5 : Int64) (x5_5 : Int32) (H : Heap) (locs : List Loc) (ls : Array Slot), lX5_heardBy_5 i0 j1 n x3_5 x5_5 = some t1 → rn_W D A s [] H locs → lv_has ls 6 [(0, .int i0), (1, .long j1), (3, .long x3_5), (5, .int x5_5)] → W p l e R s m args below meth c H locs 0 0 Q (F0 m 5 ls []) := by
    intro n
    induction n with
    | zero => intro x3_5 x5_5 H locs ls hf; exact absurd hf (by rw [lX5_heardBy_5]; exact fun h => nomatch h)
    | succ n ih_5 =>
      intro x3_5 x5_5 H locs ls hf hW hl
      rw [lX5_heardBy_5] at hf
      refine lv_iload hx hb dX5_heardBy_5 (lv_at hl 3 rfl) ?_
      refine lv_bipush (v := 8) hx hb dX5_heardBy_7 (by decide) ?_
      refine lv_icmp_ge (tgt := 38) hx hb dX5_heardBy_9 (by decide) (fun hc2 => ?_) (fun hc2 => ?_)
      · replace hf := rn_t hf hc2
        cases hf
        exact kk_5 _ _ _ hW (lv_sub hl [2] rfl)
      · replace hf := rn_f hf hc2
        refine lv_iload_n hx hb dX5_heardBy_12 rfl (lv_at hl 0 rfl) ?_
        refine lv_iload hx hb dX5_heardBy_13 (lv_at hl 3 rfl) ?_
        refine lv_ishr hx hb dX5_heardBy_15 ?_
        refine lv_iconst (v := 1) hx hb dX5_heardBy_16 (by decide) ?_
        refine lv_iand hx hb dX5_heardBy_17 ?_
        refine lv_iconst (v := 1) hx hb dX5_heardBy_18 (by decide) ?_
        refine lv_icmp_ne (tgt := 32) hx hb dX5_heardBy_19 (by decide) (fun hc3 => ?_) (fun hc3 => ?_)
        · replace hf := rn_f hf hc3
          refine lv_iinc (v := (x5_5 + (1 : Int32))) (lv' := [(5, .int (x5_5 + (1 : Int32))), (0, .int i0), (1, .long j1), (3, .long x3_5)]) hx hb dX5_heardBy_32 hl (k := 3) rfl (congrArg (fun q => _ + q) (by decide)) (Nat.le_of_ble_eq_true rfl) rfl (fun ls hl => ?_)
          refine lv_goto (tgt := 5) hx hb dX5_heardBy_35 (by decide) ?_
          exact ih_5 x3_5 (x5_5 + (1 : Int32)) _ _ _ hf hW (lv_sub hl [1, 2, 3, 0] rfl)
        · replace hf := rn_t hf hc3
          refine lv_lload_n hx hb dX5_heardBy_22 rfl (lv_at hl 2 rfl) ?_
          refine lv_lload_n hx hb dX5_heardBy_23 rfl (lv_at hl 1 rfl) ?_
          refine lv_iload hx hb dX5_heardBy_24 (lv_at hl 3 rfl) ?_
          refine lv_bipush (v := 8) hx hb dX5_heardBy_26 (by decide) ?_
          refine lv_imul hx hb dX5_heardBy_28 ?_
          refine lv_lushr (v := (rn_lushr j1 (x5_5 * (8 : Int32)))) hx hb dX5_heardBy_29 rfl ?_
          refine lv_lor hx hb dX5_heardBy_30 ?_
          obtain ⟨v4, hv4, hf⟩ := rn_let_s hf
          refine rn_topl hv4 ?_
          refine lv_lstore_n (lv' := [(3, .long v4), (0, .int i0), (1, .long j1), (5, .int x5_5)]) hx hb dX5_heardBy_31 rfl hl (Nat.le_of_ble_eq_true rfl) rfl (fun ls hl => ?_)
          refine lv_iinc (v := (x5_5 + (1 : Int32))) (lv' := [(5, .int (x5_5 + (1 : Int32))), (3, .long v4), (0, .int i0), (1, .long j1)]) hx hb dX5_heardBy_32 hl (k := 3) rfl (congrArg (fun q => _ + q) (by decide)) (Nat.le_of_ble_eq_true rfl) rfl (fun ls hl => ?_)
          refine lv_goto (tgt := 5) hx hb dX5_heardBy_35 (by decide) ?_
          exact ih_5 v4 (x5_5 + (1 : Int32)) _ _ _ hf hW (lv_sub hl [2, 3, 1, 0] rfl)
  exact lp_5 N (0 : Int64) (0 : Int32) _ _ _ ht1 hW (lv_sub hl [2, 3, 1, 0] rfl)
def lX5_hoursOfEarliest_8 (N : Nat) (c_heard : Nat → Int64) (i2 : Int32) (i3 : Int32) (i4 : Int32) : Nat → Int32 → Int32 → Option (Int32)
  | 0, _, _ => none
  | n+1, x5_8, x6_8 =>
    if (24 : Int32) ≤ x6_8 then
      some (-1 : Int32)
    else
    (fX5_heardAt c_heard (i3 + x6_8)).bind fun t2 =>
    (fX5_heardBy N x5_8 t2).bind fun t3 =>
    rn_let (x5_8 ||| (t3 &&& (i4 ^^^ (-1 : Int32)))) fun v4 =>
    if ((v4 >>> (i2 &&& (31 : Int32))) &&& (1 : Int32)) = (1 : Int32) then
      some (x6_8 + (1 : Int32))
    else
    lX5_hoursOfEarliest_8 N c_heard i2 i3 i4 n v4 (x6_8 + (1 : Int32))
def fX5_hoursOfEarliest (N : Nat) (c_heard : Nat → Int64) (i1 : Int32) (i2 : Int32) (i3 : Int32) (i4 : Int32) : Option (Int32) :=
  lX5_hoursOfEarliest_8 N c_heard i2 i3 i4 N ((1 : Int32) <<< (i1 &&& (31 : Int32))) (0 : Int32)
set_option maxHeartbeats 4000000 in
set_option maxRecDepth 20000 in
theorem kX5_hoursOfEarliest (l : Launch) (D : va_G) (k : Nat → ClassId) (z : (Nat → Nat) × (Nat → Nat)) (N : Nat) (a_this : Nat) (a_this_heard : Nat) (c_arrival : Int32) (c_fewest : Int32) (c_next : Int32) (c_heard : Nat → Int64) (i1 : Int32) (i2 : Int32) (i3 : Int32) (i4 : Int32) {u : Int32} (hf : fX5_hoursOfEarliest N c_heard i1 i2 i3 i4 = some u) : rn_KI l D k z yX5_hoursOfEarliest cX5_hoursOfEarliest 7 .int 1 25 [.ref a_this, .int i1, .int i2, .int i3, .int i4] [(a_this, .inr (5, [.ref a_this_heard, .int c_arrival, .int c_fewest, .int c_next])), (a_this_heard, .inl (k 1, 24, .inr (.inl c_heard)))] [(a_this, .inr (5, [.ref a_this_heard, .int c_arrival, .int c_fewest, .int c_next])), (a_this_heard, .inl (k 1, 24, .inr (.inl c_heard)))] u := by
  refine rn_KI.go (LOC := [(0, .ref a_this), (1, .int i1), (2, .int i2), (3, .int i3), (4, .int i4)]) rfl (by decide) (Nat.le_of_ble_eq_true rfl) rfl ?_
  intro p e s m args below meth c A ls R Q X hR hE hW hl
  have hx := X.1.1
  have hb := X.1.2.1
  unfold fX5_hoursOfEarliest at hf
  refine lv_iconst (v := 1) hx hb dX5_hoursOfEarliest_0 (by decide) ?_
  refine lv_iload_n hx hb dX5_hoursOfEarliest_1 rfl (lv_at hl 1 rfl) ?_
  refine lv_ishl hx hb dX5_hoursOfEarliest_2 ?_
  refine lv_istore (lv' := [(5, .int ((1 : Int32) <<< (i1 &&& (31 : Int32)))), (0, .ref a_this), (1, .int i1), (2, .int i2), (3, .int i3), (4, .int i4)]) hx hb dX5_hoursOfEarliest_3 hl (Nat.le_of_ble_eq_true rfl) rfl (fun ls hl => ?_)
  refine lv_iconst (v := 0) hx hb dX5_hoursOfEarliest_5 (by decide) ?_
  refine lv_istore (lv' := [(6, .int (0 : Int32)), (5, .int ((1 : Int32) <<< (i1 &&& (31 : Int32)))), (0, .ref a_this), (1, .int i1), (2, .int i2), (3, .int i3), (4, .int i4)]) hx hb dX5_hoursOfEarliest_6 hl (Nat.le_of_ble_eq_true rfl) rfl (fun ls hl => ?_)
  have lp_8 : ∀ (n : Nat) (x5_8 : Int32) (x6_8 : Int32) (H : Heap) (locs : List Loc) (ls : Array Slot), lX5_hoursOfEarliest_8 N c_heard i2 i3 i4 n x5_8 x6_8 = some u → rn_W D A s [(a_this, .inr (5, [.ref a_this_heard, .int c_arrival, .int c_fewest, .int c_next])), (a_this_heard, .inl (k 1, 24, .inr (.inl c_heard)))] H locs → lv_has ls 7 [(0, .ref a_this), (2, .int i2), (3, .int i3), (4, .int i4), (5, .int x5_8), (6, .int x6_8)] → W p l e R s m args below meth c H locs 0 0 Q (F0 m 8 ls []) := by
    intro n
    induction n with
    | zero => intro x5_8 x6_8 H locs ls hf; exact absurd hf (by rw [lX5_hoursOfEarliest_8]; exact fun h => nomatch h)
    | succ n ih_8 =>
      intro x5_8 x6_8 H locs ls hf hW hl
      rw [lX5_hoursOfEarliest_8] at hf
      refine lv_iload hx hb dX5_hoursOfEarliest_8 (lv_at hl 5 rfl) ?_
      refine lv_bipush (v := 24) hx hb dX5_hoursOfEarliest_10 (by decide) ?_
      refine lv_icmp_ge (tgt := 59) hx hb dX5_hoursOfEarliest_12 (by decide) (fun hc1 => ?_) (fun hc1 => ?_)
      · replace hf := rn_t hf hc1
        refine lv_iconst (v := -1) hx hb dX5_hoursOfEarliest_59 (by decide) ?_
        cases hf
        exact hE _ _ _ _ hW rfl dX5_hoursOfEarliest_60
      · replace hf := rn_f hf hc1
        refine lv_iload hx hb dX5_hoursOfEarliest_15 (lv_at hl 4 rfl) ?_
        refine lv_iload hx hb dX5_hoursOfEarliest_17 (lv_at hl 4 rfl) ?_
        refine lv_aload_n hx hb dX5_hoursOfEarliest_19 rfl (lv_at hl 0 rfl) ?_
        refine lv_iload_n hx hb dX5_hoursOfEarliest_20 rfl (lv_at hl 2 rfl) ?_
        refine lv_iload hx hb dX5_hoursOfEarliest_21 (lv_at hl 5 rfl) ?_
        refine lv_iadd hx hb dX5_hoursOfEarliest_23 ?_
        obtain ⟨t2, ht2, hf⟩ := rn_bind hf
        refine rr_callL (As := [.int (i3 + x6_8)]) (rest := [.int x5_8, .int x5_8]) X hW (kX5_heardAt l D k z a_this a_this_heard c_arrival c_fewest c_next c_heard (i3 + x6_8) ht2) gm_X5_heardAt gl_X5_37 [0, 1] [] [(a_this, .inr (5, [.ref a_this_heard, .int c_arrival, .int c_fewest, .int c_next])), (a_this_heard, .inl (k 1, 24, .inr (.inl c_heard)))] rfl rfl rfl rfl ⟨rfl, rfl, rfl, rfl, rfl⟩ (rn_r hR rfl) rn_cs hl.1 rfl (Nat.le_of_ble_eq_true rfl) dX5_hoursOfEarliest_24 (fun H locs hW => ?_)
        obtain ⟨t3, ht3, hf⟩ := rn_bind hf
        refine rr_scalI (As := [.int x5_8, .long t2]) (rest := [.int x5_8]) X hW (kX5_heardBy l D k z N x5_8 t2 ht3) gm_X5_heardBy gl_X5_59 [] [0, 1] [(a_this, .inr (5, [.ref a_this_heard, .int c_arrival, .int c_fewest, .int c_next])), (a_this_heard, .inl (k 1, 24, .inr (.inl c_heard)))] rfl rfl ⟨rfl, rfl, rn_Bw (wr := [(a_this, .inr (5, [.ref a_this_heard, .int c_arrival, .int c_fewest, .int c_next])), (a_this_heard, .inl (k 1, 24, .inr (.inl c_heard)))]) rfl rfl, rfl, rfl⟩ (rn_r hR rfl) rn_cs hl.1 rfl (Nat.le_of_ble_eq_true rfl) dX5_hoursOfEarliest_27 (fun hn3 H locs hW => ?_)
        refine lv_iload hx hb dX5_hoursOfEarliest_30 (lv_at hl 3 rfl) ?_
        refine lv_iconst (v := -1) hx hb dX5_hoursOfEarliest_32 (by decide) ?_
        refine lv_ixor hx hb dX5_hoursOfEarliest_33 ?_
        refine lv_iand hx hb dX5_hoursOfEarliest_34 ?_
        refine lv_ior hx hb dX5_hoursOfEarliest_35 ?_
        obtain ⟨v4, hv4, hf⟩ := rn_let_s hf
        refine rn_topi hv4 ?_
        refine lv_istore (lv' := [(5, .int v4), (0, .ref a_this), (2, .int i2), (3, .int i3), (4, .int i4), (6, .int x6_8)]) hx hb dX5_hoursOfEarliest_36 hl (Nat.le_of_ble_eq_true rfl) rfl (fun ls hl => ?_)
        refine lv_iload hx hb dX5_hoursOfEarliest_38 (lv_at hl 0 rfl) ?_
        refine lv_iload_n hx hb dX5_hoursOfEarliest_40 rfl (lv_at hl 2 rfl) ?_
        refine lv_ishr hx hb dX5_hoursOfEarliest_41 ?_
        refine lv_iconst (v := 1) hx hb dX5_hoursOfEarliest_42 (by decide) ?_
        refine lv_iand hx hb dX5_hoursOfEarliest_43 ?_
        refine lv_iconst (v := 1) hx hb dX5_hoursOfEarliest_44 (by decide) ?_
        refine lv_icmp_ne (tgt := 53) hx hb dX5_hoursOfEarliest_45 (by decide) (fun hc5 => ?_) (fun hc5 => ?_)
        · replace hf := rn_f hf hc5
          refine lv_iinc (v := (x6_8 + (1 : Int32))) (lv' := [(6, .int (x6_8 + (1 : Int32))), (5, .int v4), (0, .ref a_this), (2, .int i2), (3, .int i3), (4, .int i4)]) hx hb dX5_hoursOfEarliest_53 hl (k := 5) rfl (congrArg (fun q => _ + q) (by decide)) (Nat.le_of_ble_eq_true rfl) rfl (fun ls hl => ?_)
          refine lv_goto (tgt := 8) hx hb dX5_hoursOfEarliest_56 (by decide) ?_
          exact ih_8 v4 (x6_8 + (1 : Int32)) _ _ _ hf hW (lv_sub hl [2, 3, 4, 5, 1, 0] rfl)
        · replace hf := rn_t hf hc5
          refine lv_iload hx hb dX5_hoursOfEarliest_48 (lv_at hl 5 rfl) ?_
          refine lv_iconst (v := 1) hx hb dX5_hoursOfEarliest_50 (by decide) ?_
          refine lv_iadd hx hb dX5_hoursOfEarliest_51 ?_
          cases hf
          exact hE _ _ _ _ hW rfl dX5_hoursOfEarliest_52
  exact lp_8 N ((1 : Int32) <<< (i1 &&& (31 : Int32))) (0 : Int32) _ _ _ hf hW (lv_sub hl [2, 4, 5, 6, 1, 0] rfl)
def lX5_restsAfterFirstHour_48 (x5_27 : Int64) (t4 : Int64) : Nat → Int64 → Int32 → Option (Int64)
  | 0, _, _ => none
  | n+1, x12_48, x14_48 =>
    if (8 : Int32) ≤ x14_48 then
      some x12_48
    else
    (fX5_setOf t4 x14_48).bind fun t7 =>
    rn_let (x12_48 ||| (((rn_lushr x5_27 x14_48) &&& (72340172838076673 : Int64)) * ((t7).toInt64))) fun v8 =>
    lX5_restsAfterFirstHour_48 x5_27 t4 n v8 (x14_48 + (1 : Int32))
def lX5_restsAfterFirstHour_27 (N : Nat) (c_heard : Nat → Int64) (i2 : Int32) (v1 : Int64) : Nat → Int64 → Int32 → Option (Int64)
  | 0, _, _ => none
  | n+1, x5_27, x9_27 =>
    if x9_27 ≤ 0 then
      some x5_27
    else
    (fX5_heardAt c_heard (i2 + x9_27)).bind fun t4 =>
    (lX5_restsAfterFirstHour_48 x5_27 t4 N (0 : Int64) (0 : Int32)).bind fun t5 =>
    rn_let (x5_27 ||| ((rn_lshl t5 (8 : Int32)) &&& v1)) fun v9 =>
    lX5_restsAfterFirstHour_27 N c_heard i2 v1 n v9 (x9_27 + (-1 : Int32))
def fX5_restsAfterFirstHour (N : Nat) (c_heard : Nat → Int64) (i1 : Int32) (i2 : Int32) (i3 : Int32) (i4 : Int32) : Option (Int64) :=
  rn_let ((72340172838076673 : Int64) * (((255 : Int32) &&& (i4 ^^^ (-1 : Int32))).toInt64)) fun v1 =>
  (lX5_restsAfterFirstHour_27 N c_heard i2 v1 N (rn_lshl (72340172838076673 : Int64) i1) (i3 - (1 : Int32))).bind fun t2 =>
  some t2
set_option maxHeartbeats 4000000 in
set_option maxRecDepth 20000 in
theorem kX5_restsAfterFirstHour (l : Launch) (D : va_G) (k : Nat → ClassId) (z : (Nat → Nat) × (Nat → Nat)) (N : Nat) (a_this : Nat) (a_this_heard : Nat) (c_arrival : Int32) (c_fewest : Int32) (c_next : Int32) (c_heard : Nat → Int64) (i1 : Int32) (i2 : Int32) (i3 : Int32) (i4 : Int32) {u : Int64} (hf : fX5_restsAfterFirstHour N c_heard i1 i2 i3 i4 = some u) : rn_KL l D k z yX5_restsAfterFirstHour cX5_restsAfterFirstHour 15 1 22 [.ref a_this, .int i1, .int i2, .int i3, .int i4] [(a_this, .inr (5, [.ref a_this_heard, .int c_arrival, .int c_fewest, .int c_next])), (a_this_heard, .inl (k 1, 24, .inr (.inl c_heard)))] [(a_this, .inr (5, [.ref a_this_heard, .int c_arrival, .int c_fewest, .int c_next])), (a_this_heard, .inl (k 1, 24, .inr (.inl c_heard)))] u := by
  refine rn_KL.go (LOC := [(0, .ref a_this), (1, .int i1), (2, .int i2), (3, .int i3), (4, .int i4)]) rfl (by decide) (Nat.le_of_ble_eq_true rfl) rfl ?_
  intro p e s m args below meth c A ls R Q X hR hE hW hl
  have hx := X.1.1
  have hb := X.1.2.1
  unfold fX5_restsAfterFirstHour at hf
  refine rr_ldc2 X gk_X5_66 dX5_restsAfterFirstHour_0 ?_
  refine lv_iload_n hx hb dX5_restsAfterFirstHour_3 rfl (lv_at hl 1 rfl) ?_
  refine lv_lshl (v := (rn_lshl (72340172838076673 : Int64) i1)) hx hb dX5_restsAfterFirstHour_4 rfl ?_
  refine lv_lstore (lv' := [(5, .long (rn_lshl (72340172838076673 : Int64) i1)), (0, .ref a_this), (1, .int i1), (2, .int i2), (3, .int i3), (4, .int i4)]) hx hb dX5_restsAfterFirstHour_5 hl (Nat.le_of_ble_eq_true rfl) rfl (fun ls hl => ?_)
  refine rr_ldc2 X gk_X5_66 dX5_restsAfterFirstHour_7 ?_
  refine lv_sipush (v := 255) hx hb dX5_restsAfterFirstHour_10 (by decide) ?_
  refine lv_iload hx hb dX5_restsAfterFirstHour_13 (lv_at hl 5 rfl) ?_
  refine lv_iconst (v := -1) hx hb dX5_restsAfterFirstHour_15 (by decide) ?_
  refine lv_ixor hx hb dX5_restsAfterFirstHour_16 ?_
  refine lv_iand hx hb dX5_restsAfterFirstHour_17 ?_
  refine lv_i2l (v := (((255 : Int32) &&& (i4 ^^^ (-1 : Int32))).toInt64)) hx hb dX5_restsAfterFirstHour_18 rfl ?_
  refine lv_lmul hx hb dX5_restsAfterFirstHour_19 ?_
  obtain ⟨v1, hv1, hf⟩ := rn_let_s hf
  refine rn_topl hv1 ?_
  refine lv_lstore (lv' := [(7, .long v1), (5, .long (rn_lshl (72340172838076673 : Int64) i1)), (0, .ref a_this), (1, .int i1), (2, .int i2), (3, .int i3), (4, .int i4)]) hx hb dX5_restsAfterFirstHour_20 hl (Nat.le_of_ble_eq_true rfl) rfl (fun ls hl => ?_)
  refine lv_iload_n hx hb dX5_restsAfterFirstHour_22 rfl (lv_at hl 5 rfl) ?_
  refine lv_iconst (v := 1) hx hb dX5_restsAfterFirstHour_23 (by decide) ?_
  refine lv_isub hx hb dX5_restsAfterFirstHour_24 ?_
  refine lv_istore (lv' := [(9, .int (i3 - (1 : Int32))), (7, .long v1), (5, .long (rn_lshl (72340172838076673 : Int64) i1)), (0, .ref a_this), (1, .int i1), (2, .int i2), (3, .int i3), (4, .int i4)]) hx hb dX5_restsAfterFirstHour_25 hl (Nat.le_of_ble_eq_true rfl) rfl (fun ls hl => ?_)
  obtain ⟨t2, ht2, hf⟩ := rn_bind hf
  have kk_27 : ∀ (H : Heap) (locs : List Loc) (ls : Array Slot), rn_W D A s [(a_this, .inr (5, [.ref a_this_heard, .int c_arrival, .int c_fewest, .int c_next])), (a_this_heard, .inl (k 1, 24, .inr (.inl c_heard)))] H locs → lv_has ls 15 [(5, .long t2)] → W p l e R s m args below meth c H locs 0 0 Q (F0 m 103 ls []) := by
    intro H locs ls hW hl
    refine lv_lload hx hb dX5_restsAfterFirstHour_103 (lv_at hl 0 rfl) ?_
    cases hf
    exact hE _ _ _ _ hW dX5_restsAfterFirstHour_105
  clear hf
  have lp_27 : ∀ (n : Nat) (x5_27 : Int64) (x9_27 : Int32) (H : Heap) (locs : List Loc) (ls : Array Slot), lX5_restsAfterFirstHour_27 N c_heard i2 v1 n x5_27 x9_27 = some t2 → rn_W D A s [(a_this, .inr (5, [.ref a_this_heard, .int c_arrival, .int c_fewest, .int c_next])), (a_this_heard, .inl (k 1, 24, .inr (.inl c_heard)))] H locs → lv_has ls 15 [(0, .ref a_this), (2, .int i2), (5, .long x5_27), (7, .long v1), (9, .int x9_27)] → W p l e R s m args below meth c H locs 0 0 Q (F0 m 27 ls []) := by
    intro n
    induction n with
    | zero => intro x5_27 x9_27 H locs ls hf; exact absurd hf (by rw [lX5_restsAfterFirstHour_27]; exact fun h => nomatch h)
    | succ n ih_27 =>
      intro x5_27 x9_27 H locs ls hf hW hl
      rw [lX5_restsAfterFirstHour_27] at hf
      refine lv_iload hx hb dX5_restsAfterFirstHour_27 (lv_at hl 4 rfl) ?_
      refine lv_if_le (tgt := 103) hx hb dX5_restsAfterFirstHour_29 (by decide) (fun hc3 => ?_) (fun hc3 => ?_)
      · replace hf := rn_t hf hc3
        cases hf
        exact kk_27 _ _ _ hW (lv_sub hl [2] rfl)
      · replace hf := rn_f hf hc3
        refine lv_aload_n hx hb dX5_restsAfterFirstHour_32 rfl (lv_at hl 0 rfl) ?_
        refine lv_iload_n hx hb dX5_restsAfterFirstHour_33 rfl (lv_at hl 1 rfl) ?_
        refine lv_iload hx hb dX5_restsAfterFirstHour_34 (lv_at hl 4 rfl) ?_
        refine lv_iadd hx hb dX5_restsAfterFirstHour_36 ?_
        obtain ⟨t4, ht4, hf⟩ := rn_bind hf
        refine rr_callL (As := [.int (i2 + x9_27)]) (rest := []) X hW (kX5_heardAt l D k z a_this a_this_heard c_arrival c_fewest c_next c_heard (i2 + x9_27) ht4) gm_X5_heardAt gl_X5_37 [0, 1] [] [(a_this, .inr (5, [.ref a_this_heard, .int c_arrival, .int c_fewest, .int c_next])), (a_this_heard, .inl (k 1, 24, .inr (.inl c_heard)))] rfl rfl rfl rfl ⟨rfl, rfl, rfl, rfl, rfl⟩ (rn_r hR rfl) rn_cs hl.1 rfl (Nat.le_of_ble_eq_true rfl) dX5_restsAfterFirstHour_37 (fun H locs hW => ?_)
        refine lv_lstore (lv' := [(10, .long t4), (0, .ref a_this), (2, .int i2), (5, .long x5_27), (7, .long v1), (9, .int x9_27)]) hx hb dX5_restsAfterFirstHour_40 hl (Nat.le_of_ble_eq_true rfl) rfl (fun ls hl => ?_)
        refine lv_lconst (v := 0) hx hb dX5_restsAfterFirstHour_42 (by decide) ?_
        refine lv_lstore (lv' := [(12, .long (0 : Int64)), (10, .long t4), (0, .ref a_this), (2, .int i2), (5, .long x5_27), (7, .long v1), (9, .int x9_27)]) hx hb dX5_restsAfterFirstHour_43 hl (Nat.le_of_ble_eq_true rfl) rfl (fun ls hl => ?_)
        refine lv_iconst (v := 0) hx hb dX5_restsAfterFirstHour_45 (by decide) ?_
        refine lv_istore (lv' := [(14, .int (0 : Int32)), (12, .long (0 : Int64)), (10, .long t4), (0, .ref a_this), (2, .int i2), (5, .long x5_27), (7, .long v1), (9, .int x9_27)]) hx hb dX5_restsAfterFirstHour_46 hl (Nat.le_of_ble_eq_true rfl) rfl (fun ls hl => ?_)
        obtain ⟨t5, ht5, hf⟩ := rn_bind hf
        have kk_48 : ∀ (H : Heap) (locs : List Loc) (ls : Array Slot), rn_W D A s [(a_this, .inr (5, [.ref a_this_heard, .int c_arrival, .int c_fewest, .int c_next])), (a_this_heard, .inl (k 1, 24, .inr (.inl c_heard)))] H locs → lv_has ls 15 [(0, .ref a_this), (2, .int i2), (5, .long x5_27), (7, .long v1), (9, .int x9_27), (12, .long t5)] → W p l e R s m args below meth c H locs 0 0 Q (F0 m 84 ls []) := by
          intro H locs ls hW hl
          refine lv_lload hx hb dX5_restsAfterFirstHour_84 (lv_at hl 2 rfl) ?_
          refine lv_lload hx hb dX5_restsAfterFirstHour_86 (lv_at hl 5 rfl) ?_
          refine lv_bipush (v := 8) hx hb dX5_restsAfterFirstHour_88 (by decide) ?_
          refine lv_lshl (v := (rn_lshl t5 (8 : Int32))) hx hb dX5_restsAfterFirstHour_90 rfl ?_
          refine lv_lload hx hb dX5_restsAfterFirstHour_91 (lv_at hl 3 rfl) ?_
          refine lv_land hx hb dX5_restsAfterFirstHour_93 ?_
          refine lv_lor hx hb dX5_restsAfterFirstHour_94 ?_
          obtain ⟨v9, hv9, hf⟩ := rn_let_s hf
          refine rn_topl hv9 ?_
          refine lv_lstore (lv' := [(5, .long v9), (0, .ref a_this), (2, .int i2), (7, .long v1), (9, .int x9_27), (12, .long t5)]) hx hb dX5_restsAfterFirstHour_95 hl (Nat.le_of_ble_eq_true rfl) rfl (fun ls hl => ?_)
          refine lv_iinc (v := (x9_27 + (-1 : Int32))) (lv' := [(9, .int (x9_27 + (-1 : Int32))), (5, .long v9), (0, .ref a_this), (2, .int i2), (7, .long v1), (12, .long t5)]) hx hb dX5_restsAfterFirstHour_97 hl (k := 4) rfl (congrArg (fun q => _ + q) (by decide)) (Nat.le_of_ble_eq_true rfl) rfl (fun ls hl => ?_)
          refine lv_goto (tgt := 27) hx hb dX5_restsAfterFirstHour_100 (by decide) ?_
          exact ih_27 v9 (x9_27 + (-1 : Int32)) _ _ _ hf hW (lv_sub hl [2, 3, 1, 4, 0] rfl)
        clear hf
        have lp_48 : ∀ (n : Nat) (x12_48 : Int64) (x14_48 : Int32) (H : Heap) (locs : List Loc) (ls : Array Slot), lX5_restsAfterFirstHour_48 x5_27 t4 n x12_48 x14_48 = some t5 → rn_W D A s [(a_this, .inr (5, [.ref a_this_heard, .int c_arrival, .int c_fewest, .int c_next])), (a_this_heard, .inl (k 1, 24, .inr (.inl c_heard)))] H locs → lv_has ls 15 [(0, .ref a_this), (2, .int i2), (5, .long x5_27), (7, .long v1), (9, .int x9_27), (10, .long t4), (12, .long x12_48), (14, .int x14_48)] → W p l e R s m args below meth c H locs 0 0 Q (F0 m 48 ls []) := by
          intro n
          induction n with
          | zero => intro x12_48 x14_48 H locs ls hf; exact absurd hf (by rw [lX5_restsAfterFirstHour_48]; exact fun h => nomatch h)
          | succ n ih_48 =>
            intro x12_48 x14_48 H locs ls hf hW hl
            rw [lX5_restsAfterFirstHour_48] at hf
            refine lv_iload hx hb dX5_restsAfterFirstHour_48 (lv_at hl 7 rfl) ?_
            refine lv_bipush (v := 8) hx hb dX5_restsAfterFirstHour_50 (by decide) ?_
            refine lv_icmp_ge (tgt := 84) hx hb dX5_restsAfterFirstHour_52 (by decide) (fun hc6 => ?_) (fun hc6 => ?_)
            · replace hf := rn_t hf hc6
              cases hf
              exact kk_48 _ _ _ hW (lv_sub hl [0, 1, 2, 3, 4, 6] rfl)
            · replace hf := rn_f hf hc6
              refine lv_lload hx hb dX5_restsAfterFirstHour_55 (lv_at hl 6 rfl) ?_
              refine lv_lload hx hb dX5_restsAfterFirstHour_57 (lv_at hl 2 rfl) ?_
              refine lv_iload hx hb dX5_restsAfterFirstHour_59 (lv_at hl 7 rfl) ?_
              refine lv_lushr (v := (rn_lushr x5_27 x14_48)) hx hb dX5_restsAfterFirstHour_61 rfl ?_
              refine rr_ldc2 X gk_X5_66 dX5_restsAfterFirstHour_62 ?_
              refine lv_land hx hb dX5_restsAfterFirstHour_65 ?_
              refine lv_lload hx hb dX5_restsAfterFirstHour_66 (lv_at hl 5 rfl) ?_
              refine lv_iload hx hb dX5_restsAfterFirstHour_68 (lv_at hl 7 rfl) ?_
              obtain ⟨t7, ht7, hf⟩ := rn_bind hf
              refine rr_scalI (As := [.long t4, .int x14_48]) (rest := [.long ((rn_lushr x5_27 x14_48) &&& (72340172838076673 : Int64)), .long x12_48]) X hW (kX5_setOf l D k z t4 x14_48 ht7) gm_X5_setOf gl_X5_41 [] [0, 1] [(a_this, .inr (5, [.ref a_this_heard, .int c_arrival, .int c_fewest, .int c_next])), (a_this_heard, .inl (k 1, 24, .inr (.inl c_heard)))] rfl rfl ⟨rfl, rfl, rn_Bw (wr := [(a_this, .inr (5, [.ref a_this_heard, .int c_arrival, .int c_fewest, .int c_next])), (a_this_heard, .inl (k 1, 24, .inr (.inl c_heard)))]) rfl rfl, rfl, rfl⟩ (rn_r hR rfl) rn_cs hl.1 rfl (Nat.le_of_ble_eq_true rfl) dX5_restsAfterFirstHour_70 (fun hn7 H locs hW => ?_)
              refine lv_i2l (v := ((t7).toInt64)) hx hb dX5_restsAfterFirstHour_73 rfl ?_
              refine lv_lmul hx hb dX5_restsAfterFirstHour_74 ?_
              refine lv_lor hx hb dX5_restsAfterFirstHour_75 ?_
              obtain ⟨v8, hv8, hf⟩ := rn_let_s hf
              refine rn_topl hv8 ?_
              refine lv_lstore (lv' := [(12, .long v8), (0, .ref a_this), (2, .int i2), (5, .long x5_27), (7, .long v1), (9, .int x9_27), (10, .long t4), (14, .int x14_48)]) hx hb dX5_restsAfterFirstHour_76 hl (Nat.le_of_ble_eq_true rfl) rfl (fun ls hl => ?_)
              refine lv_iinc (v := (x14_48 + (1 : Int32))) (lv' := [(14, .int (x14_48 + (1 : Int32))), (12, .long v8), (0, .ref a_this), (2, .int i2), (5, .long x5_27), (7, .long v1), (9, .int x9_27), (10, .long t4)]) hx hb dX5_restsAfterFirstHour_78 hl (k := 7) rfl (congrArg (fun q => _ + q) (by decide)) (Nat.le_of_ble_eq_true rfl) rfl (fun ls hl => ?_)
              refine lv_goto (tgt := 48) hx hb dX5_restsAfterFirstHour_81 (by decide) ?_
              exact ih_48 v8 (x14_48 + (1 : Int32)) _ _ _ hf hW (lv_sub hl [2, 3, 4, 5, 6, 7, 1, 0] rfl)
        exact lp_48 N (0 : Int64) (0 : Int32) _ _ _ ht5 hW (lv_sub hl [3, 4, 5, 6, 7, 2, 1, 0] rfl)
  exact lp_27 N (rn_lshl (72340172838076673 : Int64) i1) (i3 - (1 : Int32)) _ _ _ ht2 hW (lv_sub hl [3, 5, 2, 1, 0] rfl)
def fJ6_numberOfTrailingZeros_0f7a4 (i0 : Int32) : Option (Int32) :=
  rn_let ((i0 ^^^ (-1 : Int32)) &&& (i0 - (1 : Int32))) fun v1 =>
  if 0 < v1 then
    Option.bind (
      if v1 ≤ (65536 : Int32) then
        some (v1, (1 : Int32))
      else
      some ((rn_iushr v1 (16 : Int32)), ((1 : Int32) + (16 : Int32)))
      ) fun t3 =>
    Option.bind (
      if t3.1 ≤ (256 : Int32) then
        some (t3.1, t3.2)
      else
      some ((rn_iushr t3.1 (8 : Int32)), (t3.2 + (8 : Int32)))
      ) fun t5 =>
    Option.bind (
      if t5.1 ≤ (16 : Int32) then
        some (t5.1, t5.2)
      else
      some ((rn_iushr t5.1 (4 : Int32)), (t5.2 + (4 : Int32)))
      ) fun t7 =>
    if t7.1 ≤ (4 : Int32) then
      some (t7.2 + (rn_iushr t7.1 (1 : Int32)))
    else
    some ((t7.2 + (2 : Int32)) + (rn_iushr (rn_iushr t7.1 (2 : Int32)) (1 : Int32)))
  else
  some (v1 &&& (32 : Int32))
set_option maxHeartbeats 4000000 in
set_option maxRecDepth 20000 in
theorem kJ6_numberOfTrailingZeros_0f7a4 (l : Launch) (D : va_G) (k : Nat → ClassId) (z : (Nat → Nat) × (Nat → Nat)) (i0 : Int32) {u : Int32} (hf : fJ6_numberOfTrailingZeros_0f7a4 i0 = some u) : rn_KI l D k z yJ6_numberOfTrailingZeros_0f7a4 cJ6_numberOfTrailingZeros_0f7a4 2 .int 0 0 [.int i0] [] [] u := by
  refine rn_KI.go (LOC := [(0, .int i0)]) rfl (by decide) (Nat.le_of_ble_eq_true rfl) rfl ?_
  intro p e s m args below meth c A ls R Q X hR hE hW hl
  have hx := X.1.1
  have hb := X.1.2.1
  unfold fJ6_numberOfTrailingZeros_0f7a4 at hf
  refine lv_iload_n hx hb dJ6_numberOfTrailingZeros_0f7a4_0 rfl (lv_at hl 0 rfl) ?_
  refine lv_iconst (v := -1) hx hb dJ6_numberOfTrailingZeros_0f7a4_1 (by decide) ?_
  refine lv_ixor hx hb dJ6_numberOfTrailingZeros_0f7a4_2 ?_
  refine lv_iload_n hx hb dJ6_numberOfTrailingZeros_0f7a4_3 rfl (lv_at hl 0 rfl) ?_
  refine lv_iconst (v := 1) hx hb dJ6_numberOfTrailingZeros_0f7a4_4 (by decide) ?_
  refine lv_isub hx hb dJ6_numberOfTrailingZeros_0f7a4_5 ?_
  refine lv_iand hx hb dJ6_numberOfTrailingZeros_0f7a4_6 ?_
  obtain ⟨v1, hv1, hf⟩ := rn_let_s hf
  refine rn_topi hv1 ?_
  refine lv_istore_n (lv' := [(0, .int v1)]) hx hb dJ6_numberOfTrailingZeros_0f7a4_7 rfl hl (Nat.le_of_ble_eq_true rfl) rfl (fun ls hl => ?_)
  refine lv_iload_n hx hb dJ6_numberOfTrailingZeros_0f7a4_8 rfl (lv_at hl 0 rfl) ?_
  refine lv_if_gt (tgt := 17) hx hb dJ6_numberOfTrailingZeros_0f7a4_9 (by decide) (fun hc2 => ?_) (fun hc2 => ?_)
  · replace hf := rn_t hf hc2
    refine lv_iconst (v := 1) hx hb dJ6_numberOfTrailingZeros_0f7a4_17 (by decide) ?_
    refine lv_istore_n (lv' := [(1, .int (1 : Int32)), (0, .int v1)]) hx hb dJ6_numberOfTrailingZeros_0f7a4_18 rfl hl (Nat.le_of_ble_eq_true rfl) rfl (fun ls hl => ?_)
    refine lv_iload_n hx hb dJ6_numberOfTrailingZeros_0f7a4_19 rfl (lv_at hl 1 rfl) ?_
    refine rr_ldcw X gk_J6_264 dJ6_numberOfTrailingZeros_0f7a4_20 ?_
    obtain ⟨t3, ht3, hf⟩ := rn_bind hf
    have jnt3 : ∀ (H : Heap) (locs : List Loc) (ls : Array Slot), rn_W D A s [] H locs → lv_has ls 2 [(0, .int t3.1), (1, .int t3.2)] → W p l e R s m args below meth c H locs 0 0 Q (F0 m 34 ls []) := by
      intro H locs ls hW hl
      refine lv_iload_n hx hb dJ6_numberOfTrailingZeros_0f7a4_34 rfl (lv_at hl 0 rfl) ?_
      refine lv_sipush (v := 256) hx hb dJ6_numberOfTrailingZeros_0f7a4_35 (by decide) ?_
      obtain ⟨t5, ht5, hf⟩ := rn_bind hf
      have jnt5 : ∀ (H : Heap) (locs : List Loc) (ls : Array Slot), rn_W D A s [] H locs → lv_has ls 2 [(0, .int t5.1), (1, .int t5.2)] → W p l e R s m args below meth c H locs 0 0 Q (F0 m 49 ls []) := by
        intro H locs ls hW hl
        refine lv_iload_n hx hb dJ6_numberOfTrailingZeros_0f7a4_49 rfl (lv_at hl 0 rfl) ?_
        refine lv_bipush (v := 16) hx hb dJ6_numberOfTrailingZeros_0f7a4_50 (by decide) ?_
        obtain ⟨t7, ht7, hf⟩ := rn_bind hf
        have jnt7 : ∀ (H : Heap) (locs : List Loc) (ls : Array Slot), rn_W D A s [] H locs → lv_has ls 2 [(0, .int t7.1), (1, .int t7.2)] → W p l e R s m args below meth c H locs 0 0 Q (F0 m 62 ls []) := by
          intro H locs ls hW hl
          refine lv_iload_n hx hb dJ6_numberOfTrailingZeros_0f7a4_62 rfl (lv_at hl 0 rfl) ?_
          refine lv_iconst (v := 4) hx hb dJ6_numberOfTrailingZeros_0f7a4_63 (by decide) ?_
          refine lv_icmp_le (tgt := 74) hx hb dJ6_numberOfTrailingZeros_0f7a4_64 (by decide) (fun hc9 => ?_) (fun hc9 => ?_)
          · replace hf := rn_t hf hc9
            refine lv_iload_n hx hb dJ6_numberOfTrailingZeros_0f7a4_74 rfl (lv_at hl 1 rfl) ?_
            refine lv_iload_n hx hb dJ6_numberOfTrailingZeros_0f7a4_75 rfl (lv_at hl 0 rfl) ?_
            refine lv_iconst (v := 1) hx hb dJ6_numberOfTrailingZeros_0f7a4_76 (by decide) ?_
            refine lv_iushr (v := (rn_iushr t7.1 (1 : Int32))) hx hb dJ6_numberOfTrailingZeros_0f7a4_77 rfl ?_
            refine lv_iadd hx hb dJ6_numberOfTrailingZeros_0f7a4_78 ?_
            cases hf
            exact hE _ _ _ _ hW rfl dJ6_numberOfTrailingZeros_0f7a4_79
          · replace hf := rn_f hf hc9
            refine lv_iinc (v := (t7.2 + (2 : Int32))) (lv' := [(1, .int (t7.2 + (2 : Int32))), (0, .int t7.1)]) hx hb dJ6_numberOfTrailingZeros_0f7a4_67 hl (k := 1) rfl (congrArg (fun q => _ + q) (by decide)) (Nat.le_of_ble_eq_true rfl) rfl (fun ls hl => ?_)
            refine lv_iload_n hx hb dJ6_numberOfTrailingZeros_0f7a4_70 rfl (lv_at hl 1 rfl) ?_
            refine lv_iconst (v := 2) hx hb dJ6_numberOfTrailingZeros_0f7a4_71 (by decide) ?_
            refine lv_iushr (v := (rn_iushr t7.1 (2 : Int32))) hx hb dJ6_numberOfTrailingZeros_0f7a4_72 rfl ?_
            refine lv_istore_n (lv' := [(0, .int (rn_iushr t7.1 (2 : Int32))), (1, .int (t7.2 + (2 : Int32)))]) hx hb dJ6_numberOfTrailingZeros_0f7a4_73 rfl hl (Nat.le_of_ble_eq_true rfl) rfl (fun ls hl => ?_)
            refine lv_iload_n hx hb dJ6_numberOfTrailingZeros_0f7a4_74 rfl (lv_at hl 1 rfl) ?_
            refine lv_iload_n hx hb dJ6_numberOfTrailingZeros_0f7a4_75 rfl (lv_at hl 0 rfl) ?_
            refine lv_iconst (v := 1) hx hb dJ6_numberOfTrailingZeros_0f7a4_76 (by decide) ?_
            refine lv_iushr (v := (rn_iushr (rn_iushr t7.1 (2 : Int32)) (1 : Int32))) hx hb dJ6_numberOfTrailingZeros_0f7a4_77 rfl ?_
            refine lv_iadd hx hb dJ6_numberOfTrailingZeros_0f7a4_78 ?_
            cases hf
            exact hE _ _ _ _ hW rfl dJ6_numberOfTrailingZeros_0f7a4_79
        replace hf := ht7
        clear ht7
        refine lv_icmp_le (tgt := 62) hx hb dJ6_numberOfTrailingZeros_0f7a4_52 (by decide) (fun hc8 => ?_) (fun hc8 => ?_)
        · replace hf := rn_t hf hc8
          cases hf
          exact jnt7 _ _ _ hW (lv_sub hl [0, 1] rfl)
        · replace hf := rn_f hf hc8
          refine lv_iinc (v := (t5.2 + (4 : Int32))) (lv' := [(1, .int (t5.2 + (4 : Int32))), (0, .int t5.1)]) hx hb dJ6_numberOfTrailingZeros_0f7a4_55 hl (k := 1) rfl (congrArg (fun q => _ + q) (by decide)) (Nat.le_of_ble_eq_true rfl) rfl (fun ls hl => ?_)
          refine lv_iload_n hx hb dJ6_numberOfTrailingZeros_0f7a4_58 rfl (lv_at hl 1 rfl) ?_
          refine lv_iconst (v := 4) hx hb dJ6_numberOfTrailingZeros_0f7a4_59 (by decide) ?_
          refine lv_iushr (v := (rn_iushr t5.1 (4 : Int32))) hx hb dJ6_numberOfTrailingZeros_0f7a4_60 rfl ?_
          refine lv_istore_n (lv' := [(0, .int (rn_iushr t5.1 (4 : Int32))), (1, .int (t5.2 + (4 : Int32)))]) hx hb dJ6_numberOfTrailingZeros_0f7a4_61 rfl hl (Nat.le_of_ble_eq_true rfl) rfl (fun ls hl => ?_)
          cases hf
          exact jnt7 _ _ _ hW (lv_sub hl [0, 1] rfl)
      replace hf := ht5
      clear ht5
      refine lv_icmp_le (tgt := 49) hx hb dJ6_numberOfTrailingZeros_0f7a4_38 (by decide) (fun hc6 => ?_) (fun hc6 => ?_)
      · replace hf := rn_t hf hc6
        cases hf
        exact jnt5 _ _ _ hW (lv_sub hl [0, 1] rfl)
      · replace hf := rn_f hf hc6
        refine lv_iinc (v := (t3.2 + (8 : Int32))) (lv' := [(1, .int (t3.2 + (8 : Int32))), (0, .int t3.1)]) hx hb dJ6_numberOfTrailingZeros_0f7a4_41 hl (k := 1) rfl (congrArg (fun q => _ + q) (by decide)) (Nat.le_of_ble_eq_true rfl) rfl (fun ls hl => ?_)
        refine lv_iload_n hx hb dJ6_numberOfTrailingZeros_0f7a4_44 rfl (lv_at hl 1 rfl) ?_
        refine lv_bipush (v := 8) hx hb dJ6_numberOfTrailingZeros_0f7a4_45 (by decide) ?_
        refine lv_iushr (v := (rn_iushr t3.1 (8 : Int32))) hx hb dJ6_numberOfTrailingZeros_0f7a4_47 rfl ?_
        refine lv_istore_n (lv' := [(0, .int (rn_iushr t3.1 (8 : Int32))), (1, .int (t3.2 + (8 : Int32)))]) hx hb dJ6_numberOfTrailingZeros_0f7a4_48 rfl hl (Nat.le_of_ble_eq_true rfl) rfl (fun ls hl => ?_)
        cases hf
        exact jnt5 _ _ _ hW (lv_sub hl [0, 1] rfl)
    replace hf := ht3
    clear ht3
    refine lv_icmp_le (tgt := 34) hx hb dJ6_numberOfTrailingZeros_0f7a4_23 (by decide) (fun hc4 => ?_) (fun hc4 => ?_)
    · replace hf := rn_t hf hc4
      cases hf
      exact jnt3 _ _ _ hW (lv_sub hl [1, 0] rfl)
    · replace hf := rn_f hf hc4
      refine lv_iinc (v := ((1 : Int32) + (16 : Int32))) (lv' := [(1, .int ((1 : Int32) + (16 : Int32))), (0, .int v1)]) hx hb dJ6_numberOfTrailingZeros_0f7a4_26 hl (k := 0) rfl (congrArg (fun q => _ + q) (by decide)) (Nat.le_of_ble_eq_true rfl) rfl (fun ls hl => ?_)
      refine lv_iload_n hx hb dJ6_numberOfTrailingZeros_0f7a4_29 rfl (lv_at hl 1 rfl) ?_
      refine lv_bipush (v := 16) hx hb dJ6_numberOfTrailingZeros_0f7a4_30 (by decide) ?_
      refine lv_iushr (v := (rn_iushr v1 (16 : Int32))) hx hb dJ6_numberOfTrailingZeros_0f7a4_32 rfl ?_
      refine lv_istore_n (lv' := [(0, .int (rn_iushr v1 (16 : Int32))), (1, .int ((1 : Int32) + (16 : Int32)))]) hx hb dJ6_numberOfTrailingZeros_0f7a4_33 rfl hl (Nat.le_of_ble_eq_true rfl) rfl (fun ls hl => ?_)
      cases hf
      exact jnt3 _ _ _ hW (lv_sub hl [0, 1] rfl)
  · replace hf := rn_f hf hc2
    refine lv_iload_n hx hb dJ6_numberOfTrailingZeros_0f7a4_12 rfl (lv_at hl 0 rfl) ?_
    refine lv_bipush (v := 32) hx hb dJ6_numberOfTrailingZeros_0f7a4_13 (by decide) ?_
    refine lv_iand hx hb dJ6_numberOfTrailingZeros_0f7a4_15 ?_
    cases hf
    exact hE _ _ _ _ hW rfl dJ6_numberOfTrailingZeros_0f7a4_16
def lX5_find_74 (i1 : Int32) (i4 : Int32) (t4 : Int32) (t5 : Int64) : Nat → Int32 → Int32 → Int32 → Option (Int32 × Int32)
  | 0, _, _, _ => none
  | n+1, x9_74, y_fewest_74, y_next_74 =>
    if (8 : Int32) ≤ x9_74 then
      some (y_fewest_74, y_next_74)
    else
    if y_fewest_74 = (-1 : Int32) then
      Option.bind (
        if x9_74 = 0 then
          some (0 : Int32)
        else
        (fX5_setOf t5 (x9_74 - (1 : Int32))).bind fun t11 =>
        some (t11 &&& (t4 &&& (i4 ^^^ (-1 : Int32))))
        ) fun t9 =>
      if t9 = 0 then
        (fX5_setOf t5 x9_74).bind fun t13 =>
        if ((t13 >>> (i1 &&& (31 : Int32))) &&& (1 : Int32)) = (1 : Int32) then
          lX5_find_74 i1 i4 t4 t5 n (x9_74 + (1 : Int32)) x9_74 y_next_74
        else
        lX5_find_74 i1 i4 t4 t5 n (x9_74 + (1 : Int32)) y_fewest_74 y_next_74
      else
      (fJ6_numberOfTrailingZeros_0f7a4 t9).bind fun t15 =>
      lX5_find_74 i1 i4 t4 t5 n (x9_74 + (1 : Int32)) x9_74 t15
    else
    some (y_fewest_74, y_next_74)
def fX5_find (N : Nat) (c_arrival : Int32) (c_fewest : Int32) (c_next : Int32) (c_heard : Nat → Int64) (i1 : Int32) (i2 : Int32) (i3 : Int32) (i4 : Int32) : Option (Int32 × Int32 × Int32 × Int32) :=
  (fX5_hoursOfEarliest N c_heard i1 i2 i3 i4).bind fun t1 =>
  if t1 = (-1 : Int32) then
    some ((0 : Int32), c_arrival, c_fewest, c_next)
  else
  (fX5_heardAt c_heard i3).bind fun t3 =>
  (fX5_setOf t3 i1).bind fun t4 =>
  (fX5_restsAfterFirstHour N c_heard i2 i3 t1 (i4 &&& (((1 : Int32) <<< (i1 &&& (31 : Int32))) ^^^ (-1 : Int32)))).bind fun t5 =>
  (lX5_find_74 i1 i4 t4 t5 N (0 : Int32) (-1 : Int32) (-1 : Int32)).bind fun t6 =>
  some ((1 : Int32), (i3 + t1), t6.1, t6.2)
set_option maxHeartbeats 4000000 in
set_option maxRecDepth 20000 in
theorem kX5_find (l : Launch) (D : va_G) (k : Nat → ClassId) (z : (Nat → Nat) × (Nat → Nat)) (N : Nat) (a_this : Nat) (a_this_heard : Nat) (c_arrival : Int32) (c_fewest : Int32) (c_next : Int32) (c_heard : Nat → Int64) (i1 : Int32) (i2 : Int32) (i3 : Int32) (i4 : Int32) {u : Int32 × Int32 × Int32 × Int32} (hf : fX5_find N c_arrival c_fewest c_next c_heard i1 i2 i3 i4 = some u) : rn_KI l D k z yX5_find cX5_find 11 .boolean 2 56 [.ref a_this, .int i1, .int i2, .int i3, .int i4] [(a_this, .inr (5, [.ref a_this_heard, .int c_arrival, .int c_fewest, .int c_next])), (a_this_heard, .inl (k 1, 24, .inr (.inl c_heard)))] [(a_this, .inr (5, [.ref a_this_heard, .int u.2.1, .int u.2.2.1, .int u.2.2.2])), (a_this_heard, .inl (k 1, 24, .inr (.inl c_heard)))] u.1 := by
  refine rn_KI.go (LOC := [(0, .ref a_this), (1, .int i1), (2, .int i2), (3, .int i3), (4, .int i4)]) rfl (by decide) (Nat.le_of_ble_eq_true rfl) rfl ?_
  intro p e s m args below meth c A ls R Q X hR hE hW hl
  have hx := X.1.1
  have hb := X.1.2.1
  unfold fX5_find at hf
  refine lv_aload_n hx hb dX5_find_0 rfl (lv_at hl 0 rfl) ?_
  refine lv_iload_n hx hb dX5_find_1 rfl (lv_at hl 1 rfl) ?_
  refine lv_iload_n hx hb dX5_find_2 rfl (lv_at hl 2 rfl) ?_
  refine lv_iload_n hx hb dX5_find_3 rfl (lv_at hl 3 rfl) ?_
  refine lv_iload hx hb dX5_find_4 (lv_at hl 4 rfl) ?_
  obtain ⟨t1, ht1, hf⟩ := rn_bind hf
  refine rr_callI (As := [.int i1, .int i2, .int i3, .int i4]) (rest := []) X hW (kX5_hoursOfEarliest l D k z N a_this a_this_heard c_arrival c_fewest c_next c_heard i1 i2 i3 i4 ht1) gm_X5_hoursOfEarliest gl_X5_45 [0, 1] [] [(a_this, .inr (5, [.ref a_this_heard, .int c_arrival, .int c_fewest, .int c_next])), (a_this_heard, .inl (k 1, 24, .inr (.inl c_heard)))] rfl rfl rfl rfl ⟨rfl, rfl, rfl, rfl, rfl⟩ (rn_r hR rfl) rn_cs hl.1 rfl (Nat.le_of_ble_eq_true rfl) dX5_find_6 (fun hn1 H locs hW => ?_)
  refine lv_istore (lv' := [(5, .int t1), (0, .ref a_this), (1, .int i1), (2, .int i2), (3, .int i3), (4, .int i4)]) hx hb dX5_find_9 hl (Nat.le_of_ble_eq_true rfl) rfl (fun ls hl => ?_)
  refine lv_iload hx hb dX5_find_11 (lv_at hl 0 rfl) ?_
  refine lv_iconst (v := -1) hx hb dX5_find_13 (by decide) ?_
  refine lv_icmp_ne (tgt := 19) hx hb dX5_find_14 (by decide) (fun hc2 => ?_) (fun hc2 => ?_)
  · replace hf := rn_f hf hc2
    refine lv_aload_n hx hb dX5_find_19 rfl (lv_at hl 1 rfl) ?_
    refine lv_iload_n hx hb dX5_find_20 rfl (lv_at hl 4 rfl) ?_
    refine lv_iload hx hb dX5_find_21 (lv_at hl 0 rfl) ?_
    refine lv_iadd hx hb dX5_find_23 ?_
    refine rr_put X hW 0 1 gp_X5_15 rfl rfl rfl (Nat.le_of_ble_eq_true rfl) (ws' := [(a_this, .inr (5, [.ref a_this_heard, .int (i3 + t1), .int c_fewest, .int c_next])), (a_this_heard, .inl (k 1, 24, .inr (.inl c_heard)))]) rfl dX5_find_24 (fun H locs hW => ?_)
    refine lv_aload_n hx hb dX5_find_27 rfl (lv_at hl 1 rfl) ?_
    refine lv_iload_n hx hb dX5_find_28 rfl (lv_at hl 4 rfl) ?_
    obtain ⟨t3, ht3, hf⟩ := rn_bind hf
    refine rr_callL (As := [.int i3]) (rest := []) X hW (kX5_heardAt l D k z a_this a_this_heard (i3 + t1) c_fewest c_next c_heard i3 ht3) gm_X5_heardAt gl_X5_37 [0, 1] [] [(a_this, .inr (5, [.ref a_this_heard, .int (i3 + t1), .int c_fewest, .int c_next])), (a_this_heard, .inl (k 1, 24, .inr (.inl c_heard)))] rfl rfl rfl rfl ⟨rfl, rfl, rfl, rfl, rfl⟩ (rn_r hR rfl) rn_cs hl.1 rfl (Nat.le_of_ble_eq_true rfl) dX5_find_29 (fun H locs hW => ?_)
    refine lv_iload_n hx hb dX5_find_32 rfl (lv_at hl 2 rfl) ?_
    obtain ⟨t4, ht4, hf⟩ := rn_bind hf
    refine rr_scalI (As := [.long t3, .int i1]) (rest := []) X hW (kX5_setOf l D k z t3 i1 ht4) gm_X5_setOf gl_X5_41 [] [0, 1] [(a_this, .inr (5, [.ref a_this_heard, .int (i3 + t1), .int c_fewest, .int c_next])), (a_this_heard, .inl (k 1, 24, .inr (.inl c_heard)))] rfl rfl ⟨rfl, rfl, rn_Bw (wr := [(a_this, .inr (5, [.ref a_this_heard, .int (i3 + t1), .int c_fewest, .int c_next])), (a_this_heard, .inl (k 1, 24, .inr (.inl c_heard)))]) rfl rfl, rfl, rfl⟩ (rn_r hR rfl) rn_cs hl.1 rfl (Nat.le_of_ble_eq_true rfl) dX5_find_33 (fun hn4 H locs hW => ?_)
    refine lv_iload hx hb dX5_find_36 (lv_at hl 5 rfl) ?_
    refine lv_iconst (v := -1) hx hb dX5_find_38 (by decide) ?_
    refine lv_ixor hx hb dX5_find_39 ?_
    refine lv_iand hx hb dX5_find_40 ?_
    refine lv_istore (lv' := [(6, .int (t4 &&& (i4 ^^^ (-1 : Int32)))), (5, .int t1), (0, .ref a_this), (1, .int i1), (2, .int i2), (3, .int i3), (4, .int i4)]) hx hb dX5_find_41 hl (Nat.le_of_ble_eq_true rfl) rfl (fun ls hl => ?_)
    refine lv_aload_n hx hb dX5_find_43 rfl (lv_at hl 2 rfl) ?_
    refine lv_iload_n hx hb dX5_find_44 rfl (lv_at hl 4 rfl) ?_
    refine lv_iload_n hx hb dX5_find_45 rfl (lv_at hl 5 rfl) ?_
    refine lv_iload hx hb dX5_find_46 (lv_at hl 1 rfl) ?_
    refine lv_iload hx hb dX5_find_48 (lv_at hl 6 rfl) ?_
    refine lv_iconst (v := 1) hx hb dX5_find_50 (by decide) ?_
    refine lv_iload_n hx hb dX5_find_51 rfl (lv_at hl 3 rfl) ?_
    refine lv_ishl hx hb dX5_find_52 ?_
    refine lv_iconst (v := -1) hx hb dX5_find_53 (by decide) ?_
    refine lv_ixor hx hb dX5_find_54 ?_
    refine lv_iand hx hb dX5_find_55 ?_
    obtain ⟨t5, ht5, hf⟩ := rn_bind hf
    refine rr_callL (As := [.int i2, .int i3, .int t1, .int (i4 &&& (((1 : Int32) <<< (i1 &&& (31 : Int32))) ^^^ (-1 : Int32)))]) (rest := []) X hW (kX5_restsAfterFirstHour l D k z N a_this a_this_heard (i3 + t1) c_fewest c_next c_heard i2 i3 t1 (i4 &&& (((1 : Int32) <<< (i1 &&& (31 : Int32))) ^^^ (-1 : Int32))) ht5) gm_X5_restsAfterFirstHour gl_X5_49 [0, 1] [] [(a_this, .inr (5, [.ref a_this_heard, .int (i3 + t1), .int c_fewest, .int c_next])), (a_this_heard, .inl (k 1, 24, .inr (.inl c_heard)))] rfl rfl rfl rfl ⟨rfl, rfl, rfl, rfl, rfl⟩ (rn_r hR rfl) rn_cs hl.1 rfl (Nat.le_of_ble_eq_true rfl) dX5_find_56 (fun H locs hW => ?_)
    refine lv_lstore (lv' := [(7, .long t5), (6, .int (t4 &&& (i4 ^^^ (-1 : Int32)))), (5, .int t1), (0, .ref a_this), (1, .int i1), (2, .int i2), (3, .int i3), (4, .int i4)]) hx hb dX5_find_59 hl (Nat.le_of_ble_eq_true rfl) rfl (fun ls hl => ?_)
    refine lv_aload_n hx hb dX5_find_61 rfl (lv_at hl 3 rfl) ?_
    refine lv_iconst (v := -1) hx hb dX5_find_62 (by decide) ?_
    refine rr_put X hW 0 2 gp_X5_19 rfl rfl rfl (Nat.le_of_ble_eq_true rfl) (ws' := [(a_this, .inr (5, [.ref a_this_heard, .int (i3 + t1), .int (-1 : Int32), .int c_next])), (a_this_heard, .inl (k 1, 24, .inr (.inl c_heard)))]) rfl dX5_find_63 (fun H locs hW => ?_)
    refine lv_aload_n hx hb dX5_find_66 rfl (lv_at hl 3 rfl) ?_
    refine lv_iconst (v := -1) hx hb dX5_find_67 (by decide) ?_
    refine rr_put X hW 0 3 gp_X5_22 rfl rfl rfl (Nat.le_of_ble_eq_true rfl) (ws' := [(a_this, .inr (5, [.ref a_this_heard, .int (i3 + t1), .int (-1 : Int32), .int (-1 : Int32)])), (a_this_heard, .inl (k 1, 24, .inr (.inl c_heard)))]) rfl dX5_find_68 (fun H locs hW => ?_)
    refine lv_iconst (v := 0) hx hb dX5_find_71 (by decide) ?_
    refine lv_istore (lv' := [(9, .int (0 : Int32)), (7, .long t5), (6, .int (t4 &&& (i4 ^^^ (-1 : Int32)))), (5, .int t1), (0, .ref a_this), (1, .int i1), (2, .int i2), (3, .int i3), (4, .int i4)]) hx hb dX5_find_72 hl (Nat.le_of_ble_eq_true rfl) rfl (fun ls hl => ?_)
    obtain ⟨t6, ht6, hf⟩ := rn_bind hf
    have kk_74 : ∀ (H : Heap) (locs : List Loc) (ls : Array Slot), rn_W D A s [(a_this, .inr (5, [.ref a_this_heard, .int (i3 + t1), .int t6.1, .int t6.2])), (a_this_heard, .inl (k 1, 24, .inr (.inl c_heard)))] H locs → lv_has ls 11 [] → W p l e R s m args below meth c H locs 0 0 Q (F0 m 162 ls []) := by
      intro H locs ls hW hl
      refine lv_iconst (v := 1) hx hb dX5_find_162 (by decide) ?_
      cases hf
      exact hE _ _ _ _ hW (show narrow .boolean (.int (1 : Int32)) = .int (1 : Int32) from rfl) dX5_find_163
    clear hf
    have lp_74 : ∀ (n : Nat) (x9_74 : Int32) (y_fewest_74 : Int32) (y_next_74 : Int32) (H : Heap) (locs : List Loc) (ls : Array Slot), lX5_find_74 i1 i4 t4 t5 n x9_74 y_fewest_74 y_next_74 = some t6 → rn_W D A s [(a_this, .inr (5, [.ref a_this_heard, .int (i3 + t1), .int y_fewest_74, .int y_next_74])), (a_this_heard, .inl (k 1, 24, .inr (.inl c_heard)))] H locs → lv_has ls 11 [(0, .ref a_this), (1, .int i1), (6, .int (t4 &&& (i4 ^^^ (-1 : Int32)))), (7, .long t5), (9, .int x9_74)] → W p l e R s m args below meth c H locs 0 0 Q (F0 m 74 ls []) := by
      intro n
      induction n with
      | zero => intro x9_74 y_fewest_74 y_next_74 H locs ls hf; exact absurd hf (by rw [lX5_find_74]; exact fun h => nomatch h)
      | succ n ih_74 =>
        intro x9_74 y_fewest_74 y_next_74 H locs ls hf hW hl
        rw [lX5_find_74] at hf
        refine lv_iload hx hb dX5_find_74 (lv_at hl 4 rfl) ?_
        refine lv_bipush (v := 8) hx hb dX5_find_76 (by decide) ?_
        refine lv_icmp_ge (tgt := 162) hx hb dX5_find_78 (by decide) (fun hc7 => ?_) (fun hc7 => ?_)
        · replace hf := rn_t hf hc7
          cases hf
          exact kk_74 _ _ _ hW (lv_sub hl [] rfl)
        · replace hf := rn_f hf hc7
          refine lv_aload_n hx hb dX5_find_81 rfl (lv_at hl 0 rfl) ?_
          refine rr_get X hW 0 2 gf_X5_19 rfl rfl dX5_find_82 ?_
          refine lv_iconst (v := -1) hx hb dX5_find_85 (by decide) ?_
          refine lv_icmp_ne (tgt := 162) hx hb dX5_find_86 (by decide) (fun hc8 => ?_) (fun hc8 => ?_)
          · replace hf := rn_f hf hc8
            cases hf
            exact kk_74 _ _ _ hW (lv_sub hl [] rfl)
          · replace hf := rn_t hf hc8
            refine lv_iload hx hb dX5_find_89 (lv_at hl 4 rfl) ?_
            obtain ⟨t9, ht9, hf⟩ := rn_bind hf
            have jnt9 : ∀ (H : Heap) (locs : List Loc) (ls : Array Slot), rn_W D A s [(a_this, .inr (5, [.ref a_this_heard, .int (i3 + t1), .int y_fewest_74, .int y_next_74])), (a_this_heard, .inl (k 1, 24, .inr (.inl c_heard)))] H locs → lv_has ls 11 [(0, .ref a_this), (1, .int i1), (6, .int (t4 &&& (i4 ^^^ (-1 : Int32)))), (7, .long t5), (9, .int x9_74)] → W p l e R s m args below meth c H locs 0 0 Q (F0 m 110 ls [.int t9]) := by
              intro H locs ls hW hl
              refine lv_istore (lv' := [(10, .int t9), (0, .ref a_this), (1, .int i1), (6, .int (t4 &&& (i4 ^^^ (-1 : Int32)))), (7, .long t5), (9, .int x9_74)]) hx hb dX5_find_110 hl (Nat.le_of_ble_eq_true rfl) rfl (fun ls hl => ?_)
              refine lv_iload hx hb dX5_find_112 (lv_at hl 0 rfl) ?_
              refine lv_if_eq (tgt := 135) hx hb dX5_find_114 (by decide) (fun hc12 => ?_) (fun hc12 => ?_)
              · replace hf := rn_t hf hc12
                refine lv_lload hx hb dX5_find_135 (lv_at hl 4 rfl) ?_
                refine lv_iload hx hb dX5_find_137 (lv_at hl 5 rfl) ?_
                obtain ⟨t13, ht13, hf⟩ := rn_bind hf
                refine rr_scalI (As := [.long t5, .int x9_74]) (rest := []) X hW (kX5_setOf l D k z t5 x9_74 ht13) gm_X5_setOf gl_X5_41 [] [0, 1] [(a_this, .inr (5, [.ref a_this_heard, .int (i3 + t1), .int y_fewest_74, .int y_next_74])), (a_this_heard, .inl (k 1, 24, .inr (.inl c_heard)))] rfl rfl ⟨rfl, rfl, rn_Bw (wr := [(a_this, .inr (5, [.ref a_this_heard, .int (i3 + t1), .int y_fewest_74, .int y_next_74])), (a_this_heard, .inl (k 1, 24, .inr (.inl c_heard)))]) rfl rfl, rfl, rfl⟩ (rn_r hR rfl) rn_cs hl.1 rfl (Nat.le_of_ble_eq_true rfl) dX5_find_139 (fun hn13 H locs hW => ?_)
                refine lv_iload_n hx hb dX5_find_142 rfl (lv_at hl 2 rfl) ?_
                refine lv_ishr hx hb dX5_find_143 ?_
                refine lv_iconst (v := 1) hx hb dX5_find_144 (by decide) ?_
                refine lv_iand hx hb dX5_find_145 ?_
                refine lv_iconst (v := 1) hx hb dX5_find_146 (by decide) ?_
                refine lv_icmp_ne (tgt := 156) hx hb dX5_find_147 (by decide) (fun hc14 => ?_) (fun hc14 => ?_)
                · replace hf := rn_f hf hc14
                  refine lv_iinc (v := (x9_74 + (1 : Int32))) (lv' := [(9, .int (x9_74 + (1 : Int32))), (10, .int t9), (0, .ref a_this), (1, .int i1), (6, .int (t4 &&& (i4 ^^^ (-1 : Int32)))), (7, .long t5)]) hx hb dX5_find_156 hl (k := 5) rfl (congrArg (fun q => _ + q) (by decide)) (Nat.le_of_ble_eq_true rfl) rfl (fun ls hl => ?_)
                  refine lv_goto (tgt := 74) hx hb dX5_find_159 (by decide) ?_
                  exact ih_74 (x9_74 + (1 : Int32)) y_fewest_74 y_next_74 _ _ _ hf hW (lv_sub hl [2, 3, 4, 5, 0] rfl)
                · replace hf := rn_t hf hc14
                  refine lv_aload_n hx hb dX5_find_150 rfl (lv_at hl 1 rfl) ?_
                  refine lv_iload hx hb dX5_find_151 (lv_at hl 5 rfl) ?_
                  refine rr_put X hW 0 2 gp_X5_19 rfl rfl rfl (Nat.le_of_ble_eq_true rfl) (ws' := [(a_this, .inr (5, [.ref a_this_heard, .int (i3 + t1), .int x9_74, .int y_next_74])), (a_this_heard, .inl (k 1, 24, .inr (.inl c_heard)))]) rfl dX5_find_153 (fun H locs hW => ?_)
                  refine lv_iinc (v := (x9_74 + (1 : Int32))) (lv' := [(9, .int (x9_74 + (1 : Int32))), (10, .int t9), (0, .ref a_this), (1, .int i1), (6, .int (t4 &&& (i4 ^^^ (-1 : Int32)))), (7, .long t5)]) hx hb dX5_find_156 hl (k := 5) rfl (congrArg (fun q => _ + q) (by decide)) (Nat.le_of_ble_eq_true rfl) rfl (fun ls hl => ?_)
                  refine lv_goto (tgt := 74) hx hb dX5_find_159 (by decide) ?_
                  exact ih_74 (x9_74 + (1 : Int32)) x9_74 y_next_74 _ _ _ hf hW (lv_sub hl [2, 3, 4, 5, 0] rfl)
              · replace hf := rn_f hf hc12
                refine lv_aload_n hx hb dX5_find_117 rfl (lv_at hl 1 rfl) ?_
                refine lv_iload hx hb dX5_find_118 (lv_at hl 0 rfl) ?_
                obtain ⟨t15, ht15, hf⟩ := rn_bind hf
                refine rr_scalI (As := [.int t9]) (rest := [.ref a_this]) X hW (kJ6_numberOfTrailingZeros_0f7a4 l D k z t9 ht15) gm_J6_numberOfTrailingZeros_0f7a4 gl_X5_53 [] [0, 1] [(a_this, .inr (5, [.ref a_this_heard, .int (i3 + t1), .int y_fewest_74, .int y_next_74])), (a_this_heard, .inl (k 1, 24, .inr (.inl c_heard)))] rfl rfl ⟨rfl, rfl, rn_Bw (wr := [(a_this, .inr (5, [.ref a_this_heard, .int (i3 + t1), .int y_fewest_74, .int y_next_74])), (a_this_heard, .inl (k 1, 24, .inr (.inl c_heard)))]) rfl rfl, rfl, rfl⟩ (rn_r hR rfl) rn_cs hl.1 rfl (Nat.le_of_ble_eq_true rfl) dX5_find_120 (fun hn15 H locs hW => ?_)
                refine rr_put X hW 0 3 gp_X5_22 rfl rfl rfl (Nat.le_of_ble_eq_true rfl) (ws' := [(a_this, .inr (5, [.ref a_this_heard, .int (i3 + t1), .int y_fewest_74, .int t15])), (a_this_heard, .inl (k 1, 24, .inr (.inl c_heard)))]) rfl dX5_find_123 (fun H locs hW => ?_)
                refine lv_aload_n hx hb dX5_find_126 rfl (lv_at hl 1 rfl) ?_
                refine lv_iload hx hb dX5_find_127 (lv_at hl 5 rfl) ?_
                refine rr_put X hW 0 2 gp_X5_19 rfl rfl rfl (Nat.le_of_ble_eq_true rfl) (ws' := [(a_this, .inr (5, [.ref a_this_heard, .int (i3 + t1), .int x9_74, .int t15])), (a_this_heard, .inl (k 1, 24, .inr (.inl c_heard)))]) rfl dX5_find_129 (fun H locs hW => ?_)
                refine lv_goto (tgt := 156) hx hb dX5_find_132 (by decide) ?_
                refine lv_iinc (v := (x9_74 + (1 : Int32))) (lv' := [(9, .int (x9_74 + (1 : Int32))), (10, .int t9), (0, .ref a_this), (1, .int i1), (6, .int (t4 &&& (i4 ^^^ (-1 : Int32)))), (7, .long t5)]) hx hb dX5_find_156 hl (k := 5) rfl (congrArg (fun q => _ + q) (by decide)) (Nat.le_of_ble_eq_true rfl) rfl (fun ls hl => ?_)
                refine lv_goto (tgt := 74) hx hb dX5_find_159 (by decide) ?_
                exact ih_74 (x9_74 + (1 : Int32)) x9_74 t15 _ _ _ hf hW (lv_sub hl [2, 3, 4, 5, 0] rfl)
            replace hf := ht9
            clear ht9
            refine lv_if_ne (tgt := 98) hx hb dX5_find_91 (by decide) (fun hc10 => ?_) (fun hc10 => ?_)
            · replace hf := rn_f hf hc10
              refine lv_lload hx hb dX5_find_98 (lv_at hl 3 rfl) ?_
              refine lv_iload hx hb dX5_find_100 (lv_at hl 4 rfl) ?_
              refine lv_iconst (v := 1) hx hb dX5_find_102 (by decide) ?_
              refine lv_isub hx hb dX5_find_103 ?_
              obtain ⟨t11, ht11, hf⟩ := rn_bind hf
              refine rr_scalI (As := [.long t5, .int (x9_74 - (1 : Int32))]) (rest := []) X hW (kX5_setOf l D k z t5 (x9_74 - (1 : Int32)) ht11) gm_X5_setOf gl_X5_41 [] [0, 1] [(a_this, .inr (5, [.ref a_this_heard, .int (i3 + t1), .int y_fewest_74, .int y_next_74])), (a_this_heard, .inl (k 1, 24, .inr (.inl c_heard)))] rfl rfl ⟨rfl, rfl, rn_Bw (wr := [(a_this, .inr (5, [.ref a_this_heard, .int (i3 + t1), .int y_fewest_74, .int y_next_74])), (a_this_heard, .inl (k 1, 24, .inr (.inl c_heard)))]) rfl rfl, rfl, rfl⟩ (rn_r hR rfl) rn_cs hl.1 rfl (Nat.le_of_ble_eq_true rfl) dX5_find_104 (fun hn11 H locs hW => ?_)
              refine lv_iload hx hb dX5_find_107 (lv_at hl 2 rfl) ?_
              refine lv_iand hx hb dX5_find_109 ?_
              cases hf
              exact jnt9 _ _ _ hW (lv_sub hl [0, 1, 2, 3, 4] rfl)
            · replace hf := rn_t hf hc10
              refine lv_iconst (v := 0) hx hb dX5_find_94 (by decide) ?_
              refine lv_goto (tgt := 110) hx hb dX5_find_95 (by decide) ?_
              cases hf
              exact jnt9 _ _ _ hW (lv_sub hl [0, 1, 2, 3, 4] rfl)
    exact lp_74 N (0 : Int32) (-1 : Int32) (-1 : Int32) _ _ _ ht6 hW (lv_sub hl [4, 5, 2, 1, 0] rfl)
  · replace hf := rn_t hf hc2
    refine lv_iconst (v := 0) hx hb dX5_find_17 (by decide) ?_
    cases hf
    exact hE _ _ _ _ hW (show narrow .boolean (.int (0 : Int32)) = .int (0 : Int32) from rfl) dX5_find_18
def fX5_arrival (c_arrival : Int32) : Option (Int32) :=
  some c_arrival
set_option maxHeartbeats 4000000 in
set_option maxRecDepth 20000 in
theorem kX5_arrival (l : Launch) (D : va_G) (k : Nat → ClassId) (z : (Nat → Nat) × (Nat → Nat)) (a_this : Nat) (a_this_heard : Nat) (c_arrival : Int32) (c_fewest : Int32) (c_next : Int32) {u : Int32} (hf : fX5_arrival c_arrival = some u) : rn_KI l D k z yX5_arrival cX5_arrival 1 .int 0 0 [.ref a_this] [(a_this, .inr (5, [.ref a_this_heard, .int c_arrival, .int c_fewest, .int c_next]))] [(a_this, .inr (5, [.ref a_this_heard, .int c_arrival, .int c_fewest, .int c_next]))] u := by
  refine rn_KI.go (LOC := [(0, .ref a_this)]) rfl (by decide) (Nat.le_of_ble_eq_true rfl) rfl ?_
  intro p e s m args below meth c A ls R Q X hR hE hW hl
  have hx := X.1.1
  have hb := X.1.2.1
  unfold fX5_arrival at hf
  refine lv_aload_n hx hb dX5_arrival_0 rfl (lv_at hl 0 rfl) ?_
  refine rr_get X hW 0 1 gf_X5_15 rfl rfl dX5_arrival_1 ?_
  cases hf
  exact hE _ _ _ _ hW rfl dX5_arrival_4
def fX5_fewest (c_fewest : Int32) : Option (Int32) :=
  some c_fewest
set_option maxHeartbeats 4000000 in
set_option maxRecDepth 20000 in
theorem kX5_fewest (l : Launch) (D : va_G) (k : Nat → ClassId) (z : (Nat → Nat) × (Nat → Nat)) (a_this : Nat) (a_this_heard : Nat) (c_arrival : Int32) (c_fewest : Int32) (c_next : Int32) {u : Int32} (hf : fX5_fewest c_fewest = some u) : rn_KI l D k z yX5_fewest cX5_fewest 1 .int 0 0 [.ref a_this] [(a_this, .inr (5, [.ref a_this_heard, .int c_arrival, .int c_fewest, .int c_next]))] [(a_this, .inr (5, [.ref a_this_heard, .int c_arrival, .int c_fewest, .int c_next]))] u := by
  refine rn_KI.go (LOC := [(0, .ref a_this)]) rfl (by decide) (Nat.le_of_ble_eq_true rfl) rfl ?_
  intro p e s m args below meth c A ls R Q X hR hE hW hl
  have hx := X.1.1
  have hb := X.1.2.1
  unfold fX5_fewest at hf
  refine lv_aload_n hx hb dX5_fewest_0 rfl (lv_at hl 0 rfl) ?_
  refine rr_get X hW 0 2 gf_X5_19 rfl rfl dX5_fewest_1 ?_
  cases hf
  exact hE _ _ _ _ hW rfl dX5_fewest_4
def fX5_next (c_next : Int32) : Option (Int32) :=
  some c_next
set_option maxHeartbeats 4000000 in
set_option maxRecDepth 20000 in
theorem kX5_next (l : Launch) (D : va_G) (k : Nat → ClassId) (z : (Nat → Nat) × (Nat → Nat)) (a_this : Nat) (a_this_heard : Nat) (c_arrival : Int32) (c_fewest : Int32) (c_next : Int32) {u : Int32} (hf : fX5_next c_next = some u) : rn_KI l D k z yX5_next cX5_next 1 .int 0 0 [.ref a_this] [(a_this, .inr (5, [.ref a_this_heard, .int c_arrival, .int c_fewest, .int c_next]))] [(a_this, .inr (5, [.ref a_this_heard, .int c_arrival, .int c_fewest, .int c_next]))] u := by
  refine rn_KI.go (LOC := [(0, .ref a_this)]) rfl (by decide) (Nat.le_of_ble_eq_true rfl) rfl ?_
  intro p e s m args below meth c A ls R Q X hR hE hW hl
  have hx := X.1.1
  have hb := X.1.2.1
  unfold fX5_next at hf
  refine lv_aload_n hx hb dX5_next_0 rfl (lv_at hl 0 rfl) ?_
  refine rr_get X hW 0 3 gf_X5_22 rfl rfl dX5_next_1 ?_
  cases hf
  exact hE _ _ _ _ hW rfl dX5_next_4
def fJ6_bitCount_0f7a4 (i0 : Int32) : Option (Int32) :=
  rn_let (i0 - ((rn_iushr i0 (1 : Int32)) &&& (1431655765 : Int32))) fun v1 =>
  rn_let ((v1 &&& (858993459 : Int32)) + ((rn_iushr v1 (2 : Int32)) &&& (858993459 : Int32))) fun v2 =>
  rn_let ((v2 + (rn_iushr v2 (4 : Int32))) &&& (252645135 : Int32)) fun v3 =>
  rn_let ((v3 + (rn_iushr v3 (8 : Int32))) + (rn_iushr (v3 + (rn_iushr v3 (8 : Int32))) (16 : Int32))) fun v4 =>
  some (v4 &&& (63 : Int32))
set_option maxHeartbeats 4000000 in
set_option maxRecDepth 20000 in
theorem kJ6_bitCount_0f7a4 (l : Launch) (D : va_G) (k : Nat → ClassId) (z : (Nat → Nat) × (Nat → Nat)) (i0 : Int32) {u : Int32} (hf : fJ6_bitCount_0f7a4 i0 = some u) : rn_KI l D k z yJ6_bitCount_0f7a4 cJ6_bitCount_0f7a4 1 .int 0 0 [.int i0] [] [] u := by
  refine rn_KI.go (LOC := [(0, .int i0)]) rfl (by decide) (Nat.le_of_ble_eq_true rfl) rfl ?_
  intro p e s m args below meth c A ls R Q X hR hE hW hl
  have hx := X.1.1
  have hb := X.1.2.1
  unfold fJ6_bitCount_0f7a4 at hf
  refine lv_iload_n hx hb dJ6_bitCount_0f7a4_0 rfl (lv_at hl 0 rfl) ?_
  refine lv_iload_n hx hb dJ6_bitCount_0f7a4_1 rfl (lv_at hl 0 rfl) ?_
  refine lv_iconst (v := 1) hx hb dJ6_bitCount_0f7a4_2 (by decide) ?_
  refine lv_iushr (v := (rn_iushr i0 (1 : Int32))) hx hb dJ6_bitCount_0f7a4_3 rfl ?_
  refine rr_ldcw X gk_J6_265 dJ6_bitCount_0f7a4_4 ?_
  refine lv_iand hx hb dJ6_bitCount_0f7a4_7 ?_
  refine lv_isub hx hb dJ6_bitCount_0f7a4_8 ?_
  obtain ⟨v1, hv1, hf⟩ := rn_let_s hf
  refine rn_topi hv1 ?_
  refine lv_istore_n (lv' := [(0, .int v1)]) hx hb dJ6_bitCount_0f7a4_9 rfl hl (Nat.le_of_ble_eq_true rfl) rfl (fun ls hl => ?_)
  refine lv_iload_n hx hb dJ6_bitCount_0f7a4_10 rfl (lv_at hl 0 rfl) ?_
  refine rr_ldcw X gk_J6_266 dJ6_bitCount_0f7a4_11 ?_
  refine lv_iand hx hb dJ6_bitCount_0f7a4_14 ?_
  refine lv_iload_n hx hb dJ6_bitCount_0f7a4_15 rfl (lv_at hl 0 rfl) ?_
  refine lv_iconst (v := 2) hx hb dJ6_bitCount_0f7a4_16 (by decide) ?_
  refine lv_iushr (v := (rn_iushr v1 (2 : Int32))) hx hb dJ6_bitCount_0f7a4_17 rfl ?_
  refine rr_ldcw X gk_J6_266 dJ6_bitCount_0f7a4_18 ?_
  refine lv_iand hx hb dJ6_bitCount_0f7a4_21 ?_
  refine lv_iadd hx hb dJ6_bitCount_0f7a4_22 ?_
  obtain ⟨v2, hv2, hf⟩ := rn_let_s hf
  refine rn_topi hv2 ?_
  refine lv_istore_n (lv' := [(0, .int v2)]) hx hb dJ6_bitCount_0f7a4_23 rfl hl (Nat.le_of_ble_eq_true rfl) rfl (fun ls hl => ?_)
  refine lv_iload_n hx hb dJ6_bitCount_0f7a4_24 rfl (lv_at hl 0 rfl) ?_
  refine lv_iload_n hx hb dJ6_bitCount_0f7a4_25 rfl (lv_at hl 0 rfl) ?_
  refine lv_iconst (v := 4) hx hb dJ6_bitCount_0f7a4_26 (by decide) ?_
  refine lv_iushr (v := (rn_iushr v2 (4 : Int32))) hx hb dJ6_bitCount_0f7a4_27 rfl ?_
  refine lv_iadd hx hb dJ6_bitCount_0f7a4_28 ?_
  refine rr_ldcw X gk_J6_267 dJ6_bitCount_0f7a4_29 ?_
  refine lv_iand hx hb dJ6_bitCount_0f7a4_32 ?_
  obtain ⟨v3, hv3, hf⟩ := rn_let_s hf
  refine rn_topi hv3 ?_
  refine lv_istore_n (lv' := [(0, .int v3)]) hx hb dJ6_bitCount_0f7a4_33 rfl hl (Nat.le_of_ble_eq_true rfl) rfl (fun ls hl => ?_)
  refine lv_iload_n hx hb dJ6_bitCount_0f7a4_34 rfl (lv_at hl 0 rfl) ?_
  refine lv_iload_n hx hb dJ6_bitCount_0f7a4_35 rfl (lv_at hl 0 rfl) ?_
  refine lv_bipush (v := 8) hx hb dJ6_bitCount_0f7a4_36 (by decide) ?_
  refine lv_iushr (v := (rn_iushr v3 (8 : Int32))) hx hb dJ6_bitCount_0f7a4_38 rfl ?_
  refine lv_iadd hx hb dJ6_bitCount_0f7a4_39 ?_
  refine lv_istore_n (lv' := [(0, .int (v3 + (rn_iushr v3 (8 : Int32))))]) hx hb dJ6_bitCount_0f7a4_40 rfl hl (Nat.le_of_ble_eq_true rfl) rfl (fun ls hl => ?_)
  refine lv_iload_n hx hb dJ6_bitCount_0f7a4_41 rfl (lv_at hl 0 rfl) ?_
  refine lv_iload_n hx hb dJ6_bitCount_0f7a4_42 rfl (lv_at hl 0 rfl) ?_
  refine lv_bipush (v := 16) hx hb dJ6_bitCount_0f7a4_43 (by decide) ?_
  refine lv_iushr (v := (rn_iushr (v3 + (rn_iushr v3 (8 : Int32))) (16 : Int32))) hx hb dJ6_bitCount_0f7a4_45 rfl ?_
  refine lv_iadd hx hb dJ6_bitCount_0f7a4_46 ?_
  obtain ⟨v4, hv4, hf⟩ := rn_let_s hf
  refine rn_topi hv4 ?_
  refine lv_istore_n (lv' := [(0, .int v4)]) hx hb dJ6_bitCount_0f7a4_47 rfl hl (Nat.le_of_ble_eq_true rfl) rfl (fun ls hl => ?_)
  refine lv_iload_n hx hb dJ6_bitCount_0f7a4_48 rfl (lv_at hl 0 rfl) ?_
  refine lv_bipush (v := 63) hx hb dJ6_bitCount_0f7a4_49 (by decide) ?_
  refine lv_iand hx hb dJ6_bitCount_0f7a4_51 ?_
  cases hf
  exact hE _ _ _ _ hW rfl dJ6_bitCount_0f7a4_52
def lX5_reached_8 (N : Nat) (c_heard : Nat → Int64) (i2 : Int32) (i3 : Int32) : Nat → Int32 → Int32 → Option (Int32)
  | 0, _, _ => none
  | n+1, x4_8, x5_8 =>
    if (24 : Int32) ≤ x5_8 then
      some x4_8
    else
    (fX5_heardAt c_heard (i2 + x5_8)).bind fun t3 =>
    (fX5_heardBy N x4_8 t3).bind fun t4 =>
    rn_let (x4_8 ||| (t4 &&& (i3 ^^^ (-1 : Int32)))) fun v5 =>
    lX5_reached_8 N c_heard i2 i3 n v5 (x5_8 + (1 : Int32))
def fX5_reached (N : Nat) (c_heard : Nat → Int64) (i1 : Int32) (i2 : Int32) (i3 : Int32) : Option (Int32) :=
  (lX5_reached_8 N c_heard i2 i3 N ((1 : Int32) <<< (i1 &&& (31 : Int32))) (0 : Int32)).bind fun t1 =>
  (fJ6_bitCount_0f7a4 t1).bind fun t6 =>
  some (t6 - (1 : Int32))
set_option maxHeartbeats 4000000 in
set_option maxRecDepth 20000 in
theorem kX5_reached (l : Launch) (D : va_G) (k : Nat → ClassId) (z : (Nat → Nat) × (Nat → Nat)) (N : Nat) (a_this : Nat) (a_this_heard : Nat) (c_arrival : Int32) (c_fewest : Int32) (c_next : Int32) (c_heard : Nat → Int64) (i1 : Int32) (i2 : Int32) (i3 : Int32) {u : Int32} (hf : fX5_reached N c_heard i1 i2 i3 = some u) : rn_KI l D k z yX5_reached cX5_reached 6 .int 1 25 [.ref a_this, .int i1, .int i2, .int i3] [(a_this, .inr (5, [.ref a_this_heard, .int c_arrival, .int c_fewest, .int c_next])), (a_this_heard, .inl (k 1, 24, .inr (.inl c_heard)))] [(a_this, .inr (5, [.ref a_this_heard, .int c_arrival, .int c_fewest, .int c_next])), (a_this_heard, .inl (k 1, 24, .inr (.inl c_heard)))] u := by
  refine rn_KI.go (LOC := [(0, .ref a_this), (1, .int i1), (2, .int i2), (3, .int i3)]) rfl (by decide) (Nat.le_of_ble_eq_true rfl) rfl ?_
  intro p e s m args below meth c A ls R Q X hR hE hW hl
  have hx := X.1.1
  have hb := X.1.2.1
  unfold fX5_reached at hf
  refine lv_iconst (v := 1) hx hb dX5_reached_0 (by decide) ?_
  refine lv_iload_n hx hb dX5_reached_1 rfl (lv_at hl 1 rfl) ?_
  refine lv_ishl hx hb dX5_reached_2 ?_
  refine lv_istore (lv' := [(4, .int ((1 : Int32) <<< (i1 &&& (31 : Int32)))), (0, .ref a_this), (1, .int i1), (2, .int i2), (3, .int i3)]) hx hb dX5_reached_3 hl (Nat.le_of_ble_eq_true rfl) rfl (fun ls hl => ?_)
  refine lv_iconst (v := 0) hx hb dX5_reached_5 (by decide) ?_
  refine lv_istore (lv' := [(5, .int (0 : Int32)), (4, .int ((1 : Int32) <<< (i1 &&& (31 : Int32)))), (0, .ref a_this), (1, .int i1), (2, .int i2), (3, .int i3)]) hx hb dX5_reached_6 hl (Nat.le_of_ble_eq_true rfl) rfl (fun ls hl => ?_)
  obtain ⟨t1, ht1, hf⟩ := rn_bind hf
  have kk_8 : ∀ (H : Heap) (locs : List Loc) (ls : Array Slot), rn_W D A s [(a_this, .inr (5, [.ref a_this_heard, .int c_arrival, .int c_fewest, .int c_next])), (a_this_heard, .inl (k 1, 24, .inr (.inl c_heard)))] H locs → lv_has ls 6 [(4, .int t1)] → W p l e R s m args below meth c H locs 0 0 Q (F0 m 43 ls []) := by
    intro H locs ls hW hl
    refine lv_iload hx hb dX5_reached_43 (lv_at hl 0 rfl) ?_
    obtain ⟨t6, ht6, hf⟩ := rn_bind hf
    refine rr_scalI (As := [.int t1]) (rest := []) X hW (kJ6_bitCount_0f7a4 l D k z t1 ht6) gm_J6_bitCount_0f7a4 gl_X5_63 [] [0, 1] [(a_this, .inr (5, [.ref a_this_heard, .int c_arrival, .int c_fewest, .int c_next])), (a_this_heard, .inl (k 1, 24, .inr (.inl c_heard)))] rfl rfl ⟨rfl, rfl, rn_Bw (wr := [(a_this, .inr (5, [.ref a_this_heard, .int c_arrival, .int c_fewest, .int c_next])), (a_this_heard, .inl (k 1, 24, .inr (.inl c_heard)))]) rfl rfl, rfl, rfl⟩ (rn_r hR rfl) rn_cs hl.1 rfl (Nat.le_of_ble_eq_true rfl) dX5_reached_45 (fun hn6 H locs hW => ?_)
    refine lv_iconst (v := 1) hx hb dX5_reached_48 (by decide) ?_
    refine lv_isub hx hb dX5_reached_49 ?_
    cases hf
    exact hE _ _ _ _ hW rfl dX5_reached_50
  clear hf
  have lp_8 : ∀ (n : Nat) (x4_8 : Int32) (x5_8 : Int32) (H : Heap) (locs : List Loc) (ls : Array Slot), lX5_reached_8 N c_heard i2 i3 n x4_8 x5_8 = some t1 → rn_W D A s [(a_this, .inr (5, [.ref a_this_heard, .int c_arrival, .int c_fewest, .int c_next])), (a_this_heard, .inl (k 1, 24, .inr (.inl c_heard)))] H locs → lv_has ls 6 [(0, .ref a_this), (2, .int i2), (3, .int i3), (4, .int x4_8), (5, .int x5_8)] → W p l e R s m args below meth c H locs 0 0 Q (F0 m 8 ls []) := by
    intro n
    induction n with
    | zero => intro x4_8 x5_8 H locs ls hf; exact absurd hf (by rw [lX5_reached_8]; exact fun h => nomatch h)
    | succ n ih_8 =>
      intro x4_8 x5_8 H locs ls hf hW hl
      rw [lX5_reached_8] at hf
      refine lv_iload hx hb dX5_reached_8 (lv_at hl 4 rfl) ?_
      refine lv_bipush (v := 24) hx hb dX5_reached_10 (by decide) ?_
      refine lv_icmp_ge (tgt := 43) hx hb dX5_reached_12 (by decide) (fun hc2 => ?_) (fun hc2 => ?_)
      · replace hf := rn_t hf hc2
        cases hf
        exact kk_8 _ _ _ hW (lv_sub hl [3] rfl)
      · replace hf := rn_f hf hc2
        refine lv_iload hx hb dX5_reached_15 (lv_at hl 3 rfl) ?_
        refine lv_iload hx hb dX5_reached_17 (lv_at hl 3 rfl) ?_
        refine lv_aload_n hx hb dX5_reached_19 rfl (lv_at hl 0 rfl) ?_
        refine lv_iload_n hx hb dX5_reached_20 rfl (lv_at hl 1 rfl) ?_
        refine lv_iload hx hb dX5_reached_21 (lv_at hl 4 rfl) ?_
        refine lv_iadd hx hb dX5_reached_23 ?_
        obtain ⟨t3, ht3, hf⟩ := rn_bind hf
        refine rr_callL (As := [.int (i2 + x5_8)]) (rest := [.int x4_8, .int x4_8]) X hW (kX5_heardAt l D k z a_this a_this_heard c_arrival c_fewest c_next c_heard (i2 + x5_8) ht3) gm_X5_heardAt gl_X5_37 [0, 1] [] [(a_this, .inr (5, [.ref a_this_heard, .int c_arrival, .int c_fewest, .int c_next])), (a_this_heard, .inl (k 1, 24, .inr (.inl c_heard)))] rfl rfl rfl rfl ⟨rfl, rfl, rfl, rfl, rfl⟩ (rn_r hR rfl) rn_cs hl.1 rfl (Nat.le_of_ble_eq_true rfl) dX5_reached_24 (fun H locs hW => ?_)
        obtain ⟨t4, ht4, hf⟩ := rn_bind hf
        refine rr_scalI (As := [.int x4_8, .long t3]) (rest := [.int x4_8]) X hW (kX5_heardBy l D k z N x4_8 t3 ht4) gm_X5_heardBy gl_X5_59 [] [0, 1] [(a_this, .inr (5, [.ref a_this_heard, .int c_arrival, .int c_fewest, .int c_next])), (a_this_heard, .inl (k 1, 24, .inr (.inl c_heard)))] rfl rfl ⟨rfl, rfl, rn_Bw (wr := [(a_this, .inr (5, [.ref a_this_heard, .int c_arrival, .int c_fewest, .int c_next])), (a_this_heard, .inl (k 1, 24, .inr (.inl c_heard)))]) rfl rfl, rfl, rfl⟩ (rn_r hR rfl) rn_cs hl.1 rfl (Nat.le_of_ble_eq_true rfl) dX5_reached_27 (fun hn4 H locs hW => ?_)
        refine lv_iload_n hx hb dX5_reached_30 rfl (lv_at hl 2 rfl) ?_
        refine lv_iconst (v := -1) hx hb dX5_reached_31 (by decide) ?_
        refine lv_ixor hx hb dX5_reached_32 ?_
        refine lv_iand hx hb dX5_reached_33 ?_
        refine lv_ior hx hb dX5_reached_34 ?_
        obtain ⟨v5, hv5, hf⟩ := rn_let_s hf
        refine rn_topi hv5 ?_
        refine lv_istore (lv' := [(4, .int v5), (0, .ref a_this), (2, .int i2), (3, .int i3), (5, .int x5_8)]) hx hb dX5_reached_35 hl (Nat.le_of_ble_eq_true rfl) rfl (fun ls hl => ?_)
        refine lv_iinc (v := (x5_8 + (1 : Int32))) (lv' := [(5, .int (x5_8 + (1 : Int32))), (4, .int v5), (0, .ref a_this), (2, .int i2), (3, .int i3)]) hx hb dX5_reached_37 hl (k := 4) rfl (congrArg (fun q => _ + q) (by decide)) (Nat.le_of_ble_eq_true rfl) rfl (fun ls hl => ?_)
        refine lv_goto (tgt := 8) hx hb dX5_reached_40 (by decide) ?_
        exact ih_8 v5 (x5_8 + (1 : Int32)) _ _ _ hf hW (lv_sub hl [2, 3, 4, 1, 0] rfl)
  exact lp_8 N ((1 : Int32) <<< (i1 &&& (31 : Int32))) (0 : Int32) _ _ _ ht1 hW (lv_sub hl [2, 4, 5, 1, 0] rfl)
