/-! the text constants: String.length and charAt of them, by contracts (own rows) -/
theorem rn_str_ok : ∀ q ∈ rn_str, (Int32.ofNat q.2.2.2.length) >>> ((0 : Int32) &&& 31) = Int32.ofNat q.2.2.2.length ∧ ∀ b ∈ q.2.2.2, ((b &&& (255 : Int32)).toUInt32 % 65536).toInt32 = b ∧ narrow .char (.int b) = .int b := by decide +kernel
theorem rn_str_at {j : Nat} {w : List Int32} (hs : rn_sw j w) {i : Nat} (hi : i < w.length) : ((w.getD i 0 &&& (255 : Int32)).toUInt32 % 65536).toInt32 = w.getD i 0 ∧ narrow .char (.int (w.getD i 0)) = .int (w.getD i 0) := by
  obtain ⟨q, hq, rfl⟩ := hs
  refine (rn_str_ok q (List.mem_of_getElem? hq)).2 _ ?_
  rw [List.getD_eq_getElem?_getD, List.getElem?_eq_getElem hi]
  exact List.getElem_mem hi
theorem rn_str_len {j : Nat} {w : List Int32} (hs : rn_sw j w) : (Int32.ofNat w.length) >>> ((0 : Int32) &&& 31) = Int32.ofNat w.length := by
  obtain ⟨q, hq, rfl⟩ := hs
  exact (rn_str_ok q (List.mem_of_getElem? hq)).1
section SR
variable {p : Program} {l : Launch} {e : Env} {R : Room} {s : State} {m : MethodId} {args : Array Value} {below : List Frame} {meth : Method} {c : Code} {H : Heap} {locs : List Loc} {cells slots : Nat} {Q : State → Prop}
variable {cc : ByteArray} {nL : Nat} {own : String} {pc : Nat} {ls : Array Slot} {rest : List Value} {D : va_G} {k : Nat → ClassId} {z : (Nat → Nat) × (Nat → Nat)} {A : Nat → Prop} {ws ws' : va_W}
/-- a call on an object outside the world; the world stays -/
theorem rr_callO (X : rn_X p m c cc nL s args own D k z A) (hW : rn_W D A s ws H locs) {y : MethodName} {b : ByteArray} {n : Nat} {ty : FieldType} {fr lo : Nat} {b0 : Nat} {As st : List Value} {r : Int32} {idx : Nat}
    (hM : rn_KI l D k z y b n ty fr lo (.ref b0 :: As) [] [] r) (lk : rn_M y b n (some ty) As.length) (hl : Cond.methodLink own idx y ∈ rn_G) (hO : va_O y.cls b0 A s s.heap)
    (hR : fr + 1 ≤ R.frames ∧ 8 + (n + 11) + lo ≤ R.locals) (hcs : cells + 0 ≤ R.cells ∧ slots + 0 ≤ R.slots) (hls : ls.size = nL) (hst : st = As.reverse ++ .ref b0 :: rest) (hrm : (rest.map fun v => v.category).sum ≤ 8) (hdg : decode cc pc = .ok (.invokevirtual idx, 3))
    (kk : narrow ty (.int r) = .int r → ∀ (H1 : Heap) (locs1 : List Loc), rn_W D A s ws H1 locs1 → W p l e R s m args below meth c H1 locs1 cells slots Q (F0 m (pc + 3) ls (.int r :: rest))) : W p l e R s m args below meth c H locs cells slots Q (F0 m pc ls st) := by
  subst hst
  have hC : ([] : List Nat).map (fun i => ws[i]?) = ([] : va_W).map some := rfl
  have hF := va_free (wc := []) hW.2.1 hW.2.2 X.2.2.1 [] hC
  obtain ⟨⟨l1, l2⟩, l3, l4, l5⟩ := lk
  have hrecv : ∃ cell : Cell, H[b0]? = some cell ∧ cell.vm.isStatics = false ∧ s.vm.findClass y.cls = some cell.cls := va_Orecv hO hW.2.2
  have hts := X.1.2.2.2.2
  have cb : CallW R s args own y.cls idx y b n (some ty) (.code y b n (some ty) :: rn_G) { frames := fr, cells := 0, slots := 0, locals := lo } 0 0 As.length := ⟨callB_of As.length hts (rn_Ggd l4) rfl rfl rfl (hts _ l3) (hts _ hl) l5 hR, hts _ l1, hts _ l2⟩
  refine va_calli (va_runV (As := As) (rest := rest) X.1 (hM H.size) cb ⟨rn_blind, hrecv, fun U hU hw => rn_pre hF X hW hC rfl hU hw⟩ rfl rfl hls rfl (lv_room hrm) hdg hcs) hW.2.2 (fun q _ h => hF q h) hF (fun r' u t H1 locs1 ht hvm hp hb hz hk hS1 => ?_)
  obtain ⟨rfl, hnar⟩ := hp
  rw [ht] at hb
  exact kk hnar H1 locs1 (rn_back (isC := []) (isR := List.range ws.length) (wc' := []) hW hC ⟨rfl, rfl, rfl, by simp, by simp⟩ hb hk hS1)
theorem rr_ldS (X : rn_X p m c cc nL s args own D k z A) {j idx : Nat} {tx : String} {w : List Int32} (hq : rn_str[j]? = some (own, idx, tx, w)) (hdg : decode cc pc = .ok (.ldc idx, 2))
    (kk : W p l e R s m args below meth c H locs cells slots Q (F0 m (pc + 2) ls (.ref (z.1 j) :: rest))) : W p l e R s m args below meth c H locs cells slots Q (F0 m pc ls rest) :=
  va_ldcS X.1.1 X.1.2.1 X.1.2.2.2.1 ((X.2.2.2).1 j _ hq).1 hdg kk
theorem va_ldcSW (hexec : p.tables.exec = Jvm.exec) (hb : c.code = cc) {own tx : String} {index q : Nat} (hown : s.vm.findClass own = some m.cls) (hZ : vk_R own index tx q s) (hdg : decode cc pc = .ok (.ldc_w index, 3))
    (k : W p l e R s m args below meth c H locs cells slots Q (F0 m (pc + 3) ls (.ref q :: rest))) : W p l e R s m args below meth c H locs cells slots Q (F0 m pc ls rest) := by
  intro T hT X
  obtain ⟨t, a1, b1⟩ := k T hT X
  exact ⟨t, X.ldcStringW hexec hown (text := tx) (a := q) hZ.1 hZ.2 (g := F0 m pc ls rest) rfl (by rw [hb]; exact hdg) t a1, b1⟩
theorem rr_ldSW (X : rn_X p m c cc nL s args own D k z A) {j idx : Nat} {tx : String} {w : List Int32} (hq : rn_str[j]? = some (own, idx, tx, w)) (hdg : decode cc pc = .ok (.ldc_w idx, 3))
    (kk : W p l e R s m args below meth c H locs cells slots Q (F0 m (pc + 3) ls (.ref (z.1 j) :: rest))) : W p l e R s m args below meth c H locs cells slots Q (F0 m pc ls rest) :=
  va_ldcSW X.1.1 X.1.2.1 X.1.2.2.2.1 ((X.2.2.2).1 j _ hq).1 hdg kk
end SR

theorem gq_J0_9 : Cond.fieldLink RJ0 9 "java/lang/String" "value" "[B" ∈ rn_G := rn_Gix 1685 (by decide +kernel) rfl
theorem gq_J0_15 : Cond.fieldLink RJ0 15 "java/lang/String" "coder" "B" ∈ rn_G := rn_Gix 1686 (by decide +kernel) rfl
theorem gq_J0_38 : Cond.fieldLink RJ0 38 "java/lang/String" "COMPACT_STRINGS" "Z" ∈ rn_G := rn_Gix 359 (by decide +kernel) rfl
theorem gq_J0_1053 : Cond.fieldLink RJ0 1053 "jdk/internal/util/Preconditions" "SIOOBE_FORMATTER" "Ljava/util/function/BiFunction;" ∈ rn_G := rn_Gix 375 (by decide +kernel) rfl
theorem rn_in_nlt {i : Int32} {n : Nat} (h : vp_in i n) : ¬ i < 0 := fun q => h (Or.inl q)
theorem kJ3_ck (l : Launch) (D : va_G) (k : Nat → ClassId) (z : (Nat → Nat) × (Nat → Nat)) (i n : Int32) (v : Value) (hv : v = .null ∨ ∃ t, v = .ref t) (h1 : ¬ i < 0) (h2 : i < n) : rn_KI l D k z yJ3_checkIndex_8e157 cJ3_checkIndex_8e157 3 .int 0 0 [.int i, .int n, v] [] [] i := by
  have hl3 : (lg_sl [.int i, .int n, v]).length ≤ 3 := by
    rcases hv with rfl | ⟨t, rfl⟩
    · exact Nat.le_of_ble_eq_true rfl
    · exact Nat.le_of_ble_eq_true rfl
  refine rn_KI.go (LOC := [(0, .int i), (1, .int n), (2, v)]) rfl (by decide) hl3 rfl ?_
  intro p e s m args below meth c A ls R Q X hR hE hW hl
  have hx := X.1.1
  have hb := X.1.2.1
  refine lv_iload_n hx hb dJ3_checkIndex_8e157_0 rfl (lv_at hl 0 rfl) ?_
  refine lv_if_lt (tgt := 9) hx hb dJ3_checkIndex_8e157_1 (by decide) (fun h => absurd h h1) (fun _ => ?_)
  refine lv_iload_n hx hb dJ3_checkIndex_8e157_4 rfl (lv_at hl 0 rfl) ?_
  refine lv_iload_n hx hb dJ3_checkIndex_8e157_5 rfl (lv_at hl 1 rfl) ?_
  refine lv_icmp_lt (tgt := 16) hx hb dJ3_checkIndex_8e157_6 (by decide) (fun _ => ?_) (fun h => absurd h2 h)
  refine lv_iload_n hx hb dJ3_checkIndex_8e157_16 rfl (lv_at hl 0 rfl) ?_
  exact hE _ _ _ _ hW rfl dJ3_checkIndex_8e157_17
theorem kJ0_ck (l : Launch) (D : va_G) (k : Nat → ClassId) (z : (Nat → Nat) × (Nat → Nat)) (i n : Int32) (h1 : ¬ i < 0) (h2 : i < n) : rn_KV l D k z yJ0_checkIndex_df160 cJ0_checkIndex_df160 2 1 22 [.int i, .int n] [] [] := by
  refine rn_KV.go (LOC := [(0, .int i), (1, .int n)]) rfl (by decide) (Nat.le_of_ble_eq_true rfl) rfl ?_
  intro p e s m args below meth c A ls R Q X hR hE hW hl
  have hx := X.1.1
  have hb := X.1.2.1
  refine lv_iload_n hx hb dJ0_checkIndex_df160_0 rfl (lv_at hl 0 rfl) ?_
  refine lv_iload_n hx hb dJ0_checkIndex_df160_1 rfl (lv_at hl 1 rfl) ?_
  have hZ := (X.2.2.2).2.2.1
  rcases hZ with hZ | ⟨t, hZ⟩
  · refine va_gets hx hb hZ hW.2.2 X.1.2.2.2.1 (X.1.2.2.2.2 _ gq_J0_1053) (fun _ h => h) dJ0_checkIndex_df160_2 ?_
    refine rr_scalI (As := [.int i, .int n, .null]) (rest := []) X hW (kJ3_ck l D k z i n .null (Or.inl rfl) h1 h2) gm_J3_checkIndex_8e157 gl_J0_1059 [] [] [] rfl rfl ⟨rfl, rfl, rfl, rfl, rfl⟩ (rn_r hR rfl) rn_cs hl.1 rfl (Nat.le_of_ble_eq_true rfl) dJ0_checkIndex_df160_5 (fun _ H locs hW => ?_)
    refine lv_pop hx hb dJ0_checkIndex_df160_8 rfl ?_
    exact hE _ _ _ _ hW dJ0_checkIndex_df160_9
  · refine va_gets hx hb hZ hW.2.2 X.1.2.2.2.1 (X.1.2.2.2.2 _ gq_J0_1053) (fun _ h => h) dJ0_checkIndex_df160_2 ?_
    refine rr_scalI (As := [.int i, .int n, .ref t]) (rest := []) X hW (kJ3_ck l D k z i n (.ref t) (Or.inr ⟨t, rfl⟩) h1 h2) gm_J3_checkIndex_8e157 gl_J0_1059 [] [] [] rfl rfl ⟨rfl, rfl, rfl, rfl, rfl⟩ (rn_r hR rfl) rn_cs hl.1 rfl (Nat.le_of_ble_eq_true rfl) dJ0_checkIndex_df160_5 (fun _ H locs hW => ?_)
    refine lv_pop hx hb dJ0_checkIndex_df160_8 rfl ?_
    exact hE _ _ _ _ hW dJ0_checkIndex_df160_9
theorem kJ1_at (l : Launch) (D : va_G) (k : Nat → ClassId) (z : (Nat → Nat) × (Nat → Nat)) (j : Nat) (w : List Int32) (hs : rn_sw j w) (i : Int32) (hi : vp_in i w.length) : rn_KI l D k z yJ1_charAt_3b067 cJ1_charAt_3b067 2 .char 2 43 [.ref (z.2 j), .int i] [] [] (w.getD i.toNatClampNeg 0) := by
  refine rn_KI.go (LOC := [(0, .ref (z.2 j)), (1, .int i)]) rfl (by decide) (Nat.le_of_ble_eq_true rfl) rfl ?_
  intro p e s m args below meth c A ls R Q X hR hE hW hl
  have hx := X.1.1
  have hb := X.1.2.1
  have hlt : i.toNatClampNeg < w.length := Nat.not_le.mp fun q => hi (Or.inr q)
  obtain ⟨hc1, hc2⟩ := rn_str_at hs hlt
  have hT : va_T .byte (z.2 j) w.length (fun i => .int (w.getD i 0)) A s s.heap := by
    obtain ⟨q, hq, rfl⟩ := hs
    exact ((X.2.2.2).1 j q hq).2.2.2.2
  have hln : w.length < 2 ^ 31 := by
    obtain ⟨q, hq, rfl⟩ := hs
    have : ∀ q ∈ rn_str, q.2.2.2.length < 2 ^ 31 := by decide +kernel
    exact this q (List.mem_of_getElem? hq)
  have h0 : ¬ i < 0 := rn_in_nlt hi
  have hin : i < Int32.ofNat w.length := by
    have h1 : (0 : Int) ≤ i.toInt := by
      have := Int32.not_lt.mp h0
      simpa using Int32.le_iff_toInt_le.mp this
    have h2 : i.toInt = (i.toNatClampNeg : Int) := by
      show i.toInt = ((i.toInt.toNat : Nat) : Int)
      omega
    rw [Int32.lt_iff_toInt_lt, h2, Int32.toInt_ofNat_of_lt hln]
    omega
  refine lv_iload_n hx hb dJ1_charAt_3b067_0 rfl (lv_at hl 1 rfl) ?_
  refine lv_aload_n hx hb dJ1_charAt_3b067_1 rfl (lv_at hl 0 rfl) ?_
  refine va_tlen hx hb hT hW.2.2 rfl dJ1_charAt_3b067_2 ?_
  refine rr_scalV (As := [.int i, .int (Int32.ofNat w.length)]) (rest := []) X hW (kJ0_ck l D k z i _ h0 hin) gm_J0_checkIndex_df160 gl_J1_9 [] [] [] rfl rfl ⟨rfl, rfl, rfl, rfl, rfl⟩ (rn_r hR rfl) rn_cs hl.1 rfl (Nat.le_of_ble_eq_true rfl) dJ1_charAt_3b067_3 (fun H locs hW => ?_)
  refine lv_aload_n hx hb dJ1_charAt_3b067_6 rfl (lv_at hl 0 rfl) ?_
  refine lv_iload_n hx hb dJ1_charAt_3b067_7 rfl (lv_at hl 1 rfl) ?_
  refine va_tb hx hb hT hW.2.2 hi rfl dJ1_charAt_3b067_8 ?_
  refine lv_sipush (v := 255) hx hb dJ1_charAt_3b067_9 (by decide) ?_
  refine lv_iand hx hb dJ1_charAt_3b067_12 ?_
  refine lv_i2c (v := w.getD i.toNatClampNeg 0) hx hb dJ1_charAt_3b067_13 hc1 ?_
  exact hE _ _ _ _ hW hc2 dJ1_charAt_3b067_14
theorem kJ0_lat (l : Launch) (D : va_G) (k : Nat → ClassId) (z : (Nat → Nat) × (Nat → Nat)) (j : Nat) (w : List Int32) (hs : rn_sw j w) : rn_KI l D k z yJ0_isLatin1_aae02 cJ0_isLatin1_aae02 1 .boolean 0 0 [.ref (z.1 j)] [] [] 1 := by
  refine rn_KI.go (LOC := [(0, .ref (z.1 j))]) rfl (by decide) (Nat.le_of_ble_eq_true rfl) rfl ?_
  intro p e s m args below meth c A ls R Q X hR hE hW hl
  have hx := X.1.1
  have hb := X.1.2.1
  obtain ⟨q, hq, -⟩ := hs
  have hO := (X.2.2.2).1 j q hq
  refine va_gets hx hb (X.2.2.2).2.1 hW.2.2 X.1.2.2.2.1 (X.1.2.2.2.2 _ gq_J0_38) (fun _ h => h) dJ0_isLatin1_aae02_0 ?_
  refine lv_if_eq (tgt := 17) hx hb dJ0_isLatin1_aae02_3 (by decide) (fun h => absurd h (by decide)) (fun _ => ?_)
  refine lv_aload_n hx hb dJ0_isLatin1_aae02_6 rfl (lv_at hl 0 rfl) ?_
  refine vk_getf hx hb hO.2.2.1 hW.2.2 X.1.2.2.2.1 (X.1.2.2.2.2 _ gq_J0_15) (fun _ h => h) dJ0_isLatin1_aae02_7 ?_
  refine lv_if_ne (tgt := 17) hx hb dJ0_isLatin1_aae02_10 (by decide) (fun h => absurd rfl h) (fun _ => ?_)
  refine lv_iconst (v := 1) hx hb dJ0_isLatin1_aae02_13 (by decide) ?_
  refine lv_goto (tgt := 18) hx hb dJ0_isLatin1_aae02_14 (by decide) ?_
  exact hE _ _ _ _ hW rfl dJ0_isLatin1_aae02_18
theorem kJ0_cod (l : Launch) (D : va_G) (k : Nat → ClassId) (z : (Nat → Nat) × (Nat → Nat)) (j : Nat) (w : List Int32) (hs : rn_sw j w) : rn_KI l D k z yJ0_coder_7d493 cJ0_coder_7d493 1 .byte 0 0 [.ref (z.1 j)] [] [] 0 := by
  refine rn_KI.go (LOC := [(0, .ref (z.1 j))]) rfl (by decide) (Nat.le_of_ble_eq_true rfl) rfl ?_
  intro p e s m args below meth c A ls R Q X hR hE hW hl
  have hx := X.1.1
  have hb := X.1.2.1
  obtain ⟨q, hq, -⟩ := hs
  have hO := (X.2.2.2).1 j q hq
  refine va_gets hx hb (X.2.2.2).2.1 hW.2.2 X.1.2.2.2.1 (X.1.2.2.2.2 _ gq_J0_38) (fun _ h => h) dJ0_coder_7d493_0 ?_
  refine lv_if_eq (tgt := 13) hx hb dJ0_coder_7d493_3 (by decide) (fun h => absurd h (by decide)) (fun _ => ?_)
  refine lv_aload_n hx hb dJ0_coder_7d493_6 rfl (lv_at hl 0 rfl) ?_
  refine vk_getf hx hb hO.2.2.1 hW.2.2 X.1.2.2.2.1 (X.1.2.2.2.2 _ gq_J0_15) (fun _ h => h) dJ0_coder_7d493_7 ?_
  refine lv_goto (tgt := 14) hx hb dJ0_coder_7d493_10 (by decide) ?_
  exact hE _ _ _ _ hW rfl dJ0_coder_7d493_14
theorem kJ0_len (l : Launch) (D : va_G) (k : Nat → ClassId) (z : (Nat → Nat) × (Nat → Nat)) (j : Nat) (w : List Int32) (hs : rn_sw j w) : rn_KI l D k z yJ0_length_8abf5 cJ0_length_8abf5 1 .int 1 20 [.ref (z.1 j)] [] [] (Int32.ofNat w.length) := by
  refine rn_KI.go (LOC := [(0, .ref (z.1 j))]) rfl (by decide) (Nat.le_of_ble_eq_true rfl) rfl ?_
  intro p e s m args below meth c A ls R Q X hR hE hW hl
  have hx := X.1.1
  have hb := X.1.2.1
  have hO : va_O "java/lang/String" (z.1 j) A s s.heap ∧ va_OF "java/lang/String" "value" "[B" (.ref (z.2 j)) (z.1 j) A s s.heap ∧ va_T .byte (z.2 j) w.length (fun i => .int (w.getD i 0)) A s s.heap := by
    obtain ⟨q, hq, rfl⟩ := hs
    have h := (X.2.2.2).1 j q hq
    exact ⟨h.2.1, h.2.2.2.1, h.2.2.2.2⟩
  refine lv_aload_n hx hb dJ0_length_8abf5_0 rfl (lv_at hl 0 rfl) ?_
  refine vk_getf hx hb hO.2.1 hW.2.2 X.1.2.2.2.1 (X.1.2.2.2.2 _ gq_J0_9) (fun _ h => h) dJ0_length_8abf5_1 ?_
  refine va_tlen hx hb hO.2.2 hW.2.2 rfl dJ0_length_8abf5_4 ?_
  refine lv_aload_n hx hb dJ0_length_8abf5_5 rfl (lv_at hl 0 rfl) ?_
  refine rr_callO (As := []) (rest := [.int (Int32.ofNat w.length)]) X hW (kJ0_cod l D k z j w hs) gm_J0_coder_7d493 gl_J0_335 hO.1 (rn_r hR rfl) rn_cs hl.1 rfl (Nat.le_of_ble_eq_true rfl) dJ0_length_8abf5_6 (fun _ H locs hW => ?_)
  refine lv_ishr hx hb dJ0_length_8abf5_9 ?_
  rw [rn_str_len hs]
  exact hE _ _ _ _ hW rfl dJ0_length_8abf5_10
theorem kJ0_at (l : Launch) (D : va_G) (k : Nat → ClassId) (z : (Nat → Nat) × (Nat → Nat)) (j : Nat) (w : List Int32) (hs : rn_sw j w) (i : Int32) (hi : vp_in i w.length) : rn_KI l D k z yJ0_charAt_5068e cJ0_charAt_5068e 2 .char 3 64 [.ref (z.1 j), .int i] [] [] (w.getD i.toNatClampNeg 0) := by
  refine rn_KI.go (LOC := [(0, .ref (z.1 j)), (1, .int i)]) rfl (by decide) (Nat.le_of_ble_eq_true rfl) rfl ?_
  intro p e s m args below meth c A ls R Q X hR hE hW hl
  have hx := X.1.1
  have hb := X.1.2.1
  have hO : va_O "java/lang/String" (z.1 j) A s s.heap ∧ va_OF "java/lang/String" "value" "[B" (.ref (z.2 j)) (z.1 j) A s s.heap := by
    obtain ⟨q, hq, rfl⟩ := hs
    have h := (X.2.2.2).1 j q hq
    exact ⟨h.2.1, h.2.2.2.1⟩
  refine lv_aload_n hx hb dJ0_charAt_5068e_0 rfl (lv_at hl 0 rfl) ?_
  refine rr_callO (As := []) (rest := []) X hW (kJ0_lat l D k z j w hs) gm_J0_isLatin1_aae02 gl_J0_492 hO.1 (rn_r hR rfl) rn_cs hl.1 rfl (Nat.le_of_ble_eq_true rfl) dJ0_charAt_5068e_1 (fun _ H locs hW => ?_)
  refine lv_if_eq (tgt := 16) hx hb dJ0_charAt_5068e_4 (by decide) (fun h => absurd h (by decide)) (fun _ => ?_)
  refine lv_aload_n hx hb dJ0_charAt_5068e_7 rfl (lv_at hl 0 rfl) ?_
  refine vk_getf hx hb hO.2 hW.2.2 X.1.2.2.2.1 (X.1.2.2.2.2 _ gq_J0_9) (fun _ h => h) dJ0_charAt_5068e_8 ?_
  refine lv_iload_n hx hb dJ0_charAt_5068e_11 rfl (lv_at hl 1 rfl) ?_
  refine rr_scalI (As := [.ref (z.2 j), .int i]) (rest := []) X hW (kJ1_at l D k z j w hs i hi) gm_J1_charAt_3b067 gl_J0_495 [] [] [] rfl rfl ⟨rfl, rfl, rfl, rfl, rfl⟩ (rn_r hR rfl) rn_cs hl.1 rfl (Nat.le_of_ble_eq_true rfl) dJ0_charAt_5068e_12 (fun hn H locs hW => ?_)
  exact hE _ _ _ _ hW hn dJ0_charAt_5068e_15
section SQ
variable {p : Program} {l : Launch} {e : Env} {R : Room} {s : State} {m : MethodId} {args : Array Value} {below : List Frame} {meth : Method} {c : Code} {H : Heap} {locs : List Loc} {Q : State → Prop}
variable {cc : ByteArray} {nL : Nat} {own : String} {pc : Nat} {ls : Array Slot} {rest : List Value} {D : va_G} {k : Nat → ClassId} {z : (Nat → Nat) × (Nat → Nat)} {A : Nat → Prop} {ws ws' : va_W}
theorem rr_slen (X : rn_X p m c cc nL s args own D k z A) (hW : rn_W D A s ws H locs) {j : Nat} {w : List Int32} (hs : rn_sw j w) {idx : Nat} (hl : Cond.methodLink own idx yJ0_length_8abf5 ∈ rn_G) (hR : 1 + 1 ≤ R.frames ∧ 8 + (1 + 11) + 20 ≤ R.locals) (hls : ls.size = nL) (hrm : (rest.map fun v => v.category).sum ≤ 8) (hdg : decode cc pc = .ok (.invokevirtual idx, 3))
    (kk : ∀ (H1 : Heap) (locs1 : List Loc), rn_W D A s ws H1 locs1 → W p l e R s m args below meth c H1 locs1 0 0 Q (F0 m (pc + 3) ls (.int (Int32.ofNat w.length) :: rest))) : W p l e R s m args below meth c H locs 0 0 Q (F0 m pc ls (.ref (z.1 j) :: rest)) := by
  obtain ⟨q, hq, hw⟩ := id hs
  exact rr_callO (As := []) (rest := rest) X hW (kJ0_len l D k z j w hs) gm_J0_length_8abf5 hl ((X.2.2.2).1 j q hq).2.1 hR rn_cs hls rfl hrm hdg (fun _ => kk)
theorem rr_sat (X : rn_X p m c cc nL s args own D k z A) (hW : rn_W D A s ws H locs) {j : Nat} {w : List Int32} (hs : rn_sw j w) {i : Int32} (hi : vp_in i w.length) {idx : Nat} (hl : Cond.methodLink own idx yJ0_charAt_5068e ∈ rn_G) (hR : 3 + 1 ≤ R.frames ∧ 8 + (2 + 11) + 64 ≤ R.locals) (hls : ls.size = nL) (hrm : (rest.map fun v => v.category).sum ≤ 8) (hdg : decode cc pc = .ok (.invokevirtual idx, 3))
    (kk : ∀ (H1 : Heap) (locs1 : List Loc), rn_W D A s ws H1 locs1 → W p l e R s m args below meth c H1 locs1 0 0 Q (F0 m (pc + 3) ls (.int (w.getD i.toNatClampNeg 0) :: rest))) : W p l e R s m args below meth c H locs 0 0 Q (F0 m pc ls (.int i :: .ref (z.1 j) :: rest)) := by
  obtain ⟨q, hq, hw⟩ := id hs
  exact rr_callO (As := [.int i]) (rest := rest) X hW (kJ0_at l D k z j w hs i hi) gm_J0_charAt_5068e hl ((X.2.2.2).1 j q hq).2.1 hR rn_cs hls rfl hrm hdg (fun _ => kk)
end SQ
