/-! generated (wip/whole/gen/emit.py): functions and contracts: 18.fstr -/
def lX7_isWord_26 (w_p1 : List Int32) : Nat → Int64 → Int32 → Option (Int64)
  | 0, _, _ => none
  | n+1, x2_26, x4_26 =>
    if (Int32.ofNat w_p1.length) ≤ x4_26 then
      some x2_26
    else
    rn_g x4_26 w_p1.length <|
    rn_let ((((27 : Int64) * x2_26) + ((w_p1.getD x4_26.toNatClampNeg 0).toInt64)) - (96 : Int64)) fun v6 =>
    lX7_isWord_26 w_p1 n v6 (x4_26 + (1 : Int32))
def fX7_isWord (N : Nat) (c_token : Int32) (c_letters : Int32) (c_word : Int64) (w_p1 : List Int32) : Option (Int32) :=
  if c_token = (2 : Int32) then
    if c_letters = (Int32.ofNat w_p1.length) then
      (lX7_isWord_26 w_p1 N (0 : Int64) (0 : Int32)).bind fun t3 =>
      if (lg_cmp c_word t3) = 0 then
        some (1 : Int32)
      else
      some (0 : Int32)
    else
    some (0 : Int32)
  else
  some (0 : Int32)
set_option maxHeartbeats 4000000 in
set_option maxRecDepth 20000 in
theorem kX7_isWord (l : Launch) (D : va_G) (k : Nat → ClassId) (z : (Nat → Nat) × (Nat → Nat)) (N : Nat) (a_this : Nat) (a_this_state : Nat) (a_this_backup : Nat) (a_this_aside : Nat) (a_this_saved : Nat) (a_this_isSaved : Nat) (a_this_text : Nat) (a_this_arrival : Nat) (a_this_links : Nat) (a_this_isAvoided : Nat) (a_this_output : Nat) (a_this_toSend : Nat) (a_this_sendTo : Nat) (c_thrown : Int32) (c_textLength : Int32) (c_position : Int32) (c_tokenStart : Int32) (c_token : Int32) (c_letters : Int32) (c_number : Int32) (c_errorCode : Int32) (c_errorPosition : Int32) (c_word : Int64) (c_outputLength : Int32) (c_sendCount : Int32) (s_p1 : Nat) (w_p1 : List Int32) (hs_p1 : rn_sw s_p1 w_p1) {u : Int32} (hf : fX7_isWord N c_token c_letters c_word w_p1 = some u) : rn_KI l D k z yX7_isWord cX7_isWord 5 .boolean 4 85 [.ref a_this, .ref (z.1 s_p1)] [(a_this, .inr (7, [.ref a_this_state, .ref a_this_backup, .ref a_this_aside, .ref a_this_saved, .ref a_this_isSaved, .int c_thrown, .ref a_this_text, .int c_textLength, .int c_position, .int c_tokenStart, .int c_token, .int c_letters, .int c_number, .int c_errorCode, .int c_errorPosition, .long c_word, .ref a_this_arrival, .ref a_this_links, .ref a_this_isAvoided, .ref a_this_output, .int c_outputLength, .ref a_this_toSend, .ref a_this_sendTo, .int c_sendCount]))] [(a_this, .inr (7, [.ref a_this_state, .ref a_this_backup, .ref a_this_aside, .ref a_this_saved, .ref a_this_isSaved, .int c_thrown, .ref a_this_text, .int c_textLength, .int c_position, .int c_tokenStart, .int c_token, .int c_letters, .int c_number, .int c_errorCode, .int c_errorPosition, .long c_word, .ref a_this_arrival, .ref a_this_links, .ref a_this_isAvoided, .ref a_this_output, .int c_outputLength, .ref a_this_toSend, .ref a_this_sendTo, .int c_sendCount]))] u := by
  refine rn_KI.go (LOC := [(0, .ref a_this), (1, .ref (z.1 s_p1))]) rfl (by decide) (Nat.le_of_ble_eq_true rfl) rfl ?_
  intro p e s m args below meth c A ls R Q X hR hE hW hl
  have hx := X.1.1
  have hb := X.1.2.1
  unfold fX7_isWord at hf
  refine lv_aload_n hx hb dX7_isWord_0 rfl (lv_at hl 0 rfl) ?_
  refine rr_get X hW 0 10 gf_X7_91 rfl rfl dX7_isWord_1 ?_
  refine lv_iconst (v := 2) hx hb dX7_isWord_4 (by decide) ?_
  refine lv_icmp_ne (tgt := 19) hx hb dX7_isWord_5 (by decide) (fun hc1 => ?_) (fun hc1 => ?_)
  · replace hf := rn_f hf hc1
    refine lv_iconst (v := 0) hx hb dX7_isWord_19 (by decide) ?_
    cases hf
    exact hE _ _ _ _ hW (show narrow .boolean (.int (0 : Int32)) = .int (0 : Int32) from rfl) dX7_isWord_20
  · replace hf := rn_t hf hc1
    refine lv_aload_n hx hb dX7_isWord_8 rfl (lv_at hl 0 rfl) ?_
    refine rr_get X hW 0 11 gf_X7_81 rfl rfl dX7_isWord_9 ?_
    refine lv_aload_n hx hb dX7_isWord_12 rfl (lv_at hl 1 rfl) ?_
    refine rr_slen X hW (j := s_p1) hs_p1 gl_X7_106 (rn_r hR rfl) hl.1 (Nat.le_of_ble_eq_true rfl) dX7_isWord_13 (fun H locs hW => ?_)
    refine lv_icmp_eq (tgt := 21) hx hb dX7_isWord_16 (by decide) (fun hc2 => ?_) (fun hc2 => ?_)
    · replace hf := rn_t hf hc2
      refine lv_lconst (v := 0) hx hb dX7_isWord_21 (by decide) ?_
      refine lv_lstore_n (lv' := [(2, .long (0 : Int64)), (0, .ref a_this), (1, .ref (z.1 s_p1))]) hx hb dX7_isWord_22 rfl hl (Nat.le_of_ble_eq_true rfl) rfl (fun ls hl => ?_)
      refine lv_iconst (v := 0) hx hb dX7_isWord_23 (by decide) ?_
      refine lv_istore (lv' := [(4, .int (0 : Int32)), (2, .long (0 : Int64)), (0, .ref a_this), (1, .ref (z.1 s_p1))]) hx hb dX7_isWord_24 hl (Nat.le_of_ble_eq_true rfl) rfl (fun ls hl => ?_)
      obtain ⟨t3, ht3, hf⟩ := rn_bind hf
      have kk_26 : ∀ (H : Heap) (locs : List Loc) (ls : Array Slot), rn_W D A s [(a_this, .inr (7, [.ref a_this_state, .ref a_this_backup, .ref a_this_aside, .ref a_this_saved, .ref a_this_isSaved, .int c_thrown, .ref a_this_text, .int c_textLength, .int c_position, .int c_tokenStart, .int c_token, .int c_letters, .int c_number, .int c_errorCode, .int c_errorPosition, .long c_word, .ref a_this_arrival, .ref a_this_links, .ref a_this_isAvoided, .ref a_this_output, .int c_outputLength, .ref a_this_toSend, .ref a_this_sendTo, .int c_sendCount]))] H locs → lv_has ls 5 [(0, .ref a_this), (2, .long t3)] → W p l e R s m args below meth c H locs 0 0 Q (F0 m 59 ls []) := by
        intro H locs ls hW hl
        refine lv_aload_n hx hb dX7_isWord_59 rfl (lv_at hl 0 rfl) ?_
        refine rr_get X hW 0 15 gf_X7_84 rfl rfl dX7_isWord_60 ?_
        refine lv_lload_n hx hb dX7_isWord_63 rfl (lv_at hl 1 rfl) ?_
        refine W.lcmp hx hb dX7_isWord_64 ?_
        refine lv_if_ne (tgt := 72) hx hb dX7_isWord_65 (by decide) (fun hc7 => ?_) (fun hc7 => ?_)
        · replace hf := rn_f hf hc7
          refine lv_iconst (v := 0) hx hb dX7_isWord_72 (by decide) ?_
          cases hf
          exact hE _ _ _ _ hW (show narrow .boolean (.int (0 : Int32)) = .int (0 : Int32) from rfl) dX7_isWord_73
        · replace hf := rn_t hf hc7
          refine lv_iconst (v := 1) hx hb dX7_isWord_68 (by decide) ?_
          refine lv_goto (tgt := 73) hx hb dX7_isWord_69 (by decide) ?_
          cases hf
          exact hE _ _ _ _ hW (show narrow .boolean (.int (1 : Int32)) = .int (1 : Int32) from rfl) dX7_isWord_73
      clear hf
      have lp_26 : ∀ (n : Nat) (x2_26 : Int64) (x4_26 : Int32) (H : Heap) (locs : List Loc) (ls : Array Slot), lX7_isWord_26 w_p1 n x2_26 x4_26 = some t3 → rn_W D A s [(a_this, .inr (7, [.ref a_this_state, .ref a_this_backup, .ref a_this_aside, .ref a_this_saved, .ref a_this_isSaved, .int c_thrown, .ref a_this_text, .int c_textLength, .int c_position, .int c_tokenStart, .int c_token, .int c_letters, .int c_number, .int c_errorCode, .int c_errorPosition, .long c_word, .ref a_this_arrival, .ref a_this_links, .ref a_this_isAvoided, .ref a_this_output, .int c_outputLength, .ref a_this_toSend, .ref a_this_sendTo, .int c_sendCount]))] H locs → lv_has ls 5 [(0, .ref a_this), (1, .ref (z.1 s_p1)), (2, .long x2_26), (4, .int x4_26)] → W p l e R s m args below meth c H locs 0 0 Q (F0 m 26 ls []) := by
        intro n
        induction n with
        | zero => intro x2_26 x4_26 H locs ls hf; exact absurd hf (by rw [lX7_isWord_26]; exact fun h => nomatch h)
        | succ n ih_26 =>
          intro x2_26 x4_26 H locs ls hf hW hl
          rw [lX7_isWord_26] at hf
          refine lv_iload hx hb dX7_isWord_26 (lv_at hl 3 rfl) ?_
          refine lv_aload_n hx hb dX7_isWord_28 rfl (lv_at hl 1 rfl) ?_
          refine rr_slen X hW (j := s_p1) hs_p1 gl_X7_106 (rn_r hR rfl) hl.1 (Nat.le_of_ble_eq_true rfl) dX7_isWord_29 (fun H locs hW => ?_)
          refine lv_icmp_ge (tgt := 59) hx hb dX7_isWord_32 (by decide) (fun hc4 => ?_) (fun hc4 => ?_)
          · replace hf := rn_t hf hc4
            cases hf
            exact kk_26 _ _ _ hW (lv_sub hl [0, 2] rfl)
          · replace hf := rn_f hf hc4
            refine rr_ldc2 X gk_X7_98 dX7_isWord_35 ?_
            refine lv_lload_n hx hb dX7_isWord_38 rfl (lv_at hl 2 rfl) ?_
            refine lv_lmul hx hb dX7_isWord_39 ?_
            refine lv_aload_n hx hb dX7_isWord_40 rfl (lv_at hl 1 rfl) ?_
            refine lv_iload hx hb dX7_isWord_41 (lv_at hl 3 rfl) ?_
            obtain ⟨hg5, hf⟩ := rn_g_s hf
            refine rr_sat X hW (j := s_p1) hs_p1 hg5 gl_X7_112 (rn_r hR rfl) hl.1 (Nat.le_of_ble_eq_true rfl) dX7_isWord_43 (fun H locs hW => ?_)
            refine lv_i2l (v := ((w_p1.getD x4_26.toNatClampNeg 0).toInt64)) hx hb dX7_isWord_46 rfl ?_
            refine lv_ladd hx hb dX7_isWord_47 ?_
            refine rr_ldc2 X gk_X7_100 dX7_isWord_48 ?_
            refine lv_lsub hx hb dX7_isWord_51 ?_
            obtain ⟨v6, hv6, hf⟩ := rn_let_s hf
            refine rn_topl hv6 ?_
            refine lv_lstore_n (lv' := [(2, .long v6), (0, .ref a_this), (1, .ref (z.1 s_p1)), (4, .int x4_26)]) hx hb dX7_isWord_52 rfl hl (Nat.le_of_ble_eq_true rfl) rfl (fun ls hl => ?_)
            refine lv_iinc (v := (x4_26 + (1 : Int32))) (lv' := [(4, .int (x4_26 + (1 : Int32))), (2, .long v6), (0, .ref a_this), (1, .ref (z.1 s_p1))]) hx hb dX7_isWord_53 hl (k := 3) rfl (congrArg (fun q => _ + q) (by decide)) (Nat.le_of_ble_eq_true rfl) rfl (fun ls hl => ?_)
            refine lv_goto (tgt := 26) hx hb dX7_isWord_56 (by decide) ?_
            exact ih_26 v6 (x4_26 + (1 : Int32)) _ _ _ hf hW (lv_sub hl [2, 3, 1, 0] rfl)
      exact lp_26 N (0 : Int64) (0 : Int32) _ _ _ ht3 hW (lv_sub hl [2, 3, 1, 0] rfl)
    · replace hf := rn_f hf hc2
      refine lv_iconst (v := 0) hx hb dX7_isWord_19 (by decide) ?_
      cases hf
      exact hE _ _ _ _ hW (show narrow .boolean (.int (0 : Int32)) = .int (0 : Int32) from rfl) dX7_isWord_20
def fX7_accept (N : Nat) (c_textLength : Int32) (c_position : Int32) (c_tokenStart : Int32) (c_token : Int32) (c_letters : Int32) (c_number : Int32) (c_errorCode : Int32) (c_word : Int64) (c_text : Nat → Int32) (w_p1 : List Int32) : Option (Int32 × Int32 × Int32 × Int32 × Int32 × Int32 × Int64) :=
  (fX7_isFine c_errorCode).bind fun t1 =>
  Option.bind (
    if t1 = 0 then
      some (0 : Int32)
    else
    (fX7_isWord N c_token c_letters c_word w_p1).bind fun t4 =>
    if t4 = 0 then
      some (0 : Int32)
    else
    some (1 : Int32)
    ) fun t2 =>
  if t2 = 0 then
    some (t2, c_position, c_tokenStart, c_token, c_letters, c_number, c_word)
  else
  (fX7_nextToken N c_textLength c_position c_tokenStart c_token c_letters c_number c_word c_text).bind fun t7 =>
  some (t2, t7.1, t7.2.1, t7.2.2.1, t7.2.2.2.1, t7.2.2.2.2.1, t7.2.2.2.2.2)
set_option maxHeartbeats 4000000 in
set_option maxRecDepth 20000 in
theorem kX7_accept (l : Launch) (D : va_G) (k : Nat → ClassId) (z : (Nat → Nat) × (Nat → Nat)) (N : Nat) (a_this : Nat) (a_this_state : Nat) (a_this_backup : Nat) (a_this_aside : Nat) (a_this_saved : Nat) (a_this_isSaved : Nat) (a_this_text : Nat) (a_this_arrival : Nat) (a_this_links : Nat) (a_this_isAvoided : Nat) (a_this_output : Nat) (a_this_toSend : Nat) (a_this_sendTo : Nat) (c_thrown : Int32) (c_textLength : Int32) (c_position : Int32) (c_tokenStart : Int32) (c_token : Int32) (c_letters : Int32) (c_number : Int32) (c_errorCode : Int32) (c_errorPosition : Int32) (c_word : Int64) (c_outputLength : Int32) (c_sendCount : Int32) (c_text : Nat → Int32) (s_p1 : Nat) (w_p1 : List Int32) (hs_p1 : rn_sw s_p1 w_p1) {u : Int32 × Int32 × Int32 × Int32 × Int32 × Int32 × Int64} (hf : fX7_accept N c_textLength c_position c_tokenStart c_token c_letters c_number c_errorCode c_word c_text w_p1 = some u) : rn_KI l D k z yX7_accept cX7_accept 3 .boolean 5 109 [.ref a_this, .ref (z.1 s_p1)] [(a_this, .inr (7, [.ref a_this_state, .ref a_this_backup, .ref a_this_aside, .ref a_this_saved, .ref a_this_isSaved, .int c_thrown, .ref a_this_text, .int c_textLength, .int c_position, .int c_tokenStart, .int c_token, .int c_letters, .int c_number, .int c_errorCode, .int c_errorPosition, .long c_word, .ref a_this_arrival, .ref a_this_links, .ref a_this_isAvoided, .ref a_this_output, .int c_outputLength, .ref a_this_toSend, .ref a_this_sendTo, .int c_sendCount])), (a_this_text, .inl (k 0, 700, .inl c_text))] [(a_this, .inr (7, [.ref a_this_state, .ref a_this_backup, .ref a_this_aside, .ref a_this_saved, .ref a_this_isSaved, .int c_thrown, .ref a_this_text, .int c_textLength, .int u.2.1, .int u.2.2.1, .int u.2.2.2.1, .int u.2.2.2.2.1, .int u.2.2.2.2.2.1, .int c_errorCode, .int c_errorPosition, .long u.2.2.2.2.2.2, .ref a_this_arrival, .ref a_this_links, .ref a_this_isAvoided, .ref a_this_output, .int c_outputLength, .ref a_this_toSend, .ref a_this_sendTo, .int c_sendCount])), (a_this_text, .inl (k 0, 700, .inl c_text))] u.1 := by
  refine rn_KI.go (LOC := [(0, .ref a_this), (1, .ref (z.1 s_p1))]) rfl (by decide) (Nat.le_of_ble_eq_true rfl) rfl ?_
  intro p e s m args below meth c A ls R Q X hR hE hW hl
  have hx := X.1.1
  have hb := X.1.2.1
  unfold fX7_accept at hf
  obtain ⟨u0, u1, u2, u3, u4, u5, u6⟩ := u
  dsimp only at hE
  refine lv_aload_n hx hb dX7_accept_0 rfl (lv_at hl 0 rfl) ?_
  obtain ⟨t1, ht1, hf⟩ := rn_bind hf
  refine rr_callI (As := []) (rest := []) X hW (kX7_isFine l D k z a_this a_this_state a_this_backup a_this_aside a_this_saved a_this_isSaved a_this_text a_this_arrival a_this_links a_this_isAvoided a_this_output a_this_toSend a_this_sendTo c_thrown c_textLength c_position c_tokenStart c_token c_letters c_number c_errorCode c_errorPosition c_word c_outputLength c_sendCount ht1) gm_X7_isFine gl_X7_119 [0] [1] [(a_this, .inr (7, [.ref a_this_state, .ref a_this_backup, .ref a_this_aside, .ref a_this_saved, .ref a_this_isSaved, .int c_thrown, .ref a_this_text, .int c_textLength, .int c_position, .int c_tokenStart, .int c_token, .int c_letters, .int c_number, .int c_errorCode, .int c_errorPosition, .long c_word, .ref a_this_arrival, .ref a_this_links, .ref a_this_isAvoided, .ref a_this_output, .int c_outputLength, .ref a_this_toSend, .ref a_this_sendTo, .int c_sendCount])), (a_this_text, .inl (k 0, 700, .inl c_text))] rfl rfl rfl rfl ⟨rfl, rfl, rn_Bw (wr := [(a_this_text, .inl (k 0, 700, .inl c_text))]) rfl rfl, rfl, rfl⟩ (rn_r hR rfl) rn_cs hl.1 rfl (Nat.le_of_ble_eq_true rfl) dX7_accept_1 (fun hn1 H locs hW => ?_)
  obtain ⟨t2, ht2, hf⟩ := rn_bind hf
  have jnt2 : ∀ (H : Heap) (locs : List Loc) (ls : Array Slot), rn_W D A s [(a_this, .inr (7, [.ref a_this_state, .ref a_this_backup, .ref a_this_aside, .ref a_this_saved, .ref a_this_isSaved, .int c_thrown, .ref a_this_text, .int c_textLength, .int c_position, .int c_tokenStart, .int c_token, .int c_letters, .int c_number, .int c_errorCode, .int c_errorPosition, .long c_word, .ref a_this_arrival, .ref a_this_links, .ref a_this_isAvoided, .ref a_this_output, .int c_outputLength, .ref a_this_toSend, .ref a_this_sendTo, .int c_sendCount])), (a_this_text, .inl (k 0, 700, .inl c_text))] H locs → lv_has ls 3 [(0, .ref a_this)] → narrow .boolean (.int t2) = .int t2 → W p l e R s m args below meth c H locs 0 0 Q (F0 m 20 ls [.int t2]) := by
    intro H locs ls hW hl hnjt2_0
    refine lv_istore_n (lv' := [(2, .int t2), (0, .ref a_this)]) hx hb dX7_accept_20 rfl hl (Nat.le_of_ble_eq_true rfl) rfl (fun ls hl => ?_)
    refine lv_iload_n hx hb dX7_accept_21 rfl (lv_at hl 0 rfl) ?_
    refine lv_if_eq (tgt := 29) hx hb dX7_accept_22 (by decide) (fun hc6 => ?_) (fun hc6 => ?_)
    · replace hf := rn_t hf hc6
      refine lv_iload_n hx hb dX7_accept_29 rfl (lv_at hl 0 rfl) ?_
      cases hf
      exact hE _ _ _ _ hW hnjt2_0 dX7_accept_30
    · replace hf := rn_f hf hc6
      refine lv_aload_n hx hb dX7_accept_25 rfl (lv_at hl 1 rfl) ?_
      obtain ⟨t7, ht7, hf⟩ := rn_bind hf
      refine rr_callV (As := []) (rest := []) X hW (kX7_nextToken l D k z N a_this a_this_state a_this_backup a_this_aside a_this_saved a_this_isSaved a_this_text a_this_arrival a_this_links a_this_isAvoided a_this_output a_this_toSend a_this_sendTo c_thrown c_textLength c_position c_tokenStart c_token c_letters c_number c_errorCode c_errorPosition c_word c_outputLength c_sendCount c_text ht7) gm_X7_nextToken gl_X7_123 [0, 1] [] [(a_this, .inr (7, [.ref a_this_state, .ref a_this_backup, .ref a_this_aside, .ref a_this_saved, .ref a_this_isSaved, .int c_thrown, .ref a_this_text, .int c_textLength, .int t7.1, .int t7.2.1, .int t7.2.2.1, .int t7.2.2.2.1, .int t7.2.2.2.2.1, .int c_errorCode, .int c_errorPosition, .long t7.2.2.2.2.2, .ref a_this_arrival, .ref a_this_links, .ref a_this_isAvoided, .ref a_this_output, .int c_outputLength, .ref a_this_toSend, .ref a_this_sendTo, .int c_sendCount])), (a_this_text, .inl (k 0, 700, .inl c_text))] rfl rfl rfl rfl ⟨rfl, rfl, rfl, rfl, rfl⟩ (rn_r hR rfl) rn_cs hl.1 rfl (Nat.le_of_ble_eq_true rfl) dX7_accept_26 (fun H locs hW => ?_)
      refine lv_iload_n hx hb dX7_accept_29 rfl (lv_at hl 0 rfl) ?_
      cases hf
      exact hE _ _ _ _ hW hnjt2_0 dX7_accept_30
  replace hf := ht2
  clear ht2
  refine lv_if_eq (tgt := 19) hx hb dX7_accept_4 (by decide) (fun hc3 => ?_) (fun hc3 => ?_)
  · replace hf := rn_t hf hc3
    refine lv_iconst (v := 0) hx hb dX7_accept_19 (by decide) ?_
    cases hf
    exact jnt2 _ _ _ hW (lv_sub hl [0] rfl) (show narrow .boolean (.int (0 : Int32)) = .int (0 : Int32) from rfl)
  · replace hf := rn_f hf hc3
    refine lv_aload_n hx hb dX7_accept_7 rfl (lv_at hl 0 rfl) ?_
    refine lv_aload_n hx hb dX7_accept_8 rfl (lv_at hl 1 rfl) ?_
    obtain ⟨t4, ht4, hf⟩ := rn_bind hf
    refine rr_callI (As := [.ref (z.1 s_p1)]) (rest := []) X hW (kX7_isWord l D k z N a_this a_this_state a_this_backup a_this_aside a_this_saved a_this_isSaved a_this_text a_this_arrival a_this_links a_this_isAvoided a_this_output a_this_toSend a_this_sendTo c_thrown c_textLength c_position c_tokenStart c_token c_letters c_number c_errorCode c_errorPosition c_word c_outputLength c_sendCount s_p1 w_p1 hs_p1 ht4) gm_X7_isWord gl_X7_126 [0] [1] [(a_this, .inr (7, [.ref a_this_state, .ref a_this_backup, .ref a_this_aside, .ref a_this_saved, .ref a_this_isSaved, .int c_thrown, .ref a_this_text, .int c_textLength, .int c_position, .int c_tokenStart, .int c_token, .int c_letters, .int c_number, .int c_errorCode, .int c_errorPosition, .long c_word, .ref a_this_arrival, .ref a_this_links, .ref a_this_isAvoided, .ref a_this_output, .int c_outputLength, .ref a_this_toSend, .ref a_this_sendTo, .int c_sendCount])), (a_this_text, .inl (k 0, 700, .inl c_text))] rfl rfl rfl rfl ⟨rfl, rfl, rn_Bw (wr := [(a_this_text, .inl (k 0, 700, .inl c_text))]) rfl rfl, rfl, rfl⟩ (rn_r hR rfl) rn_cs hl.1 rfl (Nat.le_of_ble_eq_true rfl) dX7_accept_9 (fun hn4 H locs hW => ?_)
    refine lv_if_eq (tgt := 19) hx hb dX7_accept_12 (by decide) (fun hc5 => ?_) (fun hc5 => ?_)
    · replace hf := rn_t hf hc5
      refine lv_iconst (v := 0) hx hb dX7_accept_19 (by decide) ?_
      cases hf
      exact jnt2 _ _ _ hW (lv_sub hl [0] rfl) (show narrow .boolean (.int (0 : Int32)) = .int (0 : Int32) from rfl)
    · replace hf := rn_f hf hc5
      refine lv_iconst (v := 1) hx hb dX7_accept_15 (by decide) ?_
      refine lv_goto (tgt := 20) hx hb dX7_accept_16 (by decide) ?_
      cases hf
      exact jnt2 _ _ _ hW (lv_sub hl [0] rfl) (show narrow .boolean (.int (1 : Int32)) = .int (1 : Int32) from rfl)
def fX7_parseMessage (N : Nat) (c_textLength : Int32) (c_position : Int32) (c_tokenStart : Int32) (c_token : Int32) (c_letters : Int32) (c_number : Int32) (c_errorCode : Int32) (c_errorPosition : Int32) (c_word : Int64) (c_state : Nat → Int32) (c_text : Nat → Int32) : Option (Int32 × Int32 × Int32 × Int32 × Int32 × Int32 × Int32 × Int64 × (Nat → Int32)) :=
  (fX7_isWord N c_token c_letters c_word ([109, 101, 115, 115, 97, 103, 101])).bind fun t1 =>
  (fX7_require c_tokenStart c_errorCode c_errorPosition t1 (1 : Int32)).bind fun t2 =>
  rn_g (2 : Int32) 2888 <|
  Option.bind (
    if (24 : Int32) ≤ (c_state (2 : Int32).toNatClampNeg) then
      some (0 : Int32)
    else
    some (1 : Int32)
    ) fun t4 =>
  (fX7_require c_tokenStart t2.1 t2.2 t4 (3 : Int32)).bind fun t6 =>
  (fX7_advance N c_textLength c_position c_tokenStart c_token c_letters c_number t6.1 c_word c_text).bind fun t7 =>
  rn_g (0 : Int32) 2888 <|
  (fX7_parseNumber N c_textLength t7.1 t7.2.1 t7.2.2.1 t7.2.2.2.1 t7.2.2.2.2.1 t6.1 t6.2 t7.2.2.2.2.2 c_text (0 : Int32) ((c_state (0 : Int32).toNatClampNeg) - (1 : Int32))).bind fun t9 =>
  rn_g (0 : Int32) 2888 <|
  (fX7_look t9.2.2.1 t9.2.2.2.1 t9.2.2.2.2.2.1 t9.2.2.2.2.2.2.1 t9.2.2.2.2.2.2.2.1 (0 : Int32) ((c_state (0 : Int32).toNatClampNeg) - (1 : Int32))).bind fun t11 =>
  Option.bind (
    if t9.1 = t9.2.2.2.2.2.1 then
      some (0 : Int32)
    else
    some (1 : Int32)
    ) fun t12 =>
  (fX7_require t9.2.2.1 t11.1 t11.2 t12 (4 : Int32)).bind fun t14 =>
  (fX7_advance N c_textLength t9.2.1 t9.2.2.1 t9.2.2.2.1 t9.2.2.2.2.1 t9.2.2.2.2.2.1 t14.1 t9.2.2.2.2.2.2.2.2 c_text).bind fun t15 =>
  (fX7_parseNumber N c_textLength t15.1 t15.2.1 t15.2.2.1 t15.2.2.2.1 t15.2.2.2.2.1 t14.1 t14.2 t15.2.2.2.2.2 c_text (0 : Int32) (3 : Int32)).bind fun t16 =>
  (fX7_isFine t16.2.2.2.2.2.2.1).bind fun t17 =>
  if t17 = 0 then
    some (t16.2.1, t16.2.2.1, t16.2.2.2.1, t16.2.2.2.2.1, t16.2.2.2.2.2.1, t16.2.2.2.2.2.2.1, t16.2.2.2.2.2.2.2.1, t16.2.2.2.2.2.2.2.2, c_state)
  else
  (fX7_appendMessage N c_state t9.1 t9.2.2.2.2.2.1 t16.1).bind fun t19 =>
  some (t16.2.1, t16.2.2.1, t16.2.2.2.1, t16.2.2.2.2.1, t16.2.2.2.2.2.1, t16.2.2.2.2.2.2.1, t16.2.2.2.2.2.2.2.1, t16.2.2.2.2.2.2.2.2, t19.2)
set_option maxHeartbeats 4000000 in
set_option maxRecDepth 20000 in
theorem kX7_parseMessage (l : Launch) (D : va_G) (k : Nat → ClassId) (z : (Nat → Nat) × (Nat → Nat)) (N : Nat) (a_this : Nat) (a_this_state : Nat) (a_this_backup : Nat) (a_this_aside : Nat) (a_this_saved : Nat) (a_this_isSaved : Nat) (a_this_text : Nat) (a_this_arrival : Nat) (a_this_links : Nat) (a_this_isAvoided : Nat) (a_this_output : Nat) (a_this_toSend : Nat) (a_this_sendTo : Nat) (c_thrown : Int32) (c_textLength : Int32) (c_position : Int32) (c_tokenStart : Int32) (c_token : Int32) (c_letters : Int32) (c_number : Int32) (c_errorCode : Int32) (c_errorPosition : Int32) (c_word : Int64) (c_outputLength : Int32) (c_sendCount : Int32) (c_state : Nat → Int32) (c_text : Nat → Int32) {u : Int32 × Int32 × Int32 × Int32 × Int32 × Int32 × Int32 × Int64 × (Nat → Int32)} (hf : fX7_parseMessage N c_textLength c_position c_tokenStart c_token c_letters c_number c_errorCode c_errorPosition c_word c_state c_text = some u) : rn_KV l D k z yX7_parseMessage cX7_parseMessage 5 5 109 [.ref a_this] [(a_this, .inr (7, [.ref a_this_state, .ref a_this_backup, .ref a_this_aside, .ref a_this_saved, .ref a_this_isSaved, .int c_thrown, .ref a_this_text, .int c_textLength, .int c_position, .int c_tokenStart, .int c_token, .int c_letters, .int c_number, .int c_errorCode, .int c_errorPosition, .long c_word, .ref a_this_arrival, .ref a_this_links, .ref a_this_isAvoided, .ref a_this_output, .int c_outputLength, .ref a_this_toSend, .ref a_this_sendTo, .int c_sendCount])), (a_this_state, .inl (k 0, 2888, .inl c_state)), (a_this_text, .inl (k 0, 700, .inl c_text))] [(a_this, .inr (7, [.ref a_this_state, .ref a_this_backup, .ref a_this_aside, .ref a_this_saved, .ref a_this_isSaved, .int c_thrown, .ref a_this_text, .int c_textLength, .int u.1, .int u.2.1, .int u.2.2.1, .int u.2.2.2.1, .int u.2.2.2.2.1, .int u.2.2.2.2.2.1, .int u.2.2.2.2.2.2.1, .long u.2.2.2.2.2.2.2.1, .ref a_this_arrival, .ref a_this_links, .ref a_this_isAvoided, .ref a_this_output, .int c_outputLength, .ref a_this_toSend, .ref a_this_sendTo, .int c_sendCount])), (a_this_state, .inl (k 0, 2888, .inl u.2.2.2.2.2.2.2.2)), (a_this_text, .inl (k 0, 700, .inl c_text))] := by
  refine rn_KV.go (LOC := [(0, .ref a_this)]) rfl (by decide) (Nat.le_of_ble_eq_true rfl) rfl ?_
  intro p e s m args below meth c A ls R Q X hR hE hW hl
  have hx := X.1.1
  have hb := X.1.2.1
  unfold fX7_parseMessage at hf
  obtain ⟨u0, u1, u2, u3, u4, u5, u6, u7, u8⟩ := u
  dsimp only at hE
  refine lv_aload_n hx hb dX7_parseMessage_0 rfl (lv_at hl 0 rfl) ?_
  refine lv_aload_n hx hb dX7_parseMessage_1 rfl (lv_at hl 0 rfl) ?_
  refine rr_ldS X (j := 48) rfl dX7_parseMessage_2 ?_
  obtain ⟨t1, ht1, hf⟩ := rn_bind hf
  refine rr_callI (As := [.ref (z.1 48)]) (rest := [.ref a_this]) X hW (kX7_isWord l D k z N a_this a_this_state a_this_backup a_this_aside a_this_saved a_this_isSaved a_this_text a_this_arrival a_this_links a_this_isAvoided a_this_output a_this_toSend a_this_sendTo c_thrown c_textLength c_position c_tokenStart c_token c_letters c_number c_errorCode c_errorPosition c_word c_outputLength c_sendCount 48 [109, 101, 115, 115, 97, 103, 101] ⟨_, rfl, rfl⟩ ht1) gm_X7_isWord gl_X7_126 [0] [1, 2] [(a_this, .inr (7, [.ref a_this_state, .ref a_this_backup, .ref a_this_aside, .ref a_this_saved, .ref a_this_isSaved, .int c_thrown, .ref a_this_text, .int c_textLength, .int c_position, .int c_tokenStart, .int c_token, .int c_letters, .int c_number, .int c_errorCode, .int c_errorPosition, .long c_word, .ref a_this_arrival, .ref a_this_links, .ref a_this_isAvoided, .ref a_this_output, .int c_outputLength, .ref a_this_toSend, .ref a_this_sendTo, .int c_sendCount])), (a_this_state, .inl (k 0, 2888, .inl c_state)), (a_this_text, .inl (k 0, 700, .inl c_text))] rfl rfl rfl rfl ⟨rfl, rfl, rn_Bw (wr := [(a_this_state, .inl (k 0, 2888, .inl c_state)), (a_this_text, .inl (k 0, 700, .inl c_text))]) rfl rfl, rfl, rfl⟩ (rn_r hR rfl) rn_cs hl.1 rfl (Nat.le_of_ble_eq_true rfl) dX7_parseMessage_4 (fun hn1 H locs hW => ?_)
  refine lv_iconst (v := 1) hx hb dX7_parseMessage_7 (by decide) ?_
  obtain ⟨t2, ht2, hf⟩ := rn_bind hf
  refine rr_callV (As := [.int t1, .int (1 : Int32)]) (rest := []) X hW (kX7_require l D k z a_this a_this_state a_this_backup a_this_aside a_this_saved a_this_isSaved a_this_text a_this_arrival a_this_links a_this_isAvoided a_this_output a_this_toSend a_this_sendTo c_thrown c_textLength c_position c_tokenStart c_token c_letters c_number c_errorCode c_errorPosition c_word c_outputLength c_sendCount t1 (1 : Int32) ht2) gm_X7_require gl_X7_130 [0] [1, 2] [(a_this, .inr (7, [.ref a_this_state, .ref a_this_backup, .ref a_this_aside, .ref a_this_saved, .ref a_this_isSaved, .int c_thrown, .ref a_this_text, .int c_textLength, .int c_position, .int c_tokenStart, .int c_token, .int c_letters, .int c_number, .int t2.1, .int t2.2, .long c_word, .ref a_this_arrival, .ref a_this_links, .ref a_this_isAvoided, .ref a_this_output, .int c_outputLength, .ref a_this_toSend, .ref a_this_sendTo, .int c_sendCount])), (a_this_state, .inl (k 0, 2888, .inl c_state)), (a_this_text, .inl (k 0, 700, .inl c_text))] rfl rfl rfl rfl ⟨rfl, rfl, rn_Bw (wr := [(a_this_state, .inl (k 0, 2888, .inl c_state)), (a_this_text, .inl (k 0, 700, .inl c_text))]) rfl rfl, rfl, rfl⟩ (rn_r hR rfl) rn_cs hl.1 rfl (Nat.le_of_ble_eq_true rfl) dX7_parseMessage_8 (fun H locs hW => ?_)
  refine lv_aload_n hx hb dX7_parseMessage_11 rfl (lv_at hl 0 rfl) ?_
  refine lv_aload_n hx hb dX7_parseMessage_12 rfl (lv_at hl 0 rfl) ?_
  refine rr_get X hW 0 0 gf_X7_7 rfl rfl dX7_parseMessage_13 ?_
  refine lv_iconst (v := 2) hx hb dX7_parseMessage_16 (by decide) ?_
  obtain ⟨hg3, hf⟩ := rn_g_s hf
  refine rr_iald X hW 1 rfl hg3 dX7_parseMessage_17 ?_
  refine lv_bipush (v := 24) hx hb dX7_parseMessage_18 (by decide) ?_
  obtain ⟨t4, ht4, hf⟩ := rn_bind hf
  have jnt4 : ∀ (H : Heap) (locs : List Loc) (ls : Array Slot), rn_W D A s [(a_this, .inr (7, [.ref a_this_state, .ref a_this_backup, .ref a_this_aside, .ref a_this_saved, .ref a_this_isSaved, .int c_thrown, .ref a_this_text, .int c_textLength, .int c_position, .int c_tokenStart, .int c_token, .int c_letters, .int c_number, .int t2.1, .int t2.2, .long c_word, .ref a_this_arrival, .ref a_this_links, .ref a_this_isAvoided, .ref a_this_output, .int c_outputLength, .ref a_this_toSend, .ref a_this_sendTo, .int c_sendCount])), (a_this_state, .inl (k 0, 2888, .inl c_state)), (a_this_text, .inl (k 0, 700, .inl c_text))] H locs → lv_has ls 5 [(0, .ref a_this)] → W p l e R s m args below meth c H locs 0 0 Q (F0 m 28 ls [.int t4, .ref a_this]) := by
    intro H locs ls hW hl
    refine lv_iconst (v := 3) hx hb dX7_parseMessage_28 (by decide) ?_
    obtain ⟨t6, ht6, hf⟩ := rn_bind hf
    refine rr_callV (As := [.int t4, .int (3 : Int32)]) (rest := []) X hW (kX7_require l D k z a_this a_this_state a_this_backup a_this_aside a_this_saved a_this_isSaved a_this_text a_this_arrival a_this_links a_this_isAvoided a_this_output a_this_toSend a_this_sendTo c_thrown c_textLength c_position c_tokenStart c_token c_letters c_number t2.1 t2.2 c_word c_outputLength c_sendCount t4 (3 : Int32) ht6) gm_X7_require gl_X7_130 [0] [1, 2] [(a_this, .inr (7, [.ref a_this_state, .ref a_this_backup, .ref a_this_aside, .ref a_this_saved, .ref a_this_isSaved, .int c_thrown, .ref a_this_text, .int c_textLength, .int c_position, .int c_tokenStart, .int c_token, .int c_letters, .int c_number, .int t6.1, .int t6.2, .long c_word, .ref a_this_arrival, .ref a_this_links, .ref a_this_isAvoided, .ref a_this_output, .int c_outputLength, .ref a_this_toSend, .ref a_this_sendTo, .int c_sendCount])), (a_this_state, .inl (k 0, 2888, .inl c_state)), (a_this_text, .inl (k 0, 700, .inl c_text))] rfl rfl rfl rfl ⟨rfl, rfl, rn_Bw (wr := [(a_this_state, .inl (k 0, 2888, .inl c_state)), (a_this_text, .inl (k 0, 700, .inl c_text))]) rfl rfl, rfl, rfl⟩ (rn_r hR rfl) rn_cs hl.1 rfl (Nat.le_of_ble_eq_true rfl) dX7_parseMessage_29 (fun H locs hW => ?_)
    refine lv_aload_n hx hb dX7_parseMessage_32 rfl (lv_at hl 0 rfl) ?_
    obtain ⟨t7, ht7, hf⟩ := rn_bind hf
    refine rr_callV (As := []) (rest := []) X hW (kX7_advance l D k z N a_this a_this_state a_this_backup a_this_aside a_this_saved a_this_isSaved a_this_text a_this_arrival a_this_links a_this_isAvoided a_this_output a_this_toSend a_this_sendTo c_thrown c_textLength c_position c_tokenStart c_token c_letters c_number t6.1 t6.2 c_word c_outputLength c_sendCount c_text ht7) gm_X7_advance gl_X7_138 [0, 2] [1] [(a_this, .inr (7, [.ref a_this_state, .ref a_this_backup, .ref a_this_aside, .ref a_this_saved, .ref a_this_isSaved, .int c_thrown, .ref a_this_text, .int c_textLength, .int t7.1, .int t7.2.1, .int t7.2.2.1, .int t7.2.2.2.1, .int t7.2.2.2.2.1, .int t6.1, .int t6.2, .long t7.2.2.2.2.2, .ref a_this_arrival, .ref a_this_links, .ref a_this_isAvoided, .ref a_this_output, .int c_outputLength, .ref a_this_toSend, .ref a_this_sendTo, .int c_sendCount])), (a_this_state, .inl (k 0, 2888, .inl c_state)), (a_this_text, .inl (k 0, 700, .inl c_text))] rfl rfl rfl rfl ⟨rfl, rfl, rn_Bw (wr := [(a_this_state, .inl (k 0, 2888, .inl c_state))]) rfl rfl, rfl, rfl⟩ (rn_r hR rfl) rn_cs hl.1 rfl (Nat.le_of_ble_eq_true rfl) dX7_parseMessage_33 (fun H locs hW => ?_)
    refine lv_aload_n hx hb dX7_parseMessage_36 rfl (lv_at hl 0 rfl) ?_
    refine lv_iconst (v := 0) hx hb dX7_parseMessage_37 (by decide) ?_
    refine lv_aload_n hx hb dX7_parseMessage_38 rfl (lv_at hl 0 rfl) ?_
    refine rr_get X hW 0 0 gf_X7_7 rfl rfl dX7_parseMessage_39 ?_
    refine lv_iconst (v := 0) hx hb dX7_parseMessage_42 (by decide) ?_
    obtain ⟨hg8, hf⟩ := rn_g_s hf
    refine rr_iald X hW 1 rfl hg8 dX7_parseMessage_43 ?_
    refine lv_iconst (v := 1) hx hb dX7_parseMessage_44 (by decide) ?_
    refine lv_isub hx hb dX7_parseMessage_45 ?_
    obtain ⟨t9, ht9, hf⟩ := rn_bind hf
    refine rr_callI (As := [.int (0 : Int32), .int ((c_state (0 : Int32).toNatClampNeg) - (1 : Int32))]) (rest := []) X hW (kX7_parseNumber l D k z N a_this a_this_state a_this_backup a_this_aside a_this_saved a_this_isSaved a_this_text a_this_arrival a_this_links a_this_isAvoided a_this_output a_this_toSend a_this_sendTo c_thrown c_textLength t7.1 t7.2.1 t7.2.2.1 t7.2.2.2.1 t7.2.2.2.2.1 t6.1 t6.2 t7.2.2.2.2.2 c_outputLength c_sendCount c_text (0 : Int32) ((c_state (0 : Int32).toNatClampNeg) - (1 : Int32)) ht9) gm_X7_parseNumber gl_X7_141 [0, 2] [1] [(a_this, .inr (7, [.ref a_this_state, .ref a_this_backup, .ref a_this_aside, .ref a_this_saved, .ref a_this_isSaved, .int c_thrown, .ref a_this_text, .int c_textLength, .int t9.2.1, .int t9.2.2.1, .int t9.2.2.2.1, .int t9.2.2.2.2.1, .int t9.2.2.2.2.2.1, .int t9.2.2.2.2.2.2.1, .int t9.2.2.2.2.2.2.2.1, .long t9.2.2.2.2.2.2.2.2, .ref a_this_arrival, .ref a_this_links, .ref a_this_isAvoided, .ref a_this_output, .int c_outputLength, .ref a_this_toSend, .ref a_this_sendTo, .int c_sendCount])), (a_this_state, .inl (k 0, 2888, .inl c_state)), (a_this_text, .inl (k 0, 700, .inl c_text))] rfl rfl rfl rfl ⟨rfl, rfl, rn_Bw (wr := [(a_this_state, .inl (k 0, 2888, .inl c_state))]) rfl rfl, rfl, rfl⟩ (rn_r hR rfl) rn_cs hl.1 rfl (Nat.le_of_ble_eq_true rfl) dX7_parseMessage_46 (fun hn9 H locs hW => ?_)
    refine lv_istore_n (lv' := [(1, .int t9.1), (0, .ref a_this)]) hx hb dX7_parseMessage_49 rfl hl (Nat.le_of_ble_eq_true rfl) rfl (fun ls hl => ?_)
    refine lv_aload_n hx hb dX7_parseMessage_50 rfl (lv_at hl 1 rfl) ?_
    refine lv_iconst (v := 0) hx hb dX7_parseMessage_51 (by decide) ?_
    refine lv_aload_n hx hb dX7_parseMessage_52 rfl (lv_at hl 1 rfl) ?_
    refine rr_get X hW 0 0 gf_X7_7 rfl rfl dX7_parseMessage_53 ?_
    refine lv_iconst (v := 0) hx hb dX7_parseMessage_56 (by decide) ?_
    obtain ⟨hg10, hf⟩ := rn_g_s hf
    refine rr_iald X hW 1 rfl hg10 dX7_parseMessage_57 ?_
    refine lv_iconst (v := 1) hx hb dX7_parseMessage_58 (by decide) ?_
    refine lv_isub hx hb dX7_parseMessage_59 ?_
    obtain ⟨t11, ht11, hf⟩ := rn_bind hf
    refine rr_callV (As := [.int (0 : Int32), .int ((c_state (0 : Int32).toNatClampNeg) - (1 : Int32))]) (rest := []) X hW (kX7_look l D k z a_this a_this_state a_this_backup a_this_aside a_this_saved a_this_isSaved a_this_text a_this_arrival a_this_links a_this_isAvoided a_this_output a_this_toSend a_this_sendTo c_thrown c_textLength t9.2.1 t9.2.2.1 t9.2.2.2.1 t9.2.2.2.2.1 t9.2.2.2.2.2.1 t9.2.2.2.2.2.2.1 t9.2.2.2.2.2.2.2.1 t9.2.2.2.2.2.2.2.2 c_outputLength c_sendCount (0 : Int32) ((c_state (0 : Int32).toNatClampNeg) - (1 : Int32)) ht11) gm_X7_look gl_X7_134 [0] [1, 2] [(a_this, .inr (7, [.ref a_this_state, .ref a_this_backup, .ref a_this_aside, .ref a_this_saved, .ref a_this_isSaved, .int c_thrown, .ref a_this_text, .int c_textLength, .int t9.2.1, .int t9.2.2.1, .int t9.2.2.2.1, .int t9.2.2.2.2.1, .int t9.2.2.2.2.2.1, .int t11.1, .int t11.2, .long t9.2.2.2.2.2.2.2.2, .ref a_this_arrival, .ref a_this_links, .ref a_this_isAvoided, .ref a_this_output, .int c_outputLength, .ref a_this_toSend, .ref a_this_sendTo, .int c_sendCount])), (a_this_state, .inl (k 0, 2888, .inl c_state)), (a_this_text, .inl (k 0, 700, .inl c_text))] rfl rfl rfl rfl ⟨rfl, rfl, rn_Bw (wr := [(a_this_state, .inl (k 0, 2888, .inl c_state)), (a_this_text, .inl (k 0, 700, .inl c_text))]) rfl rfl, rfl, rfl⟩ (rn_r hR rfl) rn_cs hl.1 rfl (Nat.le_of_ble_eq_true rfl) dX7_parseMessage_60 (fun H locs hW => ?_)
    refine lv_aload_n hx hb dX7_parseMessage_63 rfl (lv_at hl 1 rfl) ?_
    refine rr_get X hW 0 12 gf_X7_88 rfl rfl dX7_parseMessage_64 ?_
    refine lv_istore_n (lv' := [(2, .int t9.2.2.2.2.2.1), (1, .int t9.1), (0, .ref a_this)]) hx hb dX7_parseMessage_67 rfl hl (Nat.le_of_ble_eq_true rfl) rfl (fun ls hl => ?_)
    refine lv_aload_n hx hb dX7_parseMessage_68 rfl (lv_at hl 2 rfl) ?_
    refine lv_iload_n hx hb dX7_parseMessage_69 rfl (lv_at hl 1 rfl) ?_
    refine lv_iload_n hx hb dX7_parseMessage_70 rfl (lv_at hl 0 rfl) ?_
    obtain ⟨t12, ht12, hf⟩ := rn_bind hf
    have jnt12 : ∀ (H : Heap) (locs : List Loc) (ls : Array Slot), rn_W D A s [(a_this, .inr (7, [.ref a_this_state, .ref a_this_backup, .ref a_this_aside, .ref a_this_saved, .ref a_this_isSaved, .int c_thrown, .ref a_this_text, .int c_textLength, .int t9.2.1, .int t9.2.2.1, .int t9.2.2.2.1, .int t9.2.2.2.2.1, .int t9.2.2.2.2.2.1, .int t11.1, .int t11.2, .long t9.2.2.2.2.2.2.2.2, .ref a_this_arrival, .ref a_this_links, .ref a_this_isAvoided, .ref a_this_output, .int c_outputLength, .ref a_this_toSend, .ref a_this_sendTo, .int c_sendCount])), (a_this_state, .inl (k 0, 2888, .inl c_state)), (a_this_text, .inl (k 0, 700, .inl c_text))] H locs → lv_has ls 5 [(0, .ref a_this), (1, .int t9.1), (2, .int t9.2.2.2.2.2.1)] → W p l e R s m args below meth c H locs 0 0 Q (F0 m 79 ls [.int t12, .ref a_this]) := by
      intro H locs ls hW hl
      refine lv_iconst (v := 4) hx hb dX7_parseMessage_79 (by decide) ?_
      obtain ⟨t14, ht14, hf⟩ := rn_bind hf
      refine rr_callV (As := [.int t12, .int (4 : Int32)]) (rest := []) X hW (kX7_require l D k z a_this a_this_state a_this_backup a_this_aside a_this_saved a_this_isSaved a_this_text a_this_arrival a_this_links a_this_isAvoided a_this_output a_this_toSend a_this_sendTo c_thrown c_textLength t9.2.1 t9.2.2.1 t9.2.2.2.1 t9.2.2.2.2.1 t9.2.2.2.2.2.1 t11.1 t11.2 t9.2.2.2.2.2.2.2.2 c_outputLength c_sendCount t12 (4 : Int32) ht14) gm_X7_require gl_X7_130 [0] [1, 2] [(a_this, .inr (7, [.ref a_this_state, .ref a_this_backup, .ref a_this_aside, .ref a_this_saved, .ref a_this_isSaved, .int c_thrown, .ref a_this_text, .int c_textLength, .int t9.2.1, .int t9.2.2.1, .int t9.2.2.2.1, .int t9.2.2.2.2.1, .int t9.2.2.2.2.2.1, .int t14.1, .int t14.2, .long t9.2.2.2.2.2.2.2.2, .ref a_this_arrival, .ref a_this_links, .ref a_this_isAvoided, .ref a_this_output, .int c_outputLength, .ref a_this_toSend, .ref a_this_sendTo, .int c_sendCount])), (a_this_state, .inl (k 0, 2888, .inl c_state)), (a_this_text, .inl (k 0, 700, .inl c_text))] rfl rfl rfl rfl ⟨rfl, rfl, rn_Bw (wr := [(a_this_state, .inl (k 0, 2888, .inl c_state)), (a_this_text, .inl (k 0, 700, .inl c_text))]) rfl rfl, rfl, rfl⟩ (rn_r hR rfl) rn_cs hl.1 rfl (Nat.le_of_ble_eq_true rfl) dX7_parseMessage_80 (fun H locs hW => ?_)
      refine lv_aload_n hx hb dX7_parseMessage_83 rfl (lv_at hl 0 rfl) ?_
      obtain ⟨t15, ht15, hf⟩ := rn_bind hf
      refine rr_callV (As := []) (rest := []) X hW (kX7_advance l D k z N a_this a_this_state a_this_backup a_this_aside a_this_saved a_this_isSaved a_this_text a_this_arrival a_this_links a_this_isAvoided a_this_output a_this_toSend a_this_sendTo c_thrown c_textLength t9.2.1 t9.2.2.1 t9.2.2.2.1 t9.2.2.2.2.1 t9.2.2.2.2.2.1 t14.1 t14.2 t9.2.2.2.2.2.2.2.2 c_outputLength c_sendCount c_text ht15) gm_X7_advance gl_X7_138 [0, 2] [1] [(a_this, .inr (7, [.ref a_this_state, .ref a_this_backup, .ref a_this_aside, .ref a_this_saved, .ref a_this_isSaved, .int c_thrown, .ref a_this_text, .int c_textLength, .int t15.1, .int t15.2.1, .int t15.2.2.1, .int t15.2.2.2.1, .int t15.2.2.2.2.1, .int t14.1, .int t14.2, .long t15.2.2.2.2.2, .ref a_this_arrival, .ref a_this_links, .ref a_this_isAvoided, .ref a_this_output, .int c_outputLength, .ref a_this_toSend, .ref a_this_sendTo, .int c_sendCount])), (a_this_state, .inl (k 0, 2888, .inl c_state)), (a_this_text, .inl (k 0, 700, .inl c_text))] rfl rfl rfl rfl ⟨rfl, rfl, rn_Bw (wr := [(a_this_state, .inl (k 0, 2888, .inl c_state))]) rfl rfl, rfl, rfl⟩ (rn_r hR rfl) rn_cs hl.1 rfl (Nat.le_of_ble_eq_true rfl) dX7_parseMessage_84 (fun H locs hW => ?_)
      refine lv_aload_n hx hb dX7_parseMessage_87 rfl (lv_at hl 0 rfl) ?_
      refine lv_iconst (v := 0) hx hb dX7_parseMessage_88 (by decide) ?_
      refine lv_iconst (v := 3) hx hb dX7_parseMessage_89 (by decide) ?_
      obtain ⟨t16, ht16, hf⟩ := rn_bind hf
      refine rr_callI (As := [.int (0 : Int32), .int (3 : Int32)]) (rest := []) X hW (kX7_parseNumber l D k z N a_this a_this_state a_this_backup a_this_aside a_this_saved a_this_isSaved a_this_text a_this_arrival a_this_links a_this_isAvoided a_this_output a_this_toSend a_this_sendTo c_thrown c_textLength t15.1 t15.2.1 t15.2.2.1 t15.2.2.2.1 t15.2.2.2.2.1 t14.1 t14.2 t15.2.2.2.2.2 c_outputLength c_sendCount c_text (0 : Int32) (3 : Int32) ht16) gm_X7_parseNumber gl_X7_141 [0, 2] [1] [(a_this, .inr (7, [.ref a_this_state, .ref a_this_backup, .ref a_this_aside, .ref a_this_saved, .ref a_this_isSaved, .int c_thrown, .ref a_this_text, .int c_textLength, .int t16.2.1, .int t16.2.2.1, .int t16.2.2.2.1, .int t16.2.2.2.2.1, .int t16.2.2.2.2.2.1, .int t16.2.2.2.2.2.2.1, .int t16.2.2.2.2.2.2.2.1, .long t16.2.2.2.2.2.2.2.2, .ref a_this_arrival, .ref a_this_links, .ref a_this_isAvoided, .ref a_this_output, .int c_outputLength, .ref a_this_toSend, .ref a_this_sendTo, .int c_sendCount])), (a_this_state, .inl (k 0, 2888, .inl c_state)), (a_this_text, .inl (k 0, 700, .inl c_text))] rfl rfl rfl rfl ⟨rfl, rfl, rn_Bw (wr := [(a_this_state, .inl (k 0, 2888, .inl c_state))]) rfl rfl, rfl, rfl⟩ (rn_r hR rfl) rn_cs hl.1 rfl (Nat.le_of_ble_eq_true rfl) dX7_parseMessage_90 (fun hn16 H locs hW => ?_)
      refine lv_istore_n (lv' := [(3, .int t16.1), (0, .ref a_this), (1, .int t9.1), (2, .int t9.2.2.2.2.2.1)]) hx hb dX7_parseMessage_93 rfl hl (Nat.le_of_ble_eq_true rfl) rfl (fun ls hl => ?_)
      refine lv_aload_n hx hb dX7_parseMessage_94 rfl (lv_at hl 1 rfl) ?_
      obtain ⟨t17, ht17, hf⟩ := rn_bind hf
      refine rr_callI (As := []) (rest := []) X hW (kX7_isFine l D k z a_this a_this_state a_this_backup a_this_aside a_this_saved a_this_isSaved a_this_text a_this_arrival a_this_links a_this_isAvoided a_this_output a_this_toSend a_this_sendTo c_thrown c_textLength t16.2.1 t16.2.2.1 t16.2.2.2.1 t16.2.2.2.2.1 t16.2.2.2.2.2.1 t16.2.2.2.2.2.2.1 t16.2.2.2.2.2.2.2.1 t16.2.2.2.2.2.2.2.2 c_outputLength c_sendCount ht17) gm_X7_isFine gl_X7_119 [0] [1, 2] [(a_this, .inr (7, [.ref a_this_state, .ref a_this_backup, .ref a_this_aside, .ref a_this_saved, .ref a_this_isSaved, .int c_thrown, .ref a_this_text, .int c_textLength, .int t16.2.1, .int t16.2.2.1, .int t16.2.2.2.1, .int t16.2.2.2.2.1, .int t16.2.2.2.2.2.1, .int t16.2.2.2.2.2.2.1, .int t16.2.2.2.2.2.2.2.1, .long t16.2.2.2.2.2.2.2.2, .ref a_this_arrival, .ref a_this_links, .ref a_this_isAvoided, .ref a_this_output, .int c_outputLength, .ref a_this_toSend, .ref a_this_sendTo, .int c_sendCount])), (a_this_state, .inl (k 0, 2888, .inl c_state)), (a_this_text, .inl (k 0, 700, .inl c_text))] rfl rfl rfl rfl ⟨rfl, rfl, rn_Bw (wr := [(a_this_state, .inl (k 0, 2888, .inl c_state)), (a_this_text, .inl (k 0, 700, .inl c_text))]) rfl rfl, rfl, rfl⟩ (rn_r hR rfl) rn_cs hl.1 rfl (Nat.le_of_ble_eq_true rfl) dX7_parseMessage_95 (fun hn17 H locs hW => ?_)
      refine lv_if_eq (tgt := 110) hx hb dX7_parseMessage_98 (by decide) (fun hc18 => ?_) (fun hc18 => ?_)
      · replace hf := rn_t hf hc18
        cases hf
        exact hE _ _ _ _ hW dX7_parseMessage_110
      · replace hf := rn_f hf hc18
        refine lv_aload_n hx hb dX7_parseMessage_101 rfl (lv_at hl 1 rfl) ?_
        refine lv_iload_n hx hb dX7_parseMessage_102 rfl (lv_at hl 2 rfl) ?_
        refine lv_iload_n hx hb dX7_parseMessage_103 rfl (lv_at hl 3 rfl) ?_
        refine lv_iload_n hx hb dX7_parseMessage_104 rfl (lv_at hl 0 rfl) ?_
        obtain ⟨t19, ht19, hf⟩ := rn_bind hf
        refine rr_callI (As := [.int t9.1, .int t9.2.2.2.2.2.1, .int t16.1]) (rest := []) X hW (kX7_appendMessage l D k z N a_this a_this_state a_this_backup a_this_aside a_this_saved a_this_isSaved a_this_text a_this_arrival a_this_links a_this_isAvoided a_this_output a_this_toSend a_this_sendTo c_thrown c_textLength t16.2.1 t16.2.2.1 t16.2.2.2.1 t16.2.2.2.2.1 t16.2.2.2.2.2.1 t16.2.2.2.2.2.2.1 t16.2.2.2.2.2.2.2.1 t16.2.2.2.2.2.2.2.2 c_outputLength c_sendCount c_state t9.1 t9.2.2.2.2.2.1 t16.1 ht19) gm_X7_appendMessage gl_X7_157 [0, 1] [2] [(a_this, .inr (7, [.ref a_this_state, .ref a_this_backup, .ref a_this_aside, .ref a_this_saved, .ref a_this_isSaved, .int c_thrown, .ref a_this_text, .int c_textLength, .int t16.2.1, .int t16.2.2.1, .int t16.2.2.2.1, .int t16.2.2.2.2.1, .int t16.2.2.2.2.2.1, .int t16.2.2.2.2.2.2.1, .int t16.2.2.2.2.2.2.2.1, .long t16.2.2.2.2.2.2.2.2, .ref a_this_arrival, .ref a_this_links, .ref a_this_isAvoided, .ref a_this_output, .int c_outputLength, .ref a_this_toSend, .ref a_this_sendTo, .int c_sendCount])), (a_this_state, .inl (k 0, 2888, .inl t19.2)), (a_this_text, .inl (k 0, 700, .inl c_text))] rfl rfl rfl rfl ⟨rfl, rfl, rn_Bw (wr := [(a_this_text, .inl (k 0, 700, .inl c_text))]) rfl rfl, rfl, rfl⟩ (rn_r hR rfl) rn_cs hl.1 rfl (Nat.le_of_ble_eq_true rfl) dX7_parseMessage_105 (fun hn19 H locs hW => ?_)
        refine lv_istore (lv' := [(4, .int t19.1), (3, .int t16.1), (0, .ref a_this), (1, .int t9.1), (2, .int t9.2.2.2.2.2.1)]) hx hb dX7_parseMessage_108 hl (Nat.le_of_ble_eq_true rfl) rfl (fun ls hl => ?_)
        cases hf
        exact hE _ _ _ _ hW dX7_parseMessage_110
    replace hf := ht12
    clear ht12
    refine lv_icmp_eq (tgt := 78) hx hb dX7_parseMessage_71 (by decide) (fun hc13 => ?_) (fun hc13 => ?_)
    · replace hf := rn_t hf hc13
      refine lv_iconst (v := 0) hx hb dX7_parseMessage_78 (by decide) ?_
      cases hf
      exact jnt12 _ _ _ hW (lv_sub hl [2, 1, 0] rfl)
    · replace hf := rn_f hf hc13
      refine lv_iconst (v := 1) hx hb dX7_parseMessage_74 (by decide) ?_
      refine lv_goto (tgt := 79) hx hb dX7_parseMessage_75 (by decide) ?_
      cases hf
      exact jnt12 _ _ _ hW (lv_sub hl [2, 1, 0] rfl)
  replace hf := ht4
  clear ht4
  refine lv_icmp_ge (tgt := 27) hx hb dX7_parseMessage_20 (by decide) (fun hc5 => ?_) (fun hc5 => ?_)
  · replace hf := rn_t hf hc5
    refine lv_iconst (v := 0) hx hb dX7_parseMessage_27 (by decide) ?_
    cases hf
    exact jnt4 _ _ _ hW (lv_sub hl [0] rfl)
  · replace hf := rn_f hf hc5
    refine lv_iconst (v := 1) hx hb dX7_parseMessage_23 (by decide) ?_
    refine lv_goto (tgt := 28) hx hb dX7_parseMessage_24 (by decide) ?_
    cases hf
    exact jnt4 _ _ _ hW (lv_sub hl [0] rfl)
def fX7_parseStatement (N : Nat) (c_textLength : Int32) (c_position : Int32) (c_tokenStart : Int32) (c_token : Int32) (c_letters : Int32) (c_number : Int32) (c_errorCode : Int32) (c_errorPosition : Int32) (c_word : Int64) (c_state : Nat → Int32) (c_text : Nat → Int32) : Option (Int32 × Int32 × Int32 × Int32 × Int32 × Int32 × Int32 × Int64 × (Nat → Int32)) :=
  (fX7_isWord N c_token c_letters c_word ([115, 116, 97, 116, 105, 111, 110])).bind fun t1 =>
  Option.bind (
    if t1 = 0 then
      (fX7_isWord N c_token c_letters c_word ([108, 105, 110, 107])).bind fun t4 =>
      if t4 = 0 then
        (fX7_accept N c_textLength c_position c_tokenStart c_token c_letters c_number c_errorCode c_word c_text ([108, 105, 102, 101])).bind fun t6 =>
        if t6.1 = 0 then
          (fX7_accept N c_textLength t6.2.1 t6.2.2.1 t6.2.2.2.1 t6.2.2.2.2.1 t6.2.2.2.2.2.1 c_errorCode t6.2.2.2.2.2.2 c_text ([116, 114, 105, 101, 115])).bind fun t8 =>
          if t8.1 = 0 then
            (fX7_accept N c_textLength t8.2.1 t8.2.2.1 t8.2.2.2.1 t8.2.2.2.2.1 t8.2.2.2.2.2.1 c_errorCode t8.2.2.2.2.2.2 c_text ([115, 101, 101, 100])).bind fun t10 =>
            if t10.1 = 0 then
              (fX7_parseMessage N c_textLength t10.2.1 t10.2.2.1 t10.2.2.2.1 t10.2.2.2.2.1 t10.2.2.2.2.2.1 c_errorCode c_errorPosition t10.2.2.2.2.2.2 c_state c_text).bind fun t12 =>
              some (t12.1, t12.2.1, t12.2.2.1, t12.2.2.2.1, t12.2.2.2.2.1, t12.2.2.2.2.2.1, t12.2.2.2.2.2.2.1, t12.2.2.2.2.2.2.2.1, t12.2.2.2.2.2.2.2.2)
            else
            (fX7_parseNumber N c_textLength t10.2.1 t10.2.2.1 t10.2.2.2.1 t10.2.2.2.2.1 t10.2.2.2.2.2.1 c_errorCode c_errorPosition t10.2.2.2.2.2.2 c_text (0 : Int32) (1000002 : Int32)).bind fun t13 =>
            rn_g (6 : Int32) 2888 <|
            rn_let (upd c_state (6 : Int32).toNatClampNeg t13.1) fun w15 =>
            some (t13.2.1, t13.2.2.1, t13.2.2.2.1, t13.2.2.2.2.1, t13.2.2.2.2.2.1, t13.2.2.2.2.2.2.1, t13.2.2.2.2.2.2.2.1, t13.2.2.2.2.2.2.2.2, w15)
          else
          (fX7_parseNumber N c_textLength t8.2.1 t8.2.2.1 t8.2.2.2.1 t8.2.2.2.2.1 t8.2.2.2.2.2.1 c_errorCode c_errorPosition t8.2.2.2.2.2.2 c_text (1 : Int32) (9 : Int32)).bind fun t16 =>
          rn_g (5 : Int32) 2888 <|
          rn_let (upd c_state (5 : Int32).toNatClampNeg t16.1) fun w18 =>
          some (t16.2.1, t16.2.2.1, t16.2.2.2.1, t16.2.2.2.2.1, t16.2.2.2.2.2.1, t16.2.2.2.2.2.2.1, t16.2.2.2.2.2.2.2.1, t16.2.2.2.2.2.2.2.2, w18)
        else
        (fX7_parseNumber N c_textLength t6.2.1 t6.2.2.1 t6.2.2.2.1 t6.2.2.2.2.1 t6.2.2.2.2.2.1 c_errorCode c_errorPosition t6.2.2.2.2.2.2 c_text (1 : Int32) (200 : Int32)).bind fun t19 =>
        rn_g (4 : Int32) 2888 <|
        rn_let (upd c_state (4 : Int32).toNatClampNeg t19.1) fun w21 =>
        some (t19.2.1, t19.2.2.1, t19.2.2.2.1, t19.2.2.2.2.1, t19.2.2.2.2.2.1, t19.2.2.2.2.2.2.1, t19.2.2.2.2.2.2.2.1, t19.2.2.2.2.2.2.2.2, w21)
      else
      (fX7_parseLink N c_textLength c_position c_tokenStart c_token c_letters c_number c_errorCode c_errorPosition c_word c_state c_text).bind fun t22 =>
      some (t22.1, t22.2.1, t22.2.2.1, t22.2.2.2.1, t22.2.2.2.2.1, t22.2.2.2.2.2.1, t22.2.2.2.2.2.2.1, t22.2.2.2.2.2.2.2.1, t22.2.2.2.2.2.2.2.2)
    else
    (fX7_parseStation N c_textLength c_position c_tokenStart c_token c_letters c_number c_errorCode c_errorPosition c_word c_state c_text).bind fun t23 =>
    some (t23.1, t23.2.1, t23.2.2.1, t23.2.2.2.1, t23.2.2.2.2.1, t23.2.2.2.2.2.1, t23.2.2.2.2.2.2.1, t23.2.2.2.2.2.2.2.1, t23.2.2.2.2.2.2.2.2)
    ) fun t2 =>
  Option.bind (
    if t2.2.2.1 = (4 : Int32) then
      some (1 : Int32)
    else
    some (0 : Int32)
    ) fun t24 =>
  (fX7_require t2.2.1 t2.2.2.2.2.2.1 t2.2.2.2.2.2.2.1 t24 (1 : Int32)).bind fun t26 =>
  (fX7_advance N c_textLength t2.1 t2.2.1 t2.2.2.1 t2.2.2.2.1 t2.2.2.2.2.1 t26.1 t2.2.2.2.2.2.2.2.1 c_text).bind fun t27 =>
  some (t27.1, t27.2.1, t27.2.2.1, t27.2.2.2.1, t27.2.2.2.2.1, t26.1, t26.2, t27.2.2.2.2.2, t2.2.2.2.2.2.2.2.2)
set_option maxHeartbeats 4000000 in
set_option maxRecDepth 20000 in
theorem kX7_parseStatement (l : Launch) (D : va_G) (k : Nat → ClassId) (z : (Nat → Nat) × (Nat → Nat)) (N : Nat) (a_this : Nat) (a_this_state : Nat) (a_this_backup : Nat) (a_this_aside : Nat) (a_this_saved : Nat) (a_this_isSaved : Nat) (a_this_text : Nat) (a_this_arrival : Nat) (a_this_links : Nat) (a_this_isAvoided : Nat) (a_this_output : Nat) (a_this_toSend : Nat) (a_this_sendTo : Nat) (c_thrown : Int32) (c_textLength : Int32) (c_position : Int32) (c_tokenStart : Int32) (c_token : Int32) (c_letters : Int32) (c_number : Int32) (c_errorCode : Int32) (c_errorPosition : Int32) (c_word : Int64) (c_outputLength : Int32) (c_sendCount : Int32) (c_state : Nat → Int32) (c_text : Nat → Int32) {u : Int32 × Int32 × Int32 × Int32 × Int32 × Int32 × Int32 × Int64 × (Nat → Int32)} (hf : fX7_parseStatement N c_textLength c_position c_tokenStart c_token c_letters c_number c_errorCode c_errorPosition c_word c_state c_text = some u) : rn_KV l D k z yX7_parseStatement cX7_parseStatement 1 6 133 [.ref a_this] [(a_this, .inr (7, [.ref a_this_state, .ref a_this_backup, .ref a_this_aside, .ref a_this_saved, .ref a_this_isSaved, .int c_thrown, .ref a_this_text, .int c_textLength, .int c_position, .int c_tokenStart, .int c_token, .int c_letters, .int c_number, .int c_errorCode, .int c_errorPosition, .long c_word, .ref a_this_arrival, .ref a_this_links, .ref a_this_isAvoided, .ref a_this_output, .int c_outputLength, .ref a_this_toSend, .ref a_this_sendTo, .int c_sendCount])), (a_this_state, .inl (k 0, 2888, .inl c_state)), (a_this_text, .inl (k 0, 700, .inl c_text))] [(a_this, .inr (7, [.ref a_this_state, .ref a_this_backup, .ref a_this_aside, .ref a_this_saved, .ref a_this_isSaved, .int c_thrown, .ref a_this_text, .int c_textLength, .int u.1, .int u.2.1, .int u.2.2.1, .int u.2.2.2.1, .int u.2.2.2.2.1, .int u.2.2.2.2.2.1, .int u.2.2.2.2.2.2.1, .long u.2.2.2.2.2.2.2.1, .ref a_this_arrival, .ref a_this_links, .ref a_this_isAvoided, .ref a_this_output, .int c_outputLength, .ref a_this_toSend, .ref a_this_sendTo, .int c_sendCount])), (a_this_state, .inl (k 0, 2888, .inl u.2.2.2.2.2.2.2.2)), (a_this_text, .inl (k 0, 700, .inl c_text))] := by
  refine rn_KV.go (LOC := [(0, .ref a_this)]) rfl (by decide) (Nat.le_of_ble_eq_true rfl) rfl ?_
  intro p e s m args below meth c A ls R Q X hR hE hW hl
  have hx := X.1.1
  have hb := X.1.2.1
  unfold fX7_parseStatement at hf
  obtain ⟨u0, u1, u2, u3, u4, u5, u6, u7, u8⟩ := u
  dsimp only at hE
  refine lv_aload_n hx hb dX7_parseStatement_0 rfl (lv_at hl 0 rfl) ?_
  refine rr_ldS X (j := 43) rfl dX7_parseStatement_1 ?_
  obtain ⟨t1, ht1, hf⟩ := rn_bind hf
  refine rr_callI (As := [.ref (z.1 43)]) (rest := []) X hW (kX7_isWord l D k z N a_this a_this_state a_this_backup a_this_aside a_this_saved a_this_isSaved a_this_text a_this_arrival a_this_links a_this_isAvoided a_this_output a_this_toSend a_this_sendTo c_thrown c_textLength c_position c_tokenStart c_token c_letters c_number c_errorCode c_errorPosition c_word c_outputLength c_sendCount 43 [115, 116, 97, 116, 105, 111, 110] ⟨_, rfl, rfl⟩ ht1) gm_X7_isWord gl_X7_126 [0] [1, 2] [(a_this, .inr (7, [.ref a_this_state, .ref a_this_backup, .ref a_this_aside, .ref a_this_saved, .ref a_this_isSaved, .int c_thrown, .ref a_this_text, .int c_textLength, .int c_position, .int c_tokenStart, .int c_token, .int c_letters, .int c_number, .int c_errorCode, .int c_errorPosition, .long c_word, .ref a_this_arrival, .ref a_this_links, .ref a_this_isAvoided, .ref a_this_output, .int c_outputLength, .ref a_this_toSend, .ref a_this_sendTo, .int c_sendCount])), (a_this_state, .inl (k 0, 2888, .inl c_state)), (a_this_text, .inl (k 0, 700, .inl c_text))] rfl rfl rfl rfl ⟨rfl, rfl, rn_Bw (wr := [(a_this_state, .inl (k 0, 2888, .inl c_state)), (a_this_text, .inl (k 0, 700, .inl c_text))]) rfl rfl, rfl, rfl⟩ (rn_r hR rfl) rn_cs hl.1 rfl (Nat.le_of_ble_eq_true rfl) dX7_parseStatement_3 (fun hn1 H locs hW => ?_)
  obtain ⟨t2, ht2, hf⟩ := rn_bind hf
  have jnt2 : ∀ (H : Heap) (locs : List Loc) (ls : Array Slot), rn_W D A s [(a_this, .inr (7, [.ref a_this_state, .ref a_this_backup, .ref a_this_aside, .ref a_this_saved, .ref a_this_isSaved, .int c_thrown, .ref a_this_text, .int c_textLength, .int t2.1, .int t2.2.1, .int t2.2.2.1, .int t2.2.2.2.1, .int t2.2.2.2.2.1, .int t2.2.2.2.2.2.1, .int t2.2.2.2.2.2.2.1, .long t2.2.2.2.2.2.2.2.1, .ref a_this_arrival, .ref a_this_links, .ref a_this_isAvoided, .ref a_this_output, .int c_outputLength, .ref a_this_toSend, .ref a_this_sendTo, .int c_sendCount])), (a_this_state, .inl (k 0, 2888, .inl t2.2.2.2.2.2.2.2.2)), (a_this_text, .inl (k 0, 700, .inl c_text))] H locs → lv_has ls 1 [(0, .ref a_this)] → W p l e R s m args below meth c H locs 0 0 Q (F0 m 113 ls []) := by
    intro H locs ls hW hl
    refine lv_aload_n hx hb dX7_parseStatement_113 rfl (lv_at hl 0 rfl) ?_
    refine lv_aload_n hx hb dX7_parseStatement_114 rfl (lv_at hl 0 rfl) ?_
    refine rr_get X hW 0 10 gf_X7_91 rfl rfl dX7_parseStatement_115 ?_
    refine lv_iconst (v := 4) hx hb dX7_parseStatement_118 (by decide) ?_
    obtain ⟨t24, ht24, hf⟩ := rn_bind hf
    have jnt24 : ∀ (H : Heap) (locs : List Loc) (ls : Array Slot), rn_W D A s [(a_this, .inr (7, [.ref a_this_state, .ref a_this_backup, .ref a_this_aside, .ref a_this_saved, .ref a_this_isSaved, .int c_thrown, .ref a_this_text, .int c_textLength, .int t2.1, .int t2.2.1, .int t2.2.2.1, .int t2.2.2.2.1, .int t2.2.2.2.2.1, .int t2.2.2.2.2.2.1, .int t2.2.2.2.2.2.2.1, .long t2.2.2.2.2.2.2.2.1, .ref a_this_arrival, .ref a_this_links, .ref a_this_isAvoided, .ref a_this_output, .int c_outputLength, .ref a_this_toSend, .ref a_this_sendTo, .int c_sendCount])), (a_this_state, .inl (k 0, 2888, .inl t2.2.2.2.2.2.2.2.2)), (a_this_text, .inl (k 0, 700, .inl c_text))] H locs → lv_has ls 1 [(0, .ref a_this)] → W p l e R s m args below meth c H locs 0 0 Q (F0 m 127 ls [.int t24, .ref a_this]) := by
      intro H locs ls hW hl
      refine lv_iconst (v := 1) hx hb dX7_parseStatement_127 (by decide) ?_
      obtain ⟨t26, ht26, hf⟩ := rn_bind hf
      refine rr_callV (As := [.int t24, .int (1 : Int32)]) (rest := []) X hW (kX7_require l D k z a_this a_this_state a_this_backup a_this_aside a_this_saved a_this_isSaved a_this_text a_this_arrival a_this_links a_this_isAvoided a_this_output a_this_toSend a_this_sendTo c_thrown c_textLength t2.1 t2.2.1 t2.2.2.1 t2.2.2.2.1 t2.2.2.2.2.1 t2.2.2.2.2.2.1 t2.2.2.2.2.2.2.1 t2.2.2.2.2.2.2.2.1 c_outputLength c_sendCount t24 (1 : Int32) ht26) gm_X7_require gl_X7_130 [0] [1, 2] [(a_this, .inr (7, [.ref a_this_state, .ref a_this_backup, .ref a_this_aside, .ref a_this_saved, .ref a_this_isSaved, .int c_thrown, .ref a_this_text, .int c_textLength, .int t2.1, .int t2.2.1, .int t2.2.2.1, .int t2.2.2.2.1, .int t2.2.2.2.2.1, .int t26.1, .int t26.2, .long t2.2.2.2.2.2.2.2.1, .ref a_this_arrival, .ref a_this_links, .ref a_this_isAvoided, .ref a_this_output, .int c_outputLength, .ref a_this_toSend, .ref a_this_sendTo, .int c_sendCount])), (a_this_state, .inl (k 0, 2888, .inl t2.2.2.2.2.2.2.2.2)), (a_this_text, .inl (k 0, 700, .inl c_text))] rfl rfl rfl rfl ⟨rfl, rfl, rn_Bw (wr := [(a_this_state, .inl (k 0, 2888, .inl t2.2.2.2.2.2.2.2.2)), (a_this_text, .inl (k 0, 700, .inl c_text))]) rfl rfl, rfl, rfl⟩ (rn_r hR rfl) rn_cs hl.1 rfl (Nat.le_of_ble_eq_true rfl) dX7_parseStatement_128 (fun H locs hW => ?_)
      refine lv_aload_n hx hb dX7_parseStatement_131 rfl (lv_at hl 0 rfl) ?_
      obtain ⟨t27, ht27, hf⟩ := rn_bind hf
      refine rr_callV (As := []) (rest := []) X hW (kX7_advance l D k z N a_this a_this_state a_this_backup a_this_aside a_this_saved a_this_isSaved a_this_text a_this_arrival a_this_links a_this_isAvoided a_this_output a_this_toSend a_this_sendTo c_thrown c_textLength t2.1 t2.2.1 t2.2.2.1 t2.2.2.2.1 t2.2.2.2.2.1 t26.1 t26.2 t2.2.2.2.2.2.2.2.1 c_outputLength c_sendCount c_text ht27) gm_X7_advance gl_X7_138 [0, 2] [1] [(a_this, .inr (7, [.ref a_this_state, .ref a_this_backup, .ref a_this_aside, .ref a_this_saved, .ref a_this_isSaved, .int c_thrown, .ref a_this_text, .int c_textLength, .int t27.1, .int t27.2.1, .int t27.2.2.1, .int t27.2.2.2.1, .int t27.2.2.2.2.1, .int t26.1, .int t26.2, .long t27.2.2.2.2.2, .ref a_this_arrival, .ref a_this_links, .ref a_this_isAvoided, .ref a_this_output, .int c_outputLength, .ref a_this_toSend, .ref a_this_sendTo, .int c_sendCount])), (a_this_state, .inl (k 0, 2888, .inl t2.2.2.2.2.2.2.2.2)), (a_this_text, .inl (k 0, 700, .inl c_text))] rfl rfl rfl rfl ⟨rfl, rfl, rn_Bw (wr := [(a_this_state, .inl (k 0, 2888, .inl t2.2.2.2.2.2.2.2.2))]) rfl rfl, rfl, rfl⟩ (rn_r hR rfl) rn_cs hl.1 rfl (Nat.le_of_ble_eq_true rfl) dX7_parseStatement_132 (fun H locs hW => ?_)
      cases hf
      exact hE _ _ _ _ hW dX7_parseStatement_135
    replace hf := ht24
    clear ht24
    refine lv_icmp_ne (tgt := 126) hx hb dX7_parseStatement_119 (by decide) (fun hc25 => ?_) (fun hc25 => ?_)
    · replace hf := rn_f hf hc25
      refine lv_iconst (v := 0) hx hb dX7_parseStatement_126 (by decide) ?_
      cases hf
      exact jnt24 _ _ _ hW (lv_sub hl [0] rfl)
    · replace hf := rn_t hf hc25
      refine lv_iconst (v := 1) hx hb dX7_parseStatement_122 (by decide) ?_
      refine lv_goto (tgt := 127) hx hb dX7_parseStatement_123 (by decide) ?_
      cases hf
      exact jnt24 _ _ _ hW (lv_sub hl [0] rfl)
  replace hf := ht2
  clear ht2
  refine lv_if_eq (tgt := 16) hx hb dX7_parseStatement_6 (by decide) (fun hc3 => ?_) (fun hc3 => ?_)
  · replace hf := rn_t hf hc3
    refine lv_aload_n hx hb dX7_parseStatement_16 rfl (lv_at hl 0 rfl) ?_
    refine rr_ldS X (j := 44) rfl dX7_parseStatement_17 ?_
    obtain ⟨t4, ht4, hf⟩ := rn_bind hf
    refine rr_callI (As := [.ref (z.1 44)]) (rest := []) X hW (kX7_isWord l D k z N a_this a_this_state a_this_backup a_this_aside a_this_saved a_this_isSaved a_this_text a_this_arrival a_this_links a_this_isAvoided a_this_output a_this_toSend a_this_sendTo c_thrown c_textLength c_position c_tokenStart c_token c_letters c_number c_errorCode c_errorPosition c_word c_outputLength c_sendCount 44 [108, 105, 110, 107] ⟨_, rfl, rfl⟩ ht4) gm_X7_isWord gl_X7_126 [0] [1, 2] [(a_this, .inr (7, [.ref a_this_state, .ref a_this_backup, .ref a_this_aside, .ref a_this_saved, .ref a_this_isSaved, .int c_thrown, .ref a_this_text, .int c_textLength, .int c_position, .int c_tokenStart, .int c_token, .int c_letters, .int c_number, .int c_errorCode, .int c_errorPosition, .long c_word, .ref a_this_arrival, .ref a_this_links, .ref a_this_isAvoided, .ref a_this_output, .int c_outputLength, .ref a_this_toSend, .ref a_this_sendTo, .int c_sendCount])), (a_this_state, .inl (k 0, 2888, .inl c_state)), (a_this_text, .inl (k 0, 700, .inl c_text))] rfl rfl rfl rfl ⟨rfl, rfl, rn_Bw (wr := [(a_this_state, .inl (k 0, 2888, .inl c_state)), (a_this_text, .inl (k 0, 700, .inl c_text))]) rfl rfl, rfl, rfl⟩ (rn_r hR rfl) rn_cs hl.1 rfl (Nat.le_of_ble_eq_true rfl) dX7_parseStatement_19 (fun hn4 H locs hW => ?_)
    refine lv_if_eq (tgt := 32) hx hb dX7_parseStatement_22 (by decide) (fun hc5 => ?_) (fun hc5 => ?_)
    · replace hf := rn_t hf hc5
      refine lv_aload_n hx hb dX7_parseStatement_32 rfl (lv_at hl 0 rfl) ?_
      refine rr_ldS X (j := 45) rfl dX7_parseStatement_33 ?_
      obtain ⟨t6, ht6, hf⟩ := rn_bind hf
      refine rr_callI (As := [.ref (z.1 45)]) (rest := []) X hW (kX7_accept l D k z N a_this a_this_state a_this_backup a_this_aside a_this_saved a_this_isSaved a_this_text a_this_arrival a_this_links a_this_isAvoided a_this_output a_this_toSend a_this_sendTo c_thrown c_textLength c_position c_tokenStart c_token c_letters c_number c_errorCode c_errorPosition c_word c_outputLength c_sendCount c_text 45 [108, 105, 102, 101] ⟨_, rfl, rfl⟩ ht6) gm_X7_accept gl_X7_172 [0, 2] [1] [(a_this, .inr (7, [.ref a_this_state, .ref a_this_backup, .ref a_this_aside, .ref a_this_saved, .ref a_this_isSaved, .int c_thrown, .ref a_this_text, .int c_textLength, .int t6.2.1, .int t6.2.2.1, .int t6.2.2.2.1, .int t6.2.2.2.2.1, .int t6.2.2.2.2.2.1, .int c_errorCode, .int c_errorPosition, .long t6.2.2.2.2.2.2, .ref a_this_arrival, .ref a_this_links, .ref a_this_isAvoided, .ref a_this_output, .int c_outputLength, .ref a_this_toSend, .ref a_this_sendTo, .int c_sendCount])), (a_this_state, .inl (k 0, 2888, .inl c_state)), (a_this_text, .inl (k 0, 700, .inl c_text))] rfl rfl rfl rfl ⟨rfl, rfl, rn_Bw (wr := [(a_this_state, .inl (k 0, 2888, .inl c_state))]) rfl rfl, rfl, rfl⟩ (rn_r hR rfl) rn_cs hl.1 rfl (Nat.le_of_ble_eq_true rfl) dX7_parseStatement_35 (fun hn6 H locs hW => ?_)
      refine lv_if_eq (tgt := 58) hx hb dX7_parseStatement_38 (by decide) (fun hc7 => ?_) (fun hc7 => ?_)
      · replace hf := rn_t hf hc7
        refine lv_aload_n hx hb dX7_parseStatement_58 rfl (lv_at hl 0 rfl) ?_
        refine rr_ldS X (j := 46) rfl dX7_parseStatement_59 ?_
        obtain ⟨t8, ht8, hf⟩ := rn_bind hf
        refine rr_callI (As := [.ref (z.1 46)]) (rest := []) X hW (kX7_accept l D k z N a_this a_this_state a_this_backup a_this_aside a_this_saved a_this_isSaved a_this_text a_this_arrival a_this_links a_this_isAvoided a_this_output a_this_toSend a_this_sendTo c_thrown c_textLength t6.2.1 t6.2.2.1 t6.2.2.2.1 t6.2.2.2.2.1 t6.2.2.2.2.2.1 c_errorCode c_errorPosition t6.2.2.2.2.2.2 c_outputLength c_sendCount c_text 46 [116, 114, 105, 101, 115] ⟨_, rfl, rfl⟩ ht8) gm_X7_accept gl_X7_172 [0, 2] [1] [(a_this, .inr (7, [.ref a_this_state, .ref a_this_backup, .ref a_this_aside, .ref a_this_saved, .ref a_this_isSaved, .int c_thrown, .ref a_this_text, .int c_textLength, .int t8.2.1, .int t8.2.2.1, .int t8.2.2.2.1, .int t8.2.2.2.2.1, .int t8.2.2.2.2.2.1, .int c_errorCode, .int c_errorPosition, .long t8.2.2.2.2.2.2, .ref a_this_arrival, .ref a_this_links, .ref a_this_isAvoided, .ref a_this_output, .int c_outputLength, .ref a_this_toSend, .ref a_this_sendTo, .int c_sendCount])), (a_this_state, .inl (k 0, 2888, .inl c_state)), (a_this_text, .inl (k 0, 700, .inl c_text))] rfl rfl rfl rfl ⟨rfl, rfl, rn_Bw (wr := [(a_this_state, .inl (k 0, 2888, .inl c_state))]) rfl rfl, rfl, rfl⟩ (rn_r hR rfl) rn_cs hl.1 rfl (Nat.le_of_ble_eq_true rfl) dX7_parseStatement_61 (fun hn8 H locs hW => ?_)
        refine lv_if_eq (tgt := 83) hx hb dX7_parseStatement_64 (by decide) (fun hc9 => ?_) (fun hc9 => ?_)
        · replace hf := rn_t hf hc9
          refine lv_aload_n hx hb dX7_parseStatement_83 rfl (lv_at hl 0 rfl) ?_
          refine rr_ldS X (j := 47) rfl dX7_parseStatement_84 ?_
          obtain ⟨t10, ht10, hf⟩ := rn_bind hf
          refine rr_callI (As := [.ref (z.1 47)]) (rest := []) X hW (kX7_accept l D k z N a_this a_this_state a_this_backup a_this_aside a_this_saved a_this_isSaved a_this_text a_this_arrival a_this_links a_this_isAvoided a_this_output a_this_toSend a_this_sendTo c_thrown c_textLength t8.2.1 t8.2.2.1 t8.2.2.2.1 t8.2.2.2.2.1 t8.2.2.2.2.2.1 c_errorCode c_errorPosition t8.2.2.2.2.2.2 c_outputLength c_sendCount c_text 47 [115, 101, 101, 100] ⟨_, rfl, rfl⟩ ht10) gm_X7_accept gl_X7_172 [0, 2] [1] [(a_this, .inr (7, [.ref a_this_state, .ref a_this_backup, .ref a_this_aside, .ref a_this_saved, .ref a_this_isSaved, .int c_thrown, .ref a_this_text, .int c_textLength, .int t10.2.1, .int t10.2.2.1, .int t10.2.2.2.1, .int t10.2.2.2.2.1, .int t10.2.2.2.2.2.1, .int c_errorCode, .int c_errorPosition, .long t10.2.2.2.2.2.2, .ref a_this_arrival, .ref a_this_links, .ref a_this_isAvoided, .ref a_this_output, .int c_outputLength, .ref a_this_toSend, .ref a_this_sendTo, .int c_sendCount])), (a_this_state, .inl (k 0, 2888, .inl c_state)), (a_this_text, .inl (k 0, 700, .inl c_text))] rfl rfl rfl rfl ⟨rfl, rfl, rn_Bw (wr := [(a_this_state, .inl (k 0, 2888, .inl c_state))]) rfl rfl, rfl, rfl⟩ (rn_r hR rfl) rn_cs hl.1 rfl (Nat.le_of_ble_eq_true rfl) dX7_parseStatement_86 (fun hn10 H locs hW => ?_)
          refine lv_if_eq (tgt := 109) hx hb dX7_parseStatement_89 (by decide) (fun hc11 => ?_) (fun hc11 => ?_)
          · replace hf := rn_t hf hc11
            refine lv_aload_n hx hb dX7_parseStatement_109 rfl (lv_at hl 0 rfl) ?_
            obtain ⟨t12, ht12, hf⟩ := rn_bind hf
            refine rr_callV (As := []) (rest := []) X hW (kX7_parseMessage l D k z N a_this a_this_state a_this_backup a_this_aside a_this_saved a_this_isSaved a_this_text a_this_arrival a_this_links a_this_isAvoided a_this_output a_this_toSend a_this_sendTo c_thrown c_textLength t10.2.1 t10.2.2.1 t10.2.2.2.1 t10.2.2.2.2.1 t10.2.2.2.2.2.1 c_errorCode c_errorPosition t10.2.2.2.2.2.2 c_outputLength c_sendCount c_state c_text ht12) gm_X7_parseMessage gl_X7_180 [0, 1, 2] [] [(a_this, .inr (7, [.ref a_this_state, .ref a_this_backup, .ref a_this_aside, .ref a_this_saved, .ref a_this_isSaved, .int c_thrown, .ref a_this_text, .int c_textLength, .int t12.1, .int t12.2.1, .int t12.2.2.1, .int t12.2.2.2.1, .int t12.2.2.2.2.1, .int t12.2.2.2.2.2.1, .int t12.2.2.2.2.2.2.1, .long t12.2.2.2.2.2.2.2.1, .ref a_this_arrival, .ref a_this_links, .ref a_this_isAvoided, .ref a_this_output, .int c_outputLength, .ref a_this_toSend, .ref a_this_sendTo, .int c_sendCount])), (a_this_state, .inl (k 0, 2888, .inl t12.2.2.2.2.2.2.2.2)), (a_this_text, .inl (k 0, 700, .inl c_text))] rfl rfl rfl rfl ⟨rfl, rfl, rfl, rfl, rfl⟩ (rn_r hR rfl) rn_cs hl.1 rfl (Nat.le_of_ble_eq_true rfl) dX7_parseStatement_110 (fun H locs hW => ?_)
            cases hf
            exact jnt2 _ _ _ hW (lv_sub hl [0] rfl)
          · replace hf := rn_f hf hc11
            refine lv_aload_n hx hb dX7_parseStatement_92 rfl (lv_at hl 0 rfl) ?_
            refine rr_get X hW 0 0 gf_X7_7 rfl rfl dX7_parseStatement_93 ?_
            refine lv_bipush (v := 6) hx hb dX7_parseStatement_96 (by decide) ?_
            refine lv_aload_n hx hb dX7_parseStatement_98 rfl (lv_at hl 0 rfl) ?_
            refine lv_iconst (v := 0) hx hb dX7_parseStatement_99 (by decide) ?_
            refine rr_ldc X gk_X7_179 dX7_parseStatement_100 ?_
            obtain ⟨t13, ht13, hf⟩ := rn_bind hf
            refine rr_callI (As := [.int (0 : Int32), .int (1000002 : Int32)]) (rest := [.int (6 : Int32), .ref a_this_state]) X hW (kX7_parseNumber l D k z N a_this a_this_state a_this_backup a_this_aside a_this_saved a_this_isSaved a_this_text a_this_arrival a_this_links a_this_isAvoided a_this_output a_this_toSend a_this_sendTo c_thrown c_textLength t10.2.1 t10.2.2.1 t10.2.2.2.1 t10.2.2.2.2.1 t10.2.2.2.2.2.1 c_errorCode c_errorPosition t10.2.2.2.2.2.2 c_outputLength c_sendCount c_text (0 : Int32) (1000002 : Int32) ht13) gm_X7_parseNumber gl_X7_141 [0, 2] [1] [(a_this, .inr (7, [.ref a_this_state, .ref a_this_backup, .ref a_this_aside, .ref a_this_saved, .ref a_this_isSaved, .int c_thrown, .ref a_this_text, .int c_textLength, .int t13.2.1, .int t13.2.2.1, .int t13.2.2.2.1, .int t13.2.2.2.2.1, .int t13.2.2.2.2.2.1, .int t13.2.2.2.2.2.2.1, .int t13.2.2.2.2.2.2.2.1, .long t13.2.2.2.2.2.2.2.2, .ref a_this_arrival, .ref a_this_links, .ref a_this_isAvoided, .ref a_this_output, .int c_outputLength, .ref a_this_toSend, .ref a_this_sendTo, .int c_sendCount])), (a_this_state, .inl (k 0, 2888, .inl c_state)), (a_this_text, .inl (k 0, 700, .inl c_text))] rfl rfl rfl rfl ⟨rfl, rfl, rn_Bw (wr := [(a_this_state, .inl (k 0, 2888, .inl c_state))]) rfl rfl, rfl, rfl⟩ (rn_r hR rfl) rn_cs hl.1 rfl (Nat.le_of_ble_eq_true rfl) dX7_parseStatement_102 (fun hn13 H locs hW => ?_)
            obtain ⟨hg14, hf⟩ := rn_g_s hf
            obtain ⟨w15, hw15, hf⟩ := rn_let_s hf
            refine rr_iast' X hW 1 rfl hg14 hw15 (ws' := [(a_this, .inr (7, [.ref a_this_state, .ref a_this_backup, .ref a_this_aside, .ref a_this_saved, .ref a_this_isSaved, .int c_thrown, .ref a_this_text, .int c_textLength, .int t13.2.1, .int t13.2.2.1, .int t13.2.2.2.1, .int t13.2.2.2.2.1, .int t13.2.2.2.2.2.1, .int t13.2.2.2.2.2.2.1, .int t13.2.2.2.2.2.2.2.1, .long t13.2.2.2.2.2.2.2.2, .ref a_this_arrival, .ref a_this_links, .ref a_this_isAvoided, .ref a_this_output, .int c_outputLength, .ref a_this_toSend, .ref a_this_sendTo, .int c_sendCount])), (a_this_state, .inl (k 0, 2888, .inl w15)), (a_this_text, .inl (k 0, 700, .inl c_text))]) rfl dX7_parseStatement_105 (fun H locs hW => ?_)
            refine lv_goto (tgt := 113) hx hb dX7_parseStatement_106 (by decide) ?_
            cases hf
            exact jnt2 _ _ _ hW (lv_sub hl [0] rfl)
        · replace hf := rn_f hf hc9
          refine lv_aload_n hx hb dX7_parseStatement_67 rfl (lv_at hl 0 rfl) ?_
          refine rr_get X hW 0 0 gf_X7_7 rfl rfl dX7_parseStatement_68 ?_
          refine lv_iconst (v := 5) hx hb dX7_parseStatement_71 (by decide) ?_
          refine lv_aload_n hx hb dX7_parseStatement_72 rfl (lv_at hl 0 rfl) ?_
          refine lv_iconst (v := 1) hx hb dX7_parseStatement_73 (by decide) ?_
          refine lv_bipush (v := 9) hx hb dX7_parseStatement_74 (by decide) ?_
          obtain ⟨t16, ht16, hf⟩ := rn_bind hf
          refine rr_callI (As := [.int (1 : Int32), .int (9 : Int32)]) (rest := [.int (5 : Int32), .ref a_this_state]) X hW (kX7_parseNumber l D k z N a_this a_this_state a_this_backup a_this_aside a_this_saved a_this_isSaved a_this_text a_this_arrival a_this_links a_this_isAvoided a_this_output a_this_toSend a_this_sendTo c_thrown c_textLength t8.2.1 t8.2.2.1 t8.2.2.2.1 t8.2.2.2.2.1 t8.2.2.2.2.2.1 c_errorCode c_errorPosition t8.2.2.2.2.2.2 c_outputLength c_sendCount c_text (1 : Int32) (9 : Int32) ht16) gm_X7_parseNumber gl_X7_141 [0, 2] [1] [(a_this, .inr (7, [.ref a_this_state, .ref a_this_backup, .ref a_this_aside, .ref a_this_saved, .ref a_this_isSaved, .int c_thrown, .ref a_this_text, .int c_textLength, .int t16.2.1, .int t16.2.2.1, .int t16.2.2.2.1, .int t16.2.2.2.2.1, .int t16.2.2.2.2.2.1, .int t16.2.2.2.2.2.2.1, .int t16.2.2.2.2.2.2.2.1, .long t16.2.2.2.2.2.2.2.2, .ref a_this_arrival, .ref a_this_links, .ref a_this_isAvoided, .ref a_this_output, .int c_outputLength, .ref a_this_toSend, .ref a_this_sendTo, .int c_sendCount])), (a_this_state, .inl (k 0, 2888, .inl c_state)), (a_this_text, .inl (k 0, 700, .inl c_text))] rfl rfl rfl rfl ⟨rfl, rfl, rn_Bw (wr := [(a_this_state, .inl (k 0, 2888, .inl c_state))]) rfl rfl, rfl, rfl⟩ (rn_r hR rfl) rn_cs hl.1 rfl (Nat.le_of_ble_eq_true rfl) dX7_parseStatement_76 (fun hn16 H locs hW => ?_)
          obtain ⟨hg17, hf⟩ := rn_g_s hf
          obtain ⟨w18, hw18, hf⟩ := rn_let_s hf
          refine rr_iast' X hW 1 rfl hg17 hw18 (ws' := [(a_this, .inr (7, [.ref a_this_state, .ref a_this_backup, .ref a_this_aside, .ref a_this_saved, .ref a_this_isSaved, .int c_thrown, .ref a_this_text, .int c_textLength, .int t16.2.1, .int t16.2.2.1, .int t16.2.2.2.1, .int t16.2.2.2.2.1, .int t16.2.2.2.2.2.1, .int t16.2.2.2.2.2.2.1, .int t16.2.2.2.2.2.2.2.1, .long t16.2.2.2.2.2.2.2.2, .ref a_this_arrival, .ref a_this_links, .ref a_this_isAvoided, .ref a_this_output, .int c_outputLength, .ref a_this_toSend, .ref a_this_sendTo, .int c_sendCount])), (a_this_state, .inl (k 0, 2888, .inl w18)), (a_this_text, .inl (k 0, 700, .inl c_text))]) rfl dX7_parseStatement_79 (fun H locs hW => ?_)
          refine lv_goto (tgt := 113) hx hb dX7_parseStatement_80 (by decide) ?_
          cases hf
          exact jnt2 _ _ _ hW (lv_sub hl [0] rfl)
      · replace hf := rn_f hf hc7
        refine lv_aload_n hx hb dX7_parseStatement_41 rfl (lv_at hl 0 rfl) ?_
        refine rr_get X hW 0 0 gf_X7_7 rfl rfl dX7_parseStatement_42 ?_
        refine lv_iconst (v := 4) hx hb dX7_parseStatement_45 (by decide) ?_
        refine lv_aload_n hx hb dX7_parseStatement_46 rfl (lv_at hl 0 rfl) ?_
        refine lv_iconst (v := 1) hx hb dX7_parseStatement_47 (by decide) ?_
        refine lv_sipush (v := 200) hx hb dX7_parseStatement_48 (by decide) ?_
        obtain ⟨t19, ht19, hf⟩ := rn_bind hf
        refine rr_callI (As := [.int (1 : Int32), .int (200 : Int32)]) (rest := [.int (4 : Int32), .ref a_this_state]) X hW (kX7_parseNumber l D k z N a_this a_this_state a_this_backup a_this_aside a_this_saved a_this_isSaved a_this_text a_this_arrival a_this_links a_this_isAvoided a_this_output a_this_toSend a_this_sendTo c_thrown c_textLength t6.2.1 t6.2.2.1 t6.2.2.2.1 t6.2.2.2.2.1 t6.2.2.2.2.2.1 c_errorCode c_errorPosition t6.2.2.2.2.2.2 c_outputLength c_sendCount c_text (1 : Int32) (200 : Int32) ht19) gm_X7_parseNumber gl_X7_141 [0, 2] [1] [(a_this, .inr (7, [.ref a_this_state, .ref a_this_backup, .ref a_this_aside, .ref a_this_saved, .ref a_this_isSaved, .int c_thrown, .ref a_this_text, .int c_textLength, .int t19.2.1, .int t19.2.2.1, .int t19.2.2.2.1, .int t19.2.2.2.2.1, .int t19.2.2.2.2.2.1, .int t19.2.2.2.2.2.2.1, .int t19.2.2.2.2.2.2.2.1, .long t19.2.2.2.2.2.2.2.2, .ref a_this_arrival, .ref a_this_links, .ref a_this_isAvoided, .ref a_this_output, .int c_outputLength, .ref a_this_toSend, .ref a_this_sendTo, .int c_sendCount])), (a_this_state, .inl (k 0, 2888, .inl c_state)), (a_this_text, .inl (k 0, 700, .inl c_text))] rfl rfl rfl rfl ⟨rfl, rfl, rn_Bw (wr := [(a_this_state, .inl (k 0, 2888, .inl c_state))]) rfl rfl, rfl, rfl⟩ (rn_r hR rfl) rn_cs hl.1 rfl (Nat.le_of_ble_eq_true rfl) dX7_parseStatement_51 (fun hn19 H locs hW => ?_)
        obtain ⟨hg20, hf⟩ := rn_g_s hf
        obtain ⟨w21, hw21, hf⟩ := rn_let_s hf
        refine rr_iast' X hW 1 rfl hg20 hw21 (ws' := [(a_this, .inr (7, [.ref a_this_state, .ref a_this_backup, .ref a_this_aside, .ref a_this_saved, .ref a_this_isSaved, .int c_thrown, .ref a_this_text, .int c_textLength, .int t19.2.1, .int t19.2.2.1, .int t19.2.2.2.1, .int t19.2.2.2.2.1, .int t19.2.2.2.2.2.1, .int t19.2.2.2.2.2.2.1, .int t19.2.2.2.2.2.2.2.1, .long t19.2.2.2.2.2.2.2.2, .ref a_this_arrival, .ref a_this_links, .ref a_this_isAvoided, .ref a_this_output, .int c_outputLength, .ref a_this_toSend, .ref a_this_sendTo, .int c_sendCount])), (a_this_state, .inl (k 0, 2888, .inl w21)), (a_this_text, .inl (k 0, 700, .inl c_text))]) rfl dX7_parseStatement_54 (fun H locs hW => ?_)
        refine lv_goto (tgt := 113) hx hb dX7_parseStatement_55 (by decide) ?_
        cases hf
        exact jnt2 _ _ _ hW (lv_sub hl [0] rfl)
    · replace hf := rn_f hf hc5
      refine lv_aload_n hx hb dX7_parseStatement_25 rfl (lv_at hl 0 rfl) ?_
      obtain ⟨t22, ht22, hf⟩ := rn_bind hf
      refine rr_callV (As := []) (rest := []) X hW (kX7_parseLink l D k z N a_this a_this_state a_this_backup a_this_aside a_this_saved a_this_isSaved a_this_text a_this_arrival a_this_links a_this_isAvoided a_this_output a_this_toSend a_this_sendTo c_thrown c_textLength c_position c_tokenStart c_token c_letters c_number c_errorCode c_errorPosition c_word c_outputLength c_sendCount c_state c_text ht22) gm_X7_parseLink gl_X7_167 [0, 1, 2] [] [(a_this, .inr (7, [.ref a_this_state, .ref a_this_backup, .ref a_this_aside, .ref a_this_saved, .ref a_this_isSaved, .int c_thrown, .ref a_this_text, .int c_textLength, .int t22.1, .int t22.2.1, .int t22.2.2.1, .int t22.2.2.2.1, .int t22.2.2.2.2.1, .int t22.2.2.2.2.2.1, .int t22.2.2.2.2.2.2.1, .long t22.2.2.2.2.2.2.2.1, .ref a_this_arrival, .ref a_this_links, .ref a_this_isAvoided, .ref a_this_output, .int c_outputLength, .ref a_this_toSend, .ref a_this_sendTo, .int c_sendCount])), (a_this_state, .inl (k 0, 2888, .inl t22.2.2.2.2.2.2.2.2)), (a_this_text, .inl (k 0, 700, .inl c_text))] rfl rfl rfl rfl ⟨rfl, rfl, rfl, rfl, rfl⟩ (rn_r hR rfl) rn_cs hl.1 rfl (Nat.le_of_ble_eq_true rfl) dX7_parseStatement_26 (fun H locs hW => ?_)
      refine lv_goto (tgt := 113) hx hb dX7_parseStatement_29 (by decide) ?_
      cases hf
      exact jnt2 _ _ _ hW (lv_sub hl [0] rfl)
  · replace hf := rn_f hf hc3
    refine lv_aload_n hx hb dX7_parseStatement_9 rfl (lv_at hl 0 rfl) ?_
    obtain ⟨t23, ht23, hf⟩ := rn_bind hf
    refine rr_callV (As := []) (rest := []) X hW (kX7_parseStation l D k z N a_this a_this_state a_this_backup a_this_aside a_this_saved a_this_isSaved a_this_text a_this_arrival a_this_links a_this_isAvoided a_this_output a_this_toSend a_this_sendTo c_thrown c_textLength c_position c_tokenStart c_token c_letters c_number c_errorCode c_errorPosition c_word c_outputLength c_sendCount c_state c_text ht23) gm_X7_parseStation gl_X7_162 [0, 1, 2] [] [(a_this, .inr (7, [.ref a_this_state, .ref a_this_backup, .ref a_this_aside, .ref a_this_saved, .ref a_this_isSaved, .int c_thrown, .ref a_this_text, .int c_textLength, .int t23.1, .int t23.2.1, .int t23.2.2.1, .int t23.2.2.2.1, .int t23.2.2.2.2.1, .int t23.2.2.2.2.2.1, .int t23.2.2.2.2.2.2.1, .long t23.2.2.2.2.2.2.2.1, .ref a_this_arrival, .ref a_this_links, .ref a_this_isAvoided, .ref a_this_output, .int c_outputLength, .ref a_this_toSend, .ref a_this_sendTo, .int c_sendCount])), (a_this_state, .inl (k 0, 2888, .inl t23.2.2.2.2.2.2.2.2)), (a_this_text, .inl (k 0, 700, .inl c_text))] rfl rfl rfl rfl ⟨rfl, rfl, rfl, rfl, rfl⟩ (rn_r hR rfl) rn_cs hl.1 rfl (Nat.le_of_ble_eq_true rfl) dX7_parseStatement_10 (fun H locs hW => ?_)
    refine lv_goto (tgt := 113) hx hb dX7_parseStatement_13 (by decide) ?_
    cases hf
    exact jnt2 _ _ _ hW (lv_sub hl [0] rfl)
def lX7_load_43 (N : Nat) (c_textLength : Int32) (c_text : Nat → Int32) : Nat → Int32 → Int32 → Int32 → Int32 → Int32 → Int32 → Int32 → Int32 → Int64 → (Nat → Int32) → Option (Int32 × Int32 × Int32 × Int32 × Int32 × Int32 × Int32 × Int32 × Int64 × (Nat → Int32))
  | 0, _, _, _, _, _, _, _, _, _, _ => none
  | n+1, x1_43, y_position_43, y_tokenStart_43, y_token_43, y_letters_43, y_number_43, y_errorCode_43, y_errorPosition_43, y_word_43, y_state_43 =>
    (fX7_isFine y_errorCode_43).bind fun t5 =>
    if t5 = 0 then
      some (x1_43, y_position_43, y_tokenStart_43, y_token_43, y_letters_43, y_number_43, y_errorCode_43, y_errorPosition_43, y_word_43, y_state_43)
    else
    if y_token_43 = 0 then
      some (x1_43, y_position_43, y_tokenStart_43, y_token_43, y_letters_43, y_number_43, y_errorCode_43, y_errorPosition_43, y_word_43, y_state_43)
    else
    (fX7_parseStatement N c_textLength y_position_43 y_tokenStart_43 y_token_43 y_letters_43 y_number_43 y_errorCode_43 y_errorPosition_43 y_word_43 y_state_43 c_text).bind fun t8 =>
    lX7_load_43 N c_textLength c_text n (x1_43 + (1 : Int32)) t8.1 t8.2.1 t8.2.2.1 t8.2.2.2.1 t8.2.2.2.2.1 t8.2.2.2.2.2.1 t8.2.2.2.2.2.2.1 t8.2.2.2.2.2.2.2.1 t8.2.2.2.2.2.2.2.2
def fX7_load (N : Nat) (c_thrown : Int32) (c_textLength : Int32) (c_position : Int32) (c_tokenStart : Int32) (c_token : Int32) (c_letters : Int32) (c_number : Int32) (c_errorCode : Int32) (c_errorPosition : Int32) (c_word : Int64) (c_state : Nat → Int32) (c_backup : Nat → Int32) (c_text : Nat → Int32) : Option (Int32 × Int32 × Int32 × Int32 × Int32 × Int32 × Int32 × Int32 × Int32 × Int32 × Int64 × (Nat → Int32) × (Nat → Int32)) :=
  (fX7_copyAll N 2888 2888 c_state c_backup (0 : Int32) (0 : Int32)).bind fun t1 =>
  (fX7_clear N c_state).bind fun t2 =>
  (fX7_nextToken N c_textLength (0 : Int32) c_tokenStart c_token c_letters c_number c_word c_text).bind fun t3 =>
  (lX7_load_43 N c_textLength c_text N (0 : Int32) t3.1 t3.2.1 t3.2.2.1 t3.2.2.2.1 t3.2.2.2.2.1 (0 : Int32) (-1 : Int32) t3.2.2.2.2.2 t2).bind fun t4 =>
  (fX7_isFine t4.2.2.2.2.2.2.1).bind fun t9 =>
  if t9 = 0 then
    (fX7_copyAll N 2888 2888 t1 t4.2.2.2.2.2.2.2.2.2 (0 : Int32) (0 : Int32)).bind fun t11 =>
    some ((-1 : Int32), (0 : Int32), (0 : Int32), t4.2.1, t4.2.2.1, t4.2.2.2.1, t4.2.2.2.2.1, t4.2.2.2.2.2.1, t4.2.2.2.2.2.2.1, t4.2.2.2.2.2.2.2.1, t4.2.2.2.2.2.2.2.2.1, t11, t1)
  else
  some (t4.1, (0 : Int32), (0 : Int32), t4.2.1, t4.2.2.1, t4.2.2.2.1, t4.2.2.2.2.1, t4.2.2.2.2.2.1, t4.2.2.2.2.2.2.1, t4.2.2.2.2.2.2.2.1, t4.2.2.2.2.2.2.2.2.1, t4.2.2.2.2.2.2.2.2.2, t1)
set_option maxHeartbeats 4000000 in
set_option maxRecDepth 20000 in
theorem kX7_load (l : Launch) (D : va_G) (k : Nat → ClassId) (z : (Nat → Nat) × (Nat → Nat)) (N : Nat) (a_this : Nat) (a_this_state : Nat) (a_this_backup : Nat) (a_this_aside : Nat) (a_this_saved : Nat) (a_this_isSaved : Nat) (a_this_text : Nat) (a_this_arrival : Nat) (a_this_links : Nat) (a_this_isAvoided : Nat) (a_this_output : Nat) (a_this_toSend : Nat) (a_this_sendTo : Nat) (c_thrown : Int32) (c_textLength : Int32) (c_position : Int32) (c_tokenStart : Int32) (c_token : Int32) (c_letters : Int32) (c_number : Int32) (c_errorCode : Int32) (c_errorPosition : Int32) (c_word : Int64) (c_outputLength : Int32) (c_sendCount : Int32) (c_state : Nat → Int32) (c_backup : Nat → Int32) (c_text : Nat → Int32) {u : Int32 × Int32 × Int32 × Int32 × Int32 × Int32 × Int32 × Int32 × Int32 × Int32 × Int64 × (Nat → Int32) × (Nat → Int32)} (hf : fX7_load N c_thrown c_textLength c_position c_tokenStart c_token c_letters c_number c_errorCode c_errorPosition c_word c_state c_backup c_text = some u) : rn_KI l D k z yX7_load cX7_load 2 .int 7 153 [.ref a_this] [(a_this, .inr (7, [.ref a_this_state, .ref a_this_backup, .ref a_this_aside, .ref a_this_saved, .ref a_this_isSaved, .int c_thrown, .ref a_this_text, .int c_textLength, .int c_position, .int c_tokenStart, .int c_token, .int c_letters, .int c_number, .int c_errorCode, .int c_errorPosition, .long c_word, .ref a_this_arrival, .ref a_this_links, .ref a_this_isAvoided, .ref a_this_output, .int c_outputLength, .ref a_this_toSend, .ref a_this_sendTo, .int c_sendCount])), (a_this_state, .inl (k 0, 2888, .inl c_state)), (a_this_backup, .inl (k 0, 2888, .inl c_backup)), (a_this_text, .inl (k 0, 700, .inl c_text))] [(a_this, .inr (7, [.ref a_this_state, .ref a_this_backup, .ref a_this_aside, .ref a_this_saved, .ref a_this_isSaved, .int u.2.1, .ref a_this_text, .int u.2.2.1, .int u.2.2.2.1, .int u.2.2.2.2.1, .int u.2.2.2.2.2.1, .int u.2.2.2.2.2.2.1, .int u.2.2.2.2.2.2.2.1, .int u.2.2.2.2.2.2.2.2.1, .int u.2.2.2.2.2.2.2.2.2.1, .long u.2.2.2.2.2.2.2.2.2.2.1, .ref a_this_arrival, .ref a_this_links, .ref a_this_isAvoided, .ref a_this_output, .int c_outputLength, .ref a_this_toSend, .ref a_this_sendTo, .int c_sendCount])), (a_this_state, .inl (k 0, 2888, .inl u.2.2.2.2.2.2.2.2.2.2.2.1)), (a_this_backup, .inl (k 0, 2888, .inl u.2.2.2.2.2.2.2.2.2.2.2.2)), (a_this_text, .inl (k 0, 700, .inl c_text))] u.1 := by
  refine rn_KI.go (LOC := [(0, .ref a_this)]) rfl (by decide) (Nat.le_of_ble_eq_true rfl) rfl ?_
  intro p e s m args below meth c A ls R Q X hR hE hW hl
  have hx := X.1.1
  have hb := X.1.2.1
  unfold fX7_load at hf
  obtain ⟨u0, u1, u2, u3, u4, u5, u6, u7, u8, u9, u10, u11, u12⟩ := u
  dsimp only at hE
  refine lv_aload_n hx hb dX7_load_0 rfl (lv_at hl 0 rfl) ?_
  refine lv_iconst (v := 0) hx hb dX7_load_1 (by decide) ?_
  refine rr_put X hW 0 5 gp_X7_54 rfl rfl rfl (Nat.le_of_ble_eq_true rfl) (ws' := [(a_this, .inr (7, [.ref a_this_state, .ref a_this_backup, .ref a_this_aside, .ref a_this_saved, .ref a_this_isSaved, .int (0 : Int32), .ref a_this_text, .int c_textLength, .int c_position, .int c_tokenStart, .int c_token, .int c_letters, .int c_number, .int c_errorCode, .int c_errorPosition, .long c_word, .ref a_this_arrival, .ref a_this_links, .ref a_this_isAvoided, .ref a_this_output, .int c_outputLength, .ref a_this_toSend, .ref a_this_sendTo, .int c_sendCount])), (a_this_state, .inl (k 0, 2888, .inl c_state)), (a_this_backup, .inl (k 0, 2888, .inl c_backup)), (a_this_text, .inl (k 0, 700, .inl c_text))]) rfl dX7_load_2 (fun H locs hW => ?_)
  refine lv_aload_n hx hb dX7_load_5 rfl (lv_at hl 0 rfl) ?_
  refine rr_get X hW 0 0 gf_X7_7 rfl rfl dX7_load_6 ?_
  refine lv_iconst (v := 0) hx hb dX7_load_9 (by decide) ?_
  refine lv_aload_n hx hb dX7_load_10 rfl (lv_at hl 0 rfl) ?_
  refine rr_get X hW 0 1 gf_X7_13 rfl rfl dX7_load_11 ?_
  refine lv_iconst (v := 0) hx hb dX7_load_14 (by decide) ?_
  obtain ⟨t1, ht1, hf⟩ := rn_bind hf
  refine rr_scalV (As := [.ref a_this_state, .int (0 : Int32), .ref a_this_backup, .int (0 : Int32)]) (rest := []) X hW (kX7_copyAll l D k z N a_this_state a_this_backup 2888 2888 c_state c_backup (0 : Int32) (0 : Int32) ht1) gm_X7_copyAll gl_X7_183 [1, 2] [0, 3] [(a_this, .inr (7, [.ref a_this_state, .ref a_this_backup, .ref a_this_aside, .ref a_this_saved, .ref a_this_isSaved, .int (0 : Int32), .ref a_this_text, .int c_textLength, .int c_position, .int c_tokenStart, .int c_token, .int c_letters, .int c_number, .int c_errorCode, .int c_errorPosition, .long c_word, .ref a_this_arrival, .ref a_this_links, .ref a_this_isAvoided, .ref a_this_output, .int c_outputLength, .ref a_this_toSend, .ref a_this_sendTo, .int c_sendCount])), (a_this_state, .inl (k 0, 2888, .inl c_state)), (a_this_backup, .inl (k 0, 2888, .inl t1)), (a_this_text, .inl (k 0, 700, .inl c_text))] rfl rfl ⟨rfl, rfl, rn_Bw (wr := [(a_this, .inr (7, [.ref a_this_state, .ref a_this_backup, .ref a_this_aside, .ref a_this_saved, .ref a_this_isSaved, .int (0 : Int32), .ref a_this_text, .int c_textLength, .int c_position, .int c_tokenStart, .int c_token, .int c_letters, .int c_number, .int c_errorCode, .int c_errorPosition, .long c_word, .ref a_this_arrival, .ref a_this_links, .ref a_this_isAvoided, .ref a_this_output, .int c_outputLength, .ref a_this_toSend, .ref a_this_sendTo, .int c_sendCount])), (a_this_text, .inl (k 0, 700, .inl c_text))]) rfl rfl, rfl, rfl⟩ (rn_r hR rfl) rn_cs hl.1 rfl (Nat.le_of_ble_eq_true rfl) dX7_load_15 (fun H locs hW => ?_)
  refine lv_aload_n hx hb dX7_load_18 rfl (lv_at hl 0 rfl) ?_
  obtain ⟨t2, ht2, hf⟩ := rn_bind hf
  refine rr_callV (As := []) (rest := []) X hW (kX7_clear l D k z N a_this a_this_state a_this_backup a_this_aside a_this_saved a_this_isSaved a_this_text a_this_arrival a_this_links a_this_isAvoided a_this_output a_this_toSend a_this_sendTo (0 : Int32) c_textLength c_position c_tokenStart c_token c_letters c_number c_errorCode c_errorPosition c_word c_outputLength c_sendCount c_state ht2) gm_X7_clear gl_X7_51 [0, 1] [2, 3] [(a_this, .inr (7, [.ref a_this_state, .ref a_this_backup, .ref a_this_aside, .ref a_this_saved, .ref a_this_isSaved, .int (0 : Int32), .ref a_this_text, .int c_textLength, .int c_position, .int c_tokenStart, .int c_token, .int c_letters, .int c_number, .int c_errorCode, .int c_errorPosition, .long c_word, .ref a_this_arrival, .ref a_this_links, .ref a_this_isAvoided, .ref a_this_output, .int c_outputLength, .ref a_this_toSend, .ref a_this_sendTo, .int c_sendCount])), (a_this_state, .inl (k 0, 2888, .inl t2)), (a_this_backup, .inl (k 0, 2888, .inl t1)), (a_this_text, .inl (k 0, 700, .inl c_text))] rfl rfl rfl rfl ⟨rfl, rfl, rn_Bw (wr := [(a_this_backup, .inl (k 0, 2888, .inl t1)), (a_this_text, .inl (k 0, 700, .inl c_text))]) rfl rfl, rfl, rfl⟩ (rn_r hR rfl) rn_cs hl.1 rfl (Nat.le_of_ble_eq_true rfl) dX7_load_19 (fun H locs hW => ?_)
  refine lv_aload_n hx hb dX7_load_22 rfl (lv_at hl 0 rfl) ?_
  refine lv_iconst (v := 0) hx hb dX7_load_23 (by decide) ?_
  refine rr_put X hW 0 13 gp_X7_116 rfl rfl rfl (Nat.le_of_ble_eq_true rfl) (ws' := [(a_this, .inr (7, [.ref a_this_state, .ref a_this_backup, .ref a_this_aside, .ref a_this_saved, .ref a_this_isSaved, .int (0 : Int32), .ref a_this_text, .int c_textLength, .int c_position, .int c_tokenStart, .int c_token, .int c_letters, .int c_number, .int (0 : Int32), .int c_errorPosition, .long c_word, .ref a_this_arrival, .ref a_this_links, .ref a_this_isAvoided, .ref a_this_output, .int c_outputLength, .ref a_this_toSend, .ref a_this_sendTo, .int c_sendCount])), (a_this_state, .inl (k 0, 2888, .inl t2)), (a_this_backup, .inl (k 0, 2888, .inl t1)), (a_this_text, .inl (k 0, 700, .inl c_text))]) rfl dX7_load_24 (fun H locs hW => ?_)
  refine lv_aload_n hx hb dX7_load_27 rfl (lv_at hl 0 rfl) ?_
  refine lv_iconst (v := -1) hx hb dX7_load_28 (by decide) ?_
  refine rr_put X hW 0 14 gp_X7_29 rfl rfl rfl (Nat.le_of_ble_eq_true rfl) (ws' := [(a_this, .inr (7, [.ref a_this_state, .ref a_this_backup, .ref a_this_aside, .ref a_this_saved, .ref a_this_isSaved, .int (0 : Int32), .ref a_this_text, .int c_textLength, .int c_position, .int c_tokenStart, .int c_token, .int c_letters, .int c_number, .int (0 : Int32), .int (-1 : Int32), .long c_word, .ref a_this_arrival, .ref a_this_links, .ref a_this_isAvoided, .ref a_this_output, .int c_outputLength, .ref a_this_toSend, .ref a_this_sendTo, .int c_sendCount])), (a_this_state, .inl (k 0, 2888, .inl t2)), (a_this_backup, .inl (k 0, 2888, .inl t1)), (a_this_text, .inl (k 0, 700, .inl c_text))]) rfl dX7_load_29 (fun H locs hW => ?_)
  refine lv_aload_n hx hb dX7_load_32 rfl (lv_at hl 0 rfl) ?_
  refine lv_iconst (v := 0) hx hb dX7_load_33 (by decide) ?_
  refine rr_put X hW 0 8 gp_X7_72 rfl rfl rfl (Nat.le_of_ble_eq_true rfl) (ws' := [(a_this, .inr (7, [.ref a_this_state, .ref a_this_backup, .ref a_this_aside, .ref a_this_saved, .ref a_this_isSaved, .int (0 : Int32), .ref a_this_text, .int c_textLength, .int (0 : Int32), .int c_tokenStart, .int c_token, .int c_letters, .int c_number, .int (0 : Int32), .int (-1 : Int32), .long c_word, .ref a_this_arrival, .ref a_this_links, .ref a_this_isAvoided, .ref a_this_output, .int c_outputLength, .ref a_this_toSend, .ref a_this_sendTo, .int c_sendCount])), (a_this_state, .inl (k 0, 2888, .inl t2)), (a_this_backup, .inl (k 0, 2888, .inl t1)), (a_this_text, .inl (k 0, 700, .inl c_text))]) rfl dX7_load_34 (fun H locs hW => ?_)
  refine lv_aload_n hx hb dX7_load_37 rfl (lv_at hl 0 rfl) ?_
  obtain ⟨t3, ht3, hf⟩ := rn_bind hf
  refine rr_callV (As := []) (rest := []) X hW (kX7_nextToken l D k z N a_this a_this_state a_this_backup a_this_aside a_this_saved a_this_isSaved a_this_text a_this_arrival a_this_links a_this_isAvoided a_this_output a_this_toSend a_this_sendTo (0 : Int32) c_textLength (0 : Int32) c_tokenStart c_token c_letters c_number (0 : Int32) (-1 : Int32) c_word c_outputLength c_sendCount c_text ht3) gm_X7_nextToken gl_X7_123 [0, 3] [1, 2] [(a_this, .inr (7, [.ref a_this_state, .ref a_this_backup, .ref a_this_aside, .ref a_this_saved, .ref a_this_isSaved, .int (0 : Int32), .ref a_this_text, .int c_textLength, .int t3.1, .int t3.2.1, .int t3.2.2.1, .int t3.2.2.2.1, .int t3.2.2.2.2.1, .int (0 : Int32), .int (-1 : Int32), .long t3.2.2.2.2.2, .ref a_this_arrival, .ref a_this_links, .ref a_this_isAvoided, .ref a_this_output, .int c_outputLength, .ref a_this_toSend, .ref a_this_sendTo, .int c_sendCount])), (a_this_state, .inl (k 0, 2888, .inl t2)), (a_this_backup, .inl (k 0, 2888, .inl t1)), (a_this_text, .inl (k 0, 700, .inl c_text))] rfl rfl rfl rfl ⟨rfl, rfl, rn_Bw (wr := [(a_this_state, .inl (k 0, 2888, .inl t2)), (a_this_backup, .inl (k 0, 2888, .inl t1))]) rfl rfl, rfl, rfl⟩ (rn_r hR rfl) rn_cs hl.1 rfl (Nat.le_of_ble_eq_true rfl) dX7_load_38 (fun H locs hW => ?_)
  refine lv_iconst (v := 0) hx hb dX7_load_41 (by decide) ?_
  refine lv_istore_n (lv' := [(1, .int (0 : Int32)), (0, .ref a_this)]) hx hb dX7_load_42 rfl hl (Nat.le_of_ble_eq_true rfl) rfl (fun ls hl => ?_)
  obtain ⟨t4, ht4, hf⟩ := rn_bind hf
  have kk_43 : ∀ (H : Heap) (locs : List Loc) (ls : Array Slot), rn_W D A s [(a_this, .inr (7, [.ref a_this_state, .ref a_this_backup, .ref a_this_aside, .ref a_this_saved, .ref a_this_isSaved, .int (0 : Int32), .ref a_this_text, .int c_textLength, .int t4.2.1, .int t4.2.2.1, .int t4.2.2.2.1, .int t4.2.2.2.2.1, .int t4.2.2.2.2.2.1, .int t4.2.2.2.2.2.2.1, .int t4.2.2.2.2.2.2.2.1, .long t4.2.2.2.2.2.2.2.2.1, .ref a_this_arrival, .ref a_this_links, .ref a_this_isAvoided, .ref a_this_output, .int c_outputLength, .ref a_this_toSend, .ref a_this_sendTo, .int c_sendCount])), (a_this_state, .inl (k 0, 2888, .inl t4.2.2.2.2.2.2.2.2.2)), (a_this_backup, .inl (k 0, 2888, .inl t1)), (a_this_text, .inl (k 0, 700, .inl c_text))] H locs → lv_has ls 2 [(0, .ref a_this), (1, .int t4.1)] → W p l e R s m args below meth c H locs 0 0 Q (F0 m 67 ls []) := by
    intro H locs ls hW hl
    refine lv_aload_n hx hb dX7_load_67 rfl (lv_at hl 0 rfl) ?_
    refine lv_iconst (v := 0) hx hb dX7_load_68 (by decide) ?_
    refine rr_put X hW 0 7 gp_X7_65 rfl rfl rfl (Nat.le_of_ble_eq_true rfl) (ws' := [(a_this, .inr (7, [.ref a_this_state, .ref a_this_backup, .ref a_this_aside, .ref a_this_saved, .ref a_this_isSaved, .int (0 : Int32), .ref a_this_text, .int (0 : Int32), .int t4.2.1, .int t4.2.2.1, .int t4.2.2.2.1, .int t4.2.2.2.2.1, .int t4.2.2.2.2.2.1, .int t4.2.2.2.2.2.2.1, .int t4.2.2.2.2.2.2.2.1, .long t4.2.2.2.2.2.2.2.2.1, .ref a_this_arrival, .ref a_this_links, .ref a_this_isAvoided, .ref a_this_output, .int c_outputLength, .ref a_this_toSend, .ref a_this_sendTo, .int c_sendCount])), (a_this_state, .inl (k 0, 2888, .inl t4.2.2.2.2.2.2.2.2.2)), (a_this_backup, .inl (k 0, 2888, .inl t1)), (a_this_text, .inl (k 0, 700, .inl c_text))]) rfl dX7_load_69 (fun H locs hW => ?_)
    refine lv_aload_n hx hb dX7_load_72 rfl (lv_at hl 0 rfl) ?_
    obtain ⟨t9, ht9, hf⟩ := rn_bind hf
    refine rr_callI (As := []) (rest := []) X hW (kX7_isFine l D k z a_this a_this_state a_this_backup a_this_aside a_this_saved a_this_isSaved a_this_text a_this_arrival a_this_links a_this_isAvoided a_this_output a_this_toSend a_this_sendTo (0 : Int32) (0 : Int32) t4.2.1 t4.2.2.1 t4.2.2.2.1 t4.2.2.2.2.1 t4.2.2.2.2.2.1 t4.2.2.2.2.2.2.1 t4.2.2.2.2.2.2.2.1 t4.2.2.2.2.2.2.2.2.1 c_outputLength c_sendCount ht9) gm_X7_isFine gl_X7_119 [0] [1, 2, 3] [(a_this, .inr (7, [.ref a_this_state, .ref a_this_backup, .ref a_this_aside, .ref a_this_saved, .ref a_this_isSaved, .int (0 : Int32), .ref a_this_text, .int (0 : Int32), .int t4.2.1, .int t4.2.2.1, .int t4.2.2.2.1, .int t4.2.2.2.2.1, .int t4.2.2.2.2.2.1, .int t4.2.2.2.2.2.2.1, .int t4.2.2.2.2.2.2.2.1, .long t4.2.2.2.2.2.2.2.2.1, .ref a_this_arrival, .ref a_this_links, .ref a_this_isAvoided, .ref a_this_output, .int c_outputLength, .ref a_this_toSend, .ref a_this_sendTo, .int c_sendCount])), (a_this_state, .inl (k 0, 2888, .inl t4.2.2.2.2.2.2.2.2.2)), (a_this_backup, .inl (k 0, 2888, .inl t1)), (a_this_text, .inl (k 0, 700, .inl c_text))] rfl rfl rfl rfl ⟨rfl, rfl, rn_Bw (wr := [(a_this_state, .inl (k 0, 2888, .inl t4.2.2.2.2.2.2.2.2.2)), (a_this_backup, .inl (k 0, 2888, .inl t1)), (a_this_text, .inl (k 0, 700, .inl c_text))]) rfl rfl, rfl, rfl⟩ (rn_r hR rfl) rn_cs hl.1 rfl (Nat.le_of_ble_eq_true rfl) dX7_load_73 (fun hn9 H locs hW => ?_)
    refine lv_if_ne (tgt := 94) hx hb dX7_load_76 (by decide) (fun hc10 => ?_) (fun hc10 => ?_)
    · replace hf := rn_f hf hc10
      refine lv_iload_n hx hb dX7_load_94 rfl (lv_at hl 1 rfl) ?_
      cases hf
      exact hE _ _ _ _ hW rfl dX7_load_95
    · replace hf := rn_t hf hc10
      refine lv_aload_n hx hb dX7_load_79 rfl (lv_at hl 0 rfl) ?_
      refine rr_get X hW 0 1 gf_X7_13 rfl rfl dX7_load_80 ?_
      refine lv_iconst (v := 0) hx hb dX7_load_83 (by decide) ?_
      refine lv_aload_n hx hb dX7_load_84 rfl (lv_at hl 0 rfl) ?_
      refine rr_get X hW 0 0 gf_X7_7 rfl rfl dX7_load_85 ?_
      refine lv_iconst (v := 0) hx hb dX7_load_88 (by decide) ?_
      obtain ⟨t11, ht11, hf⟩ := rn_bind hf
      refine rr_scalV (As := [.ref a_this_backup, .int (0 : Int32), .ref a_this_state, .int (0 : Int32)]) (rest := []) X hW (kX7_copyAll l D k z N a_this_backup a_this_state 2888 2888 t1 t4.2.2.2.2.2.2.2.2.2 (0 : Int32) (0 : Int32) ht11) gm_X7_copyAll gl_X7_183 [2, 1] [0, 3] [(a_this, .inr (7, [.ref a_this_state, .ref a_this_backup, .ref a_this_aside, .ref a_this_saved, .ref a_this_isSaved, .int (0 : Int32), .ref a_this_text, .int (0 : Int32), .int t4.2.1, .int t4.2.2.1, .int t4.2.2.2.1, .int t4.2.2.2.2.1, .int t4.2.2.2.2.2.1, .int t4.2.2.2.2.2.2.1, .int t4.2.2.2.2.2.2.2.1, .long t4.2.2.2.2.2.2.2.2.1, .ref a_this_arrival, .ref a_this_links, .ref a_this_isAvoided, .ref a_this_output, .int c_outputLength, .ref a_this_toSend, .ref a_this_sendTo, .int c_sendCount])), (a_this_state, .inl (k 0, 2888, .inl t11)), (a_this_backup, .inl (k 0, 2888, .inl t1)), (a_this_text, .inl (k 0, 700, .inl c_text))] rfl rfl ⟨rfl, rfl, rn_Bw (wr := [(a_this, .inr (7, [.ref a_this_state, .ref a_this_backup, .ref a_this_aside, .ref a_this_saved, .ref a_this_isSaved, .int (0 : Int32), .ref a_this_text, .int (0 : Int32), .int t4.2.1, .int t4.2.2.1, .int t4.2.2.2.1, .int t4.2.2.2.2.1, .int t4.2.2.2.2.2.1, .int t4.2.2.2.2.2.2.1, .int t4.2.2.2.2.2.2.2.1, .long t4.2.2.2.2.2.2.2.2.1, .ref a_this_arrival, .ref a_this_links, .ref a_this_isAvoided, .ref a_this_output, .int c_outputLength, .ref a_this_toSend, .ref a_this_sendTo, .int c_sendCount])), (a_this_text, .inl (k 0, 700, .inl c_text))]) rfl rfl, rfl, rfl⟩ (rn_r hR rfl) rn_cs hl.1 rfl (Nat.le_of_ble_eq_true rfl) dX7_load_89 (fun H locs hW => ?_)
      refine lv_iconst (v := -1) hx hb dX7_load_92 (by decide) ?_
      cases hf
      exact hE _ _ _ _ hW rfl dX7_load_93
  clear hf
  have lp_43 : ∀ (n : Nat) (x1_43 : Int32) (y_position_43 : Int32) (y_tokenStart_43 : Int32) (y_token_43 : Int32) (y_letters_43 : Int32) (y_number_43 : Int32) (y_errorCode_43 : Int32) (y_errorPosition_43 : Int32) (y_word_43 : Int64) (y_state_43 : Nat → Int32) (H : Heap) (locs : List Loc) (ls : Array Slot), lX7_load_43 N c_textLength c_text n x1_43 y_position_43 y_tokenStart_43 y_token_43 y_letters_43 y_number_43 y_errorCode_43 y_errorPosition_43 y_word_43 y_state_43 = some t4 → rn_W D A s [(a_this, .inr (7, [.ref a_this_state, .ref a_this_backup, .ref a_this_aside, .ref a_this_saved, .ref a_this_isSaved, .int (0 : Int32), .ref a_this_text, .int c_textLength, .int y_position_43, .int y_tokenStart_43, .int y_token_43, .int y_letters_43, .int y_number_43, .int y_errorCode_43, .int y_errorPosition_43, .long y_word_43, .ref a_this_arrival, .ref a_this_links, .ref a_this_isAvoided, .ref a_this_output, .int c_outputLength, .ref a_this_toSend, .ref a_this_sendTo, .int c_sendCount])), (a_this_state, .inl (k 0, 2888, .inl y_state_43)), (a_this_backup, .inl (k 0, 2888, .inl t1)), (a_this_text, .inl (k 0, 700, .inl c_text))] H locs → lv_has ls 2 [(0, .ref a_this), (1, .int x1_43)] → W p l e R s m args below meth c H locs 0 0 Q (F0 m 43 ls []) := by
    intro n
    induction n with
    | zero => intro x1_43 y_position_43 y_tokenStart_43 y_token_43 y_letters_43 y_number_43 y_errorCode_43 y_errorPosition_43 y_word_43 y_state_43 H locs ls hf; exact absurd hf (by rw [lX7_load_43]; exact fun h => nomatch h)
    | succ n ih_43 =>
      intro x1_43 y_position_43 y_tokenStart_43 y_token_43 y_letters_43 y_number_43 y_errorCode_43 y_errorPosition_43 y_word_43 y_state_43 H locs ls hf hW hl
      rw [lX7_load_43] at hf
      refine lv_aload_n hx hb dX7_load_43 rfl (lv_at hl 0 rfl) ?_
      obtain ⟨t5, ht5, hf⟩ := rn_bind hf
      refine rr_callI (As := []) (rest := []) X hW (kX7_isFine l D k z a_this a_this_state a_this_backup a_this_aside a_this_saved a_this_isSaved a_this_text a_this_arrival a_this_links a_this_isAvoided a_this_output a_this_toSend a_this_sendTo (0 : Int32) c_textLength y_position_43 y_tokenStart_43 y_token_43 y_letters_43 y_number_43 y_errorCode_43 y_errorPosition_43 y_word_43 c_outputLength c_sendCount ht5) gm_X7_isFine gl_X7_119 [0] [1, 2, 3] [(a_this, .inr (7, [.ref a_this_state, .ref a_this_backup, .ref a_this_aside, .ref a_this_saved, .ref a_this_isSaved, .int (0 : Int32), .ref a_this_text, .int c_textLength, .int y_position_43, .int y_tokenStart_43, .int y_token_43, .int y_letters_43, .int y_number_43, .int y_errorCode_43, .int y_errorPosition_43, .long y_word_43, .ref a_this_arrival, .ref a_this_links, .ref a_this_isAvoided, .ref a_this_output, .int c_outputLength, .ref a_this_toSend, .ref a_this_sendTo, .int c_sendCount])), (a_this_state, .inl (k 0, 2888, .inl y_state_43)), (a_this_backup, .inl (k 0, 2888, .inl t1)), (a_this_text, .inl (k 0, 700, .inl c_text))] rfl rfl rfl rfl ⟨rfl, rfl, rn_Bw (wr := [(a_this_state, .inl (k 0, 2888, .inl y_state_43)), (a_this_backup, .inl (k 0, 2888, .inl t1)), (a_this_text, .inl (k 0, 700, .inl c_text))]) rfl rfl, rfl, rfl⟩ (rn_r hR rfl) rn_cs hl.1 rfl (Nat.le_of_ble_eq_true rfl) dX7_load_44 (fun hn5 H locs hW => ?_)
      refine lv_if_eq (tgt := 67) hx hb dX7_load_47 (by decide) (fun hc6 => ?_) (fun hc6 => ?_)
      · replace hf := rn_t hf hc6
        cases hf
        exact kk_43 _ _ _ hW (lv_sub hl [0, 1] rfl)
      · replace hf := rn_f hf hc6
        refine lv_aload_n hx hb dX7_load_50 rfl (lv_at hl 0 rfl) ?_
        refine rr_get X hW 0 10 gf_X7_91 rfl rfl dX7_load_51 ?_
        refine lv_if_eq (tgt := 67) hx hb dX7_load_54 (by decide) (fun hc7 => ?_) (fun hc7 => ?_)
        · replace hf := rn_t hf hc7
          cases hf
          exact kk_43 _ _ _ hW (lv_sub hl [0, 1] rfl)
        · replace hf := rn_f hf hc7
          refine lv_aload_n hx hb dX7_load_57 rfl (lv_at hl 0 rfl) ?_
          obtain ⟨t8, ht8, hf⟩ := rn_bind hf
          refine rr_callV (As := []) (rest := []) X hW (kX7_parseStatement l D k z N a_this a_this_state a_this_backup a_this_aside a_this_saved a_this_isSaved a_this_text a_this_arrival a_this_links a_this_isAvoided a_this_output a_this_toSend a_this_sendTo (0 : Int32) c_textLength y_position_43 y_tokenStart_43 y_token_43 y_letters_43 y_number_43 y_errorCode_43 y_errorPosition_43 y_word_43 c_outputLength c_sendCount y_state_43 c_text ht8) gm_X7_parseStatement gl_X7_187 [0, 1, 3] [2] [(a_this, .inr (7, [.ref a_this_state, .ref a_this_backup, .ref a_this_aside, .ref a_this_saved, .ref a_this_isSaved, .int (0 : Int32), .ref a_this_text, .int c_textLength, .int t8.1, .int t8.2.1, .int t8.2.2.1, .int t8.2.2.2.1, .int t8.2.2.2.2.1, .int t8.2.2.2.2.2.1, .int t8.2.2.2.2.2.2.1, .long t8.2.2.2.2.2.2.2.1, .ref a_this_arrival, .ref a_this_links, .ref a_this_isAvoided, .ref a_this_output, .int c_outputLength, .ref a_this_toSend, .ref a_this_sendTo, .int c_sendCount])), (a_this_state, .inl (k 0, 2888, .inl t8.2.2.2.2.2.2.2.2)), (a_this_backup, .inl (k 0, 2888, .inl t1)), (a_this_text, .inl (k 0, 700, .inl c_text))] rfl rfl rfl rfl ⟨rfl, rfl, rn_Bw (wr := [(a_this_backup, .inl (k 0, 2888, .inl t1))]) rfl rfl, rfl, rfl⟩ (rn_r hR rfl) rn_cs hl.1 rfl (Nat.le_of_ble_eq_true rfl) dX7_load_58 (fun H locs hW => ?_)
          refine lv_iinc (v := (x1_43 + (1 : Int32))) (lv' := [(1, .int (x1_43 + (1 : Int32))), (0, .ref a_this)]) hx hb dX7_load_61 hl (k := 1) rfl (congrArg (fun q => _ + q) (by decide)) (Nat.le_of_ble_eq_true rfl) rfl (fun ls hl => ?_)
          refine lv_goto (tgt := 43) hx hb dX7_load_64 (by decide) ?_
          exact ih_43 (x1_43 + (1 : Int32)) t8.1 t8.2.1 t8.2.2.1 t8.2.2.2.1 t8.2.2.2.2.1 t8.2.2.2.2.2.1 t8.2.2.2.2.2.2.1 t8.2.2.2.2.2.2.2.1 t8.2.2.2.2.2.2.2.2 _ _ _ hf hW (lv_sub hl [1, 0] rfl)
  exact lp_43 N (0 : Int32) t3.1 t3.2.1 t3.2.2.1 t3.2.2.2.1 t3.2.2.2.2.1 (0 : Int32) (-1 : Int32) t3.2.2.2.2.2 t2 _ _ _ ht4 hW (lv_sub hl [1, 0] rfl)
def lX7_putWord_2 (w_p1 : List Int32) : Nat → Int32 → Int32 → (Nat → Int32) → Option (Int32 × (Nat → Int32))
  | 0, _, _, _ => none
  | n+1, x2_2, y_outputLength_2, y_output_2 =>
    if (Int32.ofNat w_p1.length) ≤ x2_2 then
      some (y_outputLength_2, y_output_2)
    else
    rn_g x2_2 w_p1.length <|
    (fX7_put y_outputLength_2 y_output_2 (w_p1.getD x2_2.toNatClampNeg 0)).bind fun t4 =>
    lX7_putWord_2 w_p1 n (x2_2 + (1 : Int32)) t4.1 t4.2
def fX7_putWord (N : Nat) (c_outputLength : Int32) (c_output : Nat → Int32) (w_p1 : List Int32) : Option (Int32 × (Nat → Int32)) :=
  (lX7_putWord_2 w_p1 N (0 : Int32) c_outputLength c_output).bind fun t1 =>
  some (t1.1, t1.2)
set_option maxHeartbeats 4000000 in
set_option maxRecDepth 20000 in
theorem kX7_putWord (l : Launch) (D : va_G) (k : Nat → ClassId) (z : (Nat → Nat) × (Nat → Nat)) (N : Nat) (a_this : Nat) (a_this_state : Nat) (a_this_backup : Nat) (a_this_aside : Nat) (a_this_saved : Nat) (a_this_isSaved : Nat) (a_this_text : Nat) (a_this_arrival : Nat) (a_this_links : Nat) (a_this_isAvoided : Nat) (a_this_output : Nat) (a_this_toSend : Nat) (a_this_sendTo : Nat) (c_thrown : Int32) (c_textLength : Int32) (c_position : Int32) (c_tokenStart : Int32) (c_token : Int32) (c_letters : Int32) (c_number : Int32) (c_errorCode : Int32) (c_errorPosition : Int32) (c_word : Int64) (c_outputLength : Int32) (c_sendCount : Int32) (c_output : Nat → Int32) (s_p1 : Nat) (w_p1 : List Int32) (hs_p1 : rn_sw s_p1 w_p1) {u : Int32 × (Nat → Int32)} (hf : fX7_putWord N c_outputLength c_output w_p1 = some u) : rn_KV l D k z yX7_putWord cX7_putWord 3 4 85 [.ref a_this, .ref (z.1 s_p1)] [(a_this, .inr (7, [.ref a_this_state, .ref a_this_backup, .ref a_this_aside, .ref a_this_saved, .ref a_this_isSaved, .int c_thrown, .ref a_this_text, .int c_textLength, .int c_position, .int c_tokenStart, .int c_token, .int c_letters, .int c_number, .int c_errorCode, .int c_errorPosition, .long c_word, .ref a_this_arrival, .ref a_this_links, .ref a_this_isAvoided, .ref a_this_output, .int c_outputLength, .ref a_this_toSend, .ref a_this_sendTo, .int c_sendCount])), (a_this_output, .inl (k 0, 60, .inl c_output))] [(a_this, .inr (7, [.ref a_this_state, .ref a_this_backup, .ref a_this_aside, .ref a_this_saved, .ref a_this_isSaved, .int c_thrown, .ref a_this_text, .int c_textLength, .int c_position, .int c_tokenStart, .int c_token, .int c_letters, .int c_number, .int c_errorCode, .int c_errorPosition, .long c_word, .ref a_this_arrival, .ref a_this_links, .ref a_this_isAvoided, .ref a_this_output, .int u.1, .ref a_this_toSend, .ref a_this_sendTo, .int c_sendCount])), (a_this_output, .inl (k 0, 60, .inl u.2))] := by
  refine rn_KV.go (LOC := [(0, .ref a_this), (1, .ref (z.1 s_p1))]) rfl (by decide) (Nat.le_of_ble_eq_true rfl) rfl ?_
  intro p e s m args below meth c A ls R Q X hR hE hW hl
  have hx := X.1.1
  have hb := X.1.2.1
  unfold fX7_putWord at hf
  refine lv_iconst (v := 0) hx hb dX7_putWord_0 (by decide) ?_
  refine lv_istore_n (lv' := [(2, .int (0 : Int32)), (0, .ref a_this), (1, .ref (z.1 s_p1))]) hx hb dX7_putWord_1 rfl hl (Nat.le_of_ble_eq_true rfl) rfl (fun ls hl => ?_)
  obtain ⟨t1, ht1, hf⟩ := rn_bind hf
  have kk_2 : ∀ (H : Heap) (locs : List Loc) (ls : Array Slot), rn_W D A s [(a_this, .inr (7, [.ref a_this_state, .ref a_this_backup, .ref a_this_aside, .ref a_this_saved, .ref a_this_isSaved, .int c_thrown, .ref a_this_text, .int c_textLength, .int c_position, .int c_tokenStart, .int c_token, .int c_letters, .int c_number, .int c_errorCode, .int c_errorPosition, .long c_word, .ref a_this_arrival, .ref a_this_links, .ref a_this_isAvoided, .ref a_this_output, .int t1.1, .ref a_this_toSend, .ref a_this_sendTo, .int c_sendCount])), (a_this_output, .inl (k 0, 60, .inl t1.2))] H locs → lv_has ls 3 [] → W p l e R s m args below meth c H locs 0 0 Q (F0 m 25 ls []) := by
    intro H locs ls hW hl
    cases hf
    exact hE _ _ _ _ hW dX7_putWord_25
  clear hf
  have lp_2 : ∀ (n : Nat) (x2_2 : Int32) (y_outputLength_2 : Int32) (y_output_2 : Nat → Int32) (H : Heap) (locs : List Loc) (ls : Array Slot), lX7_putWord_2 w_p1 n x2_2 y_outputLength_2 y_output_2 = some t1 → rn_W D A s [(a_this, .inr (7, [.ref a_this_state, .ref a_this_backup, .ref a_this_aside, .ref a_this_saved, .ref a_this_isSaved, .int c_thrown, .ref a_this_text, .int c_textLength, .int c_position, .int c_tokenStart, .int c_token, .int c_letters, .int c_number, .int c_errorCode, .int c_errorPosition, .long c_word, .ref a_this_arrival, .ref a_this_links, .ref a_this_isAvoided, .ref a_this_output, .int y_outputLength_2, .ref a_this_toSend, .ref a_this_sendTo, .int c_sendCount])), (a_this_output, .inl (k 0, 60, .inl y_output_2))] H locs → lv_has ls 3 [(0, .ref a_this), (1, .ref (z.1 s_p1)), (2, .int x2_2)] → W p l e R s m args below meth c H locs 0 0 Q (F0 m 2 ls []) := by
    intro n
    induction n with
    | zero => intro x2_2 y_outputLength_2 y_output_2 H locs ls hf; exact absurd hf (by rw [lX7_putWord_2]; exact fun h => nomatch h)
    | succ n ih_2 =>
      intro x2_2 y_outputLength_2 y_output_2 H locs ls hf hW hl
      rw [lX7_putWord_2] at hf
      refine lv_iload_n hx hb dX7_putWord_2 rfl (lv_at hl 2 rfl) ?_
      refine lv_aload_n hx hb dX7_putWord_3 rfl (lv_at hl 1 rfl) ?_
      refine rr_slen X hW (j := s_p1) hs_p1 gl_X7_106 (rn_r hR rfl) hl.1 (Nat.le_of_ble_eq_true rfl) dX7_putWord_4 (fun H locs hW => ?_)
      refine lv_icmp_ge (tgt := 25) hx hb dX7_putWord_7 (by decide) (fun hc2 => ?_) (fun hc2 => ?_)
      · replace hf := rn_t hf hc2
        cases hf
        exact kk_2 _ _ _ hW (lv_sub hl [] rfl)
      · replace hf := rn_f hf hc2
        refine lv_aload_n hx hb dX7_putWord_10 rfl (lv_at hl 0 rfl) ?_
        refine lv_aload_n hx hb dX7_putWord_11 rfl (lv_at hl 1 rfl) ?_
        refine lv_iload_n hx hb dX7_putWord_12 rfl (lv_at hl 2 rfl) ?_
        obtain ⟨hg3, hf⟩ := rn_g_s hf
        refine rr_sat X hW (j := s_p1) hs_p1 hg3 gl_X7_112 (rn_r hR rfl) hl.1 (Nat.le_of_ble_eq_true rfl) dX7_putWord_13 (fun H locs hW => ?_)
        obtain ⟨t4, ht4, hf⟩ := rn_bind hf
        refine rr_callV (As := [.int (w_p1.getD x2_2.toNatClampNeg 0)]) (rest := []) X hW (kX7_put l D k z a_this a_this_state a_this_backup a_this_aside a_this_saved a_this_isSaved a_this_text a_this_arrival a_this_links a_this_isAvoided a_this_output a_this_toSend a_this_sendTo c_thrown c_textLength c_position c_tokenStart c_token c_letters c_number c_errorCode c_errorPosition c_word y_outputLength_2 c_sendCount y_output_2 (w_p1.getD x2_2.toNatClampNeg 0) ht4) gm_X7_put gl_X7_273 [0, 1] [] [(a_this, .inr (7, [.ref a_this_state, .ref a_this_backup, .ref a_this_aside, .ref a_this_saved, .ref a_this_isSaved, .int c_thrown, .ref a_this_text, .int c_textLength, .int c_position, .int c_tokenStart, .int c_token, .int c_letters, .int c_number, .int c_errorCode, .int c_errorPosition, .long c_word, .ref a_this_arrival, .ref a_this_links, .ref a_this_isAvoided, .ref a_this_output, .int t4.1, .ref a_this_toSend, .ref a_this_sendTo, .int c_sendCount])), (a_this_output, .inl (k 0, 60, .inl t4.2))] rfl rfl rfl rfl ⟨rfl, rfl, rfl, rfl, rfl⟩ (rn_r hR rfl) rn_cs hl.1 rfl (Nat.le_of_ble_eq_true rfl) dX7_putWord_16 (fun H locs hW => ?_)
        refine lv_iinc (v := (x2_2 + (1 : Int32))) (lv' := [(2, .int (x2_2 + (1 : Int32))), (0, .ref a_this), (1, .ref (z.1 s_p1))]) hx hb dX7_putWord_19 hl (k := 2) rfl (congrArg (fun q => _ + q) (by decide)) (Nat.le_of_ble_eq_true rfl) rfl (fun ls hl => ?_)
        refine lv_goto (tgt := 2) hx hb dX7_putWord_22 (by decide) ?_
        exact ih_2 (x2_2 + (1 : Int32)) t4.1 t4.2 _ _ _ hf hW (lv_sub hl [1, 2, 0] rfl)
  exact lp_2 N (0 : Int32) c_outputLength c_output _ _ _ ht1 hW (lv_sub hl [1, 2, 0] rfl)
def fX7_putKind (N : Nat) (c_outputLength : Int32) (c_output : Nat → Int32) (i1 : Int32) : Option (Int32 × (Nat → Int32)) :=
  if i1 = (0 : Int32) then
    (fX7_putWord N c_outputLength c_output ([98, 111, 114, 110])).bind fun t2 =>
    some (t2.1, t2.2)
  else
  if i1 = (1 : Int32) then
    (fX7_putWord N c_outputLength c_output ([112, 97, 115, 115, 101, 100])).bind fun t4 =>
    some (t4.1, t4.2)
  else
  if i1 = (2 : Int32) then
    (fX7_putWord N c_outputLength c_output ([108, 111, 115, 116])).bind fun t6 =>
    some (t6.1, t6.2)
  else
  if i1 = (3 : Int32) then
    (fX7_putWord N c_outputLength c_output ([117, 110, 115, 117, 114, 101])).bind fun t8 =>
    some (t8.1, t8.2)
  else
  if i1 = (4 : Int32) then
    (fX7_putWord N c_outputLength c_output ([100, 111, 117, 98, 108, 101])).bind fun t10 =>
    some (t10.1, t10.2)
  else
  if i1 = (5 : Int32) then
    (fX7_putWord N c_outputLength c_output ([100, 101, 108, 105, 118, 101, 114, 101, 100])).bind fun t12 =>
    some (t12.1, t12.2)
  else
  if i1 = (6 : Int32) then
    (fX7_putWord N c_outputLength c_output ([115, 116, 111, 112, 112, 101, 100])).bind fun t14 =>
    some (t14.1, t14.2)
  else
  if i1 = (7 : Int32) then
    (fX7_putWord N c_outputLength c_output ([101, 120, 112, 105, 114, 101, 100])).bind fun t16 =>
    some (t16.1, t16.2)
  else
  (fX7_putWord N c_outputLength c_output ([98, 97, 99, 107])).bind fun t17 =>
  some (t17.1, t17.2)
set_option maxHeartbeats 4000000 in
set_option maxRecDepth 20000 in
theorem kX7_putKind (l : Launch) (D : va_G) (k : Nat → ClassId) (z : (Nat → Nat) × (Nat → Nat)) (N : Nat) (a_this : Nat) (a_this_state : Nat) (a_this_backup : Nat) (a_this_aside : Nat) (a_this_saved : Nat) (a_this_isSaved : Nat) (a_this_text : Nat) (a_this_arrival : Nat) (a_this_links : Nat) (a_this_isAvoided : Nat) (a_this_output : Nat) (a_this_toSend : Nat) (a_this_sendTo : Nat) (c_thrown : Int32) (c_textLength : Int32) (c_position : Int32) (c_tokenStart : Int32) (c_token : Int32) (c_letters : Int32) (c_number : Int32) (c_errorCode : Int32) (c_errorPosition : Int32) (c_word : Int64) (c_outputLength : Int32) (c_sendCount : Int32) (c_output : Nat → Int32) (i1 : Int32) {u : Int32 × (Nat → Int32)} (hf : fX7_putKind N c_outputLength c_output i1 = some u) : rn_KV l D k z yX7_putKind cX7_putKind 2 5 107 [.ref a_this, .int i1] [(a_this, .inr (7, [.ref a_this_state, .ref a_this_backup, .ref a_this_aside, .ref a_this_saved, .ref a_this_isSaved, .int c_thrown, .ref a_this_text, .int c_textLength, .int c_position, .int c_tokenStart, .int c_token, .int c_letters, .int c_number, .int c_errorCode, .int c_errorPosition, .long c_word, .ref a_this_arrival, .ref a_this_links, .ref a_this_isAvoided, .ref a_this_output, .int c_outputLength, .ref a_this_toSend, .ref a_this_sendTo, .int c_sendCount])), (a_this_output, .inl (k 0, 60, .inl c_output))] [(a_this, .inr (7, [.ref a_this_state, .ref a_this_backup, .ref a_this_aside, .ref a_this_saved, .ref a_this_isSaved, .int c_thrown, .ref a_this_text, .int c_textLength, .int c_position, .int c_tokenStart, .int c_token, .int c_letters, .int c_number, .int c_errorCode, .int c_errorPosition, .long c_word, .ref a_this_arrival, .ref a_this_links, .ref a_this_isAvoided, .ref a_this_output, .int u.1, .ref a_this_toSend, .ref a_this_sendTo, .int c_sendCount])), (a_this_output, .inl (k 0, 60, .inl u.2))] := by
  refine rn_KV.go (LOC := [(0, .ref a_this), (1, .int i1)]) rfl (by decide) (Nat.le_of_ble_eq_true rfl) rfl ?_
  intro p e s m args below meth c A ls R Q X hR hE hW hl
  have hx := X.1.1
  have hb := X.1.2.1
  unfold fX7_putKind at hf
  refine lv_iload_n hx hb dX7_putKind_0 rfl (lv_at hl 1 rfl) ?_
  by_cases hc1 : i1 = (0 : Int32)
  · replace hf := rn_t hf hc1
    refine lv_tableIn (off := 47) (tgt := 48) hx hb dX7_putKind_1 (by rw [hc1]; decide) (by rw [hc1]; decide) (by rw [hc1]; rfl) (by decide) ?_
    refine lv_aload_n hx hb dX7_putKind_48 rfl (lv_at hl 0 rfl) ?_
    refine rr_ldSW X (j := 50) rfl dX7_putKind_49 ?_
    obtain ⟨t2, ht2, hf⟩ := rn_bind hf
    refine rr_callV (As := [.ref (z.1 50)]) (rest := []) X hW (kX7_putWord l D k z N a_this a_this_state a_this_backup a_this_aside a_this_saved a_this_isSaved a_this_text a_this_arrival a_this_links a_this_isAvoided a_this_output a_this_toSend a_this_sendTo c_thrown c_textLength c_position c_tokenStart c_token c_letters c_number c_errorCode c_errorPosition c_word c_outputLength c_sendCount c_output 50 [98, 111, 114, 110] ⟨_, rfl, rfl⟩ ht2) gm_X7_putWord gl_X7_279 [0, 1] [] [(a_this, .inr (7, [.ref a_this_state, .ref a_this_backup, .ref a_this_aside, .ref a_this_saved, .ref a_this_isSaved, .int c_thrown, .ref a_this_text, .int c_textLength, .int c_position, .int c_tokenStart, .int c_token, .int c_letters, .int c_number, .int c_errorCode, .int c_errorPosition, .long c_word, .ref a_this_arrival, .ref a_this_links, .ref a_this_isAvoided, .ref a_this_output, .int t2.1, .ref a_this_toSend, .ref a_this_sendTo, .int c_sendCount])), (a_this_output, .inl (k 0, 60, .inl t2.2))] rfl rfl rfl rfl ⟨rfl, rfl, rfl, rfl, rfl⟩ (rn_r hR rfl) rn_cs hl.1 rfl (Nat.le_of_ble_eq_true rfl) dX7_putKind_52 (fun H locs hW => ?_)
    refine lv_goto (tgt := 135) hx hb dX7_putKind_55 (by decide) ?_
    cases hf
    exact hE _ _ _ _ hW dX7_putKind_135
  · replace hf := rn_f hf hc1
    by_cases hc3 : i1 = (1 : Int32)
    · replace hf := rn_t hf hc3
      refine lv_tableIn (off := 57) (tgt := 58) hx hb dX7_putKind_1 (by rw [hc3]; decide) (by rw [hc3]; decide) (by rw [hc3]; rfl) (by decide) ?_
      refine lv_aload_n hx hb dX7_putKind_58 rfl (lv_at hl 0 rfl) ?_
      refine rr_ldSW X (j := 51) rfl dX7_putKind_59 ?_
      obtain ⟨t4, ht4, hf⟩ := rn_bind hf
      refine rr_callV (As := [.ref (z.1 51)]) (rest := []) X hW (kX7_putWord l D k z N a_this a_this_state a_this_backup a_this_aside a_this_saved a_this_isSaved a_this_text a_this_arrival a_this_links a_this_isAvoided a_this_output a_this_toSend a_this_sendTo c_thrown c_textLength c_position c_tokenStart c_token c_letters c_number c_errorCode c_errorPosition c_word c_outputLength c_sendCount c_output 51 [112, 97, 115, 115, 101, 100] ⟨_, rfl, rfl⟩ ht4) gm_X7_putWord gl_X7_279 [0, 1] [] [(a_this, .inr (7, [.ref a_this_state, .ref a_this_backup, .ref a_this_aside, .ref a_this_saved, .ref a_this_isSaved, .int c_thrown, .ref a_this_text, .int c_textLength, .int c_position, .int c_tokenStart, .int c_token, .int c_letters, .int c_number, .int c_errorCode, .int c_errorPosition, .long c_word, .ref a_this_arrival, .ref a_this_links, .ref a_this_isAvoided, .ref a_this_output, .int t4.1, .ref a_this_toSend, .ref a_this_sendTo, .int c_sendCount])), (a_this_output, .inl (k 0, 60, .inl t4.2))] rfl rfl rfl rfl ⟨rfl, rfl, rfl, rfl, rfl⟩ (rn_r hR rfl) rn_cs hl.1 rfl (Nat.le_of_ble_eq_true rfl) dX7_putKind_62 (fun H locs hW => ?_)
      refine lv_goto (tgt := 135) hx hb dX7_putKind_65 (by decide) ?_
      cases hf
      exact hE _ _ _ _ hW dX7_putKind_135
    · replace hf := rn_f hf hc3
      by_cases hc5 : i1 = (2 : Int32)
      · replace hf := rn_t hf hc5
        refine lv_tableIn (off := 67) (tgt := 68) hx hb dX7_putKind_1 (by rw [hc5]; decide) (by rw [hc5]; decide) (by rw [hc5]; rfl) (by decide) ?_
        refine lv_aload_n hx hb dX7_putKind_68 rfl (lv_at hl 0 rfl) ?_
        refine rr_ldSW X (j := 52) rfl dX7_putKind_69 ?_
        obtain ⟨t6, ht6, hf⟩ := rn_bind hf
        refine rr_callV (As := [.ref (z.1 52)]) (rest := []) X hW (kX7_putWord l D k z N a_this a_this_state a_this_backup a_this_aside a_this_saved a_this_isSaved a_this_text a_this_arrival a_this_links a_this_isAvoided a_this_output a_this_toSend a_this_sendTo c_thrown c_textLength c_position c_tokenStart c_token c_letters c_number c_errorCode c_errorPosition c_word c_outputLength c_sendCount c_output 52 [108, 111, 115, 116] ⟨_, rfl, rfl⟩ ht6) gm_X7_putWord gl_X7_279 [0, 1] [] [(a_this, .inr (7, [.ref a_this_state, .ref a_this_backup, .ref a_this_aside, .ref a_this_saved, .ref a_this_isSaved, .int c_thrown, .ref a_this_text, .int c_textLength, .int c_position, .int c_tokenStart, .int c_token, .int c_letters, .int c_number, .int c_errorCode, .int c_errorPosition, .long c_word, .ref a_this_arrival, .ref a_this_links, .ref a_this_isAvoided, .ref a_this_output, .int t6.1, .ref a_this_toSend, .ref a_this_sendTo, .int c_sendCount])), (a_this_output, .inl (k 0, 60, .inl t6.2))] rfl rfl rfl rfl ⟨rfl, rfl, rfl, rfl, rfl⟩ (rn_r hR rfl) rn_cs hl.1 rfl (Nat.le_of_ble_eq_true rfl) dX7_putKind_72 (fun H locs hW => ?_)
        refine lv_goto (tgt := 135) hx hb dX7_putKind_75 (by decide) ?_
        cases hf
        exact hE _ _ _ _ hW dX7_putKind_135
      · replace hf := rn_f hf hc5
        by_cases hc7 : i1 = (3 : Int32)
        · replace hf := rn_t hf hc7
          refine lv_tableIn (off := 77) (tgt := 78) hx hb dX7_putKind_1 (by rw [hc7]; decide) (by rw [hc7]; decide) (by rw [hc7]; rfl) (by decide) ?_
          refine lv_aload_n hx hb dX7_putKind_78 rfl (lv_at hl 0 rfl) ?_
          refine rr_ldSW X (j := 53) rfl dX7_putKind_79 ?_
          obtain ⟨t8, ht8, hf⟩ := rn_bind hf
          refine rr_callV (As := [.ref (z.1 53)]) (rest := []) X hW (kX7_putWord l D k z N a_this a_this_state a_this_backup a_this_aside a_this_saved a_this_isSaved a_this_text a_this_arrival a_this_links a_this_isAvoided a_this_output a_this_toSend a_this_sendTo c_thrown c_textLength c_position c_tokenStart c_token c_letters c_number c_errorCode c_errorPosition c_word c_outputLength c_sendCount c_output 53 [117, 110, 115, 117, 114, 101] ⟨_, rfl, rfl⟩ ht8) gm_X7_putWord gl_X7_279 [0, 1] [] [(a_this, .inr (7, [.ref a_this_state, .ref a_this_backup, .ref a_this_aside, .ref a_this_saved, .ref a_this_isSaved, .int c_thrown, .ref a_this_text, .int c_textLength, .int c_position, .int c_tokenStart, .int c_token, .int c_letters, .int c_number, .int c_errorCode, .int c_errorPosition, .long c_word, .ref a_this_arrival, .ref a_this_links, .ref a_this_isAvoided, .ref a_this_output, .int t8.1, .ref a_this_toSend, .ref a_this_sendTo, .int c_sendCount])), (a_this_output, .inl (k 0, 60, .inl t8.2))] rfl rfl rfl rfl ⟨rfl, rfl, rfl, rfl, rfl⟩ (rn_r hR rfl) rn_cs hl.1 rfl (Nat.le_of_ble_eq_true rfl) dX7_putKind_82 (fun H locs hW => ?_)
          refine lv_goto (tgt := 135) hx hb dX7_putKind_85 (by decide) ?_
          cases hf
          exact hE _ _ _ _ hW dX7_putKind_135
        · replace hf := rn_f hf hc7
          by_cases hc9 : i1 = (4 : Int32)
          · replace hf := rn_t hf hc9
            refine lv_tableIn (off := 87) (tgt := 88) hx hb dX7_putKind_1 (by rw [hc9]; decide) (by rw [hc9]; decide) (by rw [hc9]; rfl) (by decide) ?_
            refine lv_aload_n hx hb dX7_putKind_88 rfl (lv_at hl 0 rfl) ?_
            refine rr_ldSW X (j := 54) rfl dX7_putKind_89 ?_
            obtain ⟨t10, ht10, hf⟩ := rn_bind hf
            refine rr_callV (As := [.ref (z.1 54)]) (rest := []) X hW (kX7_putWord l D k z N a_this a_this_state a_this_backup a_this_aside a_this_saved a_this_isSaved a_this_text a_this_arrival a_this_links a_this_isAvoided a_this_output a_this_toSend a_this_sendTo c_thrown c_textLength c_position c_tokenStart c_token c_letters c_number c_errorCode c_errorPosition c_word c_outputLength c_sendCount c_output 54 [100, 111, 117, 98, 108, 101] ⟨_, rfl, rfl⟩ ht10) gm_X7_putWord gl_X7_279 [0, 1] [] [(a_this, .inr (7, [.ref a_this_state, .ref a_this_backup, .ref a_this_aside, .ref a_this_saved, .ref a_this_isSaved, .int c_thrown, .ref a_this_text, .int c_textLength, .int c_position, .int c_tokenStart, .int c_token, .int c_letters, .int c_number, .int c_errorCode, .int c_errorPosition, .long c_word, .ref a_this_arrival, .ref a_this_links, .ref a_this_isAvoided, .ref a_this_output, .int t10.1, .ref a_this_toSend, .ref a_this_sendTo, .int c_sendCount])), (a_this_output, .inl (k 0, 60, .inl t10.2))] rfl rfl rfl rfl ⟨rfl, rfl, rfl, rfl, rfl⟩ (rn_r hR rfl) rn_cs hl.1 rfl (Nat.le_of_ble_eq_true rfl) dX7_putKind_92 (fun H locs hW => ?_)
            refine lv_goto (tgt := 135) hx hb dX7_putKind_95 (by decide) ?_
            cases hf
            exact hE _ _ _ _ hW dX7_putKind_135
          · replace hf := rn_f hf hc9
            by_cases hc11 : i1 = (5 : Int32)
            · replace hf := rn_t hf hc11
              refine lv_tableIn (off := 97) (tgt := 98) hx hb dX7_putKind_1 (by rw [hc11]; decide) (by rw [hc11]; decide) (by rw [hc11]; rfl) (by decide) ?_
              refine lv_aload_n hx hb dX7_putKind_98 rfl (lv_at hl 0 rfl) ?_
              refine rr_ldSW X (j := 55) rfl dX7_putKind_99 ?_
              obtain ⟨t12, ht12, hf⟩ := rn_bind hf
              refine rr_callV (As := [.ref (z.1 55)]) (rest := []) X hW (kX7_putWord l D k z N a_this a_this_state a_this_backup a_this_aside a_this_saved a_this_isSaved a_this_text a_this_arrival a_this_links a_this_isAvoided a_this_output a_this_toSend a_this_sendTo c_thrown c_textLength c_position c_tokenStart c_token c_letters c_number c_errorCode c_errorPosition c_word c_outputLength c_sendCount c_output 55 [100, 101, 108, 105, 118, 101, 114, 101, 100] ⟨_, rfl, rfl⟩ ht12) gm_X7_putWord gl_X7_279 [0, 1] [] [(a_this, .inr (7, [.ref a_this_state, .ref a_this_backup, .ref a_this_aside, .ref a_this_saved, .ref a_this_isSaved, .int c_thrown, .ref a_this_text, .int c_textLength, .int c_position, .int c_tokenStart, .int c_token, .int c_letters, .int c_number, .int c_errorCode, .int c_errorPosition, .long c_word, .ref a_this_arrival, .ref a_this_links, .ref a_this_isAvoided, .ref a_this_output, .int t12.1, .ref a_this_toSend, .ref a_this_sendTo, .int c_sendCount])), (a_this_output, .inl (k 0, 60, .inl t12.2))] rfl rfl rfl rfl ⟨rfl, rfl, rfl, rfl, rfl⟩ (rn_r hR rfl) rn_cs hl.1 rfl (Nat.le_of_ble_eq_true rfl) dX7_putKind_102 (fun H locs hW => ?_)
              refine lv_goto (tgt := 135) hx hb dX7_putKind_105 (by decide) ?_
              cases hf
              exact hE _ _ _ _ hW dX7_putKind_135
            · replace hf := rn_f hf hc11
              by_cases hc13 : i1 = (6 : Int32)
              · replace hf := rn_t hf hc13
                refine lv_tableIn (off := 107) (tgt := 108) hx hb dX7_putKind_1 (by rw [hc13]; decide) (by rw [hc13]; decide) (by rw [hc13]; rfl) (by decide) ?_
                refine lv_aload_n hx hb dX7_putKind_108 rfl (lv_at hl 0 rfl) ?_
                refine rr_ldSW X (j := 56) rfl dX7_putKind_109 ?_
                obtain ⟨t14, ht14, hf⟩ := rn_bind hf
                refine rr_callV (As := [.ref (z.1 56)]) (rest := []) X hW (kX7_putWord l D k z N a_this a_this_state a_this_backup a_this_aside a_this_saved a_this_isSaved a_this_text a_this_arrival a_this_links a_this_isAvoided a_this_output a_this_toSend a_this_sendTo c_thrown c_textLength c_position c_tokenStart c_token c_letters c_number c_errorCode c_errorPosition c_word c_outputLength c_sendCount c_output 56 [115, 116, 111, 112, 112, 101, 100] ⟨_, rfl, rfl⟩ ht14) gm_X7_putWord gl_X7_279 [0, 1] [] [(a_this, .inr (7, [.ref a_this_state, .ref a_this_backup, .ref a_this_aside, .ref a_this_saved, .ref a_this_isSaved, .int c_thrown, .ref a_this_text, .int c_textLength, .int c_position, .int c_tokenStart, .int c_token, .int c_letters, .int c_number, .int c_errorCode, .int c_errorPosition, .long c_word, .ref a_this_arrival, .ref a_this_links, .ref a_this_isAvoided, .ref a_this_output, .int t14.1, .ref a_this_toSend, .ref a_this_sendTo, .int c_sendCount])), (a_this_output, .inl (k 0, 60, .inl t14.2))] rfl rfl rfl rfl ⟨rfl, rfl, rfl, rfl, rfl⟩ (rn_r hR rfl) rn_cs hl.1 rfl (Nat.le_of_ble_eq_true rfl) dX7_putKind_112 (fun H locs hW => ?_)
                refine lv_goto (tgt := 135) hx hb dX7_putKind_115 (by decide) ?_
                cases hf
                exact hE _ _ _ _ hW dX7_putKind_135
              · replace hf := rn_f hf hc13
                by_cases hc15 : i1 = (7 : Int32)
                · replace hf := rn_t hf hc15
                  refine lv_tableIn (off := 117) (tgt := 118) hx hb dX7_putKind_1 (by rw [hc15]; decide) (by rw [hc15]; decide) (by rw [hc15]; rfl) (by decide) ?_
                  refine lv_aload_n hx hb dX7_putKind_118 rfl (lv_at hl 0 rfl) ?_
                  refine rr_ldSW X (j := 57) rfl dX7_putKind_119 ?_
                  obtain ⟨t16, ht16, hf⟩ := rn_bind hf
                  refine rr_callV (As := [.ref (z.1 57)]) (rest := []) X hW (kX7_putWord l D k z N a_this a_this_state a_this_backup a_this_aside a_this_saved a_this_isSaved a_this_text a_this_arrival a_this_links a_this_isAvoided a_this_output a_this_toSend a_this_sendTo c_thrown c_textLength c_position c_tokenStart c_token c_letters c_number c_errorCode c_errorPosition c_word c_outputLength c_sendCount c_output 57 [101, 120, 112, 105, 114, 101, 100] ⟨_, rfl, rfl⟩ ht16) gm_X7_putWord gl_X7_279 [0, 1] [] [(a_this, .inr (7, [.ref a_this_state, .ref a_this_backup, .ref a_this_aside, .ref a_this_saved, .ref a_this_isSaved, .int c_thrown, .ref a_this_text, .int c_textLength, .int c_position, .int c_tokenStart, .int c_token, .int c_letters, .int c_number, .int c_errorCode, .int c_errorPosition, .long c_word, .ref a_this_arrival, .ref a_this_links, .ref a_this_isAvoided, .ref a_this_output, .int t16.1, .ref a_this_toSend, .ref a_this_sendTo, .int c_sendCount])), (a_this_output, .inl (k 0, 60, .inl t16.2))] rfl rfl rfl rfl ⟨rfl, rfl, rfl, rfl, rfl⟩ (rn_r hR rfl) rn_cs hl.1 rfl (Nat.le_of_ble_eq_true rfl) dX7_putKind_122 (fun H locs hW => ?_)
                  refine lv_goto (tgt := 135) hx hb dX7_putKind_125 (by decide) ?_
                  cases hf
                  exact hE _ _ _ _ hW dX7_putKind_135
                · replace hf := rn_f hf hc15
                  refine lv_tableOut (tgt := 128) hx hb dX7_putKind_1 (by have n0 := lv_neT hc1 (a := 0) (by decide); have n1 := lv_neT hc3 (a := 1) (by decide); have n2 := lv_neT hc5 (a := 2) (by decide); have n3 := lv_neT hc7 (a := 3) (by decide); have n4 := lv_neT hc9 (a := 4) (by decide); have n5 := lv_neT hc11 (a := 5) (by decide); have n6 := lv_neT hc13 (a := 6) (by decide); have n7 := lv_neT hc15 (a := 7) (by decide); omega) (by decide) ?_
                  refine lv_aload_n hx hb dX7_putKind_128 rfl (lv_at hl 0 rfl) ?_
                  refine rr_ldSW X (j := 58) rfl dX7_putKind_129 ?_
                  obtain ⟨t17, ht17, hf⟩ := rn_bind hf
                  refine rr_callV (As := [.ref (z.1 58)]) (rest := []) X hW (kX7_putWord l D k z N a_this a_this_state a_this_backup a_this_aside a_this_saved a_this_isSaved a_this_text a_this_arrival a_this_links a_this_isAvoided a_this_output a_this_toSend a_this_sendTo c_thrown c_textLength c_position c_tokenStart c_token c_letters c_number c_errorCode c_errorPosition c_word c_outputLength c_sendCount c_output 58 [98, 97, 99, 107] ⟨_, rfl, rfl⟩ ht17) gm_X7_putWord gl_X7_279 [0, 1] [] [(a_this, .inr (7, [.ref a_this_state, .ref a_this_backup, .ref a_this_aside, .ref a_this_saved, .ref a_this_isSaved, .int c_thrown, .ref a_this_text, .int c_textLength, .int c_position, .int c_tokenStart, .int c_token, .int c_letters, .int c_number, .int c_errorCode, .int c_errorPosition, .long c_word, .ref a_this_arrival, .ref a_this_links, .ref a_this_isAvoided, .ref a_this_output, .int t17.1, .ref a_this_toSend, .ref a_this_sendTo, .int c_sendCount])), (a_this_output, .inl (k 0, 60, .inl t17.2))] rfl rfl rfl rfl ⟨rfl, rfl, rfl, rfl, rfl⟩ (rn_r hR rfl) rn_cs hl.1 rfl (Nat.le_of_ble_eq_true rfl) dX7_putKind_132 (fun H locs hW => ?_)
                  cases hf
                  exact hE _ _ _ _ hW dX7_putKind_135
def fX7_write (N : Nat) (c_thrown : Int32) (c_outputLength : Int32) (c_state : Nat → Int32) (c_output : Nat → Int32) (i1 : Int32) : Option (Int32 × Int32 × Int32 × (Nat → Int32)) :=
  rn_g (7 : Int32) 2888 <|
  (fX7_isBetween i1 (0 : Int32) ((c_state (7 : Int32).toNatClampNeg) - (1 : Int32))).bind fun t2 =>
  if t2 = 0 then
    (fX7_fail (0 : Int32) (1 : Int32)).bind fun t21 =>
    some (t21.1, t21.2, c_outputLength, c_output)
  else
  rn_g ((2688 : Int32) + ((5 : Int32) * i1)) 2888 <|
  (fX7_putNumber N (0 : Int32) c_output (c_state ((2688 : Int32) + ((5 : Int32) * i1)).toNatClampNeg)).bind fun t5 =>
  (fX7_putWord N t5.1 t5.2 ([32, 109])).bind fun t6 =>
  rn_g (((2688 : Int32) + ((5 : Int32) * i1)) + (2 : Int32)) 2888 <|
  (fX7_putNumber N t6.1 t6.2 (c_state (((2688 : Int32) + ((5 : Int32) * i1)) + (2 : Int32)).toNatClampNeg)).bind fun t8 =>
  (fX7_put t8.1 t8.2 (32 : Int32)).bind fun t9 =>
  rn_g (((2688 : Int32) + ((5 : Int32) * i1)) + (3 : Int32)) 2888 <|
  (fX7_putNumber N t9.1 t9.2 (c_state (((2688 : Int32) + ((5 : Int32) * i1)) + (3 : Int32)).toNatClampNeg)).bind fun t11 =>
  rn_g (((2688 : Int32) + ((5 : Int32) * i1)) + (4 : Int32)) 2888 <|
  Option.bind (
    if (c_state (((2688 : Int32) + ((5 : Int32) * i1)) + (4 : Int32)).toNatClampNeg) = (-1 : Int32) then
      some (t11.1, t11.2)
    else
    (fX7_put t11.1 t11.2 (62 : Int32)).bind fun t15 =>
    rn_g (((2688 : Int32) + ((5 : Int32) * i1)) + (4 : Int32)) 2888 <|
    (fX7_putNumber N t15.1 t15.2 (c_state (((2688 : Int32) + ((5 : Int32) * i1)) + (4 : Int32)).toNatClampNeg)).bind fun t17 =>
    some (t17.1, t17.2)
    ) fun t13 =>
  (fX7_put t13.1 t13.2 (32 : Int32)).bind fun t18 =>
  rn_g (((2688 : Int32) + ((5 : Int32) * i1)) + (1 : Int32)) 2888 <|
  (fX7_putKind N t18.1 t18.2 (c_state (((2688 : Int32) + ((5 : Int32) * i1)) + (1 : Int32)).toNatClampNeg)).bind fun t20 =>
  some (t20.1, (0 : Int32), t20.1, t20.2)
set_option maxHeartbeats 4000000 in
set_option maxRecDepth 20000 in
theorem kX7_write (l : Launch) (D : va_G) (k : Nat → ClassId) (z : (Nat → Nat) × (Nat → Nat)) (N : Nat) (a_this : Nat) (a_this_state : Nat) (a_this_backup : Nat) (a_this_aside : Nat) (a_this_saved : Nat) (a_this_isSaved : Nat) (a_this_text : Nat) (a_this_arrival : Nat) (a_this_links : Nat) (a_this_isAvoided : Nat) (a_this_output : Nat) (a_this_toSend : Nat) (a_this_sendTo : Nat) (c_thrown : Int32) (c_textLength : Int32) (c_position : Int32) (c_tokenStart : Int32) (c_token : Int32) (c_letters : Int32) (c_number : Int32) (c_errorCode : Int32) (c_errorPosition : Int32) (c_word : Int64) (c_outputLength : Int32) (c_sendCount : Int32) (c_state : Nat → Int32) (c_output : Nat → Int32) (i1 : Int32) {u : Int32 × Int32 × Int32 × (Nat → Int32)} (hf : fX7_write N c_thrown c_outputLength c_state c_output i1 = some u) : rn_KI l D k z yX7_write cX7_write 3 .int 6 128 [.ref a_this, .int i1] [(a_this, .inr (7, [.ref a_this_state, .ref a_this_backup, .ref a_this_aside, .ref a_this_saved, .ref a_this_isSaved, .int c_thrown, .ref a_this_text, .int c_textLength, .int c_position, .int c_tokenStart, .int c_token, .int c_letters, .int c_number, .int c_errorCode, .int c_errorPosition, .long c_word, .ref a_this_arrival, .ref a_this_links, .ref a_this_isAvoided, .ref a_this_output, .int c_outputLength, .ref a_this_toSend, .ref a_this_sendTo, .int c_sendCount])), (a_this_state, .inl (k 0, 2888, .inl c_state)), (a_this_output, .inl (k 0, 60, .inl c_output))] [(a_this, .inr (7, [.ref a_this_state, .ref a_this_backup, .ref a_this_aside, .ref a_this_saved, .ref a_this_isSaved, .int u.2.1, .ref a_this_text, .int c_textLength, .int c_position, .int c_tokenStart, .int c_token, .int c_letters, .int c_number, .int c_errorCode, .int c_errorPosition, .long c_word, .ref a_this_arrival, .ref a_this_links, .ref a_this_isAvoided, .ref a_this_output, .int u.2.2.1, .ref a_this_toSend, .ref a_this_sendTo, .int c_sendCount])), (a_this_state, .inl (k 0, 2888, .inl c_state)), (a_this_output, .inl (k 0, 60, .inl u.2.2.2))] u.1 := by
  refine rn_KI.go (LOC := [(0, .ref a_this), (1, .int i1)]) rfl (by decide) (Nat.le_of_ble_eq_true rfl) rfl ?_
  intro p e s m args below meth c A ls R Q X hR hE hW hl
  have hx := X.1.1
  have hb := X.1.2.1
  unfold fX7_write at hf
  refine lv_aload_n hx hb dX7_write_0 rfl (lv_at hl 0 rfl) ?_
  refine lv_iconst (v := 0) hx hb dX7_write_1 (by decide) ?_
  refine rr_put X hW 0 5 gp_X7_54 rfl rfl rfl (Nat.le_of_ble_eq_true rfl) (ws' := [(a_this, .inr (7, [.ref a_this_state, .ref a_this_backup, .ref a_this_aside, .ref a_this_saved, .ref a_this_isSaved, .int (0 : Int32), .ref a_this_text, .int c_textLength, .int c_position, .int c_tokenStart, .int c_token, .int c_letters, .int c_number, .int c_errorCode, .int c_errorPosition, .long c_word, .ref a_this_arrival, .ref a_this_links, .ref a_this_isAvoided, .ref a_this_output, .int c_outputLength, .ref a_this_toSend, .ref a_this_sendTo, .int c_sendCount])), (a_this_state, .inl (k 0, 2888, .inl c_state)), (a_this_output, .inl (k 0, 60, .inl c_output))]) rfl dX7_write_2 (fun H locs hW => ?_)
  refine lv_iload_n hx hb dX7_write_5 rfl (lv_at hl 1 rfl) ?_
  refine lv_iconst (v := 0) hx hb dX7_write_6 (by decide) ?_
  refine lv_aload_n hx hb dX7_write_7 rfl (lv_at hl 0 rfl) ?_
  refine rr_get X hW 0 0 gf_X7_7 rfl rfl dX7_write_8 ?_
  refine lv_bipush (v := 7) hx hb dX7_write_11 (by decide) ?_
  obtain ⟨hg1, hf⟩ := rn_g_s hf
  refine rr_iald X hW 1 rfl hg1 dX7_write_13 ?_
  refine lv_iconst (v := 1) hx hb dX7_write_14 (by decide) ?_
  refine lv_isub hx hb dX7_write_15 ?_
  obtain ⟨t2, ht2, hf⟩ := rn_bind hf
  refine rr_scalI (As := [.int i1, .int (0 : Int32), .int ((c_state (7 : Int32).toNatClampNeg) - (1 : Int32))]) (rest := []) X hW (kX7_isBetween l D k z i1 (0 : Int32) ((c_state (7 : Int32).toNatClampNeg) - (1 : Int32)) ht2) gm_X7_isBetween gl_X7_57 [] [0, 1, 2] [(a_this, .inr (7, [.ref a_this_state, .ref a_this_backup, .ref a_this_aside, .ref a_this_saved, .ref a_this_isSaved, .int (0 : Int32), .ref a_this_text, .int c_textLength, .int c_position, .int c_tokenStart, .int c_token, .int c_letters, .int c_number, .int c_errorCode, .int c_errorPosition, .long c_word, .ref a_this_arrival, .ref a_this_links, .ref a_this_isAvoided, .ref a_this_output, .int c_outputLength, .ref a_this_toSend, .ref a_this_sendTo, .int c_sendCount])), (a_this_state, .inl (k 0, 2888, .inl c_state)), (a_this_output, .inl (k 0, 60, .inl c_output))] rfl rfl ⟨rfl, rfl, rn_Bw (wr := [(a_this, .inr (7, [.ref a_this_state, .ref a_this_backup, .ref a_this_aside, .ref a_this_saved, .ref a_this_isSaved, .int (0 : Int32), .ref a_this_text, .int c_textLength, .int c_position, .int c_tokenStart, .int c_token, .int c_letters, .int c_number, .int c_errorCode, .int c_errorPosition, .long c_word, .ref a_this_arrival, .ref a_this_links, .ref a_this_isAvoided, .ref a_this_output, .int c_outputLength, .ref a_this_toSend, .ref a_this_sendTo, .int c_sendCount])), (a_this_state, .inl (k 0, 2888, .inl c_state)), (a_this_output, .inl (k 0, 60, .inl c_output))]) rfl rfl, rfl, rfl⟩ (rn_r hR rfl) rn_cs hl.1 rfl (Nat.le_of_ble_eq_true rfl) dX7_write_16 (fun hn2 H locs hW => ?_)
  refine lv_if_ne (tgt := 28) hx hb dX7_write_19 (by decide) (fun hc3 => ?_) (fun hc3 => ?_)
  · replace hf := rn_f hf hc3
    refine lv_sipush (v := 2688) hx hb dX7_write_28 (by decide) ?_
    refine lv_iconst (v := 5) hx hb dX7_write_31 (by decide) ?_
    refine lv_iload_n hx hb dX7_write_32 rfl (lv_at hl 1 rfl) ?_
    refine lv_imul hx hb dX7_write_33 ?_
    refine lv_iadd hx hb dX7_write_34 ?_
    refine lv_istore_n (lv' := [(2, .int ((2688 : Int32) + ((5 : Int32) * i1))), (0, .ref a_this), (1, .int i1)]) hx hb dX7_write_35 rfl hl (Nat.le_of_ble_eq_true rfl) rfl (fun ls hl => ?_)
    refine lv_aload_n hx hb dX7_write_36 rfl (lv_at hl 1 rfl) ?_
    refine lv_iconst (v := 0) hx hb dX7_write_37 (by decide) ?_
    refine rr_put X hW 0 20 gp_X7_270 rfl rfl rfl (Nat.le_of_ble_eq_true rfl) (ws' := [(a_this, .inr (7, [.ref a_this_state, .ref a_this_backup, .ref a_this_aside, .ref a_this_saved, .ref a_this_isSaved, .int (0 : Int32), .ref a_this_text, .int c_textLength, .int c_position, .int c_tokenStart, .int c_token, .int c_letters, .int c_number, .int c_errorCode, .int c_errorPosition, .long c_word, .ref a_this_arrival, .ref a_this_links, .ref a_this_isAvoided, .ref a_this_output, .int (0 : Int32), .ref a_this_toSend, .ref a_this_sendTo, .int c_sendCount])), (a_this_state, .inl (k 0, 2888, .inl c_state)), (a_this_output, .inl (k 0, 60, .inl c_output))]) rfl dX7_write_38 (fun H locs hW => ?_)
    refine lv_aload_n hx hb dX7_write_41 rfl (lv_at hl 1 rfl) ?_
    refine lv_aload_n hx hb dX7_write_42 rfl (lv_at hl 1 rfl) ?_
    refine rr_get X hW 0 0 gf_X7_7 rfl rfl dX7_write_43 ?_
    refine lv_iload_n hx hb dX7_write_46 rfl (lv_at hl 0 rfl) ?_
    obtain ⟨hg4, hf⟩ := rn_g_s hf
    refine rr_iald X hW 1 rfl hg4 dX7_write_47 ?_
    obtain ⟨t5, ht5, hf⟩ := rn_bind hf
    refine rr_callV (As := [.int (c_state ((2688 : Int32) + ((5 : Int32) * i1)).toNatClampNeg)]) (rest := []) X hW (kX7_putNumber l D k z N a_this a_this_state a_this_backup a_this_aside a_this_saved a_this_isSaved a_this_text a_this_arrival a_this_links a_this_isAvoided a_this_output a_this_toSend a_this_sendTo (0 : Int32) c_textLength c_position c_tokenStart c_token c_letters c_number c_errorCode c_errorPosition c_word (0 : Int32) c_sendCount c_output (c_state ((2688 : Int32) + ((5 : Int32) * i1)).toNatClampNeg) ht5) gm_X7_putNumber gl_X7_299 [0, 2] [1] [(a_this, .inr (7, [.ref a_this_state, .ref a_this_backup, .ref a_this_aside, .ref a_this_saved, .ref a_this_isSaved, .int (0 : Int32), .ref a_this_text, .int c_textLength, .int c_position, .int c_tokenStart, .int c_token, .int c_letters, .int c_number, .int c_errorCode, .int c_errorPosition, .long c_word, .ref a_this_arrival, .ref a_this_links, .ref a_this_isAvoided, .ref a_this_output, .int t5.1, .ref a_this_toSend, .ref a_this_sendTo, .int c_sendCount])), (a_this_state, .inl (k 0, 2888, .inl c_state)), (a_this_output, .inl (k 0, 60, .inl t5.2))] rfl rfl rfl rfl ⟨rfl, rfl, rn_Bw (wr := [(a_this_state, .inl (k 0, 2888, .inl c_state))]) rfl rfl, rfl, rfl⟩ (rn_r hR rfl) rn_cs hl.1 rfl (Nat.le_of_ble_eq_true rfl) dX7_write_48 (fun H locs hW => ?_)
    refine lv_aload_n hx hb dX7_write_51 rfl (lv_at hl 1 rfl) ?_
    refine rr_ldSW X (j := 49) rfl dX7_write_52 ?_
    obtain ⟨t6, ht6, hf⟩ := rn_bind hf
    refine rr_callV (As := [.ref (z.1 49)]) (rest := []) X hW (kX7_putWord l D k z N a_this a_this_state a_this_backup a_this_aside a_this_saved a_this_isSaved a_this_text a_this_arrival a_this_links a_this_isAvoided a_this_output a_this_toSend a_this_sendTo (0 : Int32) c_textLength c_position c_tokenStart c_token c_letters c_number c_errorCode c_errorPosition c_word t5.1 c_sendCount t5.2 49 [32, 109] ⟨_, rfl, rfl⟩ ht6) gm_X7_putWord gl_X7_279 [0, 2] [1] [(a_this, .inr (7, [.ref a_this_state, .ref a_this_backup, .ref a_this_aside, .ref a_this_saved, .ref a_this_isSaved, .int (0 : Int32), .ref a_this_text, .int c_textLength, .int c_position, .int c_tokenStart, .int c_token, .int c_letters, .int c_number, .int c_errorCode, .int c_errorPosition, .long c_word, .ref a_this_arrival, .ref a_this_links, .ref a_this_isAvoided, .ref a_this_output, .int t6.1, .ref a_this_toSend, .ref a_this_sendTo, .int c_sendCount])), (a_this_state, .inl (k 0, 2888, .inl c_state)), (a_this_output, .inl (k 0, 60, .inl t6.2))] rfl rfl rfl rfl ⟨rfl, rfl, rn_Bw (wr := [(a_this_state, .inl (k 0, 2888, .inl c_state))]) rfl rfl, rfl, rfl⟩ (rn_r hR rfl) rn_cs hl.1 rfl (Nat.le_of_ble_eq_true rfl) dX7_write_55 (fun H locs hW => ?_)
    refine lv_aload_n hx hb dX7_write_58 rfl (lv_at hl 1 rfl) ?_
    refine lv_aload_n hx hb dX7_write_59 rfl (lv_at hl 1 rfl) ?_
    refine rr_get X hW 0 0 gf_X7_7 rfl rfl dX7_write_60 ?_
    refine lv_iload_n hx hb dX7_write_63 rfl (lv_at hl 0 rfl) ?_
    refine lv_iconst (v := 2) hx hb dX7_write_64 (by decide) ?_
    refine lv_iadd hx hb dX7_write_65 ?_
    obtain ⟨hg7, hf⟩ := rn_g_s hf
    refine rr_iald X hW 1 rfl hg7 dX7_write_66 ?_
    obtain ⟨t8, ht8, hf⟩ := rn_bind hf
    refine rr_callV (As := [.int (c_state (((2688 : Int32) + ((5 : Int32) * i1)) + (2 : Int32)).toNatClampNeg)]) (rest := []) X hW (kX7_putNumber l D k z N a_this a_this_state a_this_backup a_this_aside a_this_saved a_this_isSaved a_this_text a_this_arrival a_this_links a_this_isAvoided a_this_output a_this_toSend a_this_sendTo (0 : Int32) c_textLength c_position c_tokenStart c_token c_letters c_number c_errorCode c_errorPosition c_word t6.1 c_sendCount t6.2 (c_state (((2688 : Int32) + ((5 : Int32) * i1)) + (2 : Int32)).toNatClampNeg) ht8) gm_X7_putNumber gl_X7_299 [0, 2] [1] [(a_this, .inr (7, [.ref a_this_state, .ref a_this_backup, .ref a_this_aside, .ref a_this_saved, .ref a_this_isSaved, .int (0 : Int32), .ref a_this_text, .int c_textLength, .int c_position, .int c_tokenStart, .int c_token, .int c_letters, .int c_number, .int c_errorCode, .int c_errorPosition, .long c_word, .ref a_this_arrival, .ref a_this_links, .ref a_this_isAvoided, .ref a_this_output, .int t8.1, .ref a_this_toSend, .ref a_this_sendTo, .int c_sendCount])), (a_this_state, .inl (k 0, 2888, .inl c_state)), (a_this_output, .inl (k 0, 60, .inl t8.2))] rfl rfl rfl rfl ⟨rfl, rfl, rn_Bw (wr := [(a_this_state, .inl (k 0, 2888, .inl c_state))]) rfl rfl, rfl, rfl⟩ (rn_r hR rfl) rn_cs hl.1 rfl (Nat.le_of_ble_eq_true rfl) dX7_write_67 (fun H locs hW => ?_)
    refine lv_aload_n hx hb dX7_write_70 rfl (lv_at hl 1 rfl) ?_
    refine lv_bipush (v := 32) hx hb dX7_write_71 (by decide) ?_
    obtain ⟨t9, ht9, hf⟩ := rn_bind hf
    refine rr_callV (As := [.int (32 : Int32)]) (rest := []) X hW (kX7_put l D k z a_this a_this_state a_this_backup a_this_aside a_this_saved a_this_isSaved a_this_text a_this_arrival a_this_links a_this_isAvoided a_this_output a_this_toSend a_this_sendTo (0 : Int32) c_textLength c_position c_tokenStart c_token c_letters c_number c_errorCode c_errorPosition c_word t8.1 c_sendCount t8.2 (32 : Int32) ht9) gm_X7_put gl_X7_273 [0, 2] [1] [(a_this, .inr (7, [.ref a_this_state, .ref a_this_backup, .ref a_this_aside, .ref a_this_saved, .ref a_this_isSaved, .int (0 : Int32), .ref a_this_text, .int c_textLength, .int c_position, .int c_tokenStart, .int c_token, .int c_letters, .int c_number, .int c_errorCode, .int c_errorPosition, .long c_word, .ref a_this_arrival, .ref a_this_links, .ref a_this_isAvoided, .ref a_this_output, .int t9.1, .ref a_this_toSend, .ref a_this_sendTo, .int c_sendCount])), (a_this_state, .inl (k 0, 2888, .inl c_state)), (a_this_output, .inl (k 0, 60, .inl t9.2))] rfl rfl rfl rfl ⟨rfl, rfl, rn_Bw (wr := [(a_this_state, .inl (k 0, 2888, .inl c_state))]) rfl rfl, rfl, rfl⟩ (rn_r hR rfl) rn_cs hl.1 rfl (Nat.le_of_ble_eq_true rfl) dX7_write_73 (fun H locs hW => ?_)
    refine lv_aload_n hx hb dX7_write_76 rfl (lv_at hl 1 rfl) ?_
    refine lv_aload_n hx hb dX7_write_77 rfl (lv_at hl 1 rfl) ?_
    refine rr_get X hW 0 0 gf_X7_7 rfl rfl dX7_write_78 ?_
    refine lv_iload_n hx hb dX7_write_81 rfl (lv_at hl 0 rfl) ?_
    refine lv_iconst (v := 3) hx hb dX7_write_82 (by decide) ?_
    refine lv_iadd hx hb dX7_write_83 ?_
    obtain ⟨hg10, hf⟩ := rn_g_s hf
    refine rr_iald X hW 1 rfl hg10 dX7_write_84 ?_
    obtain ⟨t11, ht11, hf⟩ := rn_bind hf
    refine rr_callV (As := [.int (c_state (((2688 : Int32) + ((5 : Int32) * i1)) + (3 : Int32)).toNatClampNeg)]) (rest := []) X hW (kX7_putNumber l D k z N a_this a_this_state a_this_backup a_this_aside a_this_saved a_this_isSaved a_this_text a_this_arrival a_this_links a_this_isAvoided a_this_output a_this_toSend a_this_sendTo (0 : Int32) c_textLength c_position c_tokenStart c_token c_letters c_number c_errorCode c_errorPosition c_word t9.1 c_sendCount t9.2 (c_state (((2688 : Int32) + ((5 : Int32) * i1)) + (3 : Int32)).toNatClampNeg) ht11) gm_X7_putNumber gl_X7_299 [0, 2] [1] [(a_this, .inr (7, [.ref a_this_state, .ref a_this_backup, .ref a_this_aside, .ref a_this_saved, .ref a_this_isSaved, .int (0 : Int32), .ref a_this_text, .int c_textLength, .int c_position, .int c_tokenStart, .int c_token, .int c_letters, .int c_number, .int c_errorCode, .int c_errorPosition, .long c_word, .ref a_this_arrival, .ref a_this_links, .ref a_this_isAvoided, .ref a_this_output, .int t11.1, .ref a_this_toSend, .ref a_this_sendTo, .int c_sendCount])), (a_this_state, .inl (k 0, 2888, .inl c_state)), (a_this_output, .inl (k 0, 60, .inl t11.2))] rfl rfl rfl rfl ⟨rfl, rfl, rn_Bw (wr := [(a_this_state, .inl (k 0, 2888, .inl c_state))]) rfl rfl, rfl, rfl⟩ (rn_r hR rfl) rn_cs hl.1 rfl (Nat.le_of_ble_eq_true rfl) dX7_write_85 (fun H locs hW => ?_)
    refine lv_aload_n hx hb dX7_write_88 rfl (lv_at hl 1 rfl) ?_
    refine rr_get X hW 0 0 gf_X7_7 rfl rfl dX7_write_89 ?_
    refine lv_iload_n hx hb dX7_write_92 rfl (lv_at hl 0 rfl) ?_
    refine lv_iconst (v := 4) hx hb dX7_write_93 (by decide) ?_
    refine lv_iadd hx hb dX7_write_94 ?_
    obtain ⟨hg12, hf⟩ := rn_g_s hf
    refine rr_iald X hW 1 rfl hg12 dX7_write_95 ?_
    refine lv_iconst (v := -1) hx hb dX7_write_96 (by decide) ?_
    obtain ⟨t13, ht13, hf⟩ := rn_bind hf
    have jnt13 : ∀ (H : Heap) (locs : List Loc) (ls : Array Slot), rn_W D A s [(a_this, .inr (7, [.ref a_this_state, .ref a_this_backup, .ref a_this_aside, .ref a_this_saved, .ref a_this_isSaved, .int (0 : Int32), .ref a_this_text, .int c_textLength, .int c_position, .int c_tokenStart, .int c_token, .int c_letters, .int c_number, .int c_errorCode, .int c_errorPosition, .long c_word, .ref a_this_arrival, .ref a_this_links, .ref a_this_isAvoided, .ref a_this_output, .int t13.1, .ref a_this_toSend, .ref a_this_sendTo, .int c_sendCount])), (a_this_state, .inl (k 0, 2888, .inl c_state)), (a_this_output, .inl (k 0, 60, .inl t13.2))] H locs → lv_has ls 3 [(0, .ref a_this), (2, .int ((2688 : Int32) + ((5 : Int32) * i1)))] → W p l e R s m args below meth c H locs 0 0 Q (F0 m 118 ls []) := by
      intro H locs ls hW hl
      refine lv_aload_n hx hb dX7_write_118 rfl (lv_at hl 0 rfl) ?_
      refine lv_bipush (v := 32) hx hb dX7_write_119 (by decide) ?_
      obtain ⟨t18, ht18, hf⟩ := rn_bind hf
      refine rr_callV (As := [.int (32 : Int32)]) (rest := []) X hW (kX7_put l D k z a_this a_this_state a_this_backup a_this_aside a_this_saved a_this_isSaved a_this_text a_this_arrival a_this_links a_this_isAvoided a_this_output a_this_toSend a_this_sendTo (0 : Int32) c_textLength c_position c_tokenStart c_token c_letters c_number c_errorCode c_errorPosition c_word t13.1 c_sendCount t13.2 (32 : Int32) ht18) gm_X7_put gl_X7_273 [0, 2] [1] [(a_this, .inr (7, [.ref a_this_state, .ref a_this_backup, .ref a_this_aside, .ref a_this_saved, .ref a_this_isSaved, .int (0 : Int32), .ref a_this_text, .int c_textLength, .int c_position, .int c_tokenStart, .int c_token, .int c_letters, .int c_number, .int c_errorCode, .int c_errorPosition, .long c_word, .ref a_this_arrival, .ref a_this_links, .ref a_this_isAvoided, .ref a_this_output, .int t18.1, .ref a_this_toSend, .ref a_this_sendTo, .int c_sendCount])), (a_this_state, .inl (k 0, 2888, .inl c_state)), (a_this_output, .inl (k 0, 60, .inl t18.2))] rfl rfl rfl rfl ⟨rfl, rfl, rn_Bw (wr := [(a_this_state, .inl (k 0, 2888, .inl c_state))]) rfl rfl, rfl, rfl⟩ (rn_r hR rfl) rn_cs hl.1 rfl (Nat.le_of_ble_eq_true rfl) dX7_write_121 (fun H locs hW => ?_)
      refine lv_aload_n hx hb dX7_write_124 rfl (lv_at hl 0 rfl) ?_
      refine lv_aload_n hx hb dX7_write_125 rfl (lv_at hl 0 rfl) ?_
      refine rr_get X hW 0 0 gf_X7_7 rfl rfl dX7_write_126 ?_
      refine lv_iload_n hx hb dX7_write_129 rfl (lv_at hl 1 rfl) ?_
      refine lv_iconst (v := 1) hx hb dX7_write_130 (by decide) ?_
      refine lv_iadd hx hb dX7_write_131 ?_
      obtain ⟨hg19, hf⟩ := rn_g_s hf
      refine rr_iald X hW 1 rfl hg19 dX7_write_132 ?_
      obtain ⟨t20, ht20, hf⟩ := rn_bind hf
      refine rr_callV (As := [.int (c_state (((2688 : Int32) + ((5 : Int32) * i1)) + (1 : Int32)).toNatClampNeg)]) (rest := []) X hW (kX7_putKind l D k z N a_this a_this_state a_this_backup a_this_aside a_this_saved a_this_isSaved a_this_text a_this_arrival a_this_links a_this_isAvoided a_this_output a_this_toSend a_this_sendTo (0 : Int32) c_textLength c_position c_tokenStart c_token c_letters c_number c_errorCode c_errorPosition c_word t18.1 c_sendCount t18.2 (c_state (((2688 : Int32) + ((5 : Int32) * i1)) + (1 : Int32)).toNatClampNeg) ht20) gm_X7_putKind gl_X7_304 [0, 2] [1] [(a_this, .inr (7, [.ref a_this_state, .ref a_this_backup, .ref a_this_aside, .ref a_this_saved, .ref a_this_isSaved, .int (0 : Int32), .ref a_this_text, .int c_textLength, .int c_position, .int c_tokenStart, .int c_token, .int c_letters, .int c_number, .int c_errorCode, .int c_errorPosition, .long c_word, .ref a_this_arrival, .ref a_this_links, .ref a_this_isAvoided, .ref a_this_output, .int t20.1, .ref a_this_toSend, .ref a_this_sendTo, .int c_sendCount])), (a_this_state, .inl (k 0, 2888, .inl c_state)), (a_this_output, .inl (k 0, 60, .inl t20.2))] rfl rfl rfl rfl ⟨rfl, rfl, rn_Bw (wr := [(a_this_state, .inl (k 0, 2888, .inl c_state))]) rfl rfl, rfl, rfl⟩ (rn_r hR rfl) rn_cs hl.1 rfl (Nat.le_of_ble_eq_true rfl) dX7_write_133 (fun H locs hW => ?_)
      refine lv_aload_n hx hb dX7_write_136 rfl (lv_at hl 0 rfl) ?_
      refine rr_get X hW 0 20 gf_X7_270 rfl rfl dX7_write_137 ?_
      cases hf
      exact hE _ _ _ _ hW rfl dX7_write_140
    replace hf := ht13
    clear ht13
    refine lv_icmp_eq (tgt := 118) hx hb dX7_write_97 (by decide) (fun hc14 => ?_) (fun hc14 => ?_)
    · replace hf := rn_t hf hc14
      cases hf
      exact jnt13 _ _ _ hW (lv_sub hl [1, 0] rfl)
    · replace hf := rn_f hf hc14
      refine lv_aload_n hx hb dX7_write_100 rfl (lv_at hl 1 rfl) ?_
      refine lv_bipush (v := 62) hx hb dX7_write_101 (by decide) ?_
      obtain ⟨t15, ht15, hf⟩ := rn_bind hf
      refine rr_callV (As := [.int (62 : Int32)]) (rest := []) X hW (kX7_put l D k z a_this a_this_state a_this_backup a_this_aside a_this_saved a_this_isSaved a_this_text a_this_arrival a_this_links a_this_isAvoided a_this_output a_this_toSend a_this_sendTo (0 : Int32) c_textLength c_position c_tokenStart c_token c_letters c_number c_errorCode c_errorPosition c_word t11.1 c_sendCount t11.2 (62 : Int32) ht15) gm_X7_put gl_X7_273 [0, 2] [1] [(a_this, .inr (7, [.ref a_this_state, .ref a_this_backup, .ref a_this_aside, .ref a_this_saved, .ref a_this_isSaved, .int (0 : Int32), .ref a_this_text, .int c_textLength, .int c_position, .int c_tokenStart, .int c_token, .int c_letters, .int c_number, .int c_errorCode, .int c_errorPosition, .long c_word, .ref a_this_arrival, .ref a_this_links, .ref a_this_isAvoided, .ref a_this_output, .int t15.1, .ref a_this_toSend, .ref a_this_sendTo, .int c_sendCount])), (a_this_state, .inl (k 0, 2888, .inl c_state)), (a_this_output, .inl (k 0, 60, .inl t15.2))] rfl rfl rfl rfl ⟨rfl, rfl, rn_Bw (wr := [(a_this_state, .inl (k 0, 2888, .inl c_state))]) rfl rfl, rfl, rfl⟩ (rn_r hR rfl) rn_cs hl.1 rfl (Nat.le_of_ble_eq_true rfl) dX7_write_103 (fun H locs hW => ?_)
      refine lv_aload_n hx hb dX7_write_106 rfl (lv_at hl 1 rfl) ?_
      refine lv_aload_n hx hb dX7_write_107 rfl (lv_at hl 1 rfl) ?_
      refine rr_get X hW 0 0 gf_X7_7 rfl rfl dX7_write_108 ?_
      refine lv_iload_n hx hb dX7_write_111 rfl (lv_at hl 0 rfl) ?_
      refine lv_iconst (v := 4) hx hb dX7_write_112 (by decide) ?_
      refine lv_iadd hx hb dX7_write_113 ?_
      obtain ⟨hg16, hf⟩ := rn_g_s hf
      refine rr_iald X hW 1 rfl hg16 dX7_write_114 ?_
      obtain ⟨t17, ht17, hf⟩ := rn_bind hf
      refine rr_callV (As := [.int (c_state (((2688 : Int32) + ((5 : Int32) * i1)) + (4 : Int32)).toNatClampNeg)]) (rest := []) X hW (kX7_putNumber l D k z N a_this a_this_state a_this_backup a_this_aside a_this_saved a_this_isSaved a_this_text a_this_arrival a_this_links a_this_isAvoided a_this_output a_this_toSend a_this_sendTo (0 : Int32) c_textLength c_position c_tokenStart c_token c_letters c_number c_errorCode c_errorPosition c_word t15.1 c_sendCount t15.2 (c_state (((2688 : Int32) + ((5 : Int32) * i1)) + (4 : Int32)).toNatClampNeg) ht17) gm_X7_putNumber gl_X7_299 [0, 2] [1] [(a_this, .inr (7, [.ref a_this_state, .ref a_this_backup, .ref a_this_aside, .ref a_this_saved, .ref a_this_isSaved, .int (0 : Int32), .ref a_this_text, .int c_textLength, .int c_position, .int c_tokenStart, .int c_token, .int c_letters, .int c_number, .int c_errorCode, .int c_errorPosition, .long c_word, .ref a_this_arrival, .ref a_this_links, .ref a_this_isAvoided, .ref a_this_output, .int t17.1, .ref a_this_toSend, .ref a_this_sendTo, .int c_sendCount])), (a_this_state, .inl (k 0, 2888, .inl c_state)), (a_this_output, .inl (k 0, 60, .inl t17.2))] rfl rfl rfl rfl ⟨rfl, rfl, rn_Bw (wr := [(a_this_state, .inl (k 0, 2888, .inl c_state))]) rfl rfl, rfl, rfl⟩ (rn_r hR rfl) rn_cs hl.1 rfl (Nat.le_of_ble_eq_true rfl) dX7_write_115 (fun H locs hW => ?_)
      cases hf
      exact jnt13 _ _ _ hW (lv_sub hl [1, 0] rfl)
  · replace hf := rn_t hf hc3
    refine lv_aload_n hx hb dX7_write_22 rfl (lv_at hl 0 rfl) ?_
    refine lv_iconst (v := 1) hx hb dX7_write_23 (by decide) ?_
    obtain ⟨t21, ht21, hf⟩ := rn_bind hf
    refine rr_callI (As := [.int (1 : Int32)]) (rest := []) X hW (kX7_fail l D k z a_this a_this_state a_this_backup a_this_aside a_this_saved a_this_isSaved a_this_text a_this_arrival a_this_links a_this_isAvoided a_this_output a_this_toSend a_this_sendTo (0 : Int32) c_textLength c_position c_tokenStart c_token c_letters c_number c_errorCode c_errorPosition c_word c_outputLength c_sendCount (1 : Int32) ht21) gm_X7_fail gl_X7_68 [0] [1, 2] [(a_this, .inr (7, [.ref a_this_state, .ref a_this_backup, .ref a_this_aside, .ref a_this_saved, .ref a_this_isSaved, .int t21.2, .ref a_this_text, .int c_textLength, .int c_position, .int c_tokenStart, .int c_token, .int c_letters, .int c_number, .int c_errorCode, .int c_errorPosition, .long c_word, .ref a_this_arrival, .ref a_this_links, .ref a_this_isAvoided, .ref a_this_output, .int c_outputLength, .ref a_this_toSend, .ref a_this_sendTo, .int c_sendCount])), (a_this_state, .inl (k 0, 2888, .inl c_state)), (a_this_output, .inl (k 0, 60, .inl c_output))] rfl rfl rfl rfl ⟨rfl, rfl, rn_Bw (wr := [(a_this_state, .inl (k 0, 2888, .inl c_state)), (a_this_output, .inl (k 0, 60, .inl c_output))]) rfl rfl, rfl, rfl⟩ (rn_r hR rfl) rn_cs hl.1 rfl (Nat.le_of_ble_eq_true rfl) dX7_write_24 (fun hn21 H locs hW => ?_)
    cases hf
    exact hE _ _ _ _ hW rfl dX7_write_27
def lX1_putWord_2 (w_p1 : List Int32) : Nat → Int32 → Int32 → (Nat → Int32) → Option (Int32 × (Nat → Int32))
  | 0, _, _, _ => none
  | n+1, x2_2, y_length_2, y_bytes_2 =>
    if (Int32.ofNat w_p1.length) ≤ x2_2 then
      some (y_length_2, y_bytes_2)
    else
    rn_g x2_2 w_p1.length <|
    (fX1_put y_length_2 y_bytes_2 (w_p1.getD x2_2.toNatClampNeg 0)).bind fun t4 =>
    lX1_putWord_2 w_p1 n (x2_2 + (1 : Int32)) t4.1 t4.2
def fX1_putWord (N : Nat) (c_length : Int32) (c_bytes : Nat → Int32) (w_p1 : List Int32) : Option (Int32 × (Nat → Int32)) :=
  (lX1_putWord_2 w_p1 N (0 : Int32) c_length c_bytes).bind fun t1 =>
  some (t1.1, t1.2)
set_option maxHeartbeats 4000000 in
set_option maxRecDepth 20000 in
theorem kX1_putWord (l : Launch) (D : va_G) (k : Nat → ClassId) (z : (Nat → Nat) × (Nat → Nat)) (N : Nat) (a_this : Nat) (a_this_bytes : Nat) (c_length : Int32) (c_bytes : Nat → Int32) (s_p1 : Nat) (w_p1 : List Int32) (hs_p1 : rn_sw s_p1 w_p1) {u : Int32 × (Nat → Int32)} (hf : fX1_putWord N c_length c_bytes w_p1 = some u) : rn_KV l D k z yX1_putWord cX1_putWord 3 4 85 [.ref a_this, .ref (z.1 s_p1)] [(a_this, .inr (1, [.ref a_this_bytes, .int c_length])), (a_this_bytes, .inl (k 2, 64, .inl c_bytes))] [(a_this, .inr (1, [.ref a_this_bytes, .int u.1])), (a_this_bytes, .inl (k 2, 64, .inl u.2))] := by
  refine rn_KV.go (LOC := [(0, .ref a_this), (1, .ref (z.1 s_p1))]) rfl (by decide) (Nat.le_of_ble_eq_true rfl) rfl ?_
  intro p e s m args below meth c A ls R Q X hR hE hW hl
  have hx := X.1.1
  have hb := X.1.2.1
  unfold fX1_putWord at hf
  refine lv_iconst (v := 0) hx hb dX1_putWord_0 (by decide) ?_
  refine lv_istore_n (lv' := [(2, .int (0 : Int32)), (0, .ref a_this), (1, .ref (z.1 s_p1))]) hx hb dX1_putWord_1 rfl hl (Nat.le_of_ble_eq_true rfl) rfl (fun ls hl => ?_)
  obtain ⟨t1, ht1, hf⟩ := rn_bind hf
  have kk_2 : ∀ (H : Heap) (locs : List Loc) (ls : Array Slot), rn_W D A s [(a_this, .inr (1, [.ref a_this_bytes, .int t1.1])), (a_this_bytes, .inl (k 2, 64, .inl t1.2))] H locs → lv_has ls 3 [] → W p l e R s m args below meth c H locs 0 0 Q (F0 m 25 ls []) := by
    intro H locs ls hW hl
    cases hf
    exact hE _ _ _ _ hW dX1_putWord_25
  clear hf
  have lp_2 : ∀ (n : Nat) (x2_2 : Int32) (y_length_2 : Int32) (y_bytes_2 : Nat → Int32) (H : Heap) (locs : List Loc) (ls : Array Slot), lX1_putWord_2 w_p1 n x2_2 y_length_2 y_bytes_2 = some t1 → rn_W D A s [(a_this, .inr (1, [.ref a_this_bytes, .int y_length_2])), (a_this_bytes, .inl (k 2, 64, .inl y_bytes_2))] H locs → lv_has ls 3 [(0, .ref a_this), (1, .ref (z.1 s_p1)), (2, .int x2_2)] → W p l e R s m args below meth c H locs 0 0 Q (F0 m 2 ls []) := by
    intro n
    induction n with
    | zero => intro x2_2 y_length_2 y_bytes_2 H locs ls hf; exact absurd hf (by rw [lX1_putWord_2]; exact fun h => nomatch h)
    | succ n ih_2 =>
      intro x2_2 y_length_2 y_bytes_2 H locs ls hf hW hl
      rw [lX1_putWord_2] at hf
      refine lv_iload_n hx hb dX1_putWord_2 rfl (lv_at hl 2 rfl) ?_
      refine lv_aload_n hx hb dX1_putWord_3 rfl (lv_at hl 1 rfl) ?_
      refine rr_slen X hW (j := s_p1) hs_p1 gl_X1_19 (rn_r hR rfl) hl.1 (Nat.le_of_ble_eq_true rfl) dX1_putWord_4 (fun H locs hW => ?_)
      refine lv_icmp_ge (tgt := 25) hx hb dX1_putWord_7 (by decide) (fun hc2 => ?_) (fun hc2 => ?_)
      · replace hf := rn_t hf hc2
        cases hf
        exact kk_2 _ _ _ hW (lv_sub hl [] rfl)
      · replace hf := rn_f hf hc2
        refine lv_aload_n hx hb dX1_putWord_10 rfl (lv_at hl 0 rfl) ?_
        refine lv_aload_n hx hb dX1_putWord_11 rfl (lv_at hl 1 rfl) ?_
        refine lv_iload_n hx hb dX1_putWord_12 rfl (lv_at hl 2 rfl) ?_
        obtain ⟨hg3, hf⟩ := rn_g_s hf
        refine rr_sat X hW (j := s_p1) hs_p1 hg3 gl_X1_24 (rn_r hR rfl) hl.1 (Nat.le_of_ble_eq_true rfl) dX1_putWord_13 (fun H locs hW => ?_)
        obtain ⟨t4, ht4, hf⟩ := rn_bind hf
        refine rr_callV (As := [.int (w_p1.getD x2_2.toNatClampNeg 0)]) (rest := []) X hW (kX1_put l D k z a_this a_this_bytes y_length_2 y_bytes_2 (w_p1.getD x2_2.toNatClampNeg 0) ht4) gm_X1_put gl_X1_28 [0, 1] [] [(a_this, .inr (1, [.ref a_this_bytes, .int t4.1])), (a_this_bytes, .inl (k 2, 64, .inl t4.2))] rfl rfl rfl rfl ⟨rfl, rfl, rfl, rfl, rfl⟩ (rn_r hR rfl) rn_cs hl.1 rfl (Nat.le_of_ble_eq_true rfl) dX1_putWord_16 (fun H locs hW => ?_)
        refine lv_iinc (v := (x2_2 + (1 : Int32))) (lv' := [(2, .int (x2_2 + (1 : Int32))), (0, .ref a_this), (1, .ref (z.1 s_p1))]) hx hb dX1_putWord_19 hl (k := 2) rfl (congrArg (fun q => _ + q) (by decide)) (Nat.le_of_ble_eq_true rfl) rfl (fun ls hl => ?_)
        refine lv_goto (tgt := 2) hx hb dX1_putWord_22 (by decide) ?_
        exact ih_2 (x2_2 + (1 : Int32)) t4.1 t4.2 _ _ _ hf hW (lv_sub hl [1, 2, 0] rfl)
  exact lp_2 N (0 : Int32) c_length c_bytes _ _ _ ht1 hW (lv_sub hl [1, 2, 0] rfl)
def lX3_isWord_20 (c_start : Int32) (c_text : Nat → Int32) (w_p1 : List Int32) : Nat → Int32 → Option (Int32)
  | 0, _ => none
  | n+1, x2_20 =>
    if (Int32.ofNat w_p1.length) ≤ x2_20 then
      some (1 : Int32)
    else
    (fX3_byteAt c_text (c_start + x2_20)).bind fun t3 =>
    rn_g x2_20 w_p1.length <|
    if t3 = (w_p1.getD x2_20.toNatClampNeg 0) then
      lX3_isWord_20 c_start c_text w_p1 n (x2_20 + (1 : Int32))
    else
    some (0 : Int32)
def fX3_isWord (N : Nat) (c_start : Int32) (c_end : Int32) (c_text : Nat → Int32) (w_p1 : List Int32) : Option (Int32) :=
  if (c_end - c_start) = (Int32.ofNat w_p1.length) then
    lX3_isWord_20 c_start c_text w_p1 N (0 : Int32)
  else
  some (0 : Int32)
set_option maxHeartbeats 4000000 in
set_option maxRecDepth 20000 in
theorem kX3_isWord (l : Launch) (D : va_G) (k : Nat → ClassId) (z : (Nat → Nat) × (Nat → Nat)) (N : Nat) (a_this : Nat) (a_this_text : Nat) (c_length : Int32) (c_kind : Int32) (c_start : Int32) (c_end : Int32) (c_value : Int32) (c_error : Int32) (c_errorStart : Int32) (c_text : Nat → Int32) (s_p1 : Nat) (w_p1 : List Int32) (hs_p1 : rn_sw s_p1 w_p1) {u : Int32} (hf : fX3_isWord N c_start c_end c_text w_p1 = some u) : rn_KI l D k z yX3_isWord cX3_isWord 3 .boolean 4 85 [.ref a_this, .ref (z.1 s_p1)] [(a_this, .inr (3, [.ref a_this_text, .int c_length, .int c_kind, .int c_start, .int c_end, .int c_value, .int c_error, .int c_errorStart])), (a_this_text, .inl (k 2, 700, .inl c_text))] [(a_this, .inr (3, [.ref a_this_text, .int c_length, .int c_kind, .int c_start, .int c_end, .int c_value, .int c_error, .int c_errorStart])), (a_this_text, .inl (k 2, 700, .inl c_text))] u := by
  refine rn_KI.go (LOC := [(0, .ref a_this), (1, .ref (z.1 s_p1))]) rfl (by decide) (Nat.le_of_ble_eq_true rfl) rfl ?_
  intro p e s m args below meth c A ls R Q X hR hE hW hl
  have hx := X.1.1
  have hb := X.1.2.1
  unfold fX3_isWord at hf
  refine lv_aload_n hx hb dX3_isWord_0 rfl (lv_at hl 0 rfl) ?_
  refine rr_get X hW 0 4 gf_X3_25 rfl rfl dX3_isWord_1 ?_
  refine lv_aload_n hx hb dX3_isWord_4 rfl (lv_at hl 0 rfl) ?_
  refine rr_get X hW 0 3 gf_X3_22 rfl rfl dX3_isWord_5 ?_
  refine lv_isub hx hb dX3_isWord_8 ?_
  refine lv_aload_n hx hb dX3_isWord_9 rfl (lv_at hl 1 rfl) ?_
  refine rr_slen X hW (j := s_p1) hs_p1 gl_X3_129 (rn_r hR rfl) hl.1 (Nat.le_of_ble_eq_true rfl) dX3_isWord_10 (fun H locs hW => ?_)
  refine lv_icmp_eq (tgt := 18) hx hb dX3_isWord_13 (by decide) (fun hc1 => ?_) (fun hc1 => ?_)
  · replace hf := rn_t hf hc1
    refine lv_iconst (v := 0) hx hb dX3_isWord_18 (by decide) ?_
    refine lv_istore_n (lv' := [(2, .int (0 : Int32)), (0, .ref a_this), (1, .ref (z.1 s_p1))]) hx hb dX3_isWord_19 rfl hl (Nat.le_of_ble_eq_true rfl) rfl (fun ls hl => ?_)
    have lp_20 : ∀ (n : Nat) (x2_20 : Int32) (H : Heap) (locs : List Loc) (ls : Array Slot), lX3_isWord_20 c_start c_text w_p1 n x2_20 = some u → rn_W D A s [(a_this, .inr (3, [.ref a_this_text, .int c_length, .int c_kind, .int c_start, .int c_end, .int c_value, .int c_error, .int c_errorStart])), (a_this_text, .inl (k 2, 700, .inl c_text))] H locs → lv_has ls 3 [(0, .ref a_this), (1, .ref (z.1 s_p1)), (2, .int x2_20)] → W p l e R s m args below meth c H locs 0 0 Q (F0 m 20 ls []) := by
      intro n
      induction n with
      | zero => intro x2_20 H locs ls hf; exact absurd hf (by rw [lX3_isWord_20]; exact fun h => nomatch h)
      | succ n ih_20 =>
        intro x2_20 H locs ls hf hW hl
        rw [lX3_isWord_20] at hf
        refine lv_iload_n hx hb dX3_isWord_20 rfl (lv_at hl 2 rfl) ?_
        refine lv_aload_n hx hb dX3_isWord_21 rfl (lv_at hl 1 rfl) ?_
        refine rr_slen X hW (j := s_p1) hs_p1 gl_X3_129 (rn_r hR rfl) hl.1 (Nat.le_of_ble_eq_true rfl) dX3_isWord_22 (fun H locs hW => ?_)
        refine lv_icmp_ge (tgt := 54) hx hb dX3_isWord_25 (by decide) (fun hc2 => ?_) (fun hc2 => ?_)
        · replace hf := rn_t hf hc2
          refine lv_iconst (v := 1) hx hb dX3_isWord_54 (by decide) ?_
          cases hf
          exact hE _ _ _ _ hW (show narrow .boolean (.int (1 : Int32)) = .int (1 : Int32) from rfl) dX3_isWord_55
        · replace hf := rn_f hf hc2
          refine lv_aload_n hx hb dX3_isWord_28 rfl (lv_at hl 0 rfl) ?_
          refine lv_aload_n hx hb dX3_isWord_29 rfl (lv_at hl 0 rfl) ?_
          refine rr_get X hW 0 3 gf_X3_22 rfl rfl dX3_isWord_30 ?_
          refine lv_iload_n hx hb dX3_isWord_33 rfl (lv_at hl 2 rfl) ?_
          refine lv_iadd hx hb dX3_isWord_34 ?_
          obtain ⟨t3, ht3, hf⟩ := rn_bind hf
          refine rr_callI (As := [.int (c_start + x2_20)]) (rest := []) X hW (kX3_byteAt l D k z a_this a_this_text c_length c_kind c_start c_end c_value c_error c_errorStart c_text (c_start + x2_20) ht3) gm_X3_byteAt gl_X3_116 [0, 1] [] [(a_this, .inr (3, [.ref a_this_text, .int c_length, .int c_kind, .int c_start, .int c_end, .int c_value, .int c_error, .int c_errorStart])), (a_this_text, .inl (k 2, 700, .inl c_text))] rfl rfl rfl rfl ⟨rfl, rfl, rfl, rfl, rfl⟩ (rn_r hR rfl) rn_cs hl.1 rfl (Nat.le_of_ble_eq_true rfl) dX3_isWord_35 (fun hn3 H locs hW => ?_)
          refine lv_aload_n hx hb dX3_isWord_38 rfl (lv_at hl 1 rfl) ?_
          refine lv_iload_n hx hb dX3_isWord_39 rfl (lv_at hl 2 rfl) ?_
          obtain ⟨hg4, hf⟩ := rn_g_s hf
          refine rr_sat X hW (j := s_p1) hs_p1 hg4 gl_X3_133 (rn_r hR rfl) hl.1 (Nat.le_of_ble_eq_true rfl) dX3_isWord_40 (fun H locs hW => ?_)
          refine lv_icmp_eq (tgt := 48) hx hb dX3_isWord_43 (by decide) (fun hc5 => ?_) (fun hc5 => ?_)
          · replace hf := rn_t hf hc5
            refine lv_iinc (v := (x2_20 + (1 : Int32))) (lv' := [(2, .int (x2_20 + (1 : Int32))), (0, .ref a_this), (1, .ref (z.1 s_p1))]) hx hb dX3_isWord_48 hl (k := 2) rfl (congrArg (fun q => _ + q) (by decide)) (Nat.le_of_ble_eq_true rfl) rfl (fun ls hl => ?_)
            refine lv_goto (tgt := 20) hx hb dX3_isWord_51 (by decide) ?_
            exact ih_20 (x2_20 + (1 : Int32)) _ _ _ hf hW (lv_sub hl [1, 2, 0] rfl)
          · replace hf := rn_f hf hc5
            refine lv_iconst (v := 0) hx hb dX3_isWord_46 (by decide) ?_
            cases hf
            exact hE _ _ _ _ hW (show narrow .boolean (.int (0 : Int32)) = .int (0 : Int32) from rfl) dX3_isWord_47
    exact lp_20 N (0 : Int32) _ _ _ hf hW (lv_sub hl [1, 2, 0] rfl)
  · replace hf := rn_f hf hc1
    refine lv_iconst (v := 0) hx hb dX3_isWord_16 (by decide) ?_
    cases hf
    exact hE _ _ _ _ hW (show narrow .boolean (.int (0 : Int32)) = .int (0 : Int32) from rfl) dX3_isWord_17
def fX3_readStatement (N : Nat) (c_length : Int32) (c_kind : Int32) (c_start : Int32) (c_end : Int32) (c_value : Int32) (c_error : Int32) (c_errorStart : Int32) (c_text : Nat → Int32) (c_p1_stationCount : Int32) (c_p1_linkCount : Int32) (c_p1_messageCount : Int32) (c_p1_time : Int32) (c_p1_life : Int32) (c_p1_tries : Int32) (c_p1_x : Int32) (c_p1_stations : Nat → Int32) (c_p1_links : Nat → Int32) (c_p1_messages : Nat → Int32) (c_p1_copies : Nat → Int32) (c_p1_log_first : Int32) (c_p1_log_size : Int32) (c_p1_log_events : Nat → Int32) : Option (Int32 × Int32 × Int32 × Int32 × Int32 × Int32 × Int32 × Int32 × Int32 × Int32 × Int32 × Int32 × (Nat → Int32) × (Nat → Int32) × (Nat → Int32) × (Nat → Int32) × Int32 × Int32 × (Nat → Int32)) :=
  Option.bind (
    if c_kind = (1 : Int32) then
      (fX3_isWord N c_start c_end c_text ([115, 116, 97, 116, 105, 111, 110])).bind fun t3 =>
      if t3 = 0 then
        (fX3_isWord N c_start c_end c_text ([108, 105, 110, 107])).bind fun t5 =>
        if t5 = 0 then
          (fX3_isWord N c_start c_end c_text ([109, 101, 115, 115, 97, 103, 101])).bind fun t7 =>
          if t7 = 0 then
            (fX3_isWord N c_start c_end c_text ([108, 105, 102, 101])).bind fun t9 =>
            if t9 = 0 then
              (fX3_isWord N c_start c_end c_text ([116, 114, 105, 101, 115])).bind fun t11 =>
              if t11 = 0 then
                (fX3_isWord N c_start c_end c_text ([115, 101, 101, 100])).bind fun t13 =>
                if t13 = 0 then
                  (fX3_fail c_start c_error c_errorStart (1 : Int32)).bind fun t15 =>
                  some (c_kind, c_start, c_end, c_value, t15.1, t15.2, c_p1_stationCount, c_p1_linkCount, c_p1_messageCount, c_p1_life, c_p1_tries, c_p1_x, c_p1_stations, c_p1_links, c_p1_messages, c_p1_copies, c_p1_log_first, c_p1_log_size, c_p1_log_events)
                else
                (fX3_readNumber N c_length c_kind c_start c_end c_value c_error c_errorStart c_text (0 : Int32) (1000002 : Int32)).bind fun t16 =>
                (fX2_setX c_p1_x t16.1).bind fun t17 =>
                some (t16.2.1, t16.2.2.1, t16.2.2.2.1, t16.2.2.2.2.1, t16.2.2.2.2.2.1, t16.2.2.2.2.2.2, c_p1_stationCount, c_p1_linkCount, c_p1_messageCount, c_p1_life, c_p1_tries, t17, c_p1_stations, c_p1_links, c_p1_messages, c_p1_copies, c_p1_log_first, c_p1_log_size, c_p1_log_events)
              else
              (fX3_readNumber N c_length c_kind c_start c_end c_value c_error c_errorStart c_text (1 : Int32) (9 : Int32)).bind fun t18 =>
              (fX2_setTries c_p1_tries t18.1).bind fun t19 =>
              some (t18.2.1, t18.2.2.1, t18.2.2.2.1, t18.2.2.2.2.1, t18.2.2.2.2.2.1, t18.2.2.2.2.2.2, c_p1_stationCount, c_p1_linkCount, c_p1_messageCount, c_p1_life, t19, c_p1_x, c_p1_stations, c_p1_links, c_p1_messages, c_p1_copies, c_p1_log_first, c_p1_log_size, c_p1_log_events)
            else
            (fX3_readNumber N c_length c_kind c_start c_end c_value c_error c_errorStart c_text (1 : Int32) (200 : Int32)).bind fun t20 =>
            (fX2_setLife c_p1_life t20.1).bind fun t21 =>
            some (t20.2.1, t20.2.2.1, t20.2.2.2.1, t20.2.2.2.2.1, t20.2.2.2.2.2.1, t20.2.2.2.2.2.2, c_p1_stationCount, c_p1_linkCount, c_p1_messageCount, t21, c_p1_tries, c_p1_x, c_p1_stations, c_p1_links, c_p1_messages, c_p1_copies, c_p1_log_first, c_p1_log_size, c_p1_log_events)
          else
          (fX3_readMessage N c_length c_kind c_start c_end c_value c_error c_errorStart c_text c_p1_stationCount c_p1_messageCount c_p1_time c_p1_messages c_p1_copies c_p1_log_first c_p1_log_size c_p1_log_events).bind fun t22 =>
          some (t22.1, t22.2.1, t22.2.2.1, t22.2.2.2.1, t22.2.2.2.2.1, t22.2.2.2.2.2.1, c_p1_stationCount, c_p1_linkCount, t22.2.2.2.2.2.2.1, c_p1_life, c_p1_tries, c_p1_x, c_p1_stations, c_p1_links, t22.2.2.2.2.2.2.2.1, t22.2.2.2.2.2.2.2.2.1, t22.2.2.2.2.2.2.2.2.2.1, t22.2.2.2.2.2.2.2.2.2.2.1, t22.2.2.2.2.2.2.2.2.2.2.2)
        else
        (fX3_readLink N c_length c_kind c_start c_end c_value c_error c_errorStart c_text c_p1_stationCount c_p1_linkCount c_p1_links).bind fun t23 =>
        some (t23.1, t23.2.1, t23.2.2.1, t23.2.2.2.1, t23.2.2.2.2.1, t23.2.2.2.2.2.1, c_p1_stationCount, t23.2.2.2.2.2.2.1, c_p1_messageCount, c_p1_life, c_p1_tries, c_p1_x, c_p1_stations, t23.2.2.2.2.2.2.2, c_p1_messages, c_p1_copies, c_p1_log_first, c_p1_log_size, c_p1_log_events)
      else
      (fX3_readStation N c_length c_kind c_start c_end c_value c_error c_errorStart c_text c_p1_stationCount c_p1_stations).bind fun t24 =>
      some (t24.1, t24.2.1, t24.2.2.1, t24.2.2.2.1, t24.2.2.2.2.1, t24.2.2.2.2.2.1, t24.2.2.2.2.2.2.1, c_p1_linkCount, c_p1_messageCount, c_p1_life, c_p1_tries, c_p1_x, t24.2.2.2.2.2.2.2, c_p1_links, c_p1_messages, c_p1_copies, c_p1_log_first, c_p1_log_size, c_p1_log_events)
    else
    (fX3_fail c_start c_error c_errorStart (1 : Int32)).bind fun t25 =>
    some (c_kind, c_start, c_end, c_value, t25.1, t25.2, c_p1_stationCount, c_p1_linkCount, c_p1_messageCount, c_p1_life, c_p1_tries, c_p1_x, c_p1_stations, c_p1_links, c_p1_messages, c_p1_copies, c_p1_log_first, c_p1_log_size, c_p1_log_events)
    ) fun t1 =>
  (fX3_readSemicolon N c_length t1.1 t1.2.1 t1.2.2.1 t1.2.2.2.1 t1.2.2.2.2.1 t1.2.2.2.2.2.1 c_text).bind fun t26 =>
  some (t26.1, t26.2.1, t26.2.2.1, t26.2.2.2.1, t26.2.2.2.2.1, t26.2.2.2.2.2, t1.2.2.2.2.2.2.1, t1.2.2.2.2.2.2.2.1, t1.2.2.2.2.2.2.2.2.1, t1.2.2.2.2.2.2.2.2.2.1, t1.2.2.2.2.2.2.2.2.2.2.1, t1.2.2.2.2.2.2.2.2.2.2.2.1, t1.2.2.2.2.2.2.2.2.2.2.2.2.1, t1.2.2.2.2.2.2.2.2.2.2.2.2.2.1, t1.2.2.2.2.2.2.2.2.2.2.2.2.2.2.1, t1.2.2.2.2.2.2.2.2.2.2.2.2.2.2.2.1, t1.2.2.2.2.2.2.2.2.2.2.2.2.2.2.2.2.1, t1.2.2.2.2.2.2.2.2.2.2.2.2.2.2.2.2.2.1, t1.2.2.2.2.2.2.2.2.2.2.2.2.2.2.2.2.2.2)
set_option maxHeartbeats 4000000 in
set_option maxRecDepth 20000 in
theorem kX3_readStatement (l : Launch) (D : va_G) (k : Nat → ClassId) (z : (Nat → Nat) × (Nat → Nat)) (N : Nat) (a_this : Nat) (a_p1 : Nat) (a_this_text : Nat) (a_p1_stations : Nat) (a_p1_links : Nat) (a_p1_messages : Nat) (a_p1_copies : Nat) (a_p1_log : Nat) (a_p1_ways : Nat) (a_p1_frames : Nat) (a_p1_stations_cells : Nat) (a_p1_links_cells : Nat) (a_p1_messages_cells : Nat) (a_p1_copies_cells : Nat) (a_p1_log_events : Nat) (a_p1_log_events_cells : Nat) (c_length : Int32) (c_kind : Int32) (c_start : Int32) (c_end : Int32) (c_value : Int32) (c_error : Int32) (c_errorStart : Int32) (c_text : Nat → Int32) (c_p1_stationCount : Int32) (c_p1_linkCount : Int32) (c_p1_messageCount : Int32) (c_p1_time : Int32) (c_p1_life : Int32) (c_p1_tries : Int32) (c_p1_x : Int32) (c_p1_stations : Nat → Int32) (c_p1_links : Nat → Int32) (c_p1_messages : Nat → Int32) (c_p1_copies : Nat → Int32) (c_p1_log_first : Int32) (c_p1_log_size : Int32) (c_p1_log_events : Nat → Int32) {u : Int32 × Int32 × Int32 × Int32 × Int32 × Int32 × Int32 × Int32 × Int32 × Int32 × Int32 × Int32 × (Nat → Int32) × (Nat → Int32) × (Nat → Int32) × (Nat → Int32) × Int32 × Int32 × (Nat → Int32)} (hf : fX3_readStatement N c_length c_kind c_start c_end c_value c_error c_errorStart c_text c_p1_stationCount c_p1_linkCount c_p1_messageCount c_p1_time c_p1_life c_p1_tries c_p1_x c_p1_stations c_p1_links c_p1_messages c_p1_copies c_p1_log_first c_p1_log_size c_p1_log_events = some u) : rn_KV l D k z yX3_readStatement cX3_readStatement 2 5 107 [.ref a_this, .ref a_p1] [(a_this, .inr (3, [.ref a_this_text, .int c_length, .int c_kind, .int c_start, .int c_end, .int c_value, .int c_error, .int c_errorStart])), (a_this_text, .inl (k 2, 700, .inl c_text)), (a_p1, .inr (2, [.ref a_p1_stations, .ref a_p1_links, .ref a_p1_messages, .ref a_p1_copies, .ref a_p1_log, .ref a_p1_ways, .ref a_p1_frames, .int c_p1_stationCount, .int c_p1_linkCount, .int c_p1_messageCount, .int c_p1_time, .int c_p1_life, .int c_p1_tries, .int c_p1_x])), (a_p1_stations, .inr (4, [.int (8 : Int32), .int (10 : Int32), .ref a_p1_stations_cells])), (a_p1_stations_cells, .inl (k 0, 80, .inl c_p1_stations)), (a_p1_links, .inr (4, [.int (16 : Int32), .int (9 : Int32), .ref a_p1_links_cells])), (a_p1_links_cells, .inl (k 0, 144, .inl c_p1_links)), (a_p1_messages, .inr (4, [.int (24 : Int32), .int (12 : Int32), .ref a_p1_messages_cells])), (a_p1_messages_cells, .inl (k 0, 288, .inl c_p1_messages)), (a_p1_copies, .inr (4, [.int (192 : Int32), .int (5 : Int32), .ref a_p1_copies_cells])), (a_p1_copies_cells, .inl (k 0, 960, .inl c_p1_copies)), (a_p1_log, .inr (0, [.ref a_p1_log_events, .int c_p1_log_first, .int c_p1_log_size])), (a_p1_log_events, .inr (4, [.int (40 : Int32), .int (5 : Int32), .ref a_p1_log_events_cells])), (a_p1_log_events_cells, .inl (k 0, 200, .inl c_p1_log_events))] [(a_this, .inr (3, [.ref a_this_text, .int c_length, .int u.1, .int u.2.1, .int u.2.2.1, .int u.2.2.2.1, .int u.2.2.2.2.1, .int u.2.2.2.2.2.1])), (a_this_text, .inl (k 2, 700, .inl c_text)), (a_p1, .inr (2, [.ref a_p1_stations, .ref a_p1_links, .ref a_p1_messages, .ref a_p1_copies, .ref a_p1_log, .ref a_p1_ways, .ref a_p1_frames, .int u.2.2.2.2.2.2.1, .int u.2.2.2.2.2.2.2.1, .int u.2.2.2.2.2.2.2.2.1, .int c_p1_time, .int u.2.2.2.2.2.2.2.2.2.1, .int u.2.2.2.2.2.2.2.2.2.2.1, .int u.2.2.2.2.2.2.2.2.2.2.2.1])), (a_p1_stations, .inr (4, [.int (8 : Int32), .int (10 : Int32), .ref a_p1_stations_cells])), (a_p1_stations_cells, .inl (k 0, 80, .inl u.2.2.2.2.2.2.2.2.2.2.2.2.1)), (a_p1_links, .inr (4, [.int (16 : Int32), .int (9 : Int32), .ref a_p1_links_cells])), (a_p1_links_cells, .inl (k 0, 144, .inl u.2.2.2.2.2.2.2.2.2.2.2.2.2.1)), (a_p1_messages, .inr (4, [.int (24 : Int32), .int (12 : Int32), .ref a_p1_messages_cells])), (a_p1_messages_cells, .inl (k 0, 288, .inl u.2.2.2.2.2.2.2.2.2.2.2.2.2.2.1)), (a_p1_copies, .inr (4, [.int (192 : Int32), .int (5 : Int32), .ref a_p1_copies_cells])), (a_p1_copies_cells, .inl (k 0, 960, .inl u.2.2.2.2.2.2.2.2.2.2.2.2.2.2.2.1)), (a_p1_log, .inr (0, [.ref a_p1_log_events, .int u.2.2.2.2.2.2.2.2.2.2.2.2.2.2.2.2.1, .int u.2.2.2.2.2.2.2.2.2.2.2.2.2.2.2.2.2.1])), (a_p1_log_events, .inr (4, [.int (40 : Int32), .int (5 : Int32), .ref a_p1_log_events_cells])), (a_p1_log_events_cells, .inl (k 0, 200, .inl u.2.2.2.2.2.2.2.2.2.2.2.2.2.2.2.2.2.2))] := by
  refine rn_KV.go (LOC := [(0, .ref a_this), (1, .ref a_p1)]) rfl (by decide) (Nat.le_of_ble_eq_true rfl) rfl ?_
  intro p e s m args below meth c A ls R Q X hR hE hW hl
  have hx := X.1.1
  have hb := X.1.2.1
  unfold fX3_readStatement at hf
  obtain ⟨u0, u1, u2, u3, u4, u5, u6, u7, u8, u9, u10, u11, u12, u13, u14, u15, u16, u17, u18⟩ := u
  dsimp only at hE
  refine lv_aload_n hx hb dX3_readStatement_0 rfl (lv_at hl 0 rfl) ?_
  refine rr_get X hW 0 2 gf_X3_19 rfl rfl dX3_readStatement_1 ?_
  refine lv_iconst (v := 1) hx hb dX3_readStatement_4 (by decide) ?_
  obtain ⟨t1, ht1, hf⟩ := rn_bind hf
  have jnt1 : ∀ (H : Heap) (locs : List Loc) (ls : Array Slot), rn_W D A s [(a_this, .inr (3, [.ref a_this_text, .int c_length, .int t1.1, .int t1.2.1, .int t1.2.2.1, .int t1.2.2.2.1, .int t1.2.2.2.2.1, .int t1.2.2.2.2.2.1])), (a_this_text, .inl (k 2, 700, .inl c_text)), (a_p1, .inr (2, [.ref a_p1_stations, .ref a_p1_links, .ref a_p1_messages, .ref a_p1_copies, .ref a_p1_log, .ref a_p1_ways, .ref a_p1_frames, .int t1.2.2.2.2.2.2.1, .int t1.2.2.2.2.2.2.2.1, .int t1.2.2.2.2.2.2.2.2.1, .int c_p1_time, .int t1.2.2.2.2.2.2.2.2.2.1, .int t1.2.2.2.2.2.2.2.2.2.2.1, .int t1.2.2.2.2.2.2.2.2.2.2.2.1])), (a_p1_stations, .inr (4, [.int (8 : Int32), .int (10 : Int32), .ref a_p1_stations_cells])), (a_p1_stations_cells, .inl (k 0, 80, .inl t1.2.2.2.2.2.2.2.2.2.2.2.2.1)), (a_p1_links, .inr (4, [.int (16 : Int32), .int (9 : Int32), .ref a_p1_links_cells])), (a_p1_links_cells, .inl (k 0, 144, .inl t1.2.2.2.2.2.2.2.2.2.2.2.2.2.1)), (a_p1_messages, .inr (4, [.int (24 : Int32), .int (12 : Int32), .ref a_p1_messages_cells])), (a_p1_messages_cells, .inl (k 0, 288, .inl t1.2.2.2.2.2.2.2.2.2.2.2.2.2.2.1)), (a_p1_copies, .inr (4, [.int (192 : Int32), .int (5 : Int32), .ref a_p1_copies_cells])), (a_p1_copies_cells, .inl (k 0, 960, .inl t1.2.2.2.2.2.2.2.2.2.2.2.2.2.2.2.1)), (a_p1_log, .inr (0, [.ref a_p1_log_events, .int t1.2.2.2.2.2.2.2.2.2.2.2.2.2.2.2.2.1, .int t1.2.2.2.2.2.2.2.2.2.2.2.2.2.2.2.2.2.1])), (a_p1_log_events, .inr (4, [.int (40 : Int32), .int (5 : Int32), .ref a_p1_log_events_cells])), (a_p1_log_events_cells, .inl (k 0, 200, .inl t1.2.2.2.2.2.2.2.2.2.2.2.2.2.2.2.2.2.2))] H locs → lv_has ls 2 [(0, .ref a_this)] → W p l e R s m args below meth c H locs 0 0 Q (F0 m 142 ls []) := by
    intro H locs ls hW hl
    refine lv_aload_n hx hb dX3_readStatement_142 rfl (lv_at hl 0 rfl) ?_
    obtain ⟨t26, ht26, hf⟩ := rn_bind hf
    refine rr_callV (As := []) (rest := []) X hW (kX3_readSemicolon l D k z N a_this a_this_text c_length t1.1 t1.2.1 t1.2.2.1 t1.2.2.2.1 t1.2.2.2.2.1 t1.2.2.2.2.2.1 c_text ht26) gm_X3_readSemicolon gl_X3_89 [0, 1] [2, 3, 4, 5, 6, 7, 8, 9, 10, 11, 12, 13] [(a_this, .inr (3, [.ref a_this_text, .int c_length, .int t26.1, .int t26.2.1, .int t26.2.2.1, .int t26.2.2.2.1, .int t26.2.2.2.2.1, .int t26.2.2.2.2.2])), (a_this_text, .inl (k 2, 700, .inl c_text)), (a_p1, .inr (2, [.ref a_p1_stations, .ref a_p1_links, .ref a_p1_messages, .ref a_p1_copies, .ref a_p1_log, .ref a_p1_ways, .ref a_p1_frames, .int t1.2.2.2.2.2.2.1, .int t1.2.2.2.2.2.2.2.1, .int t1.2.2.2.2.2.2.2.2.1, .int c_p1_time, .int t1.2.2.2.2.2.2.2.2.2.1, .int t1.2.2.2.2.2.2.2.2.2.2.1, .int t1.2.2.2.2.2.2.2.2.2.2.2.1])), (a_p1_stations, .inr (4, [.int (8 : Int32), .int (10 : Int32), .ref a_p1_stations_cells])), (a_p1_stations_cells, .inl (k 0, 80, .inl t1.2.2.2.2.2.2.2.2.2.2.2.2.1)), (a_p1_links, .inr (4, [.int (16 : Int32), .int (9 : Int32), .ref a_p1_links_cells])), (a_p1_links_cells, .inl (k 0, 144, .inl t1.2.2.2.2.2.2.2.2.2.2.2.2.2.1)), (a_p1_messages, .inr (4, [.int (24 : Int32), .int (12 : Int32), .ref a_p1_messages_cells])), (a_p1_messages_cells, .inl (k 0, 288, .inl t1.2.2.2.2.2.2.2.2.2.2.2.2.2.2.1)), (a_p1_copies, .inr (4, [.int (192 : Int32), .int (5 : Int32), .ref a_p1_copies_cells])), (a_p1_copies_cells, .inl (k 0, 960, .inl t1.2.2.2.2.2.2.2.2.2.2.2.2.2.2.2.1)), (a_p1_log, .inr (0, [.ref a_p1_log_events, .int t1.2.2.2.2.2.2.2.2.2.2.2.2.2.2.2.2.1, .int t1.2.2.2.2.2.2.2.2.2.2.2.2.2.2.2.2.2.1])), (a_p1_log_events, .inr (4, [.int (40 : Int32), .int (5 : Int32), .ref a_p1_log_events_cells])), (a_p1_log_events_cells, .inl (k 0, 200, .inl t1.2.2.2.2.2.2.2.2.2.2.2.2.2.2.2.2.2.2))] rfl rfl rfl rfl ⟨rfl, rfl, rn_Bw (wr := [(a_p1, .inr (2, [.ref a_p1_stations, .ref a_p1_links, .ref a_p1_messages, .ref a_p1_copies, .ref a_p1_log, .ref a_p1_ways, .ref a_p1_frames, .int t1.2.2.2.2.2.2.1, .int t1.2.2.2.2.2.2.2.1, .int t1.2.2.2.2.2.2.2.2.1, .int c_p1_time, .int t1.2.2.2.2.2.2.2.2.2.1, .int t1.2.2.2.2.2.2.2.2.2.2.1, .int t1.2.2.2.2.2.2.2.2.2.2.2.1])), (a_p1_stations, .inr (4, [.int (8 : Int32), .int (10 : Int32), .ref a_p1_stations_cells])), (a_p1_stations_cells, .inl (k 0, 80, .inl t1.2.2.2.2.2.2.2.2.2.2.2.2.1)), (a_p1_links, .inr (4, [.int (16 : Int32), .int (9 : Int32), .ref a_p1_links_cells])), (a_p1_links_cells, .inl (k 0, 144, .inl t1.2.2.2.2.2.2.2.2.2.2.2.2.2.1)), (a_p1_messages, .inr (4, [.int (24 : Int32), .int (12 : Int32), .ref a_p1_messages_cells])), (a_p1_messages_cells, .inl (k 0, 288, .inl t1.2.2.2.2.2.2.2.2.2.2.2.2.2.2.1)), (a_p1_copies, .inr (4, [.int (192 : Int32), .int (5 : Int32), .ref a_p1_copies_cells])), (a_p1_copies_cells, .inl (k 0, 960, .inl t1.2.2.2.2.2.2.2.2.2.2.2.2.2.2.2.1)), (a_p1_log, .inr (0, [.ref a_p1_log_events, .int t1.2.2.2.2.2.2.2.2.2.2.2.2.2.2.2.2.1, .int t1.2.2.2.2.2.2.2.2.2.2.2.2.2.2.2.2.2.1])), (a_p1_log_events, .inr (4, [.int (40 : Int32), .int (5 : Int32), .ref a_p1_log_events_cells])), (a_p1_log_events_cells, .inl (k 0, 200, .inl t1.2.2.2.2.2.2.2.2.2.2.2.2.2.2.2.2.2.2))]) rfl rfl, rfl, rfl⟩ (rn_r hR rfl) rn_cs hl.1 rfl (Nat.le_of_ble_eq_true rfl) dX3_readStatement_143 (fun H locs hW => ?_)
    cases hf
    exact hE _ _ _ _ hW dX3_readStatement_146
  replace hf := ht1
  clear ht1
  refine lv_icmp_eq (tgt := 16) hx hb dX3_readStatement_5 (by decide) (fun hc2 => ?_) (fun hc2 => ?_)
  · replace hf := rn_t hf hc2
    refine lv_aload_n hx hb dX3_readStatement_16 rfl (lv_at hl 0 rfl) ?_
    refine rr_ldS X (j := 0) rfl dX3_readStatement_17 ?_
    obtain ⟨t3, ht3, hf⟩ := rn_bind hf
    refine rr_callI (As := [.ref (z.1 0)]) (rest := []) X hW (kX3_isWord l D k z N a_this a_this_text c_length c_kind c_start c_end c_value c_error c_errorStart c_text 0 [115, 116, 97, 116, 105, 111, 110] ⟨_, rfl, rfl⟩ ht3) gm_X3_isWord gl_X3_50 [0, 1] [2, 3, 4, 5, 6, 7, 8, 9, 10, 11, 12, 13] [(a_this, .inr (3, [.ref a_this_text, .int c_length, .int c_kind, .int c_start, .int c_end, .int c_value, .int c_error, .int c_errorStart])), (a_this_text, .inl (k 2, 700, .inl c_text)), (a_p1, .inr (2, [.ref a_p1_stations, .ref a_p1_links, .ref a_p1_messages, .ref a_p1_copies, .ref a_p1_log, .ref a_p1_ways, .ref a_p1_frames, .int c_p1_stationCount, .int c_p1_linkCount, .int c_p1_messageCount, .int c_p1_time, .int c_p1_life, .int c_p1_tries, .int c_p1_x])), (a_p1_stations, .inr (4, [.int (8 : Int32), .int (10 : Int32), .ref a_p1_stations_cells])), (a_p1_stations_cells, .inl (k 0, 80, .inl c_p1_stations)), (a_p1_links, .inr (4, [.int (16 : Int32), .int (9 : Int32), .ref a_p1_links_cells])), (a_p1_links_cells, .inl (k 0, 144, .inl c_p1_links)), (a_p1_messages, .inr (4, [.int (24 : Int32), .int (12 : Int32), .ref a_p1_messages_cells])), (a_p1_messages_cells, .inl (k 0, 288, .inl c_p1_messages)), (a_p1_copies, .inr (4, [.int (192 : Int32), .int (5 : Int32), .ref a_p1_copies_cells])), (a_p1_copies_cells, .inl (k 0, 960, .inl c_p1_copies)), (a_p1_log, .inr (0, [.ref a_p1_log_events, .int c_p1_log_first, .int c_p1_log_size])), (a_p1_log_events, .inr (4, [.int (40 : Int32), .int (5 : Int32), .ref a_p1_log_events_cells])), (a_p1_log_events_cells, .inl (k 0, 200, .inl c_p1_log_events))] rfl rfl rfl rfl ⟨rfl, rfl, rn_Bw (wr := [(a_p1, .inr (2, [.ref a_p1_stations, .ref a_p1_links, .ref a_p1_messages, .ref a_p1_copies, .ref a_p1_log, .ref a_p1_ways, .ref a_p1_frames, .int c_p1_stationCount, .int c_p1_linkCount, .int c_p1_messageCount, .int c_p1_time, .int c_p1_life, .int c_p1_tries, .int c_p1_x])), (a_p1_stations, .inr (4, [.int (8 : Int32), .int (10 : Int32), .ref a_p1_stations_cells])), (a_p1_stations_cells, .inl (k 0, 80, .inl c_p1_stations)), (a_p1_links, .inr (4, [.int (16 : Int32), .int (9 : Int32), .ref a_p1_links_cells])), (a_p1_links_cells, .inl (k 0, 144, .inl c_p1_links)), (a_p1_messages, .inr (4, [.int (24 : Int32), .int (12 : Int32), .ref a_p1_messages_cells])), (a_p1_messages_cells, .inl (k 0, 288, .inl c_p1_messages)), (a_p1_copies, .inr (4, [.int (192 : Int32), .int (5 : Int32), .ref a_p1_copies_cells])), (a_p1_copies_cells, .inl (k 0, 960, .inl c_p1_copies)), (a_p1_log, .inr (0, [.ref a_p1_log_events, .int c_p1_log_first, .int c_p1_log_size])), (a_p1_log_events, .inr (4, [.int (40 : Int32), .int (5 : Int32), .ref a_p1_log_events_cells])), (a_p1_log_events_cells, .inl (k 0, 200, .inl c_p1_log_events))]) rfl rfl, rfl, rfl⟩ (rn_r hR rfl) rn_cs hl.1 rfl (Nat.le_of_ble_eq_true rfl) dX3_readStatement_19 (fun hn3 H locs hW => ?_)
    refine lv_if_eq (tgt := 33) hx hb dX3_readStatement_22 (by decide) (fun hc4 => ?_) (fun hc4 => ?_)
    · replace hf := rn_t hf hc4
      refine lv_aload_n hx hb dX3_readStatement_33 rfl (lv_at hl 0 rfl) ?_
      refine rr_ldS X (j := 1) rfl dX3_readStatement_34 ?_
      obtain ⟨t5, ht5, hf⟩ := rn_bind hf
      refine rr_callI (As := [.ref (z.1 1)]) (rest := []) X hW (kX3_isWord l D k z N a_this a_this_text c_length c_kind c_start c_end c_value c_error c_errorStart c_text 1 [108, 105, 110, 107] ⟨_, rfl, rfl⟩ ht5) gm_X3_isWord gl_X3_50 [0, 1] [2, 3, 4, 5, 6, 7, 8, 9, 10, 11, 12, 13] [(a_this, .inr (3, [.ref a_this_text, .int c_length, .int c_kind, .int c_start, .int c_end, .int c_value, .int c_error, .int c_errorStart])), (a_this_text, .inl (k 2, 700, .inl c_text)), (a_p1, .inr (2, [.ref a_p1_stations, .ref a_p1_links, .ref a_p1_messages, .ref a_p1_copies, .ref a_p1_log, .ref a_p1_ways, .ref a_p1_frames, .int c_p1_stationCount, .int c_p1_linkCount, .int c_p1_messageCount, .int c_p1_time, .int c_p1_life, .int c_p1_tries, .int c_p1_x])), (a_p1_stations, .inr (4, [.int (8 : Int32), .int (10 : Int32), .ref a_p1_stations_cells])), (a_p1_stations_cells, .inl (k 0, 80, .inl c_p1_stations)), (a_p1_links, .inr (4, [.int (16 : Int32), .int (9 : Int32), .ref a_p1_links_cells])), (a_p1_links_cells, .inl (k 0, 144, .inl c_p1_links)), (a_p1_messages, .inr (4, [.int (24 : Int32), .int (12 : Int32), .ref a_p1_messages_cells])), (a_p1_messages_cells, .inl (k 0, 288, .inl c_p1_messages)), (a_p1_copies, .inr (4, [.int (192 : Int32), .int (5 : Int32), .ref a_p1_copies_cells])), (a_p1_copies_cells, .inl (k 0, 960, .inl c_p1_copies)), (a_p1_log, .inr (0, [.ref a_p1_log_events, .int c_p1_log_first, .int c_p1_log_size])), (a_p1_log_events, .inr (4, [.int (40 : Int32), .int (5 : Int32), .ref a_p1_log_events_cells])), (a_p1_log_events_cells, .inl (k 0, 200, .inl c_p1_log_events))] rfl rfl rfl rfl ⟨rfl, rfl, rn_Bw (wr := [(a_p1, .inr (2, [.ref a_p1_stations, .ref a_p1_links, .ref a_p1_messages, .ref a_p1_copies, .ref a_p1_log, .ref a_p1_ways, .ref a_p1_frames, .int c_p1_stationCount, .int c_p1_linkCount, .int c_p1_messageCount, .int c_p1_time, .int c_p1_life, .int c_p1_tries, .int c_p1_x])), (a_p1_stations, .inr (4, [.int (8 : Int32), .int (10 : Int32), .ref a_p1_stations_cells])), (a_p1_stations_cells, .inl (k 0, 80, .inl c_p1_stations)), (a_p1_links, .inr (4, [.int (16 : Int32), .int (9 : Int32), .ref a_p1_links_cells])), (a_p1_links_cells, .inl (k 0, 144, .inl c_p1_links)), (a_p1_messages, .inr (4, [.int (24 : Int32), .int (12 : Int32), .ref a_p1_messages_cells])), (a_p1_messages_cells, .inl (k 0, 288, .inl c_p1_messages)), (a_p1_copies, .inr (4, [.int (192 : Int32), .int (5 : Int32), .ref a_p1_copies_cells])), (a_p1_copies_cells, .inl (k 0, 960, .inl c_p1_copies)), (a_p1_log, .inr (0, [.ref a_p1_log_events, .int c_p1_log_first, .int c_p1_log_size])), (a_p1_log_events, .inr (4, [.int (40 : Int32), .int (5 : Int32), .ref a_p1_log_events_cells])), (a_p1_log_events_cells, .inl (k 0, 200, .inl c_p1_log_events))]) rfl rfl, rfl, rfl⟩ (rn_r hR rfl) rn_cs hl.1 rfl (Nat.le_of_ble_eq_true rfl) dX3_readStatement_36 (fun hn5 H locs hW => ?_)
      refine lv_if_eq (tgt := 50) hx hb dX3_readStatement_39 (by decide) (fun hc6 => ?_) (fun hc6 => ?_)
      · replace hf := rn_t hf hc6
        refine lv_aload_n hx hb dX3_readStatement_50 rfl (lv_at hl 0 rfl) ?_
        refine rr_ldS X (j := 2) rfl dX3_readStatement_51 ?_
        obtain ⟨t7, ht7, hf⟩ := rn_bind hf
        refine rr_callI (As := [.ref (z.1 2)]) (rest := []) X hW (kX3_isWord l D k z N a_this a_this_text c_length c_kind c_start c_end c_value c_error c_errorStart c_text 2 [109, 101, 115, 115, 97, 103, 101] ⟨_, rfl, rfl⟩ ht7) gm_X3_isWord gl_X3_50 [0, 1] [2, 3, 4, 5, 6, 7, 8, 9, 10, 11, 12, 13] [(a_this, .inr (3, [.ref a_this_text, .int c_length, .int c_kind, .int c_start, .int c_end, .int c_value, .int c_error, .int c_errorStart])), (a_this_text, .inl (k 2, 700, .inl c_text)), (a_p1, .inr (2, [.ref a_p1_stations, .ref a_p1_links, .ref a_p1_messages, .ref a_p1_copies, .ref a_p1_log, .ref a_p1_ways, .ref a_p1_frames, .int c_p1_stationCount, .int c_p1_linkCount, .int c_p1_messageCount, .int c_p1_time, .int c_p1_life, .int c_p1_tries, .int c_p1_x])), (a_p1_stations, .inr (4, [.int (8 : Int32), .int (10 : Int32), .ref a_p1_stations_cells])), (a_p1_stations_cells, .inl (k 0, 80, .inl c_p1_stations)), (a_p1_links, .inr (4, [.int (16 : Int32), .int (9 : Int32), .ref a_p1_links_cells])), (a_p1_links_cells, .inl (k 0, 144, .inl c_p1_links)), (a_p1_messages, .inr (4, [.int (24 : Int32), .int (12 : Int32), .ref a_p1_messages_cells])), (a_p1_messages_cells, .inl (k 0, 288, .inl c_p1_messages)), (a_p1_copies, .inr (4, [.int (192 : Int32), .int (5 : Int32), .ref a_p1_copies_cells])), (a_p1_copies_cells, .inl (k 0, 960, .inl c_p1_copies)), (a_p1_log, .inr (0, [.ref a_p1_log_events, .int c_p1_log_first, .int c_p1_log_size])), (a_p1_log_events, .inr (4, [.int (40 : Int32), .int (5 : Int32), .ref a_p1_log_events_cells])), (a_p1_log_events_cells, .inl (k 0, 200, .inl c_p1_log_events))] rfl rfl rfl rfl ⟨rfl, rfl, rn_Bw (wr := [(a_p1, .inr (2, [.ref a_p1_stations, .ref a_p1_links, .ref a_p1_messages, .ref a_p1_copies, .ref a_p1_log, .ref a_p1_ways, .ref a_p1_frames, .int c_p1_stationCount, .int c_p1_linkCount, .int c_p1_messageCount, .int c_p1_time, .int c_p1_life, .int c_p1_tries, .int c_p1_x])), (a_p1_stations, .inr (4, [.int (8 : Int32), .int (10 : Int32), .ref a_p1_stations_cells])), (a_p1_stations_cells, .inl (k 0, 80, .inl c_p1_stations)), (a_p1_links, .inr (4, [.int (16 : Int32), .int (9 : Int32), .ref a_p1_links_cells])), (a_p1_links_cells, .inl (k 0, 144, .inl c_p1_links)), (a_p1_messages, .inr (4, [.int (24 : Int32), .int (12 : Int32), .ref a_p1_messages_cells])), (a_p1_messages_cells, .inl (k 0, 288, .inl c_p1_messages)), (a_p1_copies, .inr (4, [.int (192 : Int32), .int (5 : Int32), .ref a_p1_copies_cells])), (a_p1_copies_cells, .inl (k 0, 960, .inl c_p1_copies)), (a_p1_log, .inr (0, [.ref a_p1_log_events, .int c_p1_log_first, .int c_p1_log_size])), (a_p1_log_events, .inr (4, [.int (40 : Int32), .int (5 : Int32), .ref a_p1_log_events_cells])), (a_p1_log_events_cells, .inl (k 0, 200, .inl c_p1_log_events))]) rfl rfl, rfl, rfl⟩ (rn_r hR rfl) rn_cs hl.1 rfl (Nat.le_of_ble_eq_true rfl) dX3_readStatement_53 (fun hn7 H locs hW => ?_)
        refine lv_if_eq (tgt := 67) hx hb dX3_readStatement_56 (by decide) (fun hc8 => ?_) (fun hc8 => ?_)
        · replace hf := rn_t hf hc8
          refine lv_aload_n hx hb dX3_readStatement_67 rfl (lv_at hl 0 rfl) ?_
          refine rr_ldS X (j := 3) rfl dX3_readStatement_68 ?_
          obtain ⟨t9, ht9, hf⟩ := rn_bind hf
          refine rr_callI (As := [.ref (z.1 3)]) (rest := []) X hW (kX3_isWord l D k z N a_this a_this_text c_length c_kind c_start c_end c_value c_error c_errorStart c_text 3 [108, 105, 102, 101] ⟨_, rfl, rfl⟩ ht9) gm_X3_isWord gl_X3_50 [0, 1] [2, 3, 4, 5, 6, 7, 8, 9, 10, 11, 12, 13] [(a_this, .inr (3, [.ref a_this_text, .int c_length, .int c_kind, .int c_start, .int c_end, .int c_value, .int c_error, .int c_errorStart])), (a_this_text, .inl (k 2, 700, .inl c_text)), (a_p1, .inr (2, [.ref a_p1_stations, .ref a_p1_links, .ref a_p1_messages, .ref a_p1_copies, .ref a_p1_log, .ref a_p1_ways, .ref a_p1_frames, .int c_p1_stationCount, .int c_p1_linkCount, .int c_p1_messageCount, .int c_p1_time, .int c_p1_life, .int c_p1_tries, .int c_p1_x])), (a_p1_stations, .inr (4, [.int (8 : Int32), .int (10 : Int32), .ref a_p1_stations_cells])), (a_p1_stations_cells, .inl (k 0, 80, .inl c_p1_stations)), (a_p1_links, .inr (4, [.int (16 : Int32), .int (9 : Int32), .ref a_p1_links_cells])), (a_p1_links_cells, .inl (k 0, 144, .inl c_p1_links)), (a_p1_messages, .inr (4, [.int (24 : Int32), .int (12 : Int32), .ref a_p1_messages_cells])), (a_p1_messages_cells, .inl (k 0, 288, .inl c_p1_messages)), (a_p1_copies, .inr (4, [.int (192 : Int32), .int (5 : Int32), .ref a_p1_copies_cells])), (a_p1_copies_cells, .inl (k 0, 960, .inl c_p1_copies)), (a_p1_log, .inr (0, [.ref a_p1_log_events, .int c_p1_log_first, .int c_p1_log_size])), (a_p1_log_events, .inr (4, [.int (40 : Int32), .int (5 : Int32), .ref a_p1_log_events_cells])), (a_p1_log_events_cells, .inl (k 0, 200, .inl c_p1_log_events))] rfl rfl rfl rfl ⟨rfl, rfl, rn_Bw (wr := [(a_p1, .inr (2, [.ref a_p1_stations, .ref a_p1_links, .ref a_p1_messages, .ref a_p1_copies, .ref a_p1_log, .ref a_p1_ways, .ref a_p1_frames, .int c_p1_stationCount, .int c_p1_linkCount, .int c_p1_messageCount, .int c_p1_time, .int c_p1_life, .int c_p1_tries, .int c_p1_x])), (a_p1_stations, .inr (4, [.int (8 : Int32), .int (10 : Int32), .ref a_p1_stations_cells])), (a_p1_stations_cells, .inl (k 0, 80, .inl c_p1_stations)), (a_p1_links, .inr (4, [.int (16 : Int32), .int (9 : Int32), .ref a_p1_links_cells])), (a_p1_links_cells, .inl (k 0, 144, .inl c_p1_links)), (a_p1_messages, .inr (4, [.int (24 : Int32), .int (12 : Int32), .ref a_p1_messages_cells])), (a_p1_messages_cells, .inl (k 0, 288, .inl c_p1_messages)), (a_p1_copies, .inr (4, [.int (192 : Int32), .int (5 : Int32), .ref a_p1_copies_cells])), (a_p1_copies_cells, .inl (k 0, 960, .inl c_p1_copies)), (a_p1_log, .inr (0, [.ref a_p1_log_events, .int c_p1_log_first, .int c_p1_log_size])), (a_p1_log_events, .inr (4, [.int (40 : Int32), .int (5 : Int32), .ref a_p1_log_events_cells])), (a_p1_log_events_cells, .inl (k 0, 200, .inl c_p1_log_events))]) rfl rfl, rfl, rfl⟩ (rn_r hR rfl) rn_cs hl.1 rfl (Nat.le_of_ble_eq_true rfl) dX3_readStatement_70 (fun hn9 H locs hW => ?_)
          refine lv_if_eq (tgt := 91) hx hb dX3_readStatement_73 (by decide) (fun hc10 => ?_) (fun hc10 => ?_)
          · replace hf := rn_t hf hc10
            refine lv_aload_n hx hb dX3_readStatement_91 rfl (lv_at hl 0 rfl) ?_
            refine rr_ldS X (j := 4) rfl dX3_readStatement_92 ?_
            obtain ⟨t11, ht11, hf⟩ := rn_bind hf
            refine rr_callI (As := [.ref (z.1 4)]) (rest := []) X hW (kX3_isWord l D k z N a_this a_this_text c_length c_kind c_start c_end c_value c_error c_errorStart c_text 4 [116, 114, 105, 101, 115] ⟨_, rfl, rfl⟩ ht11) gm_X3_isWord gl_X3_50 [0, 1] [2, 3, 4, 5, 6, 7, 8, 9, 10, 11, 12, 13] [(a_this, .inr (3, [.ref a_this_text, .int c_length, .int c_kind, .int c_start, .int c_end, .int c_value, .int c_error, .int c_errorStart])), (a_this_text, .inl (k 2, 700, .inl c_text)), (a_p1, .inr (2, [.ref a_p1_stations, .ref a_p1_links, .ref a_p1_messages, .ref a_p1_copies, .ref a_p1_log, .ref a_p1_ways, .ref a_p1_frames, .int c_p1_stationCount, .int c_p1_linkCount, .int c_p1_messageCount, .int c_p1_time, .int c_p1_life, .int c_p1_tries, .int c_p1_x])), (a_p1_stations, .inr (4, [.int (8 : Int32), .int (10 : Int32), .ref a_p1_stations_cells])), (a_p1_stations_cells, .inl (k 0, 80, .inl c_p1_stations)), (a_p1_links, .inr (4, [.int (16 : Int32), .int (9 : Int32), .ref a_p1_links_cells])), (a_p1_links_cells, .inl (k 0, 144, .inl c_p1_links)), (a_p1_messages, .inr (4, [.int (24 : Int32), .int (12 : Int32), .ref a_p1_messages_cells])), (a_p1_messages_cells, .inl (k 0, 288, .inl c_p1_messages)), (a_p1_copies, .inr (4, [.int (192 : Int32), .int (5 : Int32), .ref a_p1_copies_cells])), (a_p1_copies_cells, .inl (k 0, 960, .inl c_p1_copies)), (a_p1_log, .inr (0, [.ref a_p1_log_events, .int c_p1_log_first, .int c_p1_log_size])), (a_p1_log_events, .inr (4, [.int (40 : Int32), .int (5 : Int32), .ref a_p1_log_events_cells])), (a_p1_log_events_cells, .inl (k 0, 200, .inl c_p1_log_events))] rfl rfl rfl rfl ⟨rfl, rfl, rn_Bw (wr := [(a_p1, .inr (2, [.ref a_p1_stations, .ref a_p1_links, .ref a_p1_messages, .ref a_p1_copies, .ref a_p1_log, .ref a_p1_ways, .ref a_p1_frames, .int c_p1_stationCount, .int c_p1_linkCount, .int c_p1_messageCount, .int c_p1_time, .int c_p1_life, .int c_p1_tries, .int c_p1_x])), (a_p1_stations, .inr (4, [.int (8 : Int32), .int (10 : Int32), .ref a_p1_stations_cells])), (a_p1_stations_cells, .inl (k 0, 80, .inl c_p1_stations)), (a_p1_links, .inr (4, [.int (16 : Int32), .int (9 : Int32), .ref a_p1_links_cells])), (a_p1_links_cells, .inl (k 0, 144, .inl c_p1_links)), (a_p1_messages, .inr (4, [.int (24 : Int32), .int (12 : Int32), .ref a_p1_messages_cells])), (a_p1_messages_cells, .inl (k 0, 288, .inl c_p1_messages)), (a_p1_copies, .inr (4, [.int (192 : Int32), .int (5 : Int32), .ref a_p1_copies_cells])), (a_p1_copies_cells, .inl (k 0, 960, .inl c_p1_copies)), (a_p1_log, .inr (0, [.ref a_p1_log_events, .int c_p1_log_first, .int c_p1_log_size])), (a_p1_log_events, .inr (4, [.int (40 : Int32), .int (5 : Int32), .ref a_p1_log_events_cells])), (a_p1_log_events_cells, .inl (k 0, 200, .inl c_p1_log_events))]) rfl rfl, rfl, rfl⟩ (rn_r hR rfl) rn_cs hl.1 rfl (Nat.le_of_ble_eq_true rfl) dX3_readStatement_94 (fun hn11 H locs hW => ?_)
            refine lv_if_eq (tgt := 114) hx hb dX3_readStatement_97 (by decide) (fun hc12 => ?_) (fun hc12 => ?_)
            · replace hf := rn_t hf hc12
              refine lv_aload_n hx hb dX3_readStatement_114 rfl (lv_at hl 0 rfl) ?_
              refine rr_ldS X (j := 5) rfl dX3_readStatement_115 ?_
              obtain ⟨t13, ht13, hf⟩ := rn_bind hf
              refine rr_callI (As := [.ref (z.1 5)]) (rest := []) X hW (kX3_isWord l D k z N a_this a_this_text c_length c_kind c_start c_end c_value c_error c_errorStart c_text 5 [115, 101, 101, 100] ⟨_, rfl, rfl⟩ ht13) gm_X3_isWord gl_X3_50 [0, 1] [2, 3, 4, 5, 6, 7, 8, 9, 10, 11, 12, 13] [(a_this, .inr (3, [.ref a_this_text, .int c_length, .int c_kind, .int c_start, .int c_end, .int c_value, .int c_error, .int c_errorStart])), (a_this_text, .inl (k 2, 700, .inl c_text)), (a_p1, .inr (2, [.ref a_p1_stations, .ref a_p1_links, .ref a_p1_messages, .ref a_p1_copies, .ref a_p1_log, .ref a_p1_ways, .ref a_p1_frames, .int c_p1_stationCount, .int c_p1_linkCount, .int c_p1_messageCount, .int c_p1_time, .int c_p1_life, .int c_p1_tries, .int c_p1_x])), (a_p1_stations, .inr (4, [.int (8 : Int32), .int (10 : Int32), .ref a_p1_stations_cells])), (a_p1_stations_cells, .inl (k 0, 80, .inl c_p1_stations)), (a_p1_links, .inr (4, [.int (16 : Int32), .int (9 : Int32), .ref a_p1_links_cells])), (a_p1_links_cells, .inl (k 0, 144, .inl c_p1_links)), (a_p1_messages, .inr (4, [.int (24 : Int32), .int (12 : Int32), .ref a_p1_messages_cells])), (a_p1_messages_cells, .inl (k 0, 288, .inl c_p1_messages)), (a_p1_copies, .inr (4, [.int (192 : Int32), .int (5 : Int32), .ref a_p1_copies_cells])), (a_p1_copies_cells, .inl (k 0, 960, .inl c_p1_copies)), (a_p1_log, .inr (0, [.ref a_p1_log_events, .int c_p1_log_first, .int c_p1_log_size])), (a_p1_log_events, .inr (4, [.int (40 : Int32), .int (5 : Int32), .ref a_p1_log_events_cells])), (a_p1_log_events_cells, .inl (k 0, 200, .inl c_p1_log_events))] rfl rfl rfl rfl ⟨rfl, rfl, rn_Bw (wr := [(a_p1, .inr (2, [.ref a_p1_stations, .ref a_p1_links, .ref a_p1_messages, .ref a_p1_copies, .ref a_p1_log, .ref a_p1_ways, .ref a_p1_frames, .int c_p1_stationCount, .int c_p1_linkCount, .int c_p1_messageCount, .int c_p1_time, .int c_p1_life, .int c_p1_tries, .int c_p1_x])), (a_p1_stations, .inr (4, [.int (8 : Int32), .int (10 : Int32), .ref a_p1_stations_cells])), (a_p1_stations_cells, .inl (k 0, 80, .inl c_p1_stations)), (a_p1_links, .inr (4, [.int (16 : Int32), .int (9 : Int32), .ref a_p1_links_cells])), (a_p1_links_cells, .inl (k 0, 144, .inl c_p1_links)), (a_p1_messages, .inr (4, [.int (24 : Int32), .int (12 : Int32), .ref a_p1_messages_cells])), (a_p1_messages_cells, .inl (k 0, 288, .inl c_p1_messages)), (a_p1_copies, .inr (4, [.int (192 : Int32), .int (5 : Int32), .ref a_p1_copies_cells])), (a_p1_copies_cells, .inl (k 0, 960, .inl c_p1_copies)), (a_p1_log, .inr (0, [.ref a_p1_log_events, .int c_p1_log_first, .int c_p1_log_size])), (a_p1_log_events, .inr (4, [.int (40 : Int32), .int (5 : Int32), .ref a_p1_log_events_cells])), (a_p1_log_events_cells, .inl (k 0, 200, .inl c_p1_log_events))]) rfl rfl, rfl, rfl⟩ (rn_r hR rfl) rn_cs hl.1 rfl (Nat.le_of_ble_eq_true rfl) dX3_readStatement_117 (fun hn13 H locs hW => ?_)
              refine lv_if_eq (tgt := 137) hx hb dX3_readStatement_120 (by decide) (fun hc14 => ?_) (fun hc14 => ?_)
              · replace hf := rn_t hf hc14
                refine lv_aload_n hx hb dX3_readStatement_137 rfl (lv_at hl 0 rfl) ?_
                refine lv_iconst (v := 1) hx hb dX3_readStatement_138 (by decide) ?_
                obtain ⟨t15, ht15, hf⟩ := rn_bind hf
                refine rr_callV (As := [.int (1 : Int32)]) (rest := []) X hW (kX3_fail l D k z a_this a_this_text c_length c_kind c_start c_end c_value c_error c_errorStart (1 : Int32) ht15) gm_X3_fail gl_X3_44 [0] [1, 2, 3, 4, 5, 6, 7, 8, 9, 10, 11, 12, 13] [(a_this, .inr (3, [.ref a_this_text, .int c_length, .int c_kind, .int c_start, .int c_end, .int c_value, .int t15.1, .int t15.2])), (a_this_text, .inl (k 2, 700, .inl c_text)), (a_p1, .inr (2, [.ref a_p1_stations, .ref a_p1_links, .ref a_p1_messages, .ref a_p1_copies, .ref a_p1_log, .ref a_p1_ways, .ref a_p1_frames, .int c_p1_stationCount, .int c_p1_linkCount, .int c_p1_messageCount, .int c_p1_time, .int c_p1_life, .int c_p1_tries, .int c_p1_x])), (a_p1_stations, .inr (4, [.int (8 : Int32), .int (10 : Int32), .ref a_p1_stations_cells])), (a_p1_stations_cells, .inl (k 0, 80, .inl c_p1_stations)), (a_p1_links, .inr (4, [.int (16 : Int32), .int (9 : Int32), .ref a_p1_links_cells])), (a_p1_links_cells, .inl (k 0, 144, .inl c_p1_links)), (a_p1_messages, .inr (4, [.int (24 : Int32), .int (12 : Int32), .ref a_p1_messages_cells])), (a_p1_messages_cells, .inl (k 0, 288, .inl c_p1_messages)), (a_p1_copies, .inr (4, [.int (192 : Int32), .int (5 : Int32), .ref a_p1_copies_cells])), (a_p1_copies_cells, .inl (k 0, 960, .inl c_p1_copies)), (a_p1_log, .inr (0, [.ref a_p1_log_events, .int c_p1_log_first, .int c_p1_log_size])), (a_p1_log_events, .inr (4, [.int (40 : Int32), .int (5 : Int32), .ref a_p1_log_events_cells])), (a_p1_log_events_cells, .inl (k 0, 200, .inl c_p1_log_events))] rfl rfl rfl rfl ⟨rfl, rfl, rn_Bw (wr := [(a_this_text, .inl (k 2, 700, .inl c_text)), (a_p1, .inr (2, [.ref a_p1_stations, .ref a_p1_links, .ref a_p1_messages, .ref a_p1_copies, .ref a_p1_log, .ref a_p1_ways, .ref a_p1_frames, .int c_p1_stationCount, .int c_p1_linkCount, .int c_p1_messageCount, .int c_p1_time, .int c_p1_life, .int c_p1_tries, .int c_p1_x])), (a_p1_stations, .inr (4, [.int (8 : Int32), .int (10 : Int32), .ref a_p1_stations_cells])), (a_p1_stations_cells, .inl (k 0, 80, .inl c_p1_stations)), (a_p1_links, .inr (4, [.int (16 : Int32), .int (9 : Int32), .ref a_p1_links_cells])), (a_p1_links_cells, .inl (k 0, 144, .inl c_p1_links)), (a_p1_messages, .inr (4, [.int (24 : Int32), .int (12 : Int32), .ref a_p1_messages_cells])), (a_p1_messages_cells, .inl (k 0, 288, .inl c_p1_messages)), (a_p1_copies, .inr (4, [.int (192 : Int32), .int (5 : Int32), .ref a_p1_copies_cells])), (a_p1_copies_cells, .inl (k 0, 960, .inl c_p1_copies)), (a_p1_log, .inr (0, [.ref a_p1_log_events, .int c_p1_log_first, .int c_p1_log_size])), (a_p1_log_events, .inr (4, [.int (40 : Int32), .int (5 : Int32), .ref a_p1_log_events_cells])), (a_p1_log_events_cells, .inl (k 0, 200, .inl c_p1_log_events))]) rfl rfl, rfl, rfl⟩ (rn_r hR rfl) rn_cs hl.1 rfl (Nat.le_of_ble_eq_true rfl) dX3_readStatement_139 (fun H locs hW => ?_)
                cases hf
                exact jnt1 _ _ _ hW (lv_sub hl [0] rfl)
              · replace hf := rn_f hf hc14
                refine lv_aload_n hx hb dX3_readStatement_123 rfl (lv_at hl 1 rfl) ?_
                refine lv_aload_n hx hb dX3_readStatement_124 rfl (lv_at hl 0 rfl) ?_
                refine lv_iconst (v := 0) hx hb dX3_readStatement_125 (by decide) ?_
                refine rr_ldc X gk_X3_85 dX3_readStatement_126 ?_
                obtain ⟨t16, ht16, hf⟩ := rn_bind hf
                refine rr_callI (As := [.int (0 : Int32), .int (1000002 : Int32)]) (rest := [.ref a_p1]) X hW (kX3_readNumber l D k z N a_this a_this_text c_length c_kind c_start c_end c_value c_error c_errorStart c_text (0 : Int32) (1000002 : Int32) ht16) gm_X3_readNumber gl_X3_69 [0, 1] [2, 3, 4, 5, 6, 7, 8, 9, 10, 11, 12, 13] [(a_this, .inr (3, [.ref a_this_text, .int c_length, .int t16.2.1, .int t16.2.2.1, .int t16.2.2.2.1, .int t16.2.2.2.2.1, .int t16.2.2.2.2.2.1, .int t16.2.2.2.2.2.2])), (a_this_text, .inl (k 2, 700, .inl c_text)), (a_p1, .inr (2, [.ref a_p1_stations, .ref a_p1_links, .ref a_p1_messages, .ref a_p1_copies, .ref a_p1_log, .ref a_p1_ways, .ref a_p1_frames, .int c_p1_stationCount, .int c_p1_linkCount, .int c_p1_messageCount, .int c_p1_time, .int c_p1_life, .int c_p1_tries, .int c_p1_x])), (a_p1_stations, .inr (4, [.int (8 : Int32), .int (10 : Int32), .ref a_p1_stations_cells])), (a_p1_stations_cells, .inl (k 0, 80, .inl c_p1_stations)), (a_p1_links, .inr (4, [.int (16 : Int32), .int (9 : Int32), .ref a_p1_links_cells])), (a_p1_links_cells, .inl (k 0, 144, .inl c_p1_links)), (a_p1_messages, .inr (4, [.int (24 : Int32), .int (12 : Int32), .ref a_p1_messages_cells])), (a_p1_messages_cells, .inl (k 0, 288, .inl c_p1_messages)), (a_p1_copies, .inr (4, [.int (192 : Int32), .int (5 : Int32), .ref a_p1_copies_cells])), (a_p1_copies_cells, .inl (k 0, 960, .inl c_p1_copies)), (a_p1_log, .inr (0, [.ref a_p1_log_events, .int c_p1_log_first, .int c_p1_log_size])), (a_p1_log_events, .inr (4, [.int (40 : Int32), .int (5 : Int32), .ref a_p1_log_events_cells])), (a_p1_log_events_cells, .inl (k 0, 200, .inl c_p1_log_events))] rfl rfl rfl rfl ⟨rfl, rfl, rn_Bw (wr := [(a_p1, .inr (2, [.ref a_p1_stations, .ref a_p1_links, .ref a_p1_messages, .ref a_p1_copies, .ref a_p1_log, .ref a_p1_ways, .ref a_p1_frames, .int c_p1_stationCount, .int c_p1_linkCount, .int c_p1_messageCount, .int c_p1_time, .int c_p1_life, .int c_p1_tries, .int c_p1_x])), (a_p1_stations, .inr (4, [.int (8 : Int32), .int (10 : Int32), .ref a_p1_stations_cells])), (a_p1_stations_cells, .inl (k 0, 80, .inl c_p1_stations)), (a_p1_links, .inr (4, [.int (16 : Int32), .int (9 : Int32), .ref a_p1_links_cells])), (a_p1_links_cells, .inl (k 0, 144, .inl c_p1_links)), (a_p1_messages, .inr (4, [.int (24 : Int32), .int (12 : Int32), .ref a_p1_messages_cells])), (a_p1_messages_cells, .inl (k 0, 288, .inl c_p1_messages)), (a_p1_copies, .inr (4, [.int (192 : Int32), .int (5 : Int32), .ref a_p1_copies_cells])), (a_p1_copies_cells, .inl (k 0, 960, .inl c_p1_copies)), (a_p1_log, .inr (0, [.ref a_p1_log_events, .int c_p1_log_first, .int c_p1_log_size])), (a_p1_log_events, .inr (4, [.int (40 : Int32), .int (5 : Int32), .ref a_p1_log_events_cells])), (a_p1_log_events_cells, .inl (k 0, 200, .inl c_p1_log_events))]) rfl rfl, rfl, rfl⟩ (rn_r hR rfl) rn_cs hl.1 rfl (Nat.le_of_ble_eq_true rfl) dX3_readStatement_128 (fun hn16 H locs hW => ?_)
                obtain ⟨t17, ht17, hf⟩ := rn_bind hf
                refine rr_callV (As := [.int t16.1]) (rest := []) X hW (kX2_setX l D k z a_p1 a_p1_stations a_p1_links a_p1_messages a_p1_copies a_p1_log a_p1_ways a_p1_frames c_p1_stationCount c_p1_linkCount c_p1_messageCount c_p1_time c_p1_life c_p1_tries c_p1_x t16.1 ht17) gm_X2_setX gl_X3_86 [2] [0, 1, 3, 4, 5, 6, 7, 8, 9, 10, 11, 12, 13] [(a_this, .inr (3, [.ref a_this_text, .int c_length, .int t16.2.1, .int t16.2.2.1, .int t16.2.2.2.1, .int t16.2.2.2.2.1, .int t16.2.2.2.2.2.1, .int t16.2.2.2.2.2.2])), (a_this_text, .inl (k 2, 700, .inl c_text)), (a_p1, .inr (2, [.ref a_p1_stations, .ref a_p1_links, .ref a_p1_messages, .ref a_p1_copies, .ref a_p1_log, .ref a_p1_ways, .ref a_p1_frames, .int c_p1_stationCount, .int c_p1_linkCount, .int c_p1_messageCount, .int c_p1_time, .int c_p1_life, .int c_p1_tries, .int t17])), (a_p1_stations, .inr (4, [.int (8 : Int32), .int (10 : Int32), .ref a_p1_stations_cells])), (a_p1_stations_cells, .inl (k 0, 80, .inl c_p1_stations)), (a_p1_links, .inr (4, [.int (16 : Int32), .int (9 : Int32), .ref a_p1_links_cells])), (a_p1_links_cells, .inl (k 0, 144, .inl c_p1_links)), (a_p1_messages, .inr (4, [.int (24 : Int32), .int (12 : Int32), .ref a_p1_messages_cells])), (a_p1_messages_cells, .inl (k 0, 288, .inl c_p1_messages)), (a_p1_copies, .inr (4, [.int (192 : Int32), .int (5 : Int32), .ref a_p1_copies_cells])), (a_p1_copies_cells, .inl (k 0, 960, .inl c_p1_copies)), (a_p1_log, .inr (0, [.ref a_p1_log_events, .int c_p1_log_first, .int c_p1_log_size])), (a_p1_log_events, .inr (4, [.int (40 : Int32), .int (5 : Int32), .ref a_p1_log_events_cells])), (a_p1_log_events_cells, .inl (k 0, 200, .inl c_p1_log_events))] rfl rfl rfl rfl ⟨rfl, rfl, rn_Bw (wr := [(a_this, .inr (3, [.ref a_this_text, .int c_length, .int t16.2.1, .int t16.2.2.1, .int t16.2.2.2.1, .int t16.2.2.2.2.1, .int t16.2.2.2.2.2.1, .int t16.2.2.2.2.2.2])), (a_this_text, .inl (k 2, 700, .inl c_text)), (a_p1_stations, .inr (4, [.int (8 : Int32), .int (10 : Int32), .ref a_p1_stations_cells])), (a_p1_stations_cells, .inl (k 0, 80, .inl c_p1_stations)), (a_p1_links, .inr (4, [.int (16 : Int32), .int (9 : Int32), .ref a_p1_links_cells])), (a_p1_links_cells, .inl (k 0, 144, .inl c_p1_links)), (a_p1_messages, .inr (4, [.int (24 : Int32), .int (12 : Int32), .ref a_p1_messages_cells])), (a_p1_messages_cells, .inl (k 0, 288, .inl c_p1_messages)), (a_p1_copies, .inr (4, [.int (192 : Int32), .int (5 : Int32), .ref a_p1_copies_cells])), (a_p1_copies_cells, .inl (k 0, 960, .inl c_p1_copies)), (a_p1_log, .inr (0, [.ref a_p1_log_events, .int c_p1_log_first, .int c_p1_log_size])), (a_p1_log_events, .inr (4, [.int (40 : Int32), .int (5 : Int32), .ref a_p1_log_events_cells])), (a_p1_log_events_cells, .inl (k 0, 200, .inl c_p1_log_events))]) rfl rfl, rfl, rfl⟩ (rn_r hR rfl) rn_cs hl.1 rfl (Nat.le_of_ble_eq_true rfl) dX3_readStatement_131 (fun H locs hW => ?_)
                refine lv_goto (tgt := 142) hx hb dX3_readStatement_134 (by decide) ?_
                cases hf
                exact jnt1 _ _ _ hW (lv_sub hl [0] rfl)
            · replace hf := rn_f hf hc12
              refine lv_aload_n hx hb dX3_readStatement_100 rfl (lv_at hl 1 rfl) ?_
              refine lv_aload_n hx hb dX3_readStatement_101 rfl (lv_at hl 0 rfl) ?_
              refine lv_iconst (v := 1) hx hb dX3_readStatement_102 (by decide) ?_
              refine lv_bipush (v := 9) hx hb dX3_readStatement_103 (by decide) ?_
              obtain ⟨t18, ht18, hf⟩ := rn_bind hf
              refine rr_callI (As := [.int (1 : Int32), .int (9 : Int32)]) (rest := [.ref a_p1]) X hW (kX3_readNumber l D k z N a_this a_this_text c_length c_kind c_start c_end c_value c_error c_errorStart c_text (1 : Int32) (9 : Int32) ht18) gm_X3_readNumber gl_X3_69 [0, 1] [2, 3, 4, 5, 6, 7, 8, 9, 10, 11, 12, 13] [(a_this, .inr (3, [.ref a_this_text, .int c_length, .int t18.2.1, .int t18.2.2.1, .int t18.2.2.2.1, .int t18.2.2.2.2.1, .int t18.2.2.2.2.2.1, .int t18.2.2.2.2.2.2])), (a_this_text, .inl (k 2, 700, .inl c_text)), (a_p1, .inr (2, [.ref a_p1_stations, .ref a_p1_links, .ref a_p1_messages, .ref a_p1_copies, .ref a_p1_log, .ref a_p1_ways, .ref a_p1_frames, .int c_p1_stationCount, .int c_p1_linkCount, .int c_p1_messageCount, .int c_p1_time, .int c_p1_life, .int c_p1_tries, .int c_p1_x])), (a_p1_stations, .inr (4, [.int (8 : Int32), .int (10 : Int32), .ref a_p1_stations_cells])), (a_p1_stations_cells, .inl (k 0, 80, .inl c_p1_stations)), (a_p1_links, .inr (4, [.int (16 : Int32), .int (9 : Int32), .ref a_p1_links_cells])), (a_p1_links_cells, .inl (k 0, 144, .inl c_p1_links)), (a_p1_messages, .inr (4, [.int (24 : Int32), .int (12 : Int32), .ref a_p1_messages_cells])), (a_p1_messages_cells, .inl (k 0, 288, .inl c_p1_messages)), (a_p1_copies, .inr (4, [.int (192 : Int32), .int (5 : Int32), .ref a_p1_copies_cells])), (a_p1_copies_cells, .inl (k 0, 960, .inl c_p1_copies)), (a_p1_log, .inr (0, [.ref a_p1_log_events, .int c_p1_log_first, .int c_p1_log_size])), (a_p1_log_events, .inr (4, [.int (40 : Int32), .int (5 : Int32), .ref a_p1_log_events_cells])), (a_p1_log_events_cells, .inl (k 0, 200, .inl c_p1_log_events))] rfl rfl rfl rfl ⟨rfl, rfl, rn_Bw (wr := [(a_p1, .inr (2, [.ref a_p1_stations, .ref a_p1_links, .ref a_p1_messages, .ref a_p1_copies, .ref a_p1_log, .ref a_p1_ways, .ref a_p1_frames, .int c_p1_stationCount, .int c_p1_linkCount, .int c_p1_messageCount, .int c_p1_time, .int c_p1_life, .int c_p1_tries, .int c_p1_x])), (a_p1_stations, .inr (4, [.int (8 : Int32), .int (10 : Int32), .ref a_p1_stations_cells])), (a_p1_stations_cells, .inl (k 0, 80, .inl c_p1_stations)), (a_p1_links, .inr (4, [.int (16 : Int32), .int (9 : Int32), .ref a_p1_links_cells])), (a_p1_links_cells, .inl (k 0, 144, .inl c_p1_links)), (a_p1_messages, .inr (4, [.int (24 : Int32), .int (12 : Int32), .ref a_p1_messages_cells])), (a_p1_messages_cells, .inl (k 0, 288, .inl c_p1_messages)), (a_p1_copies, .inr (4, [.int (192 : Int32), .int (5 : Int32), .ref a_p1_copies_cells])), (a_p1_copies_cells, .inl (k 0, 960, .inl c_p1_copies)), (a_p1_log, .inr (0, [.ref a_p1_log_events, .int c_p1_log_first, .int c_p1_log_size])), (a_p1_log_events, .inr (4, [.int (40 : Int32), .int (5 : Int32), .ref a_p1_log_events_cells])), (a_p1_log_events_cells, .inl (k 0, 200, .inl c_p1_log_events))]) rfl rfl, rfl, rfl⟩ (rn_r hR rfl) rn_cs hl.1 rfl (Nat.le_of_ble_eq_true rfl) dX3_readStatement_105 (fun hn18 H locs hW => ?_)
              obtain ⟨t19, ht19, hf⟩ := rn_bind hf
              refine rr_callV (As := [.int t18.1]) (rest := []) X hW (kX2_setTries l D k z a_p1 a_p1_stations a_p1_links a_p1_messages a_p1_copies a_p1_log a_p1_ways a_p1_frames c_p1_stationCount c_p1_linkCount c_p1_messageCount c_p1_time c_p1_life c_p1_tries c_p1_x t18.1 ht19) gm_X2_setTries gl_X3_80 [2] [0, 1, 3, 4, 5, 6, 7, 8, 9, 10, 11, 12, 13] [(a_this, .inr (3, [.ref a_this_text, .int c_length, .int t18.2.1, .int t18.2.2.1, .int t18.2.2.2.1, .int t18.2.2.2.2.1, .int t18.2.2.2.2.2.1, .int t18.2.2.2.2.2.2])), (a_this_text, .inl (k 2, 700, .inl c_text)), (a_p1, .inr (2, [.ref a_p1_stations, .ref a_p1_links, .ref a_p1_messages, .ref a_p1_copies, .ref a_p1_log, .ref a_p1_ways, .ref a_p1_frames, .int c_p1_stationCount, .int c_p1_linkCount, .int c_p1_messageCount, .int c_p1_time, .int c_p1_life, .int t19, .int c_p1_x])), (a_p1_stations, .inr (4, [.int (8 : Int32), .int (10 : Int32), .ref a_p1_stations_cells])), (a_p1_stations_cells, .inl (k 0, 80, .inl c_p1_stations)), (a_p1_links, .inr (4, [.int (16 : Int32), .int (9 : Int32), .ref a_p1_links_cells])), (a_p1_links_cells, .inl (k 0, 144, .inl c_p1_links)), (a_p1_messages, .inr (4, [.int (24 : Int32), .int (12 : Int32), .ref a_p1_messages_cells])), (a_p1_messages_cells, .inl (k 0, 288, .inl c_p1_messages)), (a_p1_copies, .inr (4, [.int (192 : Int32), .int (5 : Int32), .ref a_p1_copies_cells])), (a_p1_copies_cells, .inl (k 0, 960, .inl c_p1_copies)), (a_p1_log, .inr (0, [.ref a_p1_log_events, .int c_p1_log_first, .int c_p1_log_size])), (a_p1_log_events, .inr (4, [.int (40 : Int32), .int (5 : Int32), .ref a_p1_log_events_cells])), (a_p1_log_events_cells, .inl (k 0, 200, .inl c_p1_log_events))] rfl rfl rfl rfl ⟨rfl, rfl, rn_Bw (wr := [(a_this, .inr (3, [.ref a_this_text, .int c_length, .int t18.2.1, .int t18.2.2.1, .int t18.2.2.2.1, .int t18.2.2.2.2.1, .int t18.2.2.2.2.2.1, .int t18.2.2.2.2.2.2])), (a_this_text, .inl (k 2, 700, .inl c_text)), (a_p1_stations, .inr (4, [.int (8 : Int32), .int (10 : Int32), .ref a_p1_stations_cells])), (a_p1_stations_cells, .inl (k 0, 80, .inl c_p1_stations)), (a_p1_links, .inr (4, [.int (16 : Int32), .int (9 : Int32), .ref a_p1_links_cells])), (a_p1_links_cells, .inl (k 0, 144, .inl c_p1_links)), (a_p1_messages, .inr (4, [.int (24 : Int32), .int (12 : Int32), .ref a_p1_messages_cells])), (a_p1_messages_cells, .inl (k 0, 288, .inl c_p1_messages)), (a_p1_copies, .inr (4, [.int (192 : Int32), .int (5 : Int32), .ref a_p1_copies_cells])), (a_p1_copies_cells, .inl (k 0, 960, .inl c_p1_copies)), (a_p1_log, .inr (0, [.ref a_p1_log_events, .int c_p1_log_first, .int c_p1_log_size])), (a_p1_log_events, .inr (4, [.int (40 : Int32), .int (5 : Int32), .ref a_p1_log_events_cells])), (a_p1_log_events_cells, .inl (k 0, 200, .inl c_p1_log_events))]) rfl rfl, rfl, rfl⟩ (rn_r hR rfl) rn_cs hl.1 rfl (Nat.le_of_ble_eq_true rfl) dX3_readStatement_108 (fun H locs hW => ?_)
              refine lv_goto (tgt := 142) hx hb dX3_readStatement_111 (by decide) ?_
              cases hf
              exact jnt1 _ _ _ hW (lv_sub hl [0] rfl)
          · replace hf := rn_f hf hc10
            refine lv_aload_n hx hb dX3_readStatement_76 rfl (lv_at hl 1 rfl) ?_
            refine lv_aload_n hx hb dX3_readStatement_77 rfl (lv_at hl 0 rfl) ?_
            refine lv_iconst (v := 1) hx hb dX3_readStatement_78 (by decide) ?_
            refine lv_sipush (v := 200) hx hb dX3_readStatement_79 (by decide) ?_
            obtain ⟨t20, ht20, hf⟩ := rn_bind hf
            refine rr_callI (As := [.int (1 : Int32), .int (200 : Int32)]) (rest := [.ref a_p1]) X hW (kX3_readNumber l D k z N a_this a_this_text c_length c_kind c_start c_end c_value c_error c_errorStart c_text (1 : Int32) (200 : Int32) ht20) gm_X3_readNumber gl_X3_69 [0, 1] [2, 3, 4, 5, 6, 7, 8, 9, 10, 11, 12, 13] [(a_this, .inr (3, [.ref a_this_text, .int c_length, .int t20.2.1, .int t20.2.2.1, .int t20.2.2.2.1, .int t20.2.2.2.2.1, .int t20.2.2.2.2.2.1, .int t20.2.2.2.2.2.2])), (a_this_text, .inl (k 2, 700, .inl c_text)), (a_p1, .inr (2, [.ref a_p1_stations, .ref a_p1_links, .ref a_p1_messages, .ref a_p1_copies, .ref a_p1_log, .ref a_p1_ways, .ref a_p1_frames, .int c_p1_stationCount, .int c_p1_linkCount, .int c_p1_messageCount, .int c_p1_time, .int c_p1_life, .int c_p1_tries, .int c_p1_x])), (a_p1_stations, .inr (4, [.int (8 : Int32), .int (10 : Int32), .ref a_p1_stations_cells])), (a_p1_stations_cells, .inl (k 0, 80, .inl c_p1_stations)), (a_p1_links, .inr (4, [.int (16 : Int32), .int (9 : Int32), .ref a_p1_links_cells])), (a_p1_links_cells, .inl (k 0, 144, .inl c_p1_links)), (a_p1_messages, .inr (4, [.int (24 : Int32), .int (12 : Int32), .ref a_p1_messages_cells])), (a_p1_messages_cells, .inl (k 0, 288, .inl c_p1_messages)), (a_p1_copies, .inr (4, [.int (192 : Int32), .int (5 : Int32), .ref a_p1_copies_cells])), (a_p1_copies_cells, .inl (k 0, 960, .inl c_p1_copies)), (a_p1_log, .inr (0, [.ref a_p1_log_events, .int c_p1_log_first, .int c_p1_log_size])), (a_p1_log_events, .inr (4, [.int (40 : Int32), .int (5 : Int32), .ref a_p1_log_events_cells])), (a_p1_log_events_cells, .inl (k 0, 200, .inl c_p1_log_events))] rfl rfl rfl rfl ⟨rfl, rfl, rn_Bw (wr := [(a_p1, .inr (2, [.ref a_p1_stations, .ref a_p1_links, .ref a_p1_messages, .ref a_p1_copies, .ref a_p1_log, .ref a_p1_ways, .ref a_p1_frames, .int c_p1_stationCount, .int c_p1_linkCount, .int c_p1_messageCount, .int c_p1_time, .int c_p1_life, .int c_p1_tries, .int c_p1_x])), (a_p1_stations, .inr (4, [.int (8 : Int32), .int (10 : Int32), .ref a_p1_stations_cells])), (a_p1_stations_cells, .inl (k 0, 80, .inl c_p1_stations)), (a_p1_links, .inr (4, [.int (16 : Int32), .int (9 : Int32), .ref a_p1_links_cells])), (a_p1_links_cells, .inl (k 0, 144, .inl c_p1_links)), (a_p1_messages, .inr (4, [.int (24 : Int32), .int (12 : Int32), .ref a_p1_messages_cells])), (a_p1_messages_cells, .inl (k 0, 288, .inl c_p1_messages)), (a_p1_copies, .inr (4, [.int (192 : Int32), .int (5 : Int32), .ref a_p1_copies_cells])), (a_p1_copies_cells, .inl (k 0, 960, .inl c_p1_copies)), (a_p1_log, .inr (0, [.ref a_p1_log_events, .int c_p1_log_first, .int c_p1_log_size])), (a_p1_log_events, .inr (4, [.int (40 : Int32), .int (5 : Int32), .ref a_p1_log_events_cells])), (a_p1_log_events_cells, .inl (k 0, 200, .inl c_p1_log_events))]) rfl rfl, rfl, rfl⟩ (rn_r hR rfl) rn_cs hl.1 rfl (Nat.le_of_ble_eq_true rfl) dX3_readStatement_82 (fun hn20 H locs hW => ?_)
            obtain ⟨t21, ht21, hf⟩ := rn_bind hf
            refine rr_callV (As := [.int t20.1]) (rest := []) X hW (kX2_setLife l D k z a_p1 a_p1_stations a_p1_links a_p1_messages a_p1_copies a_p1_log a_p1_ways a_p1_frames c_p1_stationCount c_p1_linkCount c_p1_messageCount c_p1_time c_p1_life c_p1_tries c_p1_x t20.1 ht21) gm_X2_setLife gl_X3_73 [2] [0, 1, 3, 4, 5, 6, 7, 8, 9, 10, 11, 12, 13] [(a_this, .inr (3, [.ref a_this_text, .int c_length, .int t20.2.1, .int t20.2.2.1, .int t20.2.2.2.1, .int t20.2.2.2.2.1, .int t20.2.2.2.2.2.1, .int t20.2.2.2.2.2.2])), (a_this_text, .inl (k 2, 700, .inl c_text)), (a_p1, .inr (2, [.ref a_p1_stations, .ref a_p1_links, .ref a_p1_messages, .ref a_p1_copies, .ref a_p1_log, .ref a_p1_ways, .ref a_p1_frames, .int c_p1_stationCount, .int c_p1_linkCount, .int c_p1_messageCount, .int c_p1_time, .int t21, .int c_p1_tries, .int c_p1_x])), (a_p1_stations, .inr (4, [.int (8 : Int32), .int (10 : Int32), .ref a_p1_stations_cells])), (a_p1_stations_cells, .inl (k 0, 80, .inl c_p1_stations)), (a_p1_links, .inr (4, [.int (16 : Int32), .int (9 : Int32), .ref a_p1_links_cells])), (a_p1_links_cells, .inl (k 0, 144, .inl c_p1_links)), (a_p1_messages, .inr (4, [.int (24 : Int32), .int (12 : Int32), .ref a_p1_messages_cells])), (a_p1_messages_cells, .inl (k 0, 288, .inl c_p1_messages)), (a_p1_copies, .inr (4, [.int (192 : Int32), .int (5 : Int32), .ref a_p1_copies_cells])), (a_p1_copies_cells, .inl (k 0, 960, .inl c_p1_copies)), (a_p1_log, .inr (0, [.ref a_p1_log_events, .int c_p1_log_first, .int c_p1_log_size])), (a_p1_log_events, .inr (4, [.int (40 : Int32), .int (5 : Int32), .ref a_p1_log_events_cells])), (a_p1_log_events_cells, .inl (k 0, 200, .inl c_p1_log_events))] rfl rfl rfl rfl ⟨rfl, rfl, rn_Bw (wr := [(a_this, .inr (3, [.ref a_this_text, .int c_length, .int t20.2.1, .int t20.2.2.1, .int t20.2.2.2.1, .int t20.2.2.2.2.1, .int t20.2.2.2.2.2.1, .int t20.2.2.2.2.2.2])), (a_this_text, .inl (k 2, 700, .inl c_text)), (a_p1_stations, .inr (4, [.int (8 : Int32), .int (10 : Int32), .ref a_p1_stations_cells])), (a_p1_stations_cells, .inl (k 0, 80, .inl c_p1_stations)), (a_p1_links, .inr (4, [.int (16 : Int32), .int (9 : Int32), .ref a_p1_links_cells])), (a_p1_links_cells, .inl (k 0, 144, .inl c_p1_links)), (a_p1_messages, .inr (4, [.int (24 : Int32), .int (12 : Int32), .ref a_p1_messages_cells])), (a_p1_messages_cells, .inl (k 0, 288, .inl c_p1_messages)), (a_p1_copies, .inr (4, [.int (192 : Int32), .int (5 : Int32), .ref a_p1_copies_cells])), (a_p1_copies_cells, .inl (k 0, 960, .inl c_p1_copies)), (a_p1_log, .inr (0, [.ref a_p1_log_events, .int c_p1_log_first, .int c_p1_log_size])), (a_p1_log_events, .inr (4, [.int (40 : Int32), .int (5 : Int32), .ref a_p1_log_events_cells])), (a_p1_log_events_cells, .inl (k 0, 200, .inl c_p1_log_events))]) rfl rfl, rfl, rfl⟩ (rn_r hR rfl) rn_cs hl.1 rfl (Nat.le_of_ble_eq_true rfl) dX3_readStatement_85 (fun H locs hW => ?_)
            refine lv_goto (tgt := 142) hx hb dX3_readStatement_88 (by decide) ?_
            cases hf
            exact jnt1 _ _ _ hW (lv_sub hl [0] rfl)
        · replace hf := rn_f hf hc8
          refine lv_aload_n hx hb dX3_readStatement_59 rfl (lv_at hl 0 rfl) ?_
          refine lv_aload_n hx hb dX3_readStatement_60 rfl (lv_at hl 1 rfl) ?_
          obtain ⟨t22, ht22, hf⟩ := rn_bind hf
          refine rr_callV (As := [.ref a_p1]) (rest := []) X hW (kX3_readMessage l D k z N a_this a_p1 a_this_text a_p1_stations a_p1_links a_p1_messages a_p1_copies a_p1_log a_p1_ways a_p1_frames a_p1_messages_cells a_p1_copies_cells a_p1_log_events a_p1_log_events_cells c_length c_kind c_start c_end c_value c_error c_errorStart c_text c_p1_stationCount c_p1_linkCount c_p1_messageCount c_p1_time c_p1_life c_p1_tries c_p1_x c_p1_messages c_p1_copies c_p1_log_first c_p1_log_size c_p1_log_events ht22) gm_X3_readMessage gl_X3_64 [0, 1, 2, 7, 8, 9, 10, 11, 12, 13] [3, 4, 5, 6] [(a_this, .inr (3, [.ref a_this_text, .int c_length, .int t22.1, .int t22.2.1, .int t22.2.2.1, .int t22.2.2.2.1, .int t22.2.2.2.2.1, .int t22.2.2.2.2.2.1])), (a_this_text, .inl (k 2, 700, .inl c_text)), (a_p1, .inr (2, [.ref a_p1_stations, .ref a_p1_links, .ref a_p1_messages, .ref a_p1_copies, .ref a_p1_log, .ref a_p1_ways, .ref a_p1_frames, .int c_p1_stationCount, .int c_p1_linkCount, .int t22.2.2.2.2.2.2.1, .int c_p1_time, .int c_p1_life, .int c_p1_tries, .int c_p1_x])), (a_p1_stations, .inr (4, [.int (8 : Int32), .int (10 : Int32), .ref a_p1_stations_cells])), (a_p1_stations_cells, .inl (k 0, 80, .inl c_p1_stations)), (a_p1_links, .inr (4, [.int (16 : Int32), .int (9 : Int32), .ref a_p1_links_cells])), (a_p1_links_cells, .inl (k 0, 144, .inl c_p1_links)), (a_p1_messages, .inr (4, [.int (24 : Int32), .int (12 : Int32), .ref a_p1_messages_cells])), (a_p1_messages_cells, .inl (k 0, 288, .inl t22.2.2.2.2.2.2.2.1)), (a_p1_copies, .inr (4, [.int (192 : Int32), .int (5 : Int32), .ref a_p1_copies_cells])), (a_p1_copies_cells, .inl (k 0, 960, .inl t22.2.2.2.2.2.2.2.2.1)), (a_p1_log, .inr (0, [.ref a_p1_log_events, .int t22.2.2.2.2.2.2.2.2.2.1, .int t22.2.2.2.2.2.2.2.2.2.2.1])), (a_p1_log_events, .inr (4, [.int (40 : Int32), .int (5 : Int32), .ref a_p1_log_events_cells])), (a_p1_log_events_cells, .inl (k 0, 200, .inl t22.2.2.2.2.2.2.2.2.2.2.2))] rfl rfl rfl rfl ⟨rfl, rfl, rn_Bw (wr := [(a_p1_stations, .inr (4, [.int (8 : Int32), .int (10 : Int32), .ref a_p1_stations_cells])), (a_p1_stations_cells, .inl (k 0, 80, .inl c_p1_stations)), (a_p1_links, .inr (4, [.int (16 : Int32), .int (9 : Int32), .ref a_p1_links_cells])), (a_p1_links_cells, .inl (k 0, 144, .inl c_p1_links))]) rfl rfl, rfl, rfl⟩ (rn_r hR rfl) rn_cs hl.1 rfl (Nat.le_of_ble_eq_true rfl) dX3_readStatement_61 (fun H locs hW => ?_)
          refine lv_goto (tgt := 142) hx hb dX3_readStatement_64 (by decide) ?_
          cases hf
          exact jnt1 _ _ _ hW (lv_sub hl [0] rfl)
      · replace hf := rn_f hf hc6
        refine lv_aload_n hx hb dX3_readStatement_42 rfl (lv_at hl 0 rfl) ?_
        refine lv_aload_n hx hb dX3_readStatement_43 rfl (lv_at hl 1 rfl) ?_
        obtain ⟨t23, ht23, hf⟩ := rn_bind hf
        refine rr_callV (As := [.ref a_p1]) (rest := []) X hW (kX3_readLink l D k z N a_this a_p1 a_this_text a_p1_stations a_p1_links a_p1_messages a_p1_copies a_p1_log a_p1_ways a_p1_frames a_p1_links_cells c_length c_kind c_start c_end c_value c_error c_errorStart c_text c_p1_stationCount c_p1_linkCount c_p1_messageCount c_p1_time c_p1_life c_p1_tries c_p1_x c_p1_links ht23) gm_X3_readLink gl_X3_59 [0, 1, 2, 5, 6] [3, 4, 7, 8, 9, 10, 11, 12, 13] [(a_this, .inr (3, [.ref a_this_text, .int c_length, .int t23.1, .int t23.2.1, .int t23.2.2.1, .int t23.2.2.2.1, .int t23.2.2.2.2.1, .int t23.2.2.2.2.2.1])), (a_this_text, .inl (k 2, 700, .inl c_text)), (a_p1, .inr (2, [.ref a_p1_stations, .ref a_p1_links, .ref a_p1_messages, .ref a_p1_copies, .ref a_p1_log, .ref a_p1_ways, .ref a_p1_frames, .int c_p1_stationCount, .int t23.2.2.2.2.2.2.1, .int c_p1_messageCount, .int c_p1_time, .int c_p1_life, .int c_p1_tries, .int c_p1_x])), (a_p1_stations, .inr (4, [.int (8 : Int32), .int (10 : Int32), .ref a_p1_stations_cells])), (a_p1_stations_cells, .inl (k 0, 80, .inl c_p1_stations)), (a_p1_links, .inr (4, [.int (16 : Int32), .int (9 : Int32), .ref a_p1_links_cells])), (a_p1_links_cells, .inl (k 0, 144, .inl t23.2.2.2.2.2.2.2)), (a_p1_messages, .inr (4, [.int (24 : Int32), .int (12 : Int32), .ref a_p1_messages_cells])), (a_p1_messages_cells, .inl (k 0, 288, .inl c_p1_messages)), (a_p1_copies, .inr (4, [.int (192 : Int32), .int (5 : Int32), .ref a_p1_copies_cells])), (a_p1_copies_cells, .inl (k 0, 960, .inl c_p1_copies)), (a_p1_log, .inr (0, [.ref a_p1_log_events, .int c_p1_log_first, .int c_p1_log_size])), (a_p1_log_events, .inr (4, [.int (40 : Int32), .int (5 : Int32), .ref a_p1_log_events_cells])), (a_p1_log_events_cells, .inl (k 0, 200, .inl c_p1_log_events))] rfl rfl rfl rfl ⟨rfl, rfl, rn_Bw (wr := [(a_p1_stations, .inr (4, [.int (8 : Int32), .int (10 : Int32), .ref a_p1_stations_cells])), (a_p1_stations_cells, .inl (k 0, 80, .inl c_p1_stations)), (a_p1_messages, .inr (4, [.int (24 : Int32), .int (12 : Int32), .ref a_p1_messages_cells])), (a_p1_messages_cells, .inl (k 0, 288, .inl c_p1_messages)), (a_p1_copies, .inr (4, [.int (192 : Int32), .int (5 : Int32), .ref a_p1_copies_cells])), (a_p1_copies_cells, .inl (k 0, 960, .inl c_p1_copies)), (a_p1_log, .inr (0, [.ref a_p1_log_events, .int c_p1_log_first, .int c_p1_log_size])), (a_p1_log_events, .inr (4, [.int (40 : Int32), .int (5 : Int32), .ref a_p1_log_events_cells])), (a_p1_log_events_cells, .inl (k 0, 200, .inl c_p1_log_events))]) rfl rfl, rfl, rfl⟩ (rn_r hR rfl) rn_cs hl.1 rfl (Nat.le_of_ble_eq_true rfl) dX3_readStatement_44 (fun H locs hW => ?_)
        refine lv_goto (tgt := 142) hx hb dX3_readStatement_47 (by decide) ?_
        cases hf
        exact jnt1 _ _ _ hW (lv_sub hl [0] rfl)
    · replace hf := rn_f hf hc4
      refine lv_aload_n hx hb dX3_readStatement_25 rfl (lv_at hl 0 rfl) ?_
      refine lv_aload_n hx hb dX3_readStatement_26 rfl (lv_at hl 1 rfl) ?_
      obtain ⟨t24, ht24, hf⟩ := rn_bind hf
      refine rr_callV (As := [.ref a_p1]) (rest := []) X hW (kX3_readStation l D k z N a_this a_p1 a_this_text a_p1_stations a_p1_links a_p1_messages a_p1_copies a_p1_log a_p1_ways a_p1_frames a_p1_stations_cells c_length c_kind c_start c_end c_value c_error c_errorStart c_text c_p1_stationCount c_p1_linkCount c_p1_messageCount c_p1_time c_p1_life c_p1_tries c_p1_x c_p1_stations ht24) gm_X3_readStation gl_X3_54 [0, 1, 2, 3, 4] [5, 6, 7, 8, 9, 10, 11, 12, 13] [(a_this, .inr (3, [.ref a_this_text, .int c_length, .int t24.1, .int t24.2.1, .int t24.2.2.1, .int t24.2.2.2.1, .int t24.2.2.2.2.1, .int t24.2.2.2.2.2.1])), (a_this_text, .inl (k 2, 700, .inl c_text)), (a_p1, .inr (2, [.ref a_p1_stations, .ref a_p1_links, .ref a_p1_messages, .ref a_p1_copies, .ref a_p1_log, .ref a_p1_ways, .ref a_p1_frames, .int t24.2.2.2.2.2.2.1, .int c_p1_linkCount, .int c_p1_messageCount, .int c_p1_time, .int c_p1_life, .int c_p1_tries, .int c_p1_x])), (a_p1_stations, .inr (4, [.int (8 : Int32), .int (10 : Int32), .ref a_p1_stations_cells])), (a_p1_stations_cells, .inl (k 0, 80, .inl t24.2.2.2.2.2.2.2)), (a_p1_links, .inr (4, [.int (16 : Int32), .int (9 : Int32), .ref a_p1_links_cells])), (a_p1_links_cells, .inl (k 0, 144, .inl c_p1_links)), (a_p1_messages, .inr (4, [.int (24 : Int32), .int (12 : Int32), .ref a_p1_messages_cells])), (a_p1_messages_cells, .inl (k 0, 288, .inl c_p1_messages)), (a_p1_copies, .inr (4, [.int (192 : Int32), .int (5 : Int32), .ref a_p1_copies_cells])), (a_p1_copies_cells, .inl (k 0, 960, .inl c_p1_copies)), (a_p1_log, .inr (0, [.ref a_p1_log_events, .int c_p1_log_first, .int c_p1_log_size])), (a_p1_log_events, .inr (4, [.int (40 : Int32), .int (5 : Int32), .ref a_p1_log_events_cells])), (a_p1_log_events_cells, .inl (k 0, 200, .inl c_p1_log_events))] rfl rfl rfl rfl ⟨rfl, rfl, rn_Bw (wr := [(a_p1_links, .inr (4, [.int (16 : Int32), .int (9 : Int32), .ref a_p1_links_cells])), (a_p1_links_cells, .inl (k 0, 144, .inl c_p1_links)), (a_p1_messages, .inr (4, [.int (24 : Int32), .int (12 : Int32), .ref a_p1_messages_cells])), (a_p1_messages_cells, .inl (k 0, 288, .inl c_p1_messages)), (a_p1_copies, .inr (4, [.int (192 : Int32), .int (5 : Int32), .ref a_p1_copies_cells])), (a_p1_copies_cells, .inl (k 0, 960, .inl c_p1_copies)), (a_p1_log, .inr (0, [.ref a_p1_log_events, .int c_p1_log_first, .int c_p1_log_size])), (a_p1_log_events, .inr (4, [.int (40 : Int32), .int (5 : Int32), .ref a_p1_log_events_cells])), (a_p1_log_events_cells, .inl (k 0, 200, .inl c_p1_log_events))]) rfl rfl, rfl, rfl⟩ (rn_r hR rfl) rn_cs hl.1 rfl (Nat.le_of_ble_eq_true rfl) dX3_readStatement_27 (fun H locs hW => ?_)
      refine lv_goto (tgt := 142) hx hb dX3_readStatement_30 (by decide) ?_
      cases hf
      exact jnt1 _ _ _ hW (lv_sub hl [0] rfl)
  · replace hf := rn_f hf hc2
    refine lv_aload_n hx hb dX3_readStatement_8 rfl (lv_at hl 0 rfl) ?_
    refine lv_iconst (v := 1) hx hb dX3_readStatement_9 (by decide) ?_
    obtain ⟨t25, ht25, hf⟩ := rn_bind hf
    refine rr_callV (As := [.int (1 : Int32)]) (rest := []) X hW (kX3_fail l D k z a_this a_this_text c_length c_kind c_start c_end c_value c_error c_errorStart (1 : Int32) ht25) gm_X3_fail gl_X3_44 [0] [1, 2, 3, 4, 5, 6, 7, 8, 9, 10, 11, 12, 13] [(a_this, .inr (3, [.ref a_this_text, .int c_length, .int c_kind, .int c_start, .int c_end, .int c_value, .int t25.1, .int t25.2])), (a_this_text, .inl (k 2, 700, .inl c_text)), (a_p1, .inr (2, [.ref a_p1_stations, .ref a_p1_links, .ref a_p1_messages, .ref a_p1_copies, .ref a_p1_log, .ref a_p1_ways, .ref a_p1_frames, .int c_p1_stationCount, .int c_p1_linkCount, .int c_p1_messageCount, .int c_p1_time, .int c_p1_life, .int c_p1_tries, .int c_p1_x])), (a_p1_stations, .inr (4, [.int (8 : Int32), .int (10 : Int32), .ref a_p1_stations_cells])), (a_p1_stations_cells, .inl (k 0, 80, .inl c_p1_stations)), (a_p1_links, .inr (4, [.int (16 : Int32), .int (9 : Int32), .ref a_p1_links_cells])), (a_p1_links_cells, .inl (k 0, 144, .inl c_p1_links)), (a_p1_messages, .inr (4, [.int (24 : Int32), .int (12 : Int32), .ref a_p1_messages_cells])), (a_p1_messages_cells, .inl (k 0, 288, .inl c_p1_messages)), (a_p1_copies, .inr (4, [.int (192 : Int32), .int (5 : Int32), .ref a_p1_copies_cells])), (a_p1_copies_cells, .inl (k 0, 960, .inl c_p1_copies)), (a_p1_log, .inr (0, [.ref a_p1_log_events, .int c_p1_log_first, .int c_p1_log_size])), (a_p1_log_events, .inr (4, [.int (40 : Int32), .int (5 : Int32), .ref a_p1_log_events_cells])), (a_p1_log_events_cells, .inl (k 0, 200, .inl c_p1_log_events))] rfl rfl rfl rfl ⟨rfl, rfl, rn_Bw (wr := [(a_this_text, .inl (k 2, 700, .inl c_text)), (a_p1, .inr (2, [.ref a_p1_stations, .ref a_p1_links, .ref a_p1_messages, .ref a_p1_copies, .ref a_p1_log, .ref a_p1_ways, .ref a_p1_frames, .int c_p1_stationCount, .int c_p1_linkCount, .int c_p1_messageCount, .int c_p1_time, .int c_p1_life, .int c_p1_tries, .int c_p1_x])), (a_p1_stations, .inr (4, [.int (8 : Int32), .int (10 : Int32), .ref a_p1_stations_cells])), (a_p1_stations_cells, .inl (k 0, 80, .inl c_p1_stations)), (a_p1_links, .inr (4, [.int (16 : Int32), .int (9 : Int32), .ref a_p1_links_cells])), (a_p1_links_cells, .inl (k 0, 144, .inl c_p1_links)), (a_p1_messages, .inr (4, [.int (24 : Int32), .int (12 : Int32), .ref a_p1_messages_cells])), (a_p1_messages_cells, .inl (k 0, 288, .inl c_p1_messages)), (a_p1_copies, .inr (4, [.int (192 : Int32), .int (5 : Int32), .ref a_p1_copies_cells])), (a_p1_copies_cells, .inl (k 0, 960, .inl c_p1_copies)), (a_p1_log, .inr (0, [.ref a_p1_log_events, .int c_p1_log_first, .int c_p1_log_size])), (a_p1_log_events, .inr (4, [.int (40 : Int32), .int (5 : Int32), .ref a_p1_log_events_cells])), (a_p1_log_events_cells, .inl (k 0, 200, .inl c_p1_log_events))]) rfl rfl, rfl, rfl⟩ (rn_r hR rfl) rn_cs hl.1 rfl (Nat.le_of_ble_eq_true rfl) dX3_readStatement_10 (fun H locs hW => ?_)
    refine lv_goto (tgt := 142) hx hb dX3_readStatement_13 (by decide) ?_
    cases hf
    exact jnt1 _ _ _ hW (lv_sub hl [0] rfl)
def lX3_readInto_21 (N : Nat) (c_length : Int32) (c_text : Nat → Int32) (c_p1_time : Int32) : Nat → Int32 → Int32 → Int32 → Int32 → Int32 → Int32 → Int32 → Int32 → Int32 → Int32 → Int32 → Int32 → Int32 → (Nat → Int32) → (Nat → Int32) → (Nat → Int32) → (Nat → Int32) → Int32 → Int32 → (Nat → Int32) → Option (Int32 × Int32 × Int32 × Int32 × Int32 × Int32 × Int32 × Int32 × Int32 × Int32 × Int32 × Int32 × Int32 × (Nat → Int32) × (Nat → Int32) × (Nat → Int32) × (Nat → Int32) × Int32 × Int32 × (Nat → Int32))
  | 0, _, _, _, _, _, _, _, _, _, _, _, _, _, _, _, _, _, _, _, _ => none
  | n+1, x2_21, y_kind_21, y_start_21, y_end_21, y_value_21, y_error_21, y_errorStart_21, y_p1_stationCount_21, y_p1_linkCount_21, y_p1_messageCount_21, y_p1_life_21, y_p1_tries_21, y_p1_x_21, y_p1_stations_21, y_p1_links_21, y_p1_messages_21, y_p1_copies_21, y_p1_log_first_21, y_p1_log_size_21, y_p1_log_events_21 =>
    if y_kind_21 = 0 then
      some (x2_21, y_kind_21, y_start_21, y_end_21, y_value_21, y_error_21, y_errorStart_21, y_p1_stationCount_21, y_p1_linkCount_21, y_p1_messageCount_21, y_p1_life_21, y_p1_tries_21, y_p1_x_21, y_p1_stations_21, y_p1_links_21, y_p1_messages_21, y_p1_copies_21, y_p1_log_first_21, y_p1_log_size_21, y_p1_log_events_21)
    else
    if y_error_21 = 0 then
      if (700 : Int32) < x2_21 then
        some (x2_21, y_kind_21, y_start_21, y_end_21, y_value_21, y_error_21, y_errorStart_21, y_p1_stationCount_21, y_p1_linkCount_21, y_p1_messageCount_21, y_p1_life_21, y_p1_tries_21, y_p1_x_21, y_p1_stations_21, y_p1_links_21, y_p1_messages_21, y_p1_copies_21, y_p1_log_first_21, y_p1_log_size_21, y_p1_log_events_21)
      else
      (fX3_readStatement N c_length y_kind_21 y_start_21 y_end_21 y_value_21 y_error_21 y_errorStart_21 c_text y_p1_stationCount_21 y_p1_linkCount_21 y_p1_messageCount_21 c_p1_time y_p1_life_21 y_p1_tries_21 y_p1_x_21 y_p1_stations_21 y_p1_links_21 y_p1_messages_21 y_p1_copies_21 y_p1_log_first_21 y_p1_log_size_21 y_p1_log_events_21).bind fun t6 =>
      (fX3_nextToken N c_length t6.1 t6.2.1 t6.2.2.1 t6.2.2.2.1 c_text).bind fun t7 =>
      lX3_readInto_21 N c_length c_text c_p1_time n (x2_21 + (1 : Int32)) t7.1 t7.2.1 t7.2.2.1 t7.2.2.2 t6.2.2.2.2.1 t6.2.2.2.2.2.1 t6.2.2.2.2.2.2.1 t6.2.2.2.2.2.2.2.1 t6.2.2.2.2.2.2.2.2.1 t6.2.2.2.2.2.2.2.2.2.1 t6.2.2.2.2.2.2.2.2.2.2.1 t6.2.2.2.2.2.2.2.2.2.2.2.1 t6.2.2.2.2.2.2.2.2.2.2.2.2.1 t6.2.2.2.2.2.2.2.2.2.2.2.2.2.1 t6.2.2.2.2.2.2.2.2.2.2.2.2.2.2.1 t6.2.2.2.2.2.2.2.2.2.2.2.2.2.2.2.1 t6.2.2.2.2.2.2.2.2.2.2.2.2.2.2.2.2.1 t6.2.2.2.2.2.2.2.2.2.2.2.2.2.2.2.2.2.1 t6.2.2.2.2.2.2.2.2.2.2.2.2.2.2.2.2.2.2
    else
    some (x2_21, y_kind_21, y_start_21, y_end_21, y_value_21, y_error_21, y_errorStart_21, y_p1_stationCount_21, y_p1_linkCount_21, y_p1_messageCount_21, y_p1_life_21, y_p1_tries_21, y_p1_x_21, y_p1_stations_21, y_p1_links_21, y_p1_messages_21, y_p1_copies_21, y_p1_log_first_21, y_p1_log_size_21, y_p1_log_events_21)
def fX3_readInto (N : Nat) (c_length : Int32) (c_kind : Int32) (c_start : Int32) (c_end : Int32) (c_value : Int32) (c_error : Int32) (c_errorStart : Int32) (c_text : Nat → Int32) (c_p1_stationCount : Int32) (c_p1_linkCount : Int32) (c_p1_messageCount : Int32) (c_p1_time : Int32) (c_p1_life : Int32) (c_p1_tries : Int32) (c_p1_x : Int32) (c_p1_stations : Nat → Int32) (c_p1_links : Nat → Int32) (c_p1_messages : Nat → Int32) (c_p1_copies : Nat → Int32) (c_p1_log_first : Int32) (c_p1_log_size : Int32) (c_p1_log_events : Nat → Int32) : Option (Int32 × Int32 × Int32 × Int32 × Int32 × Int32 × Int32 × Int32 × Int32 × Int32 × Int32 × Int32 × Int32 × (Nat → Int32) × (Nat → Int32) × (Nat → Int32) × (Nat → Int32) × Int32 × Int32 × (Nat → Int32)) :=
  (fX3_nextToken N c_length c_kind c_start (0 : Int32) c_value c_text).bind fun t1 =>
  (lX3_readInto_21 N c_length c_text c_p1_time N (0 : Int32) t1.1 t1.2.1 t1.2.2.1 t1.2.2.2 (0 : Int32) (-1 : Int32) c_p1_stationCount c_p1_linkCount c_p1_messageCount c_p1_life c_p1_tries c_p1_x c_p1_stations c_p1_links c_p1_messages c_p1_copies c_p1_log_first c_p1_log_size c_p1_log_events).bind fun t2 =>
  some (t2.1, t2.2.1, t2.2.2.1, t2.2.2.2.1, t2.2.2.2.2.1, t2.2.2.2.2.2.1, t2.2.2.2.2.2.2.1, t2.2.2.2.2.2.2.2.1, t2.2.2.2.2.2.2.2.2.1, t2.2.2.2.2.2.2.2.2.2.1, t2.2.2.2.2.2.2.2.2.2.2.1, t2.2.2.2.2.2.2.2.2.2.2.2.1, t2.2.2.2.2.2.2.2.2.2.2.2.2.1, t2.2.2.2.2.2.2.2.2.2.2.2.2.2.1, t2.2.2.2.2.2.2.2.2.2.2.2.2.2.2.1, t2.2.2.2.2.2.2.2.2.2.2.2.2.2.2.2.1, t2.2.2.2.2.2.2.2.2.2.2.2.2.2.2.2.2.1, t2.2.2.2.2.2.2.2.2.2.2.2.2.2.2.2.2.2.1, t2.2.2.2.2.2.2.2.2.2.2.2.2.2.2.2.2.2.2.1, t2.2.2.2.2.2.2.2.2.2.2.2.2.2.2.2.2.2.2.2)
set_option maxHeartbeats 4000000 in
set_option maxRecDepth 20000 in
theorem kX3_readInto (l : Launch) (D : va_G) (k : Nat → ClassId) (z : (Nat → Nat) × (Nat → Nat)) (N : Nat) (a_this : Nat) (a_p1 : Nat) (a_this_text : Nat) (a_p1_stations : Nat) (a_p1_links : Nat) (a_p1_messages : Nat) (a_p1_copies : Nat) (a_p1_log : Nat) (a_p1_ways : Nat) (a_p1_frames : Nat) (a_p1_stations_cells : Nat) (a_p1_links_cells : Nat) (a_p1_messages_cells : Nat) (a_p1_copies_cells : Nat) (a_p1_log_events : Nat) (a_p1_log_events_cells : Nat) (c_length : Int32) (c_kind : Int32) (c_start : Int32) (c_end : Int32) (c_value : Int32) (c_error : Int32) (c_errorStart : Int32) (c_text : Nat → Int32) (c_p1_stationCount : Int32) (c_p1_linkCount : Int32) (c_p1_messageCount : Int32) (c_p1_time : Int32) (c_p1_life : Int32) (c_p1_tries : Int32) (c_p1_x : Int32) (c_p1_stations : Nat → Int32) (c_p1_links : Nat → Int32) (c_p1_messages : Nat → Int32) (c_p1_copies : Nat → Int32) (c_p1_log_first : Int32) (c_p1_log_size : Int32) (c_p1_log_events : Nat → Int32) {u : Int32 × Int32 × Int32 × Int32 × Int32 × Int32 × Int32 × Int32 × Int32 × Int32 × Int32 × Int32 × Int32 × (Nat → Int32) × (Nat → Int32) × (Nat → Int32) × (Nat → Int32) × Int32 × Int32 × (Nat → Int32)} (hf : fX3_readInto N c_length c_kind c_start c_end c_value c_error c_errorStart c_text c_p1_stationCount c_p1_linkCount c_p1_messageCount c_p1_time c_p1_life c_p1_tries c_p1_x c_p1_stations c_p1_links c_p1_messages c_p1_copies c_p1_log_first c_p1_log_size c_p1_log_events = some u) : rn_KI l D k z yX3_readInto cX3_readInto 3 .int 6 128 [.ref a_this, .ref a_p1] [(a_this, .inr (3, [.ref a_this_text, .int c_length, .int c_kind, .int c_start, .int c_end, .int c_value, .int c_error, .int c_errorStart])), (a_this_text, .inl (k 2, 700, .inl c_text)), (a_p1, .inr (2, [.ref a_p1_stations, .ref a_p1_links, .ref a_p1_messages, .ref a_p1_copies, .ref a_p1_log, .ref a_p1_ways, .ref a_p1_frames, .int c_p1_stationCount, .int c_p1_linkCount, .int c_p1_messageCount, .int c_p1_time, .int c_p1_life, .int c_p1_tries, .int c_p1_x])), (a_p1_stations, .inr (4, [.int (8 : Int32), .int (10 : Int32), .ref a_p1_stations_cells])), (a_p1_stations_cells, .inl (k 0, 80, .inl c_p1_stations)), (a_p1_links, .inr (4, [.int (16 : Int32), .int (9 : Int32), .ref a_p1_links_cells])), (a_p1_links_cells, .inl (k 0, 144, .inl c_p1_links)), (a_p1_messages, .inr (4, [.int (24 : Int32), .int (12 : Int32), .ref a_p1_messages_cells])), (a_p1_messages_cells, .inl (k 0, 288, .inl c_p1_messages)), (a_p1_copies, .inr (4, [.int (192 : Int32), .int (5 : Int32), .ref a_p1_copies_cells])), (a_p1_copies_cells, .inl (k 0, 960, .inl c_p1_copies)), (a_p1_log, .inr (0, [.ref a_p1_log_events, .int c_p1_log_first, .int c_p1_log_size])), (a_p1_log_events, .inr (4, [.int (40 : Int32), .int (5 : Int32), .ref a_p1_log_events_cells])), (a_p1_log_events_cells, .inl (k 0, 200, .inl c_p1_log_events))] [(a_this, .inr (3, [.ref a_this_text, .int c_length, .int u.2.1, .int u.2.2.1, .int u.2.2.2.1, .int u.2.2.2.2.1, .int u.2.2.2.2.2.1, .int u.2.2.2.2.2.2.1])), (a_this_text, .inl (k 2, 700, .inl c_text)), (a_p1, .inr (2, [.ref a_p1_stations, .ref a_p1_links, .ref a_p1_messages, .ref a_p1_copies, .ref a_p1_log, .ref a_p1_ways, .ref a_p1_frames, .int u.2.2.2.2.2.2.2.1, .int u.2.2.2.2.2.2.2.2.1, .int u.2.2.2.2.2.2.2.2.2.1, .int c_p1_time, .int u.2.2.2.2.2.2.2.2.2.2.1, .int u.2.2.2.2.2.2.2.2.2.2.2.1, .int u.2.2.2.2.2.2.2.2.2.2.2.2.1])), (a_p1_stations, .inr (4, [.int (8 : Int32), .int (10 : Int32), .ref a_p1_stations_cells])), (a_p1_stations_cells, .inl (k 0, 80, .inl u.2.2.2.2.2.2.2.2.2.2.2.2.2.1)), (a_p1_links, .inr (4, [.int (16 : Int32), .int (9 : Int32), .ref a_p1_links_cells])), (a_p1_links_cells, .inl (k 0, 144, .inl u.2.2.2.2.2.2.2.2.2.2.2.2.2.2.1)), (a_p1_messages, .inr (4, [.int (24 : Int32), .int (12 : Int32), .ref a_p1_messages_cells])), (a_p1_messages_cells, .inl (k 0, 288, .inl u.2.2.2.2.2.2.2.2.2.2.2.2.2.2.2.1)), (a_p1_copies, .inr (4, [.int (192 : Int32), .int (5 : Int32), .ref a_p1_copies_cells])), (a_p1_copies_cells, .inl (k 0, 960, .inl u.2.2.2.2.2.2.2.2.2.2.2.2.2.2.2.2.1)), (a_p1_log, .inr (0, [.ref a_p1_log_events, .int u.2.2.2.2.2.2.2.2.2.2.2.2.2.2.2.2.2.1, .int u.2.2.2.2.2.2.2.2.2.2.2.2.2.2.2.2.2.2.1])), (a_p1_log_events, .inr (4, [.int (40 : Int32), .int (5 : Int32), .ref a_p1_log_events_cells])), (a_p1_log_events_cells, .inl (k 0, 200, .inl u.2.2.2.2.2.2.2.2.2.2.2.2.2.2.2.2.2.2.2))] u.1 := by
  refine rn_KI.go (LOC := [(0, .ref a_this), (1, .ref a_p1)]) rfl (by decide) (Nat.le_of_ble_eq_true rfl) rfl ?_
  intro p e s m args below meth c A ls R Q X hR hE hW hl
  have hx := X.1.1
  have hb := X.1.2.1
  unfold fX3_readInto at hf
  obtain ⟨u0, u1, u2, u3, u4, u5, u6, u7, u8, u9, u10, u11, u12, u13, u14, u15, u16, u17, u18, u19⟩ := u
  dsimp only at hE
  refine lv_aload_n hx hb dX3_readInto_0 rfl (lv_at hl 0 rfl) ?_
  refine lv_iconst (v := 0) hx hb dX3_readInto_1 (by decide) ?_
  refine rr_put X hW 0 4 gp_X3_25 rfl rfl rfl (Nat.le_of_ble_eq_true rfl) (ws' := [(a_this, .inr (3, [.ref a_this_text, .int c_length, .int c_kind, .int c_start, .int (0 : Int32), .int c_value, .int c_error, .int c_errorStart])), (a_this_text, .inl (k 2, 700, .inl c_text)), (a_p1, .inr (2, [.ref a_p1_stations, .ref a_p1_links, .ref a_p1_messages, .ref a_p1_copies, .ref a_p1_log, .ref a_p1_ways, .ref a_p1_frames, .int c_p1_stationCount, .int c_p1_linkCount, .int c_p1_messageCount, .int c_p1_time, .int c_p1_life, .int c_p1_tries, .int c_p1_x])), (a_p1_stations, .inr (4, [.int (8 : Int32), .int (10 : Int32), .ref a_p1_stations_cells])), (a_p1_stations_cells, .inl (k 0, 80, .inl c_p1_stations)), (a_p1_links, .inr (4, [.int (16 : Int32), .int (9 : Int32), .ref a_p1_links_cells])), (a_p1_links_cells, .inl (k 0, 144, .inl c_p1_links)), (a_p1_messages, .inr (4, [.int (24 : Int32), .int (12 : Int32), .ref a_p1_messages_cells])), (a_p1_messages_cells, .inl (k 0, 288, .inl c_p1_messages)), (a_p1_copies, .inr (4, [.int (192 : Int32), .int (5 : Int32), .ref a_p1_copies_cells])), (a_p1_copies_cells, .inl (k 0, 960, .inl c_p1_copies)), (a_p1_log, .inr (0, [.ref a_p1_log_events, .int c_p1_log_first, .int c_p1_log_size])), (a_p1_log_events, .inr (4, [.int (40 : Int32), .int (5 : Int32), .ref a_p1_log_events_cells])), (a_p1_log_events_cells, .inl (k 0, 200, .inl c_p1_log_events))]) rfl dX3_readInto_2 (fun H locs hW => ?_)
  refine lv_aload_n hx hb dX3_readInto_5 rfl (lv_at hl 0 rfl) ?_
  refine lv_iconst (v := 0) hx hb dX3_readInto_6 (by decide) ?_
  refine rr_put X hW 0 6 gp_X3_31 rfl rfl rfl (Nat.le_of_ble_eq_true rfl) (ws' := [(a_this, .inr (3, [.ref a_this_text, .int c_length, .int c_kind, .int c_start, .int (0 : Int32), .int c_value, .int (0 : Int32), .int c_errorStart])), (a_this_text, .inl (k 2, 700, .inl c_text)), (a_p1, .inr (2, [.ref a_p1_stations, .ref a_p1_links, .ref a_p1_messages, .ref a_p1_copies, .ref a_p1_log, .ref a_p1_ways, .ref a_p1_frames, .int c_p1_stationCount, .int c_p1_linkCount, .int c_p1_messageCount, .int c_p1_time, .int c_p1_life, .int c_p1_tries, .int c_p1_x])), (a_p1_stations, .inr (4, [.int (8 : Int32), .int (10 : Int32), .ref a_p1_stations_cells])), (a_p1_stations_cells, .inl (k 0, 80, .inl c_p1_stations)), (a_p1_links, .inr (4, [.int (16 : Int32), .int (9 : Int32), .ref a_p1_links_cells])), (a_p1_links_cells, .inl (k 0, 144, .inl c_p1_links)), (a_p1_messages, .inr (4, [.int (24 : Int32), .int (12 : Int32), .ref a_p1_messages_cells])), (a_p1_messages_cells, .inl (k 0, 288, .inl c_p1_messages)), (a_p1_copies, .inr (4, [.int (192 : Int32), .int (5 : Int32), .ref a_p1_copies_cells])), (a_p1_copies_cells, .inl (k 0, 960, .inl c_p1_copies)), (a_p1_log, .inr (0, [.ref a_p1_log_events, .int c_p1_log_first, .int c_p1_log_size])), (a_p1_log_events, .inr (4, [.int (40 : Int32), .int (5 : Int32), .ref a_p1_log_events_cells])), (a_p1_log_events_cells, .inl (k 0, 200, .inl c_p1_log_events))]) rfl dX3_readInto_7 (fun H locs hW => ?_)
  refine lv_aload_n hx hb dX3_readInto_10 rfl (lv_at hl 0 rfl) ?_
  refine lv_iconst (v := -1) hx hb dX3_readInto_11 (by decide) ?_
  refine rr_put X hW 0 7 gp_X3_34 rfl rfl rfl (Nat.le_of_ble_eq_true rfl) (ws' := [(a_this, .inr (3, [.ref a_this_text, .int c_length, .int c_kind, .int c_start, .int (0 : Int32), .int c_value, .int (0 : Int32), .int (-1 : Int32)])), (a_this_text, .inl (k 2, 700, .inl c_text)), (a_p1, .inr (2, [.ref a_p1_stations, .ref a_p1_links, .ref a_p1_messages, .ref a_p1_copies, .ref a_p1_log, .ref a_p1_ways, .ref a_p1_frames, .int c_p1_stationCount, .int c_p1_linkCount, .int c_p1_messageCount, .int c_p1_time, .int c_p1_life, .int c_p1_tries, .int c_p1_x])), (a_p1_stations, .inr (4, [.int (8 : Int32), .int (10 : Int32), .ref a_p1_stations_cells])), (a_p1_stations_cells, .inl (k 0, 80, .inl c_p1_stations)), (a_p1_links, .inr (4, [.int (16 : Int32), .int (9 : Int32), .ref a_p1_links_cells])), (a_p1_links_cells, .inl (k 0, 144, .inl c_p1_links)), (a_p1_messages, .inr (4, [.int (24 : Int32), .int (12 : Int32), .ref a_p1_messages_cells])), (a_p1_messages_cells, .inl (k 0, 288, .inl c_p1_messages)), (a_p1_copies, .inr (4, [.int (192 : Int32), .int (5 : Int32), .ref a_p1_copies_cells])), (a_p1_copies_cells, .inl (k 0, 960, .inl c_p1_copies)), (a_p1_log, .inr (0, [.ref a_p1_log_events, .int c_p1_log_first, .int c_p1_log_size])), (a_p1_log_events, .inr (4, [.int (40 : Int32), .int (5 : Int32), .ref a_p1_log_events_cells])), (a_p1_log_events_cells, .inl (k 0, 200, .inl c_p1_log_events))]) rfl dX3_readInto_12 (fun H locs hW => ?_)
  refine lv_iconst (v := 0) hx hb dX3_readInto_15 (by decide) ?_
  refine lv_istore_n (lv' := [(2, .int (0 : Int32)), (0, .ref a_this), (1, .ref a_p1)]) hx hb dX3_readInto_16 rfl hl (Nat.le_of_ble_eq_true rfl) rfl (fun ls hl => ?_)
  refine lv_aload_n hx hb dX3_readInto_17 rfl (lv_at hl 1 rfl) ?_
  obtain ⟨t1, ht1, hf⟩ := rn_bind hf
  refine rr_callV (As := []) (rest := []) X hW (kX3_nextToken l D k z N a_this a_this_text c_length c_kind c_start (0 : Int32) c_value (0 : Int32) (-1 : Int32) c_text ht1) gm_X3_nextToken gl_X3_37 [0, 1] [2, 3, 4, 5, 6, 7, 8, 9, 10, 11, 12, 13] [(a_this, .inr (3, [.ref a_this_text, .int c_length, .int t1.1, .int t1.2.1, .int t1.2.2.1, .int t1.2.2.2, .int (0 : Int32), .int (-1 : Int32)])), (a_this_text, .inl (k 2, 700, .inl c_text)), (a_p1, .inr (2, [.ref a_p1_stations, .ref a_p1_links, .ref a_p1_messages, .ref a_p1_copies, .ref a_p1_log, .ref a_p1_ways, .ref a_p1_frames, .int c_p1_stationCount, .int c_p1_linkCount, .int c_p1_messageCount, .int c_p1_time, .int c_p1_life, .int c_p1_tries, .int c_p1_x])), (a_p1_stations, .inr (4, [.int (8 : Int32), .int (10 : Int32), .ref a_p1_stations_cells])), (a_p1_stations_cells, .inl (k 0, 80, .inl c_p1_stations)), (a_p1_links, .inr (4, [.int (16 : Int32), .int (9 : Int32), .ref a_p1_links_cells])), (a_p1_links_cells, .inl (k 0, 144, .inl c_p1_links)), (a_p1_messages, .inr (4, [.int (24 : Int32), .int (12 : Int32), .ref a_p1_messages_cells])), (a_p1_messages_cells, .inl (k 0, 288, .inl c_p1_messages)), (a_p1_copies, .inr (4, [.int (192 : Int32), .int (5 : Int32), .ref a_p1_copies_cells])), (a_p1_copies_cells, .inl (k 0, 960, .inl c_p1_copies)), (a_p1_log, .inr (0, [.ref a_p1_log_events, .int c_p1_log_first, .int c_p1_log_size])), (a_p1_log_events, .inr (4, [.int (40 : Int32), .int (5 : Int32), .ref a_p1_log_events_cells])), (a_p1_log_events_cells, .inl (k 0, 200, .inl c_p1_log_events))] rfl rfl rfl rfl ⟨rfl, rfl, rn_Bw (wr := [(a_p1, .inr (2, [.ref a_p1_stations, .ref a_p1_links, .ref a_p1_messages, .ref a_p1_copies, .ref a_p1_log, .ref a_p1_ways, .ref a_p1_frames, .int c_p1_stationCount, .int c_p1_linkCount, .int c_p1_messageCount, .int c_p1_time, .int c_p1_life, .int c_p1_tries, .int c_p1_x])), (a_p1_stations, .inr (4, [.int (8 : Int32), .int (10 : Int32), .ref a_p1_stations_cells])), (a_p1_stations_cells, .inl (k 0, 80, .inl c_p1_stations)), (a_p1_links, .inr (4, [.int (16 : Int32), .int (9 : Int32), .ref a_p1_links_cells])), (a_p1_links_cells, .inl (k 0, 144, .inl c_p1_links)), (a_p1_messages, .inr (4, [.int (24 : Int32), .int (12 : Int32), .ref a_p1_messages_cells])), (a_p1_messages_cells, .inl (k 0, 288, .inl c_p1_messages)), (a_p1_copies, .inr (4, [.int (192 : Int32), .int (5 : Int32), .ref a_p1_copies_cells])), (a_p1_copies_cells, .inl (k 0, 960, .inl c_p1_copies)), (a_p1_log, .inr (0, [.ref a_p1_log_events, .int c_p1_log_first, .int c_p1_log_size])), (a_p1_log_events, .inr (4, [.int (40 : Int32), .int (5 : Int32), .ref a_p1_log_events_cells])), (a_p1_log_events_cells, .inl (k 0, 200, .inl c_p1_log_events))]) rfl rfl, rfl, rfl⟩ (rn_r hR rfl) rn_cs hl.1 rfl (Nat.le_of_ble_eq_true rfl) dX3_readInto_18 (fun H locs hW => ?_)
  obtain ⟨t2, ht2, hf⟩ := rn_bind hf
  have kk_21 : ∀ (H : Heap) (locs : List Loc) (ls : Array Slot), rn_W D A s [(a_this, .inr (3, [.ref a_this_text, .int c_length, .int t2.2.1, .int t2.2.2.1, .int t2.2.2.2.1, .int t2.2.2.2.2.1, .int t2.2.2.2.2.2.1, .int t2.2.2.2.2.2.2.1])), (a_this_text, .inl (k 2, 700, .inl c_text)), (a_p1, .inr (2, [.ref a_p1_stations, .ref a_p1_links, .ref a_p1_messages, .ref a_p1_copies, .ref a_p1_log, .ref a_p1_ways, .ref a_p1_frames, .int t2.2.2.2.2.2.2.2.1, .int t2.2.2.2.2.2.2.2.2.1, .int t2.2.2.2.2.2.2.2.2.2.1, .int c_p1_time, .int t2.2.2.2.2.2.2.2.2.2.2.1, .int t2.2.2.2.2.2.2.2.2.2.2.2.1, .int t2.2.2.2.2.2.2.2.2.2.2.2.2.1])), (a_p1_stations, .inr (4, [.int (8 : Int32), .int (10 : Int32), .ref a_p1_stations_cells])), (a_p1_stations_cells, .inl (k 0, 80, .inl t2.2.2.2.2.2.2.2.2.2.2.2.2.2.1)), (a_p1_links, .inr (4, [.int (16 : Int32), .int (9 : Int32), .ref a_p1_links_cells])), (a_p1_links_cells, .inl (k 0, 144, .inl t2.2.2.2.2.2.2.2.2.2.2.2.2.2.2.1)), (a_p1_messages, .inr (4, [.int (24 : Int32), .int (12 : Int32), .ref a_p1_messages_cells])), (a_p1_messages_cells, .inl (k 0, 288, .inl t2.2.2.2.2.2.2.2.2.2.2.2.2.2.2.2.1)), (a_p1_copies, .inr (4, [.int (192 : Int32), .int (5 : Int32), .ref a_p1_copies_cells])), (a_p1_copies_cells, .inl (k 0, 960, .inl t2.2.2.2.2.2.2.2.2.2.2.2.2.2.2.2.2.1)), (a_p1_log, .inr (0, [.ref a_p1_log_events, .int t2.2.2.2.2.2.2.2.2.2.2.2.2.2.2.2.2.2.1, .int t2.2.2.2.2.2.2.2.2.2.2.2.2.2.2.2.2.2.2.1])), (a_p1_log_events, .inr (4, [.int (40 : Int32), .int (5 : Int32), .ref a_p1_log_events_cells])), (a_p1_log_events_cells, .inl (k 0, 200, .inl t2.2.2.2.2.2.2.2.2.2.2.2.2.2.2.2.2.2.2.2))] H locs → lv_has ls 3 [(2, .int t2.1)] → W p l e R s m args below meth c H locs 0 0 Q (F0 m 57 ls []) := by
    intro H locs ls hW hl
    refine lv_iload_n hx hb dX3_readInto_57 rfl (lv_at hl 0 rfl) ?_
    cases hf
    exact hE _ _ _ _ hW rfl dX3_readInto_58
  clear hf
  have lp_21 : ∀ (n : Nat) (x2_21 : Int32) (y_kind_21 : Int32) (y_start_21 : Int32) (y_end_21 : Int32) (y_value_21 : Int32) (y_error_21 : Int32) (y_errorStart_21 : Int32) (y_p1_stationCount_21 : Int32) (y_p1_linkCount_21 : Int32) (y_p1_messageCount_21 : Int32) (y_p1_life_21 : Int32) (y_p1_tries_21 : Int32) (y_p1_x_21 : Int32) (y_p1_stations_21 : Nat → Int32) (y_p1_links_21 : Nat → Int32) (y_p1_messages_21 : Nat → Int32) (y_p1_copies_21 : Nat → Int32) (y_p1_log_first_21 : Int32) (y_p1_log_size_21 : Int32) (y_p1_log_events_21 : Nat → Int32) (H : Heap) (locs : List Loc) (ls : Array Slot), lX3_readInto_21 N c_length c_text c_p1_time n x2_21 y_kind_21 y_start_21 y_end_21 y_value_21 y_error_21 y_errorStart_21 y_p1_stationCount_21 y_p1_linkCount_21 y_p1_messageCount_21 y_p1_life_21 y_p1_tries_21 y_p1_x_21 y_p1_stations_21 y_p1_links_21 y_p1_messages_21 y_p1_copies_21 y_p1_log_first_21 y_p1_log_size_21 y_p1_log_events_21 = some t2 → rn_W D A s [(a_this, .inr (3, [.ref a_this_text, .int c_length, .int y_kind_21, .int y_start_21, .int y_end_21, .int y_value_21, .int y_error_21, .int y_errorStart_21])), (a_this_text, .inl (k 2, 700, .inl c_text)), (a_p1, .inr (2, [.ref a_p1_stations, .ref a_p1_links, .ref a_p1_messages, .ref a_p1_copies, .ref a_p1_log, .ref a_p1_ways, .ref a_p1_frames, .int y_p1_stationCount_21, .int y_p1_linkCount_21, .int y_p1_messageCount_21, .int c_p1_time, .int y_p1_life_21, .int y_p1_tries_21, .int y_p1_x_21])), (a_p1_stations, .inr (4, [.int (8 : Int32), .int (10 : Int32), .ref a_p1_stations_cells])), (a_p1_stations_cells, .inl (k 0, 80, .inl y_p1_stations_21)), (a_p1_links, .inr (4, [.int (16 : Int32), .int (9 : Int32), .ref a_p1_links_cells])), (a_p1_links_cells, .inl (k 0, 144, .inl y_p1_links_21)), (a_p1_messages, .inr (4, [.int (24 : Int32), .int (12 : Int32), .ref a_p1_messages_cells])), (a_p1_messages_cells, .inl (k 0, 288, .inl y_p1_messages_21)), (a_p1_copies, .inr (4, [.int (192 : Int32), .int (5 : Int32), .ref a_p1_copies_cells])), (a_p1_copies_cells, .inl (k 0, 960, .inl y_p1_copies_21)), (a_p1_log, .inr (0, [.ref a_p1_log_events, .int y_p1_log_first_21, .int y_p1_log_size_21])), (a_p1_log_events, .inr (4, [.int (40 : Int32), .int (5 : Int32), .ref a_p1_log_events_cells])), (a_p1_log_events_cells, .inl (k 0, 200, .inl y_p1_log_events_21))] H locs → lv_has ls 3 [(0, .ref a_this), (1, .ref a_p1), (2, .int x2_21)] → W p l e R s m args below meth c H locs 0 0 Q (F0 m 21 ls []) := by
    intro n
    induction n with
    | zero => intro x2_21 y_kind_21 y_start_21 y_end_21 y_value_21 y_error_21 y_errorStart_21 y_p1_stationCount_21 y_p1_linkCount_21 y_p1_messageCount_21 y_p1_life_21 y_p1_tries_21 y_p1_x_21 y_p1_stations_21 y_p1_links_21 y_p1_messages_21 y_p1_copies_21 y_p1_log_first_21 y_p1_log_size_21 y_p1_log_events_21 H locs ls hf; exact absurd hf (by rw [lX3_readInto_21]; exact fun h => nomatch h)
    | succ n ih_21 =>
      intro x2_21 y_kind_21 y_start_21 y_end_21 y_value_21 y_error_21 y_errorStart_21 y_p1_stationCount_21 y_p1_linkCount_21 y_p1_messageCount_21 y_p1_life_21 y_p1_tries_21 y_p1_x_21 y_p1_stations_21 y_p1_links_21 y_p1_messages_21 y_p1_copies_21 y_p1_log_first_21 y_p1_log_size_21 y_p1_log_events_21 H locs ls hf hW hl
      rw [lX3_readInto_21] at hf
      refine lv_aload_n hx hb dX3_readInto_21 rfl (lv_at hl 0 rfl) ?_
      refine rr_get X hW 0 2 gf_X3_19 rfl rfl dX3_readInto_22 ?_
      refine lv_if_eq (tgt := 57) hx hb dX3_readInto_25 (by decide) (fun hc3 => ?_) (fun hc3 => ?_)
      · replace hf := rn_t hf hc3
        cases hf
        exact kk_21 _ _ _ hW (lv_sub hl [2] rfl)
      · replace hf := rn_f hf hc3
        refine lv_aload_n hx hb dX3_readInto_28 rfl (lv_at hl 0 rfl) ?_
        refine rr_get X hW 0 6 gf_X3_31 rfl rfl dX3_readInto_29 ?_
        refine lv_if_ne (tgt := 57) hx hb dX3_readInto_32 (by decide) (fun hc4 => ?_) (fun hc4 => ?_)
        · replace hf := rn_f hf hc4
          cases hf
          exact kk_21 _ _ _ hW (lv_sub hl [2] rfl)
        · replace hf := rn_t hf hc4
          refine lv_iload_n hx hb dX3_readInto_35 rfl (lv_at hl 2 rfl) ?_
          refine lv_sipush (v := 700) hx hb dX3_readInto_36 (by decide) ?_
          refine lv_icmp_gt (tgt := 57) hx hb dX3_readInto_39 (by decide) (fun hc5 => ?_) (fun hc5 => ?_)
          · replace hf := rn_t hf hc5
            cases hf
            exact kk_21 _ _ _ hW (lv_sub hl [2] rfl)
          · replace hf := rn_f hf hc5
            refine lv_aload_n hx hb dX3_readInto_42 rfl (lv_at hl 0 rfl) ?_
            refine lv_aload_n hx hb dX3_readInto_43 rfl (lv_at hl 1 rfl) ?_
            obtain ⟨t6, ht6, hf⟩ := rn_bind hf
            refine rr_callV (As := [.ref a_p1]) (rest := []) X hW (kX3_readStatement l D k z N a_this a_p1 a_this_text a_p1_stations a_p1_links a_p1_messages a_p1_copies a_p1_log a_p1_ways a_p1_frames a_p1_stations_cells a_p1_links_cells a_p1_messages_cells a_p1_copies_cells a_p1_log_events a_p1_log_events_cells c_length y_kind_21 y_start_21 y_end_21 y_value_21 y_error_21 y_errorStart_21 c_text y_p1_stationCount_21 y_p1_linkCount_21 y_p1_messageCount_21 c_p1_time y_p1_life_21 y_p1_tries_21 y_p1_x_21 y_p1_stations_21 y_p1_links_21 y_p1_messages_21 y_p1_copies_21 y_p1_log_first_21 y_p1_log_size_21 y_p1_log_events_21 ht6) gm_X3_readStatement gl_X3_40 [0, 1, 2, 3, 4, 5, 6, 7, 8, 9, 10, 11, 12, 13] [] [(a_this, .inr (3, [.ref a_this_text, .int c_length, .int t6.1, .int t6.2.1, .int t6.2.2.1, .int t6.2.2.2.1, .int t6.2.2.2.2.1, .int t6.2.2.2.2.2.1])), (a_this_text, .inl (k 2, 700, .inl c_text)), (a_p1, .inr (2, [.ref a_p1_stations, .ref a_p1_links, .ref a_p1_messages, .ref a_p1_copies, .ref a_p1_log, .ref a_p1_ways, .ref a_p1_frames, .int t6.2.2.2.2.2.2.1, .int t6.2.2.2.2.2.2.2.1, .int t6.2.2.2.2.2.2.2.2.1, .int c_p1_time, .int t6.2.2.2.2.2.2.2.2.2.1, .int t6.2.2.2.2.2.2.2.2.2.2.1, .int t6.2.2.2.2.2.2.2.2.2.2.2.1])), (a_p1_stations, .inr (4, [.int (8 : Int32), .int (10 : Int32), .ref a_p1_stations_cells])), (a_p1_stations_cells, .inl (k 0, 80, .inl t6.2.2.2.2.2.2.2.2.2.2.2.2.1)), (a_p1_links, .inr (4, [.int (16 : Int32), .int (9 : Int32), .ref a_p1_links_cells])), (a_p1_links_cells, .inl (k 0, 144, .inl t6.2.2.2.2.2.2.2.2.2.2.2.2.2.1)), (a_p1_messages, .inr (4, [.int (24 : Int32), .int (12 : Int32), .ref a_p1_messages_cells])), (a_p1_messages_cells, .inl (k 0, 288, .inl t6.2.2.2.2.2.2.2.2.2.2.2.2.2.2.1)), (a_p1_copies, .inr (4, [.int (192 : Int32), .int (5 : Int32), .ref a_p1_copies_cells])), (a_p1_copies_cells, .inl (k 0, 960, .inl t6.2.2.2.2.2.2.2.2.2.2.2.2.2.2.2.1)), (a_p1_log, .inr (0, [.ref a_p1_log_events, .int t6.2.2.2.2.2.2.2.2.2.2.2.2.2.2.2.2.1, .int t6.2.2.2.2.2.2.2.2.2.2.2.2.2.2.2.2.2.1])), (a_p1_log_events, .inr (4, [.int (40 : Int32), .int (5 : Int32), .ref a_p1_log_events_cells])), (a_p1_log_events_cells, .inl (k 0, 200, .inl t6.2.2.2.2.2.2.2.2.2.2.2.2.2.2.2.2.2.2))] rfl rfl rfl rfl ⟨rfl, rfl, rfl, rfl, rfl⟩ (rn_r hR rfl) rn_cs hl.1 rfl (Nat.le_of_ble_eq_true rfl) dX3_readInto_44 (fun H locs hW => ?_)
            refine lv_iinc (v := (x2_21 + (1 : Int32))) (lv' := [(2, .int (x2_21 + (1 : Int32))), (0, .ref a_this), (1, .ref a_p1)]) hx hb dX3_readInto_47 hl (k := 2) rfl (congrArg (fun q => _ + q) (by decide)) (Nat.le_of_ble_eq_true rfl) rfl (fun ls hl => ?_)
            refine lv_aload_n hx hb dX3_readInto_50 rfl (lv_at hl 1 rfl) ?_
            obtain ⟨t7, ht7, hf⟩ := rn_bind hf
            refine rr_callV (As := []) (rest := []) X hW (kX3_nextToken l D k z N a_this a_this_text c_length t6.1 t6.2.1 t6.2.2.1 t6.2.2.2.1 t6.2.2.2.2.1 t6.2.2.2.2.2.1 c_text ht7) gm_X3_nextToken gl_X3_37 [0, 1] [2, 3, 4, 5, 6, 7, 8, 9, 10, 11, 12, 13] [(a_this, .inr (3, [.ref a_this_text, .int c_length, .int t7.1, .int t7.2.1, .int t7.2.2.1, .int t7.2.2.2, .int t6.2.2.2.2.1, .int t6.2.2.2.2.2.1])), (a_this_text, .inl (k 2, 700, .inl c_text)), (a_p1, .inr (2, [.ref a_p1_stations, .ref a_p1_links, .ref a_p1_messages, .ref a_p1_copies, .ref a_p1_log, .ref a_p1_ways, .ref a_p1_frames, .int t6.2.2.2.2.2.2.1, .int t6.2.2.2.2.2.2.2.1, .int t6.2.2.2.2.2.2.2.2.1, .int c_p1_time, .int t6.2.2.2.2.2.2.2.2.2.1, .int t6.2.2.2.2.2.2.2.2.2.2.1, .int t6.2.2.2.2.2.2.2.2.2.2.2.1])), (a_p1_stations, .inr (4, [.int (8 : Int32), .int (10 : Int32), .ref a_p1_stations_cells])), (a_p1_stations_cells, .inl (k 0, 80, .inl t6.2.2.2.2.2.2.2.2.2.2.2.2.1)), (a_p1_links, .inr (4, [.int (16 : Int32), .int (9 : Int32), .ref a_p1_links_cells])), (a_p1_links_cells, .inl (k 0, 144, .inl t6.2.2.2.2.2.2.2.2.2.2.2.2.2.1)), (a_p1_messages, .inr (4, [.int (24 : Int32), .int (12 : Int32), .ref a_p1_messages_cells])), (a_p1_messages_cells, .inl (k 0, 288, .inl t6.2.2.2.2.2.2.2.2.2.2.2.2.2.2.1)), (a_p1_copies, .inr (4, [.int (192 : Int32), .int (5 : Int32), .ref a_p1_copies_cells])), (a_p1_copies_cells, .inl (k 0, 960, .inl t6.2.2.2.2.2.2.2.2.2.2.2.2.2.2.2.1)), (a_p1_log, .inr (0, [.ref a_p1_log_events, .int t6.2.2.2.2.2.2.2.2.2.2.2.2.2.2.2.2.1, .int t6.2.2.2.2.2.2.2.2.2.2.2.2.2.2.2.2.2.1])), (a_p1_log_events, .inr (4, [.int (40 : Int32), .int (5 : Int32), .ref a_p1_log_events_cells])), (a_p1_log_events_cells, .inl (k 0, 200, .inl t6.2.2.2.2.2.2.2.2.2.2.2.2.2.2.2.2.2.2))] rfl rfl rfl rfl ⟨rfl, rfl, rn_Bw (wr := [(a_p1, .inr (2, [.ref a_p1_stations, .ref a_p1_links, .ref a_p1_messages, .ref a_p1_copies, .ref a_p1_log, .ref a_p1_ways, .ref a_p1_frames, .int t6.2.2.2.2.2.2.1, .int t6.2.2.2.2.2.2.2.1, .int t6.2.2.2.2.2.2.2.2.1, .int c_p1_time, .int t6.2.2.2.2.2.2.2.2.2.1, .int t6.2.2.2.2.2.2.2.2.2.2.1, .int t6.2.2.2.2.2.2.2.2.2.2.2.1])), (a_p1_stations, .inr (4, [.int (8 : Int32), .int (10 : Int32), .ref a_p1_stations_cells])), (a_p1_stations_cells, .inl (k 0, 80, .inl t6.2.2.2.2.2.2.2.2.2.2.2.2.1)), (a_p1_links, .inr (4, [.int (16 : Int32), .int (9 : Int32), .ref a_p1_links_cells])), (a_p1_links_cells, .inl (k 0, 144, .inl t6.2.2.2.2.2.2.2.2.2.2.2.2.2.1)), (a_p1_messages, .inr (4, [.int (24 : Int32), .int (12 : Int32), .ref a_p1_messages_cells])), (a_p1_messages_cells, .inl (k 0, 288, .inl t6.2.2.2.2.2.2.2.2.2.2.2.2.2.2.1)), (a_p1_copies, .inr (4, [.int (192 : Int32), .int (5 : Int32), .ref a_p1_copies_cells])), (a_p1_copies_cells, .inl (k 0, 960, .inl t6.2.2.2.2.2.2.2.2.2.2.2.2.2.2.2.1)), (a_p1_log, .inr (0, [.ref a_p1_log_events, .int t6.2.2.2.2.2.2.2.2.2.2.2.2.2.2.2.2.1, .int t6.2.2.2.2.2.2.2.2.2.2.2.2.2.2.2.2.2.1])), (a_p1_log_events, .inr (4, [.int (40 : Int32), .int (5 : Int32), .ref a_p1_log_events_cells])), (a_p1_log_events_cells, .inl (k 0, 200, .inl t6.2.2.2.2.2.2.2.2.2.2.2.2.2.2.2.2.2.2))]) rfl rfl, rfl, rfl⟩ (rn_r hR rfl) rn_cs hl.1 rfl (Nat.le_of_ble_eq_true rfl) dX3_readInto_51 (fun H locs hW => ?_)
            refine lv_goto (tgt := 21) hx hb dX3_readInto_54 (by decide) ?_
            exact ih_21 (x2_21 + (1 : Int32)) t7.1 t7.2.1 t7.2.2.1 t7.2.2.2 t6.2.2.2.2.1 t6.2.2.2.2.2.1 t6.2.2.2.2.2.2.1 t6.2.2.2.2.2.2.2.1 t6.2.2.2.2.2.2.2.2.1 t6.2.2.2.2.2.2.2.2.2.1 t6.2.2.2.2.2.2.2.2.2.2.1 t6.2.2.2.2.2.2.2.2.2.2.2.1 t6.2.2.2.2.2.2.2.2.2.2.2.2.1 t6.2.2.2.2.2.2.2.2.2.2.2.2.2.1 t6.2.2.2.2.2.2.2.2.2.2.2.2.2.2.1 t6.2.2.2.2.2.2.2.2.2.2.2.2.2.2.2.1 t6.2.2.2.2.2.2.2.2.2.2.2.2.2.2.2.2.1 t6.2.2.2.2.2.2.2.2.2.2.2.2.2.2.2.2.2.1 t6.2.2.2.2.2.2.2.2.2.2.2.2.2.2.2.2.2.2 _ _ _ hf hW (lv_sub hl [1, 2, 0] rfl)
  exact lp_21 N (0 : Int32) t1.1 t1.2.1 t1.2.2.1 t1.2.2.2 (0 : Int32) (-1 : Int32) c_p1_stationCount c_p1_linkCount c_p1_messageCount c_p1_life c_p1_tries c_p1_x c_p1_stations c_p1_links c_p1_messages c_p1_copies c_p1_log_first c_p1_log_size c_p1_log_events _ _ _ ht2 hW (lv_sub hl [1, 2, 0] rfl)
