/-! the model in plain functions (pure; of part 16 of whole) -/
def lX7_clear_2 : Nat → Int32 → (Nat → Int32) → Option ((Nat → Int32))
  | 0, _, _ => none
  | n+1, x1_2, y_state_2 =>
    if (2888 : Int32) ≤ x1_2 then
      some y_state_2
    else
    rn_g x1_2 2888 <|
    rn_let (upd y_state_2 x1_2.toNatClampNeg (0 : Int32)) fun w4 =>
    lX7_clear_2  n (x1_2 + (1 : Int32)) w4
def fX7_clear (N : Nat) (c_state : Nat → Int32) : Option ((Nat → Int32)) :=
  (lX7_clear_2  N (0 : Int32) c_state).bind fun t1 =>
  rn_g (4 : Int32) 2888 <|
  rn_let (upd t1 (4 : Int32).toNatClampNeg (48 : Int32)) fun w6 =>
  rn_g (5 : Int32) 2888 <|
  rn_let (upd w6 (5 : Int32).toNatClampNeg (3 : Int32)) fun w8 =>
  rn_g (6 : Int32) 2888 <|
  rn_let (upd w8 (6 : Int32).toNatClampNeg (1 : Int32)) fun w10 =>
  some w10
def fX7_thrown (c_thrown : Int32) : Option (Int32) :=
  some c_thrown
def fX7_fail (c_thrown : Int32) (i1 : Int32) : Option (Int32 × Int32) :=
  some ((0 : Int32), i1)
def fX7_isBetween (i0 : Int32) (i1 : Int32) (i2 : Int32) : Option (Int32) :=
  if i0 < i1 then
    some (0 : Int32)
  else
  if i2 < i0 then
    some (0 : Int32)
  else
  some (1 : Int32)
def lX7_copyAll_3 (n_p0 : Nat) (n_p2 : Nat) (c_p0 : Nat → Int32) (i1 : Int32) (i3 : Int32) : Nat → Int32 → (Nat → Int32) → Option ((Nat → Int32))
  | 0, _, _ => none
  | n+1, x4_3, y_p2_3 =>
    if (2888 : Int32) ≤ x4_3 then
      some y_p2_3
    else
    rn_g (i1 + x4_3) n_p0 <|
    rn_g (i3 + x4_3) n_p2 <|
    rn_let (upd y_p2_3 (i3 + x4_3).toNatClampNeg (c_p0 (i1 + x4_3).toNatClampNeg)) fun w5 =>
    lX7_copyAll_3 n_p0 n_p2 c_p0 i1 i3 n (x4_3 + (1 : Int32)) w5
def fX7_copyAll (N : Nat) (n_p0 : Nat) (n_p2 : Nat) (c_p0 : Nat → Int32) (c_p2 : Nat → Int32) (i1 : Int32) (i3 : Int32) : Option ((Nat → Int32)) :=
  (lX7_copyAll_3 n_p0 n_p2 c_p0 i1 i3 N (0 : Int32) c_p2).bind fun t1 =>
  some t1
def fX7_isStation (c_state : Nat → Int32) (i1 : Int32) : Option (Int32) :=
  rn_g (0 : Int32) 2888 <|
  (fX7_isBetween i1 (0 : Int32) ((c_state (0 : Int32).toNatClampNeg) - (1 : Int32))).bind fun t2 =>
  some t2
def fX7_isMessage (c_state : Nat → Int32) (i1 : Int32) : Option (Int32) :=
  rn_g (2 : Int32) 2888 <|
  (fX7_isBetween i1 (0 : Int32) ((c_state (2 : Int32).toNatClampNeg) - (1 : Int32))).bind fun t2 =>
  some t2
def fX7_ofStation (c_state : Nat → Int32) (i1 : Int32) (i2 : Int32) : Option (Int32) :=
  rn_g (((8 : Int32) + ((7 : Int32) * i1)) + i2) 2888 <|
  some (c_state (((8 : Int32) + ((7 : Int32) * i1)) + i2).toNatClampNeg)
def fX7_ofLink (c_state : Nat → Int32) (i1 : Int32) (i2 : Int32) : Option (Int32) :=
  rn_g (((64 : Int32) + ((8 : Int32) * i1)) + i2) 2888 <|
  some (c_state (((64 : Int32) + ((8 : Int32) * i1)) + i2).toNatClampNeg)
def fX7_ofMessage (c_state : Nat → Int32) (i1 : Int32) (i2 : Int32) : Option (Int32) :=
  rn_g (((192 : Int32) + ((8 : Int32) * i1)) + i2) 2888 <|
  some (c_state (((192 : Int32) + ((8 : Int32) * i1)) + i2).toNatClampNeg)
def fX7_copyPlace (i0 : Int32) (i1 : Int32) : Option (Int32) :=
  some ((384 : Int32) + ((12 : Int32) * (((8 : Int32) * i0) + i1)))
def fX7_ofCopy (c_state : Nat → Int32) (i1 : Int32) (i2 : Int32) (i3 : Int32) : Option (Int32) :=
  (fX7_copyPlace i1 i2).bind fun t1 =>
  rn_g (t1 + i3) 2888 <|
  some (c_state (t1 + i3).toNatClampNeg)
def lX7_appendText_26 (i1 : Int32) : Nat → Int32 → Int32 → (Nat → Int32) → Option (Int32 × (Nat → Int32))
  | 0, _, _, _ => none
  | n+1, x2_26, y_textLength_26, y_text_26 =>
    if x2_26 < 0 then
      some (y_textLength_26, y_text_26)
    else
    rn_g y_textLength_26 700 <|
    rn_let (upd y_text_26 y_textLength_26.toNatClampNeg ((i1 >>> (x2_26 &&& (31 : Int32))) &&& (255 : Int32))) fun w5 =>
    lX7_appendText_26 i1 n (x2_26 + (-8 : Int32)) (y_textLength_26 + (1 : Int32)) w5
def fX7_appendText (N : Nat) (c_thrown : Int32) (c_textLength : Int32) (c_text : Nat → Int32) (i1 : Int32) : Option (Int32 × Int32 × Int32 × (Nat → Int32)) :=
  if (c_textLength + (4 : Int32)) ≤ (700 : Int32) then
    (lX7_appendText_26 i1 N (24 : Int32) c_textLength c_text).bind fun t2 =>
    some (t2.1, (0 : Int32), t2.1, t2.2)
  else
  (fX7_fail (0 : Int32) (1 : Int32)).bind fun t6 =>
  some (t6.1, t6.2, c_textLength, c_text)
def fX7_truncateText (c_thrown : Int32) (c_textLength : Int32) (i1 : Int32) : Option (Int32 × Int32 × Int32) :=
  (fX7_isBetween i1 (0 : Int32) c_textLength).bind fun t1 =>
  if t1 = 0 then
    (fX7_fail (0 : Int32) (1 : Int32)).bind fun t3 =>
    some (t3.1, t3.2, c_textLength)
  else
  some (i1, (0 : Int32), i1)
def fX7_byteAt (c_textLength : Int32) (c_text : Nat → Int32) (i1 : Int32) : Option (Int32) :=
  if c_textLength ≤ i1 then
    some (-1 : Int32)
  else
  rn_g i1 700 <|
  some (c_text i1.toNatClampNeg)
def fX7_isLetter (i0 : Int32) : Option (Int32) :=
  (fX7_isBetween i0 (97 : Int32) (122 : Int32)).bind fun t1 =>
  some t1
def fX7_isDigit (i0 : Int32) : Option (Int32) :=
  (fX7_isBetween i0 (48 : Int32) (57 : Int32)).bind fun t1 =>
  some t1
def lX7_nextToken_0 (c_textLength : Int32) (c_text : Nat → Int32) : Nat → Int32 → Option (Int32)
  | 0, _ => none
  | n+1, y_position_0 =>
    (fX7_byteAt c_textLength c_text y_position_0).bind fun t2 =>
    if t2 = (32 : Int32) then
      lX7_nextToken_0 c_textLength c_text n (y_position_0 + (1 : Int32))
    else
    (fX7_byteAt c_textLength c_text y_position_0).bind fun t4 =>
    if t4 = (10 : Int32) then
      lX7_nextToken_0 c_textLength c_text n (y_position_0 + (1 : Int32))
    else
    some y_position_0
def lX7_nextToken_187 (c_textLength : Int32) (c_text : Nat → Int32) : Nat → Int32 → Int32 → Option (Int32 × Int32)
  | 0, _, _ => none
  | n+1, y_position_187, y_number_187 =>
    (fX7_byteAt c_textLength c_text y_position_187).bind fun t15 =>
    (fX7_isDigit t15).bind fun t16 =>
    if t16 = 0 then
      some (y_position_187, y_number_187)
    else
    Option.bind (
      if y_number_187 ≤ (10000000 : Int32) then
        (fX7_byteAt c_textLength c_text y_position_187).bind fun t20 =>
        some ((((10 : Int32) * y_number_187) + t20) - (48 : Int32))
      else
      some y_number_187
      ) fun t18 =>
    lX7_nextToken_187 c_textLength c_text n (y_position_187 + (1 : Int32)) t18
def lX7_nextToken_96 (c_textLength : Int32) (c_text : Nat → Int32) : Nat → Int32 → Int32 → Int64 → Option (Int32 × Int32 × Int64)
  | 0, _, _, _ => none
  | n+1, y_position_96, y_letters_96, y_word_96 =>
    (fX7_byteAt c_textLength c_text y_position_96).bind fun t22 =>
    (fX7_isLetter t22).bind fun t23 =>
    if t23 = 0 then
      some (y_position_96, y_letters_96, y_word_96)
    else
    Option.bind (
      if (11 : Int32) ≤ y_letters_96 then
        some y_word_96
      else
      (fX7_byteAt c_textLength c_text y_position_96).bind fun t27 =>
      some ((((27 : Int64) * y_word_96) + ((t27).toInt64)) - (96 : Int64))
      ) fun t25 =>
    lX7_nextToken_96 c_textLength c_text n (y_position_96 + (1 : Int32)) (y_letters_96 + (1 : Int32)) t25
def fX7_nextToken (N : Nat) (c_textLength : Int32) (c_position : Int32) (c_tokenStart : Int32) (c_token : Int32) (c_letters : Int32) (c_number : Int32) (c_word : Int64) (c_text : Nat → Int32) : Option (Int32 × Int32 × Int32 × Int32 × Int32 × Int64) :=
  (lX7_nextToken_0 c_textLength c_text N c_position).bind fun t1 =>
  (fX7_byteAt c_textLength c_text t1).bind fun t6 =>
  if t6 = (-1 : Int32) then
    some (t1, t1, (0 : Int32), (0 : Int32), (0 : Int32), (0 : Int64))
  else
  (fX7_isLetter t6).bind fun t8 =>
  if t8 = 0 then
    (fX7_isDigit t6).bind fun t10 =>
    if t10 = 0 then
      Option.bind (
        if t6 = (59 : Int32) then
          some (4 : Int32)
        else
        some (1 : Int32)
        ) fun t12 =>
      some ((t1 + (1 : Int32)), t1, t12, (0 : Int32), (0 : Int32), (0 : Int64))
    else
    (lX7_nextToken_187 c_textLength c_text N t1 (0 : Int32)).bind fun t14 =>
    some (t14.1, t1, (3 : Int32), (0 : Int32), t14.2, (0 : Int64))
  else
  (lX7_nextToken_96 c_textLength c_text N t1 (0 : Int32) (0 : Int64)).bind fun t21 =>
  some (t21.1, t1, (2 : Int32), t21.2.1, (0 : Int32), t21.2.2)
def fX7_require (c_tokenStart : Int32) (c_errorCode : Int32) (c_errorPosition : Int32) (i1 : Int32) (i2 : Int32) : Option (Int32 × Int32) :=
  if i1 = 0 then
    if c_errorCode = 0 then
      some (i2, c_tokenStart)
    else
    some (c_errorCode, c_errorPosition)
  else
  some (c_errorCode, c_errorPosition)
def fX7_isFine (c_errorCode : Int32) : Option (Int32) :=
  if c_errorCode = 0 then
    some (1 : Int32)
  else
  some (0 : Int32)
def fX7_advance (N : Nat) (c_textLength : Int32) (c_position : Int32) (c_tokenStart : Int32) (c_token : Int32) (c_letters : Int32) (c_number : Int32) (c_errorCode : Int32) (c_word : Int64) (c_text : Nat → Int32) : Option (Int32 × Int32 × Int32 × Int32 × Int32 × Int64) :=
  (fX7_isFine c_errorCode).bind fun t1 =>
  if t1 = 0 then
    some (c_position, c_tokenStart, c_token, c_letters, c_number, c_word)
  else
  (fX7_nextToken N c_textLength c_position c_tokenStart c_token c_letters c_number c_word c_text).bind fun t3 =>
  some (t3.1, t3.2.1, t3.2.2.1, t3.2.2.2.1, t3.2.2.2.2.1, t3.2.2.2.2.2)
def fX7_look (c_tokenStart : Int32) (c_token : Int32) (c_number : Int32) (c_errorCode : Int32) (c_errorPosition : Int32) (i1 : Int32) (i2 : Int32) : Option (Int32 × Int32) :=
  Option.bind (
    if c_token = (3 : Int32) then
      some (1 : Int32)
    else
    some (0 : Int32)
    ) fun t1 =>
  (fX7_require c_tokenStart c_errorCode c_errorPosition t1 (1 : Int32)).bind fun t3 =>
  (fX7_isBetween c_number i1 i2).bind fun t4 =>
  (fX7_require c_tokenStart t3.1 t3.2 t4 (2 : Int32)).bind fun t5 =>
  some (t5.1, t5.2)
def fX7_parseNumber (N : Nat) (c_textLength : Int32) (c_position : Int32) (c_tokenStart : Int32) (c_token : Int32) (c_letters : Int32) (c_number : Int32) (c_errorCode : Int32) (c_errorPosition : Int32) (c_word : Int64) (c_text : Nat → Int32) (i1 : Int32) (i2 : Int32) : Option (Int32 × Int32 × Int32 × Int32 × Int32 × Int32 × Int32 × Int32 × Int64) :=
  (fX7_look c_tokenStart c_token c_number c_errorCode c_errorPosition i1 i2).bind fun t1 =>
  (fX7_advance N c_textLength c_position c_tokenStart c_token c_letters c_number t1.1 c_word c_text).bind fun t2 =>
  some (c_number, t2.1, t2.2.1, t2.2.2.1, t2.2.2.2.1, t2.2.2.2.2.1, t1.1, t1.2, t2.2.2.2.2.2)
def fX7_appendStation (c_state : Nat → Int32) (i1 : Int32) (i2 : Int32) (i3 : Int32) : Option (Int32 × (Nat → Int32)) :=
  rn_g (0 : Int32) 2888 <|
  rn_let ((8 : Int32) + ((7 : Int32) * (c_state (0 : Int32).toNatClampNeg))) fun v2 =>
  rn_g (v2 + (0 : Int32)) 2888 <|
  rn_let (upd c_state (v2 + (0 : Int32)).toNatClampNeg i1) fun w4 =>
  rn_g (v2 + (1 : Int32)) 2888 <|
  rn_let (upd w4 (v2 + (1 : Int32)).toNatClampNeg i2) fun w6 =>
  rn_g (v2 + (2 : Int32)) 2888 <|
  rn_let (upd w6 (v2 + (2 : Int32)).toNatClampNeg i3) fun w8 =>
  rn_g (0 : Int32) 2888 <|
  rn_g (0 : Int32) 2888 <|
  rn_let (upd w8 (0 : Int32).toNatClampNeg ((w8 (0 : Int32).toNatClampNeg) + (1 : Int32))) fun w11 =>
  rn_g (0 : Int32) 2888 <|
  some (((w11 (0 : Int32).toNatClampNeg) - (1 : Int32)), w11)
def fX7_parseStation (N : Nat) (c_textLength : Int32) (c_position : Int32) (c_tokenStart : Int32) (c_token : Int32) (c_letters : Int32) (c_number : Int32) (c_errorCode : Int32) (c_errorPosition : Int32) (c_word : Int64) (c_state : Nat → Int32) (c_text : Nat → Int32) : Option (Int32 × Int32 × Int32 × Int32 × Int32 × Int32 × Int32 × Int64 × (Nat → Int32)) :=
  rn_g (0 : Int32) 2888 <|
  Option.bind (
    if (8 : Int32) ≤ (c_state (0 : Int32).toNatClampNeg) then
      some (0 : Int32)
    else
    some (1 : Int32)
    ) fun t2 =>
  (fX7_require c_tokenStart c_errorCode c_errorPosition t2 (3 : Int32)).bind fun t4 =>
  (fX7_advance N c_textLength c_position c_tokenStart c_token c_letters c_number t4.1 c_word c_text).bind fun t5 =>
  (fX7_parseNumber N c_textLength t5.1 t5.2.1 t5.2.2.1 t5.2.2.2.1 t5.2.2.2.2.1 t4.1 t4.2 t5.2.2.2.2.2 c_text (0 : Int32) (23 : Int32)).bind fun t6 =>
  (fX7_parseNumber N c_textLength t6.2.1 t6.2.2.1 t6.2.2.2.1 t6.2.2.2.2.1 t6.2.2.2.2.2.1 t6.2.2.2.2.2.2.1 t6.2.2.2.2.2.2.2.1 t6.2.2.2.2.2.2.2.2 c_text (0 : Int32) (23 : Int32)).bind fun t7 =>
  (fX7_parseNumber N c_textLength t7.2.1 t7.2.2.1 t7.2.2.2.1 t7.2.2.2.2.1 t7.2.2.2.2.2.1 t7.2.2.2.2.2.2.1 t7.2.2.2.2.2.2.2.1 t7.2.2.2.2.2.2.2.2 c_text (1 : Int32) (9 : Int32)).bind fun t8 =>
  (fX7_isFine t8.2.2.2.2.2.2.1).bind fun t9 =>
  if t9 = 0 then
    some (t8.2.1, t8.2.2.1, t8.2.2.2.1, t8.2.2.2.2.1, t8.2.2.2.2.2.1, t8.2.2.2.2.2.2.1, t8.2.2.2.2.2.2.2.1, t8.2.2.2.2.2.2.2.2, c_state)
  else
  (fX7_appendStation c_state t6.1 t7.1 t8.1).bind fun t11 =>
  some (t8.2.1, t8.2.2.1, t8.2.2.2.1, t8.2.2.2.2.1, t8.2.2.2.2.2.1, t8.2.2.2.2.2.2.1, t8.2.2.2.2.2.2.2.1, t8.2.2.2.2.2.2.2.2, t11.2)
def fX7_joins (c_state : Nat → Int32) (i1 : Int32) (i2 : Int32) (i3 : Int32) : Option (Int32) :=
  (fX7_ofLink c_state i1 (0 : Int32)).bind fun t1 =>
  if t1 = i2 then
    (fX7_ofLink c_state i1 (1 : Int32)).bind fun t7 =>
    if t7 = i3 then
      some (1 : Int32)
    else
    (fX7_ofLink c_state i1 (0 : Int32)).bind fun t9 =>
    if t9 = i3 then
      (fX7_ofLink c_state i1 (1 : Int32)).bind fun t11 =>
      if t11 = i2 then
        some (1 : Int32)
      else
      some (0 : Int32)
    else
    some (0 : Int32)
  else
  (fX7_ofLink c_state i1 (0 : Int32)).bind fun t3 =>
  if t3 = i3 then
    (fX7_ofLink c_state i1 (1 : Int32)).bind fun t5 =>
    if t5 = i2 then
      some (1 : Int32)
    else
    some (0 : Int32)
  else
  some (0 : Int32)
def lX7_linkOf_2 (c_state : Nat → Int32) (i1 : Int32) (i2 : Int32) : Nat → Int32 → Option (Int32)
  | 0, _ => none
  | n+1, x3_2 =>
    rn_g (1 : Int32) 2888 <|
    if (c_state (1 : Int32).toNatClampNeg) ≤ x3_2 then
      some (-1 : Int32)
    else
    (fX7_joins c_state x3_2 i1 i2).bind fun t3 =>
    if t3 = 0 then
      lX7_linkOf_2 c_state i1 i2 n (x3_2 + (1 : Int32))
    else
    some x3_2
def fX7_linkOf (N : Nat) (c_state : Nat → Int32) (i1 : Int32) (i2 : Int32) : Option (Int32) :=
  lX7_linkOf_2 c_state i1 i2 N (0 : Int32)
def fX7_appendLink (c_state : Nat → Int32) (i1 : Int32) (i2 : Int32) (i3 : Int32) (i4 : Int32) (i5 : Int32) : Option (Int32 × (Nat → Int32)) :=
  rn_g (1 : Int32) 2888 <|
  rn_let ((64 : Int32) + ((8 : Int32) * (c_state (1 : Int32).toNatClampNeg))) fun v2 =>
  rn_g (v2 + (0 : Int32)) 2888 <|
  rn_let (upd c_state (v2 + (0 : Int32)).toNatClampNeg i1) fun w4 =>
  rn_g (v2 + (1 : Int32)) 2888 <|
  rn_let (upd w4 (v2 + (1 : Int32)).toNatClampNeg i2) fun w6 =>
  rn_g (v2 + (2 : Int32)) 2888 <|
  rn_let (upd w6 (v2 + (2 : Int32)).toNatClampNeg i3) fun w8 =>
  rn_g (v2 + (3 : Int32)) 2888 <|
  rn_let (upd w8 (v2 + (3 : Int32)).toNatClampNeg i4) fun w10 =>
  rn_g (v2 + (4 : Int32)) 2888 <|
  rn_let (upd w10 (v2 + (4 : Int32)).toNatClampNeg i5) fun w12 =>
  rn_g (1 : Int32) 2888 <|
  rn_g (1 : Int32) 2888 <|
  rn_let (upd w12 (1 : Int32).toNatClampNeg ((w12 (1 : Int32).toNatClampNeg) + (1 : Int32))) fun w15 =>
  rn_g (1 : Int32) 2888 <|
  some (((w15 (1 : Int32).toNatClampNeg) - (1 : Int32)), w15)
def fX7_parseLink (N : Nat) (c_textLength : Int32) (c_position : Int32) (c_tokenStart : Int32) (c_token : Int32) (c_letters : Int32) (c_number : Int32) (c_errorCode : Int32) (c_errorPosition : Int32) (c_word : Int64) (c_state : Nat → Int32) (c_text : Nat → Int32) : Option (Int32 × Int32 × Int32 × Int32 × Int32 × Int32 × Int32 × Int64 × (Nat → Int32)) :=
  rn_g (1 : Int32) 2888 <|
  Option.bind (
    if (16 : Int32) ≤ (c_state (1 : Int32).toNatClampNeg) then
      some (0 : Int32)
    else
    some (1 : Int32)
    ) fun t2 =>
  (fX7_require c_tokenStart c_errorCode c_errorPosition t2 (3 : Int32)).bind fun t4 =>
  (fX7_advance N c_textLength c_position c_tokenStart c_token c_letters c_number t4.1 c_word c_text).bind fun t5 =>
  rn_g (0 : Int32) 2888 <|
  (fX7_parseNumber N c_textLength t5.1 t5.2.1 t5.2.2.1 t5.2.2.2.1 t5.2.2.2.2.1 t4.1 t4.2 t5.2.2.2.2.2 c_text (0 : Int32) ((c_state (0 : Int32).toNatClampNeg) - (1 : Int32))).bind fun t7 =>
  rn_g (0 : Int32) 2888 <|
  (fX7_look t7.2.2.1 t7.2.2.2.1 t7.2.2.2.2.2.1 t7.2.2.2.2.2.2.1 t7.2.2.2.2.2.2.2.1 (0 : Int32) ((c_state (0 : Int32).toNatClampNeg) - (1 : Int32))).bind fun t9 =>
  Option.bind (
    if t7.1 = t7.2.2.2.2.2.1 then
      some (0 : Int32)
    else
    (fX7_linkOf N c_state t7.1 t7.2.2.2.2.2.1).bind fun t12 =>
    if t12 = (-1 : Int32) then
      some (1 : Int32)
    else
    some (0 : Int32)
    ) fun t10 =>
  (fX7_require t7.2.2.1 t9.1 t9.2 t10 (4 : Int32)).bind fun t14 =>
  (fX7_advance N c_textLength t7.2.1 t7.2.2.1 t7.2.2.2.1 t7.2.2.2.2.1 t7.2.2.2.2.2.1 t14.1 t7.2.2.2.2.2.2.2.2 c_text).bind fun t15 =>
  (fX7_parseNumber N c_textLength t15.1 t15.2.1 t15.2.2.1 t15.2.2.2.1 t15.2.2.2.2.1 t14.1 t14.2 t15.2.2.2.2.2 c_text (0 : Int32) (23 : Int32)).bind fun t16 =>
  (fX7_parseNumber N c_textLength t16.2.1 t16.2.2.1 t16.2.2.2.1 t16.2.2.2.2.1 t16.2.2.2.2.2.1 t16.2.2.2.2.2.2.1 t16.2.2.2.2.2.2.2.1 t16.2.2.2.2.2.2.2.2 c_text (0 : Int32) (23 : Int32)).bind fun t17 =>
  (fX7_parseNumber N c_textLength t17.2.1 t17.2.2.1 t17.2.2.2.1 t17.2.2.2.2.1 t17.2.2.2.2.2.1 t17.2.2.2.2.2.2.1 t17.2.2.2.2.2.2.2.1 t17.2.2.2.2.2.2.2.2 c_text (0 : Int32) (100 : Int32)).bind fun t18 =>
  (fX7_isFine t18.2.2.2.2.2.2.1).bind fun t19 =>
  if t19 = 0 then
    some (t18.2.1, t18.2.2.1, t18.2.2.2.1, t18.2.2.2.2.1, t18.2.2.2.2.2.1, t18.2.2.2.2.2.2.1, t18.2.2.2.2.2.2.2.1, t18.2.2.2.2.2.2.2.2, c_state)
  else
  (fX7_appendLink c_state t7.1 t7.2.2.2.2.2.1 t16.1 t17.1 t18.1).bind fun t21 =>
  some (t18.2.1, t18.2.2.1, t18.2.2.2.1, t18.2.2.2.2.1, t18.2.2.2.2.2.1, t18.2.2.2.2.2.2.1, t18.2.2.2.2.2.2.2.1, t18.2.2.2.2.2.2.2.2, t21.2)
def fX7_errorCode (c_thrown : Int32) (c_errorCode : Int32) : Option (Int32 × Int32) :=
  some (c_errorCode, (0 : Int32))
def fX7_errorPosition (c_thrown : Int32) (c_errorPosition : Int32) : Option (Int32 × Int32) :=
  some (c_errorPosition, (0 : Int32))
def fX7_isHour (i0 : Int32) : Option (Int32) :=
  (fX7_isBetween i0 (0 : Int32) (23 : Int32)).bind fun t1 =>
  some t1
def fX7_addStation (c_thrown : Int32) (c_state : Nat → Int32) (i1 : Int32) (i2 : Int32) (i3 : Int32) : Option (Int32 × Int32 × (Nat → Int32)) :=
  (fX7_isHour i1).bind fun t1 =>
  if t1 = 0 then
    (fX7_fail (0 : Int32) (1 : Int32)).bind fun t3 =>
    some (t3.1, t3.2, c_state)
  else
  (fX7_isHour i2).bind fun t4 =>
  if t4 = 0 then
    (fX7_fail (0 : Int32) (1 : Int32)).bind fun t6 =>
    some (t6.1, t6.2, c_state)
  else
  (fX7_isBetween i3 (1 : Int32) (9 : Int32)).bind fun t7 =>
  if t7 = 0 then
    (fX7_fail (0 : Int32) (1 : Int32)).bind fun t13 =>
    some (t13.1, t13.2, c_state)
  else
  rn_g (0 : Int32) 2888 <|
  if (c_state (0 : Int32).toNatClampNeg) = (8 : Int32) then
    (fX7_fail (0 : Int32) (2 : Int32)).bind fun t12 =>
    some (t12.1, t12.2, c_state)
  else
  (fX7_appendStation c_state i1 i2 i3).bind fun t11 =>
  some (t11.1, (0 : Int32), t11.2)
def fX7_addLink (N : Nat) (c_thrown : Int32) (c_state : Nat → Int32) (i1 : Int32) (i2 : Int32) (i3 : Int32) (i4 : Int32) (i5 : Int32) : Option (Int32 × Int32 × (Nat → Int32)) :=
  (fX7_isStation c_state i1).bind fun t1 =>
  if t1 = 0 then
    (fX7_fail (0 : Int32) (1 : Int32)).bind fun t3 =>
    some (t3.1, t3.2, c_state)
  else
  (fX7_isStation c_state i2).bind fun t4 =>
  if t4 = 0 then
    (fX7_fail (0 : Int32) (1 : Int32)).bind fun t24 =>
    some (t24.1, t24.2, c_state)
  else
  if i1 = i2 then
    (fX7_fail (0 : Int32) (2 : Int32)).bind fun t7 =>
    some (t7.1, t7.2, c_state)
  else
  (fX7_isHour i3).bind fun t8 =>
  if t8 = 0 then
    (fX7_fail (0 : Int32) (2 : Int32)).bind fun t10 =>
    some (t10.1, t10.2, c_state)
  else
  (fX7_isHour i4).bind fun t11 =>
  if t11 = 0 then
    (fX7_fail (0 : Int32) (2 : Int32)).bind fun t13 =>
    some (t13.1, t13.2, c_state)
  else
  (fX7_isBetween i5 (0 : Int32) (100 : Int32)).bind fun t14 =>
  if t14 = 0 then
    (fX7_fail (0 : Int32) (2 : Int32)).bind fun t23 =>
    some (t23.1, t23.2, c_state)
  else
  (fX7_linkOf N c_state i1 i2).bind fun t16 =>
  if t16 = (-1 : Int32) then
    rn_g (1 : Int32) 2888 <|
    if (c_state (1 : Int32).toNatClampNeg) = (16 : Int32) then
      (fX7_fail (0 : Int32) (3 : Int32)).bind fun t22 =>
      some (t22.1, t22.2, c_state)
    else
    (fX7_appendLink c_state i1 i2 i3 i4 i5).bind fun t21 =>
    some (t21.1, (0 : Int32), t21.2)
  else
  (fX7_fail (0 : Int32) (3 : Int32)).bind fun t18 =>
  some (t18.1, t18.2, c_state)
def fX7_change (c_state : Nat → Int32) (i1 : Int32) (i2 : Int32) : Option (Int32 × (Nat → Int32)) :=
  rn_g i1 2888 <|
  rn_g i1 2888 <|
  rn_let (upd c_state i1.toNatClampNeg i2) fun w3 =>
  some ((c_state i1.toNatClampNeg), w3)
def fX7_setStation (c_thrown : Int32) (c_state : Nat → Int32) (i1 : Int32) (i2 : Int32) (i3 : Int32) : Option (Int32 × Int32 × (Nat → Int32)) :=
  (fX7_isStation c_state i1).bind fun t1 =>
  if t1 = 0 then
    (fX7_fail (0 : Int32) (1 : Int32)).bind fun t13 =>
    some (t13.1, t13.2, c_state)
  else
  Option.bind (
    if i2 = (2 : Int32) then
      (fX7_isBetween i3 (1 : Int32) (9 : Int32)).bind fun t9 =>
      some t9
    else
    (fX7_isBetween i2 (0 : Int32) (1 : Int32)).bind fun t5 =>
    if t5 = 0 then
      some (0 : Int32)
    else
    (fX7_isHour i3).bind fun t7 =>
    if t7 = 0 then
      some (0 : Int32)
    else
    some (1 : Int32)
    ) fun t3 =>
  if t3 = 0 then
    (fX7_fail (0 : Int32) (2 : Int32)).bind fun t11 =>
    some (t11.1, t11.2, c_state)
  else
  (fX7_change c_state (((8 : Int32) + ((7 : Int32) * i1)) + i2) i3).bind fun t12 =>
  some (t12.1, (0 : Int32), t12.2)
def fX7_setLink (c_thrown : Int32) (c_state : Nat → Int32) (i1 : Int32) (i2 : Int32) (i3 : Int32) : Option (Int32 × Int32 × (Nat → Int32)) :=
  rn_g (1 : Int32) 2888 <|
  (fX7_isBetween i1 (0 : Int32) ((c_state (1 : Int32).toNatClampNeg) - (1 : Int32))).bind fun t2 =>
  if t2 = 0 then
    (fX7_fail (0 : Int32) (1 : Int32)).bind fun t14 =>
    some (t14.1, t14.2, c_state)
  else
  Option.bind (
    if i2 = (2 : Int32) then
      (fX7_isBetween i3 (0 : Int32) (100 : Int32)).bind fun t10 =>
      some t10
    else
    (fX7_isBetween i2 (0 : Int32) (1 : Int32)).bind fun t6 =>
    if t6 = 0 then
      some (0 : Int32)
    else
    (fX7_isHour i3).bind fun t8 =>
    if t8 = 0 then
      some (0 : Int32)
    else
    some (1 : Int32)
    ) fun t4 =>
  if t4 = 0 then
    (fX7_fail (0 : Int32) (2 : Int32)).bind fun t12 =>
    some (t12.1, t12.2, c_state)
  else
  (fX7_change c_state ((((64 : Int32) + ((8 : Int32) * i1)) + (2 : Int32)) + i2) i3).bind fun t13 =>
  some (t13.1, (0 : Int32), t13.2)
def fX7_setRules (c_thrown : Int32) (c_state : Nat → Int32) (i1 : Int32) (i2 : Int32) (i3 : Int32) : Option (Int32 × (Nat → Int32)) :=
  (fX7_isBetween i1 (1 : Int32) (200 : Int32)).bind fun t1 =>
  Option.bind (
    if t1 = 0 then
      some (1 : Int32)
    else
    (fX7_isBetween i2 (1 : Int32) (9 : Int32)).bind fun t4 =>
    if t4 = 0 then
      some (1 : Int32)
    else
    (fX7_isBetween i3 (0 : Int32) (1000002 : Int32)).bind fun t6 =>
    if t6 = 0 then
      some (1 : Int32)
    else
    some (0 : Int32)
    ) fun t2 =>
  if t2 = 0 then
    rn_g (4 : Int32) 2888 <|
    rn_let (upd c_state (4 : Int32).toNatClampNeg i1) fun w10 =>
    rn_g (5 : Int32) 2888 <|
    rn_let (upd w10 (5 : Int32).toNatClampNeg i2) fun w12 =>
    rn_g (6 : Int32) 2888 <|
    rn_let (upd w12 (6 : Int32).toNatClampNeg i3) fun w14 =>
    some (t2, w14)
  else
  some (t2, c_state)
def fX7_isWithin (i0 : Int32) (i1 : Int32) (i2 : Int32) : Option (Int32) :=
  if i2 < i1 then
    if i1 ≤ i0 then
      some (1 : Int32)
    else
    if i2 < i0 then
      some (0 : Int32)
    else
    some (1 : Int32)
  else
  (fX7_isBetween i0 i1 i2).bind fun t4 =>
  some t4
def fX7_isOnAir (c_state : Nat → Int32) (i1 : Int32) (i2 : Int32) : Option (Int32) :=
  (fX7_ofStation c_state i1 (0 : Int32)).bind fun t1 =>
  (fX7_ofStation c_state i1 (1 : Int32)).bind fun t2 =>
  (fX7_isWithin (rn_rem i2 (24 : Int32)) t1 t2).bind fun t3 =>
  some t3
def fX7_isOpen (c_state : Nat → Int32) (i1 : Int32) (i2 : Int32) : Option (Int32) :=
  (fX7_ofLink c_state i1 (2 : Int32)).bind fun t1 =>
  (fX7_ofLink c_state i1 (3 : Int32)).bind fun t2 =>
  (fX7_isWithin (rn_rem i2 (24 : Int32)) t1 t2).bind fun t3 =>
  if t3 = 0 then
    some (0 : Int32)
  else
  (fX7_ofLink c_state i1 (0 : Int32)).bind fun t5 =>
  (fX7_isOnAir c_state t5 i2).bind fun t6 =>
  if t6 = 0 then
    some (0 : Int32)
  else
  (fX7_ofLink c_state i1 (1 : Int32)).bind fun t8 =>
  (fX7_isOnAir c_state t8 i2).bind fun t9 =>
  if t9 = 0 then
    some (0 : Int32)
  else
  some (1 : Int32)
def lX7_waitingAt_4 (c_state : Nat → Int32) (i1 : Int32) : Nat → Int32 → Int32 → Option (Int32)
  | 0, _, _ => none
  | n+1, x2_4, x3_4 =>
    rn_g (2 : Int32) 2888 <|
    if (c_state (2 : Int32).toNatClampNeg) ≤ x3_4 then
      some x2_4
    else
    (fX7_ofCopy c_state x3_4 i1 (0 : Int32)).bind fun t4 =>
    if t4 = (1 : Int32) then
      lX7_waitingAt_4 c_state i1 n (x2_4 + (1 : Int32)) (x3_4 + (1 : Int32))
    else
    lX7_waitingAt_4 c_state i1 n (x2_4 + (0 : Int32)) (x3_4 + (1 : Int32))
def fX7_waitingAt (N : Nat) (c_state : Nat → Int32) (i1 : Int32) : Option (Int32) :=
  (lX7_waitingAt_4 c_state i1 N (0 : Int32) (0 : Int32)).bind fun t1 =>
  some t1
def lX7_linksAt_4 (c_state : Nat → Int32) (i1 : Int32) : Nat → Int32 → Int32 → Option (Int32)
  | 0, _, _ => none
  | n+1, x2_4, x3_4 =>
    rn_g (1 : Int32) 2888 <|
    if (c_state (1 : Int32).toNatClampNeg) ≤ x3_4 then
      some x2_4
    else
    (fX7_ofLink c_state x3_4 (0 : Int32)).bind fun t4 =>
    if t4 = i1 then
      lX7_linksAt_4 c_state i1 n (x2_4 + (1 : Int32)) (x3_4 + (1 : Int32))
    else
    (fX7_ofLink c_state x3_4 (1 : Int32)).bind fun t6 =>
    if t6 = i1 then
      lX7_linksAt_4 c_state i1 n (x2_4 + (1 : Int32)) (x3_4 + (1 : Int32))
    else
    lX7_linksAt_4 c_state i1 n (x2_4 + (0 : Int32)) (x3_4 + (1 : Int32))
def fX7_linksAt (N : Nat) (c_state : Nat → Int32) (i1 : Int32) : Option (Int32) :=
  (lX7_linksAt_4 c_state i1 N (0 : Int32) (0 : Int32)).bind fun t1 =>
  some t1
def fX7_station (N : Nat) (c_thrown : Int32) (c_state : Nat → Int32) (i1 : Int32) (i2 : Int32) : Option (Int32 × Int32) :=
  (fX7_isStation c_state i1).bind fun t1 =>
  if t1 = 0 then
    (fX7_fail (0 : Int32) (1 : Int32)).bind fun t26 =>
    some (t26.1, t26.2)
  else
  if i2 = (0 : Int32) then
    (fX7_ofStation c_state i1 i2).bind fun t4 =>
    some (t4, (0 : Int32))
  else
  if i2 = (1 : Int32) then
    (fX7_ofStation c_state i1 i2).bind fun t6 =>
    some (t6, (0 : Int32))
  else
  if i2 = (2 : Int32) then
    (fX7_ofStation c_state i1 i2).bind fun t8 =>
    some (t8, (0 : Int32))
  else
  if i2 = (3 : Int32) then
    rn_g (3 : Int32) 2888 <|
    (fX7_isOnAir c_state i1 (c_state (3 : Int32).toNatClampNeg)).bind fun t11 =>
    if t11 = 0 then
      some ((0 : Int32), (0 : Int32))
    else
    some ((1 : Int32), (0 : Int32))
  else
  if i2 = (4 : Int32) then
    (fX7_waitingAt N c_state i1).bind fun t14 =>
    some (t14, (0 : Int32))
  else
  if i2 = (5 : Int32) then
    (fX7_ofStation c_state i1 (((3 : Int32) + i2) - (5 : Int32))).bind fun t16 =>
    some (t16, (0 : Int32))
  else
  if i2 = (6 : Int32) then
    (fX7_ofStation c_state i1 (((3 : Int32) + i2) - (5 : Int32))).bind fun t18 =>
    some (t18, (0 : Int32))
  else
  if i2 = (7 : Int32) then
    (fX7_ofStation c_state i1 (((3 : Int32) + i2) - (5 : Int32))).bind fun t20 =>
    some (t20, (0 : Int32))
  else
  if i2 = (8 : Int32) then
    (fX7_ofStation c_state i1 (((3 : Int32) + i2) - (5 : Int32))).bind fun t22 =>
    some (t22, (0 : Int32))
  else
  if i2 = (9 : Int32) then
    (fX7_linksAt N c_state i1).bind fun t24 =>
    some (t24, (0 : Int32))
  else
  (fX7_fail (0 : Int32) (2 : Int32)).bind fun t25 =>
  some (t25.1, t25.2)
def fX7_link (c_thrown : Int32) (c_state : Nat → Int32) (i1 : Int32) (i2 : Int32) : Option (Int32 × Int32) :=
  rn_g (1 : Int32) 2888 <|
  (fX7_isBetween i1 (0 : Int32) ((c_state (1 : Int32).toNatClampNeg) - (1 : Int32))).bind fun t2 =>
  if t2 = 0 then
    (fX7_fail (0 : Int32) (1 : Int32)).bind fun t14 =>
    some (t14.1, t14.2)
  else
  (fX7_isBetween i2 (0 : Int32) (8 : Int32)).bind fun t4 =>
  if t4 = 0 then
    (fX7_fail (0 : Int32) (2 : Int32)).bind fun t13 =>
    some (t13.1, t13.2)
  else
  if i2 = (5 : Int32) then
    rn_g (3 : Int32) 2888 <|
    (fX7_isOpen c_state i1 (c_state (3 : Int32).toNatClampNeg)).bind fun t11 =>
    if t11 = 0 then
      some ((0 : Int32), (0 : Int32))
    else
    some ((1 : Int32), (0 : Int32))
  else
  Option.bind (
    if (5 : Int32) ≤ i2 then
      some (i2 - (1 : Int32))
    else
    some i2
    ) fun t7 =>
  (fX7_ofLink c_state i1 t7).bind fun t9 =>
  some (t9, (0 : Int32))
def lX7_copiesIn_5 (c_state : Nat → Int32) (i1 : Int32) (i2 : Int32) : Nat → Int32 → Int32 → Option (Int32)
  | 0, _, _ => none
  | n+1, x3_5, x4_5 =>
    rn_g (0 : Int32) 2888 <|
    if (c_state (0 : Int32).toNatClampNeg) ≤ x4_5 then
      some x3_5
    else
    (fX7_ofCopy c_state i1 x4_5 (0 : Int32)).bind fun t4 =>
    if t4 = i2 then
      lX7_copiesIn_5 c_state i1 i2 n (x3_5 + (1 : Int32)) (x4_5 + (1 : Int32))
    else
    lX7_copiesIn_5 c_state i1 i2 n (x3_5 + (0 : Int32)) (x4_5 + (1 : Int32))
def fX7_copiesIn (N : Nat) (c_state : Nat → Int32) (i1 : Int32) (i2 : Int32) : Option (Int32) :=
  (lX7_copiesIn_5 c_state i1 i2 N (0 : Int32) (0 : Int32)).bind fun t1 =>
  some t1
def fX7_stateOf (N : Nat) (c_state : Nat → Int32) (i1 : Int32) : Option (Int32) :=
  (fX7_copiesIn N c_state i1 (5 : Int32)).bind fun t1 =>
  if t1 ≤ 0 then
    (fX7_copiesIn N c_state i1 (1 : Int32)).bind fun t3 =>
    if t3 ≤ 0 then
      some (2 : Int32)
    else
    some (0 : Int32)
  else
  some (1 : Int32)
def lX7_messagesIn_4 (N : Nat) (c_state : Nat → Int32) (i1 : Int32) : Nat → Int32 → Int32 → Option (Int32)
  | 0, _, _ => none
  | n+1, x2_4, x3_4 =>
    rn_g (2 : Int32) 2888 <|
    if (c_state (2 : Int32).toNatClampNeg) ≤ x3_4 then
      some x2_4
    else
    (fX7_stateOf N c_state x3_4).bind fun t4 =>
    if t4 = i1 then
      lX7_messagesIn_4 N c_state i1 n (x2_4 + (1 : Int32)) (x3_4 + (1 : Int32))
    else
    lX7_messagesIn_4 N c_state i1 n (x2_4 + (0 : Int32)) (x3_4 + (1 : Int32))
def fX7_messagesIn (N : Nat) (c_state : Nat → Int32) (i1 : Int32) : Option (Int32) :=
  (lX7_messagesIn_4 N c_state i1 N (0 : Int32) (0 : Int32)).bind fun t1 =>
  some t1
def lX7_allCopies_4 (N : Nat) (c_state : Nat → Int32) : Nat → Int32 → Int32 → Option (Int32)
  | 0, _, _ => none
  | n+1, x1_4, x2_4 =>
    rn_g (2 : Int32) 2888 <|
    if (c_state (2 : Int32).toNatClampNeg) ≤ x2_4 then
      some x1_4
    else
    (fX7_copiesIn N c_state x2_4 (1 : Int32)).bind fun t4 =>
    lX7_allCopies_4 N c_state n (x1_4 + t4) (x2_4 + (1 : Int32))
def fX7_allCopies (N : Nat) (c_state : Nat → Int32) : Option (Int32) :=
  (lX7_allCopies_4 N c_state N (0 : Int32) (0 : Int32)).bind fun t1 =>
  some t1
def lX7_sumOfStations_4 (c_state : Nat → Int32) (i1 : Int32) : Nat → Int32 → Int32 → Option (Int32)
  | 0, _, _ => none
  | n+1, x2_4, x3_4 =>
    rn_g (0 : Int32) 2888 <|
    if (c_state (0 : Int32).toNatClampNeg) ≤ x3_4 then
      some x2_4
    else
    (fX7_ofStation c_state x3_4 i1).bind fun t4 =>
    lX7_sumOfStations_4 c_state i1 n (x2_4 + t4) (x3_4 + (1 : Int32))
def fX7_sumOfStations (N : Nat) (c_state : Nat → Int32) (i1 : Int32) : Option (Int32) :=
  (lX7_sumOfStations_4 c_state i1 N (0 : Int32) (0 : Int32)).bind fun t1 =>
  some t1
def fX7_count (N : Nat) (c_thrown : Int32) (c_state : Nat → Int32) (i1 : Int32) : Option (Int32 × Int32) :=
  if i1 = (7 : Int32) then
    (fX7_messagesIn N c_state (i1 - (7 : Int32))).bind fun t2 =>
    some (t2, (0 : Int32))
  else
  if i1 = (8 : Int32) then
    (fX7_messagesIn N c_state (i1 - (7 : Int32))).bind fun t4 =>
    some (t4, (0 : Int32))
  else
  if i1 = (9 : Int32) then
    (fX7_messagesIn N c_state (i1 - (7 : Int32))).bind fun t6 =>
    some (t6, (0 : Int32))
  else
  if i1 = (10 : Int32) then
    (fX7_allCopies N c_state).bind fun t8 =>
    some (t8, (0 : Int32))
  else
  if i1 = (11 : Int32) then
    (fX7_sumOfStations N c_state (3 : Int32)).bind fun t10 =>
    some (t10, (0 : Int32))
  else
  if i1 = (12 : Int32) then
    (fX7_sumOfStations N c_state (5 : Int32)).bind fun t12 =>
    some (t12, (0 : Int32))
  else
  if i1 = (13 : Int32) then
    rn_g (7 : Int32) 2888 <|
    some ((c_state (7 : Int32).toNatClampNeg), (0 : Int32))
  else
  (fX7_isBetween i1 (0 : Int32) (6 : Int32)).bind fun t15 =>
  if t15 = 0 then
    (fX7_fail (0 : Int32) (1 : Int32)).bind fun t17 =>
    some (t17.1, t17.2)
  else
  rn_g i1 2888 <|
  some ((c_state i1.toNatClampNeg), (0 : Int32))
def fX7_avoid (c_isAvoided : Nat → Int32) (i1 : Int32) (i2 : Int32) : Option ((Nat → Int32)) :=
  rn_g i1 8 <|
  rn_let (upd c_isAvoided i1.toNatClampNeg (vp_nar .boolean i2)) fun w2 =>
  some w2
def lX7_avoidNone_2 : Nat → Int32 → (Nat → Int32) → Option ((Nat → Int32))
  | 0, _, _ => none
  | n+1, x1_2, y_isAvoided_2 =>
    if (8 : Int32) ≤ x1_2 then
      some y_isAvoided_2
    else
    rn_g x1_2 8 <|
    rn_let (upd y_isAvoided_2 x1_2.toNatClampNeg (vp_nar .boolean (0 : Int32))) fun w4 =>
    lX7_avoidNone_2  n (x1_2 + (1 : Int32)) w4
def fX7_avoidNone (N : Nat) (c_isAvoided : Nat → Int32) : Option ((Nat → Int32)) :=
  (lX7_avoidNone_2  N (0 : Int32) c_isAvoided).bind fun t1 =>
  some t1
def fX7_improve (c_arrival : Nat → Int32) (c_links : Nat → Int32) (i1 : Int32) (i2 : Int32) (i3 : Int32) : Option ((Nat → Int32) × (Nat → Int32)) :=
  rn_g i1 200 <|
  if i2 < (c_arrival i1.toNatClampNeg) then
    rn_g i1 200 <|
    rn_let (upd c_arrival i1.toNatClampNeg i2) fun w4 =>
    rn_g i1 200 <|
    rn_let (upd c_links i1.toNatClampNeg i3) fun w6 =>
    some (w4, w6)
  else
  rn_g i1 200 <|
  if i2 = (c_arrival i1.toNatClampNeg) then
    rn_g i1 200 <|
    if (c_links i1.toNatClampNeg) ≤ i3 then
      some (c_arrival, c_links)
    else
    rn_g i1 200 <|
    rn_let (upd c_arrival i1.toNatClampNeg i2) fun w12 =>
    rn_g i1 200 <|
    rn_let (upd c_links i1.toNatClampNeg i3) fun w14 =>
    some (w12, w14)
  else
  some (c_arrival, c_links)
def fX7_goBy (c_arrival : Nat → Int32) (c_links : Nat → Int32) (c_isAvoided : Nat → Int32) (i1 : Int32) (i2 : Int32) (i3 : Int32) : Option ((Nat → Int32) × (Nat → Int32)) :=
  rn_g i3 8 <|
  if (c_isAvoided i3.toNatClampNeg) = 0 then
    rn_g (((8 : Int32) * (i1 + (1 : Int32))) + i3) 200 <|
    if (1000000000 : Int32) ≤ (c_arrival (((8 : Int32) * (i1 + (1 : Int32))) + i3).toNatClampNeg) then
      some (c_arrival, c_links)
    else
    rn_g (((8 : Int32) * (i1 + (1 : Int32))) + i3) 200 <|
    rn_g (((8 : Int32) * (i1 + (1 : Int32))) + i3) 200 <|
    (fX7_improve c_arrival c_links (((8 : Int32) * i1) + i2) (c_arrival (((8 : Int32) * (i1 + (1 : Int32))) + i3).toNatClampNeg) ((c_links (((8 : Int32) * (i1 + (1 : Int32))) + i3).toNatClampNeg) + (1 : Int32))).bind fun t7 =>
    some (t7.1, t7.2)
  else
  some (c_arrival, c_links)
def lX7_layWays_10 (x3_3 : Int32) : Nat → Int32 → (Nat → Int32) → (Nat → Int32) → Option ((Nat → Int32) × (Nat → Int32))
  | 0, _, _, _ => none
  | n+1, x4_10, y_arrival_10, y_links_10 =>
    if (8 : Int32) ≤ x4_10 then
      some (y_arrival_10, y_links_10)
    else
    Option.bind (
      if x3_3 = (24 : Int32) then
        some (1 : Int32)
      else
      some (0 : Int32)
      ) fun t5 =>
    rn_let (((8 : Int32) * (x3_3 + (1 : Int32))) + x4_10) fun v7 =>
    Option.bind (
      if t5 = 0 then
        rn_g v7 200 <|
        some (y_arrival_10 v7.toNatClampNeg)
      else
      some (1000000000 : Int32)
      ) fun t8 =>
    rn_g (((8 : Int32) * x3_3) + x4_10) 200 <|
    rn_let (upd y_arrival_10 (((8 : Int32) * x3_3) + x4_10).toNatClampNeg t8) fun w12 =>
    Option.bind (
      if t5 = 0 then
        rn_g v7 200 <|
        some (y_links_10 v7.toNatClampNeg)
      else
      some (1000000000 : Int32)
      ) fun t13 =>
    rn_g (((8 : Int32) * x3_3) + x4_10) 200 <|
    rn_let (upd y_links_10 (((8 : Int32) * x3_3) + x4_10).toNatClampNeg t13) fun w17 =>
    lX7_layWays_10 x3_3 n (x4_10 + (1 : Int32)) w12 w17
def lX7_layWays_134 (c_state : Nat → Int32) (c_isAvoided : Nat → Int32) (i2 : Int32) (x3_3 : Int32) : Nat → Int32 → (Nat → Int32) → (Nat → Int32) → Option ((Nat → Int32) × (Nat → Int32))
  | 0, _, _, _ => none
  | n+1, x4_134, y_arrival_134, y_links_134 =>
    rn_g (1 : Int32) 2888 <|
    if (c_state (1 : Int32).toNatClampNeg) ≤ x4_134 then
      some (y_arrival_134, y_links_134)
    else
    if (24 : Int32) ≤ x3_3 then
      some (y_arrival_134, y_links_134)
    else
    (fX7_isOpen c_state x4_134 (i2 + x3_3)).bind fun t26 =>
    if t26 = 0 then
      lX7_layWays_134 c_state c_isAvoided i2 x3_3 n (x4_134 + (1 : Int32)) y_arrival_134 y_links_134
    else
    (fX7_ofLink c_state x4_134 (0 : Int32)).bind fun t28 =>
    (fX7_ofLink c_state x4_134 (1 : Int32)).bind fun t29 =>
    (fX7_goBy y_arrival_134 y_links_134 c_isAvoided x3_3 t28 t29).bind fun t30 =>
    (fX7_ofLink c_state x4_134 (1 : Int32)).bind fun t31 =>
    (fX7_ofLink c_state x4_134 (0 : Int32)).bind fun t32 =>
    (fX7_goBy t30.1 t30.2 c_isAvoided x3_3 t31 t32).bind fun t33 =>
    lX7_layWays_134 c_state c_isAvoided i2 x3_3 n (x4_134 + (1 : Int32)) t33.1 t33.2
def lX7_layWays_3 (N : Nat) (c_state : Nat → Int32) (c_isAvoided : Nat → Int32) (i1 : Int32) (i2 : Int32) : Nat → Int32 → (Nat → Int32) → (Nat → Int32) → Option ((Nat → Int32) × (Nat → Int32))
  | 0, _, _, _ => none
  | n+1, x3_3, y_arrival_3, y_links_3 =>
    if x3_3 < 0 then
      some (y_arrival_3, y_links_3)
    else
    (lX7_layWays_10 x3_3 N (0 : Int32) y_arrival_3 y_links_3).bind fun t3 =>
    rn_g (((8 : Int32) * x3_3) + i1) 200 <|
    rn_let (upd t3.1 (((8 : Int32) * x3_3) + i1).toNatClampNeg (i2 + x3_3)) fun w19 =>
    rn_g (((8 : Int32) * x3_3) + i1) 200 <|
    rn_let (upd t3.2 (((8 : Int32) * x3_3) + i1).toNatClampNeg (0 : Int32)) fun w21 =>
    (lX7_layWays_134 c_state c_isAvoided i2 x3_3 N (0 : Int32) w19 w21).bind fun t22 =>
    lX7_layWays_3 N c_state c_isAvoided i1 i2 n (x3_3 + (-1 : Int32)) t22.1 t22.2
def fX7_layWays (N : Nat) (c_state : Nat → Int32) (c_arrival : Nat → Int32) (c_links : Nat → Int32) (c_isAvoided : Nat → Int32) (i1 : Int32) (i2 : Int32) : Option ((Nat → Int32) × (Nat → Int32)) :=
  (lX7_layWays_3 N c_state c_isAvoided i1 i2 N (24 : Int32) c_arrival c_links).bind fun t1 =>
  some (t1.1, t1.2)
def lX7_firstStep_15 (N : Nat) (c_state : Nat → Int32) (c_arrival : Nat → Int32) (c_links : Nat → Int32) (c_isAvoided : Nat → Int32) (i1 : Int32) (i2 : Int32) : Nat → Int32 → Option (Int32)
  | 0, _ => none
  | n+1, x3_15 =>
    rn_g (0 : Int32) 2888 <|
    if (c_state (0 : Int32).toNatClampNeg) ≤ x3_15 then
      some (-1 : Int32)
    else
    Option.bind (
      if x3_15 = i1 then
        some (-1 : Int32)
      else
      rn_g x3_15 8 <|
      if (c_isAvoided x3_15.toNatClampNeg) = 0 then
        (fX7_linkOf N c_state i1 x3_15).bind fun t9 =>
        some t9
      else
      some (-1 : Int32)
      ) fun t5 =>
    Option.bind (
      if t5 = (-1 : Int32) then
        some (0 : Int32)
      else
      (fX7_isOpen c_state t5 i2).bind fun t12 =>
      if t12 = 0 then
        some (0 : Int32)
      else
      rn_g ((8 : Int32) + x3_15) 200 <|
      rn_g i1 200 <|
      if (c_arrival ((8 : Int32) + x3_15).toNatClampNeg) = (c_arrival i1.toNatClampNeg) then
        rn_g ((8 : Int32) + x3_15) 200 <|
        rn_g i1 200 <|
        if ((c_links ((8 : Int32) + x3_15).toNatClampNeg) + (1 : Int32)) = (c_links i1.toNatClampNeg) then
          some (1 : Int32)
        else
        some (0 : Int32)
      else
      some (0 : Int32)
      ) fun t10 =>
    if t10 = 0 then
      lX7_firstStep_15 N c_state c_arrival c_links c_isAvoided i1 i2 n (x3_15 + (1 : Int32))
    else
    some x3_15
def fX7_firstStep (N : Nat) (c_state : Nat → Int32) (c_arrival : Nat → Int32) (c_links : Nat → Int32) (c_isAvoided : Nat → Int32) (i1 : Int32) (i2 : Int32) : Option (Int32) :=
  rn_g i1 200 <|
  if (c_arrival i1.toNatClampNeg) = (1000000000 : Int32) then
    some (-1 : Int32)
  else
  lX7_firstStep_15 N c_state c_arrival c_links c_isAvoided i1 i2 N (0 : Int32)
def fX7_way (N : Nat) (c_thrown : Int32) (c_state : Nat → Int32) (c_arrival : Nat → Int32) (c_links : Nat → Int32) (c_isAvoided : Nat → Int32) (i1 : Int32) (i2 : Int32) (i3 : Int32) (i4 : Int32) : Option (Int32 × Int32 × (Nat → Int32) × (Nat → Int32) × (Nat → Int32)) :=
  (fX7_isStation c_state i1).bind fun t1 =>
  if t1 = 0 then
    (fX7_fail (0 : Int32) (1 : Int32)).bind fun t3 =>
    some (t3.1, t3.2, c_arrival, c_links, c_isAvoided)
  else
  (fX7_isStation c_state i2).bind fun t4 =>
  if t4 = 0 then
    (fX7_fail (0 : Int32) (1 : Int32)).bind fun t23 =>
    some (t23.1, t23.2, c_arrival, c_links, c_isAvoided)
  else
  if i1 = i2 then
    (fX7_fail (0 : Int32) (2 : Int32)).bind fun t7 =>
    some (t7.1, t7.2, c_arrival, c_links, c_isAvoided)
  else
  (fX7_isBetween i3 (0 : Int32) (100000 : Int32)).bind fun t8 =>
  if t8 = 0 then
    (fX7_fail (0 : Int32) (2 : Int32)).bind fun t10 =>
    some (t10.1, t10.2, c_arrival, c_links, c_isAvoided)
  else
  (fX7_isBetween i4 (0 : Int32) (2 : Int32)).bind fun t11 =>
  if t11 = 0 then
    (fX7_fail (0 : Int32) (2 : Int32)).bind fun t22 =>
    some (t22.1, t22.2, c_arrival, c_links, c_isAvoided)
  else
  (fX7_avoidNone N c_isAvoided).bind fun t13 =>
  (fX7_layWays N c_state c_arrival c_links t13 i2 i3).bind fun t14 =>
  rn_g i1 200 <|
  if (t14.1 i1.toNatClampNeg) = (1000000000 : Int32) then
    some ((-1 : Int32), (0 : Int32), t14.1, t14.2, t13)
  else
  if i4 = 0 then
    rn_g i1 200 <|
    some ((t14.1 i1.toNatClampNeg), (0 : Int32), t14.1, t14.2, t13)
  else
  if i4 = (1 : Int32) then
    rn_g i1 200 <|
    some ((t14.2 i1.toNatClampNeg), (0 : Int32), t14.1, t14.2, t13)
  else
  (fX7_firstStep N c_state t14.1 t14.2 t13 i1 i3).bind fun t19 =>
  some (t19, (0 : Int32), t14.1, t14.2, t13)
def lX7_pairsWithout_36 (c_state : Nat → Int32) (i1 : Int32) (x3_4 : Int32) (t6 : (Nat → Int32) × (Nat → Int32)) : Nat → Int32 → Int32 → Option (Int32)
  | 0, _, _ => none
  | n+1, x2_36, x4_36 =>
    rn_g (0 : Int32) 2888 <|
    if (c_state (0 : Int32).toNatClampNeg) ≤ x4_36 then
      some x2_36
    else
    if x4_36 = x3_4 then
      lX7_pairsWithout_36 c_state i1 x3_4 t6 n (x2_36 + (0 : Int32)) (x4_36 + (1 : Int32))
    else
    if x4_36 = i1 then
      lX7_pairsWithout_36 c_state i1 x3_4 t6 n (x2_36 + (0 : Int32)) (x4_36 + (1 : Int32))
    else
    rn_g x4_36 200 <|
    if (1000000000 : Int32) ≤ (t6.1 x4_36.toNatClampNeg) then
      lX7_pairsWithout_36 c_state i1 x3_4 t6 n (x2_36 + (0 : Int32)) (x4_36 + (1 : Int32))
    else
    lX7_pairsWithout_36 c_state i1 x3_4 t6 n (x2_36 + (1 : Int32)) (x4_36 + (1 : Int32))
def lX7_pairsWithout_4 (N : Nat) (c_state : Nat → Int32) (c_isAvoided : Nat → Int32) (i1 : Int32) : Nat → Int32 → Int32 → (Nat → Int32) → (Nat → Int32) → Option (Int32 × (Nat → Int32) × (Nat → Int32))
  | 0, _, _, _, _ => none
  | n+1, x2_4, x3_4, y_arrival_4, y_links_4 =>
    rn_g (0 : Int32) 2888 <|
    if (c_state (0 : Int32).toNatClampNeg) ≤ x3_4 then
      some (x2_4, y_arrival_4, y_links_4)
    else
    if x3_4 = i1 then
      lX7_pairsWithout_4 N c_state c_isAvoided i1 n x2_4 (x3_4 + (1 : Int32)) y_arrival_4 y_links_4
    else
    rn_g (3 : Int32) 2888 <|
    (fX7_layWays N c_state y_arrival_4 y_links_4 c_isAvoided x3_4 (c_state (3 : Int32).toNatClampNeg)).bind fun t6 =>
    (lX7_pairsWithout_36 c_state i1 x3_4 t6 N x2_4 (0 : Int32)).bind fun t7 =>
    lX7_pairsWithout_4 N c_state c_isAvoided i1 n t7 (x3_4 + (1 : Int32)) t6.1 t6.2
def fX7_pairsWithout (N : Nat) (c_state : Nat → Int32) (c_arrival : Nat → Int32) (c_links : Nat → Int32) (c_isAvoided : Nat → Int32) (i1 : Int32) : Option (Int32 × (Nat → Int32) × (Nat → Int32)) :=
  (lX7_pairsWithout_4 N c_state c_isAvoided i1 N (0 : Int32) (0 : Int32) c_arrival c_links).bind fun t1 =>
  some (t1.1, t1.2.1, t1.2.2)
def fX7_reachable (N : Nat) (c_thrown : Int32) (c_state : Nat → Int32) (c_arrival : Nat → Int32) (c_links : Nat → Int32) (c_isAvoided : Nat → Int32) : Option (Int32 × Int32 × (Nat → Int32) × (Nat → Int32) × (Nat → Int32)) :=
  (fX7_avoidNone N c_isAvoided).bind fun t1 =>
  (fX7_pairsWithout N c_state c_arrival c_links t1 (-1 : Int32)).bind fun t2 =>
  some (t2.1, (0 : Int32), t2.2.1, t2.2.2, t1)
def lX7_keyStation_12 (N : Nat) (c_state : Nat → Int32) : Nat → Int32 → Int32 → Int32 → (Nat → Int32) → (Nat → Int32) → (Nat → Int32) → Option (Int32 × (Nat → Int32) × (Nat → Int32) × (Nat → Int32))
  | 0, _, _, _, _, _, _ => none
  | n+1, x1_12, x2_12, x3_12, y_arrival_12, y_links_12, y_isAvoided_12 =>
    rn_g (0 : Int32) 2888 <|
    if (c_state (0 : Int32).toNatClampNeg) ≤ x3_12 then
      some (x1_12, y_arrival_12, y_links_12, y_isAvoided_12)
    else
    (fX7_avoidNone N y_isAvoided_12).bind fun t4 =>
    (fX7_avoid t4 x3_12 (1 : Int32)).bind fun t5 =>
    (fX7_pairsWithout N c_state y_arrival_12 y_links_12 t5 x3_12).bind fun t6 =>
    if x2_12 ≤ t6.1 then
      lX7_keyStation_12 N c_state n x1_12 x2_12 (x3_12 + (1 : Int32)) t6.2.1 t6.2.2 t5
    else
    lX7_keyStation_12 N c_state n x3_12 t6.1 (x3_12 + (1 : Int32)) t6.2.1 t6.2.2 t5
def fX7_keyStation (N : Nat) (c_thrown : Int32) (c_state : Nat → Int32) (c_arrival : Nat → Int32) (c_links : Nat → Int32) (c_isAvoided : Nat → Int32) : Option (Int32 × Int32 × (Nat → Int32) × (Nat → Int32) × (Nat → Int32)) :=
  (lX7_keyStation_12 N c_state N (-1 : Int32) (1000000000 : Int32) (0 : Int32) c_arrival c_links c_isAvoided).bind fun t1 =>
  some (t1.1, (0 : Int32), t1.2.1, t1.2.2.1, t1.2.2.2)
def lX7_nextOf_6 (c_state : Nat → Int32) (i1 : Int32) (i2 : Int32) : Nat → Int32 → (Nat → Int32) → Option ((Nat → Int32))
  | 0, _, _ => none
  | n+1, x3_6, y_isAvoided_6 =>
    (fX7_ofCopy c_state i1 i2 (3 : Int32)).bind fun t3 =>
    if t3 ≤ x3_6 then
      some y_isAvoided_6
    else
    (fX7_ofCopy c_state i1 i2 ((4 : Int32) + x3_6)).bind fun t5 =>
    (fX7_avoid y_isAvoided_6 t5 (1 : Int32)).bind fun t6 =>
    lX7_nextOf_6 c_state i1 i2 n (x3_6 + (1 : Int32)) t6
def fX7_nextOf (N : Nat) (c_state : Nat → Int32) (c_arrival : Nat → Int32) (c_links : Nat → Int32) (c_isAvoided : Nat → Int32) (i1 : Int32) (i2 : Int32) : Option (Int32 × (Nat → Int32) × (Nat → Int32) × (Nat → Int32)) :=
  (fX7_avoidNone N c_isAvoided).bind fun t1 =>
  (lX7_nextOf_6 c_state i1 i2 N (0 : Int32) t1).bind fun t2 =>
  (fX7_ofMessage c_state i1 (1 : Int32)).bind fun t7 =>
  rn_g (3 : Int32) 2888 <|
  (fX7_layWays N c_state c_arrival c_links t2 t7 (c_state (3 : Int32).toNatClampNeg)).bind fun t9 =>
  rn_g (3 : Int32) 2888 <|
  (fX7_firstStep N c_state t9.1 t9.2 t2 i2 (c_state (3 : Int32).toNatClampNeg)).bind fun t11 =>
  some (t11, t9.1, t9.2, t2)
def lX7_note_15 : Nat → Int32 → (Nat → Int32) → Option ((Nat → Int32))
  | 0, _, _ => none
  | n+1, x5_15, y_state_15 =>
    if (195 : Int32) ≤ x5_15 then
      some y_state_15
    else
    rn_g (((2688 : Int32) + x5_15) + (5 : Int32)) 2888 <|
    rn_g ((2688 : Int32) + x5_15) 2888 <|
    rn_let (upd y_state_15 ((2688 : Int32) + x5_15).toNatClampNeg (y_state_15 (((2688 : Int32) + x5_15) + (5 : Int32)).toNatClampNeg)) fun w8 =>
    lX7_note_15  n (x5_15 + (1 : Int32)) w8
def fX7_note (N : Nat) (c_state : Nat → Int32) (i1 : Int32) (i2 : Int32) (i3 : Int32) (i4 : Int32) : Option ((Nat → Int32)) :=
  rn_g (7 : Int32) 2888 <|
  Option.bind (
    if (c_state (7 : Int32).toNatClampNeg) = (40 : Int32) then
      (lX7_note_15  N (0 : Int32) c_state).bind fun t4 =>
      rn_g (7 : Int32) 2888 <|
      rn_g (7 : Int32) 2888 <|
      rn_let (upd t4 (7 : Int32).toNatClampNeg ((t4 (7 : Int32).toNatClampNeg) - (1 : Int32))) fun w11 =>
      some w11
    else
    some c_state
    ) fun t2 =>
  rn_g (7 : Int32) 2888 <|
  rn_let ((2688 : Int32) + ((5 : Int32) * (t2 (7 : Int32).toNatClampNeg))) fun v13 =>
  rn_g (3 : Int32) 2888 <|
  rn_g v13 2888 <|
  rn_let (upd t2 v13.toNatClampNeg (t2 (3 : Int32).toNatClampNeg)) fun w16 =>
  rn_g (v13 + (1 : Int32)) 2888 <|
  rn_let (upd w16 (v13 + (1 : Int32)).toNatClampNeg i1) fun w18 =>
  rn_g (v13 + (2 : Int32)) 2888 <|
  rn_let (upd w18 (v13 + (2 : Int32)).toNatClampNeg i2) fun w20 =>
  rn_g (v13 + (3 : Int32)) 2888 <|
  rn_let (upd w20 (v13 + (3 : Int32)).toNatClampNeg i3) fun w22 =>
  rn_g (v13 + (4 : Int32)) 2888 <|
  rn_let (upd w22 (v13 + (4 : Int32)).toNatClampNeg i4) fun w24 =>
  rn_g (7 : Int32) 2888 <|
  rn_g (7 : Int32) 2888 <|
  rn_let (upd w24 (7 : Int32).toNatClampNeg ((w24 (7 : Int32).toNatClampNeg) + (1 : Int32))) fun w27 =>
  some w27
def fX7_event (c_thrown : Int32) (c_state : Nat → Int32) (i1 : Int32) (i2 : Int32) : Option (Int32 × Int32) :=
  rn_g (7 : Int32) 2888 <|
  (fX7_isBetween i1 (0 : Int32) ((c_state (7 : Int32).toNatClampNeg) - (1 : Int32))).bind fun t2 =>
  if t2 = 0 then
    (fX7_fail (0 : Int32) (1 : Int32)).bind fun t8 =>
    some (t8.1, t8.2)
  else
  (fX7_isBetween i2 (0 : Int32) (4 : Int32)).bind fun t4 =>
  if t4 = 0 then
    (fX7_fail (0 : Int32) (2 : Int32)).bind fun t6 =>
    some (t6.1, t6.2)
  else
  rn_g (((2688 : Int32) + ((5 : Int32) * i1)) + i2) 2888 <|
  some ((c_state (((2688 : Int32) + ((5 : Int32) * i1)) + i2).toNatClampNeg), (0 : Int32))
def fX7_put (c_outputLength : Int32) (c_output : Nat → Int32) (i1 : Int32) : Option (Int32 × (Nat → Int32)) :=
  rn_g c_outputLength 60 <|
  rn_let (upd c_output c_outputLength.toNatClampNeg i1) fun w2 =>
  some ((c_outputLength + (1 : Int32)), w2)
def lX7_putNumber_2 (i1 : Int32) : Nat → Int32 → Option (Int32)
  | 0, _ => none
  | n+1, x2_2 =>
    rn_z (x2_2 = 0) <|
    if (i1 / x2_2) ≤ (9 : Int32) then
      some x2_2
    else
    lX7_putNumber_2 i1 n (x2_2 * (10 : Int32))
def lX7_putNumber_20 (i1 : Int32) : Nat → Int32 → Int32 → (Nat → Int32) → Option (Int32 × (Nat → Int32))
  | 0, _, _, _ => none
  | n+1, x3_20, y_outputLength_20, y_output_20 =>
    if x3_20 ≤ 0 then
      some (y_outputLength_20, y_output_20)
    else
    rn_z (x3_20 = 0) <|
    (fX7_put y_outputLength_20 y_output_20 ((48 : Int32) + (rn_rem (i1 / x3_20) (10 : Int32)))).bind fun t7 =>
    lX7_putNumber_20 i1 n (x3_20 / (10 : Int32)) t7.1 t7.2
def fX7_putNumber (N : Nat) (c_outputLength : Int32) (c_output : Nat → Int32) (i1 : Int32) : Option (Int32 × (Nat → Int32)) :=
  (lX7_putNumber_2 i1 N (1 : Int32)).bind fun t1 =>
  (lX7_putNumber_20 i1 N t1 c_outputLength c_output).bind fun t4 =>
  some (t4.1, t4.2)
def fX7_output (c_thrown : Int32) (c_outputLength : Int32) (c_output : Nat → Int32) (i1 : Int32) : Option (Int32 × Int32) :=
  (fX7_isBetween i1 (0 : Int32) (c_outputLength - (1 : Int32))).bind fun t1 =>
  if t1 = 0 then
    some ((-1 : Int32), (0 : Int32))
  else
  rn_g i1 60 <|
  some ((c_output i1.toNatClampNeg), (0 : Int32))
def fX7_putCopy (c_state : Nat → Int32) (i1 : Int32) (i2 : Int32) (i3 : Int32) (i4 : Int32) : Option ((Nat → Int32)) :=
  (fX7_copyPlace i1 i2).bind fun t1 =>
  rn_g (t1 + (0 : Int32)) 2888 <|
  rn_let (upd c_state (t1 + (0 : Int32)).toNatClampNeg i3) fun w3 =>
  rn_g (t1 + (1 : Int32)) 2888 <|
  rn_let (upd w3 (t1 + (1 : Int32)).toNatClampNeg (0 : Int32)) fun w5 =>
  rn_g (t1 + (2 : Int32)) 2888 <|
  rn_let (upd w5 (t1 + (2 : Int32)).toNatClampNeg i4) fun w7 =>
  rn_g (t1 + (3 : Int32)) 2888 <|
  rn_let (upd w7 (t1 + (3 : Int32)).toNatClampNeg (0 : Int32)) fun w9 =>
  some w9
def fX7_extendPath (c_state : Nat → Int32) (i1 : Int32) (i2 : Int32) (i3 : Int32) : Option ((Nat → Int32)) :=
  (fX7_copyPlace i1 i2).bind fun t1 =>
  rn_g (t1 + (3 : Int32)) 2888 <|
  rn_g ((t1 + (4 : Int32)) + (c_state (t1 + (3 : Int32)).toNatClampNeg)) 2888 <|
  rn_let (upd c_state ((t1 + (4 : Int32)) + (c_state (t1 + (3 : Int32)).toNatClampNeg)).toNatClampNeg i3) fun w4 =>
  rn_g (t1 + (3 : Int32)) 2888 <|
  rn_g (t1 + (3 : Int32)) 2888 <|
  rn_let (upd w4 (t1 + (3 : Int32)).toNatClampNeg ((w4 (t1 + (3 : Int32)).toNatClampNeg) + (1 : Int32))) fun w7 =>
  some w7
def fX7_appendMessage (N : Nat) (c_state : Nat → Int32) (i1 : Int32) (i2 : Int32) (i3 : Int32) : Option (Int32 × (Nat → Int32)) :=
  rn_g (2 : Int32) 2888 <|
  rn_let ((192 : Int32) + ((8 : Int32) * (c_state (2 : Int32).toNatClampNeg))) fun v2 =>
  rn_g (v2 + (0 : Int32)) 2888 <|
  rn_let (upd c_state (v2 + (0 : Int32)).toNatClampNeg i1) fun w4 =>
  rn_g (v2 + (1 : Int32)) 2888 <|
  rn_let (upd w4 (v2 + (1 : Int32)).toNatClampNeg i2) fun w6 =>
  rn_g (v2 + (2 : Int32)) 2888 <|
  rn_let (upd w6 (v2 + (2 : Int32)).toNatClampNeg i3) fun w8 =>
  rn_g (3 : Int32) 2888 <|
  rn_g (v2 + (3 : Int32)) 2888 <|
  rn_let (upd w8 (v2 + (3 : Int32)).toNatClampNeg (w8 (3 : Int32).toNatClampNeg)) fun w11 =>
  rn_g (v2 + (6 : Int32)) 2888 <|
  rn_let (upd w11 (v2 + (6 : Int32)).toNatClampNeg (-1 : Int32)) fun w13 =>
  rn_g (v2 + (7 : Int32)) 2888 <|
  rn_let (upd w13 (v2 + (7 : Int32)).toNatClampNeg (-1 : Int32)) fun w15 =>
  rn_g (2 : Int32) 2888 <|
  rn_g (2 : Int32) 2888 <|
  rn_let (upd w15 (2 : Int32).toNatClampNeg ((w15 (2 : Int32).toNatClampNeg) + (1 : Int32))) fun w18 =>
  rn_g (3 : Int32) 2888 <|
  (fX7_putCopy w18 (c_state (2 : Int32).toNatClampNeg) i1 (1 : Int32) (w18 (3 : Int32).toNatClampNeg)).bind fun t20 =>
  (fX7_extendPath t20 (c_state (2 : Int32).toNatClampNeg) i1 i1).bind fun t21 =>
  (fX7_note N t21 (0 : Int32) (c_state (2 : Int32).toNatClampNeg) i1 (-1 : Int32)).bind fun t22 =>
  some ((c_state (2 : Int32).toNatClampNeg), t22)
def fX7_send (N : Nat) (c_thrown : Int32) (c_state : Nat → Int32) (i1 : Int32) (i2 : Int32) (i3 : Int32) : Option (Int32 × Int32 × (Nat → Int32)) :=
  (fX7_isStation c_state i1).bind fun t1 =>
  if t1 = 0 then
    (fX7_fail (0 : Int32) (1 : Int32)).bind fun t3 =>
    some (t3.1, t3.2, c_state)
  else
  (fX7_isStation c_state i2).bind fun t4 =>
  if t4 = 0 then
    (fX7_fail (0 : Int32) (1 : Int32)).bind fun t15 =>
    some (t15.1, t15.2, c_state)
  else
  if i1 = i2 then
    (fX7_fail (0 : Int32) (2 : Int32)).bind fun t7 =>
    some (t7.1, t7.2, c_state)
  else
  (fX7_isBetween i3 (0 : Int32) (3 : Int32)).bind fun t8 =>
  if t8 = 0 then
    (fX7_fail (0 : Int32) (2 : Int32)).bind fun t14 =>
    some (t14.1, t14.2, c_state)
  else
  rn_g (2 : Int32) 2888 <|
  if (c_state (2 : Int32).toNatClampNeg) = (24 : Int32) then
    (fX7_fail (0 : Int32) (3 : Int32)).bind fun t13 =>
    some (t13.1, t13.2, c_state)
  else
  (fX7_appendMessage N c_state i1 i2 i3).bind fun t12 =>
  some (t12.1, (0 : Int32), t12.2)
def fX7_setPriority (c_thrown : Int32) (c_state : Nat → Int32) (i1 : Int32) (i2 : Int32) : Option (Int32 × Int32 × (Nat → Int32)) :=
  (fX7_isMessage c_state i1).bind fun t1 =>
  if t1 = 0 then
    (fX7_fail (0 : Int32) (1 : Int32)).bind fun t7 =>
    some (t7.1, t7.2, c_state)
  else
  (fX7_isBetween i2 (0 : Int32) (3 : Int32)).bind fun t3 =>
  if t3 = 0 then
    (fX7_fail (0 : Int32) (2 : Int32)).bind fun t5 =>
    some (t5.1, t5.2, c_state)
  else
  (fX7_change c_state (((192 : Int32) + ((8 : Int32) * i1)) + (2 : Int32)) i2).bind fun t6 =>
  some (t6.1, (0 : Int32), t6.2)
def fX7_endCopy (N : Nat) (c_state : Nat → Int32) (i1 : Int32) (i2 : Int32) (i3 : Int32) (i4 : Int32) (i5 : Int32) : Option ((Nat → Int32)) :=
  (fX7_copyPlace i1 i2).bind fun t1 =>
  rn_g (t1 + (0 : Int32)) 2888 <|
  rn_let (upd c_state (t1 + (0 : Int32)).toNatClampNeg i3) fun w3 =>
  rn_g (((192 : Int32) + ((8 : Int32) * i1)) + (6 : Int32)) 2888 <|
  rn_let (upd w3 (((192 : Int32) + ((8 : Int32) * i1)) + (6 : Int32)).toNatClampNeg i2) fun w5 =>
  rn_g (((192 : Int32) + ((8 : Int32) * i1)) + (7 : Int32)) 2888 <|
  rn_let (upd w5 (((192 : Int32) + ((8 : Int32) * i1)) + (7 : Int32)).toNatClampNeg i5) fun w7 =>
  (fX7_note N w7 i4 i1 i2 i5).bind fun t8 =>
  some t8
def lX7_takeBack_23 (N : Nat) (i1 : Int32) : Nat → Int32 → Int32 → (Nat → Int32) → Option (Int32 × (Nat → Int32))
  | 0, _, _, _ => none
  | n+1, x2_23, x3_23, y_state_23 =>
    rn_g (0 : Int32) 2888 <|
    if (y_state_23 (0 : Int32).toNatClampNeg) ≤ x3_23 then
      some (x2_23, y_state_23)
    else
    (fX7_ofCopy y_state_23 i1 x3_23 (0 : Int32)).bind fun t6 =>
    if t6 = (1 : Int32) then
      (fX7_endCopy N y_state_23 i1 x3_23 (3 : Int32) (8 : Int32) (-1 : Int32)).bind fun t8 =>
      lX7_takeBack_23 N i1 n (x2_23 + (1 : Int32)) (x3_23 + (1 : Int32)) t8
    else
    lX7_takeBack_23 N i1 n x2_23 (x3_23 + (1 : Int32)) y_state_23
def fX7_takeBack (N : Nat) (c_thrown : Int32) (c_state : Nat → Int32) (i1 : Int32) : Option (Int32 × Int32 × (Nat → Int32)) :=
  (fX7_isMessage c_state i1).bind fun t1 =>
  if t1 = 0 then
    (fX7_fail (0 : Int32) (1 : Int32)).bind fun t9 =>
    some (t9.1, t9.2, c_state)
  else
  (lX7_takeBack_23 N i1 N (0 : Int32) (0 : Int32) c_state).bind fun t3 =>
  some (t3.1, (0 : Int32), t3.2)
def fX7_deliveredField (c_state : Nat → Int32) (i1 : Int32) (i2 : Int32) : Option (Int32) :=
  (fX7_ofMessage c_state i1 (1 : Int32)).bind fun t1 =>
  (fX7_ofCopy c_state i1 t1 (0 : Int32)).bind fun t2 =>
  if t2 = (5 : Int32) then
    (fX7_ofCopy c_state i1 t1 i2).bind fun t4 =>
    some t4
  else
  some (-1 : Int32)
def fX7_message (N : Nat) (c_thrown : Int32) (c_state : Nat → Int32) (i1 : Int32) (i2 : Int32) : Option (Int32 × Int32) :=
  (fX7_isMessage c_state i1).bind fun t1 =>
  if t1 = 0 then
    (fX7_fail (0 : Int32) (1 : Int32)).bind fun t30 =>
    some (t30.1, t30.2)
  else
  if i2 = (0 : Int32) then
    (fX7_ofMessage c_state i1 i2).bind fun t4 =>
    some (t4, (0 : Int32))
  else
  if i2 = (1 : Int32) then
    (fX7_ofMessage c_state i1 i2).bind fun t6 =>
    some (t6, (0 : Int32))
  else
  if i2 = (2 : Int32) then
    (fX7_ofMessage c_state i1 i2).bind fun t8 =>
    some (t8, (0 : Int32))
  else
  if i2 = (3 : Int32) then
    (fX7_ofMessage c_state i1 i2).bind fun t10 =>
    some (t10, (0 : Int32))
  else
  if i2 = (4 : Int32) then
    (fX7_stateOf N c_state i1).bind fun t12 =>
    some (t12, (0 : Int32))
  else
  if i2 = (5 : Int32) then
    (fX7_deliveredField c_state i1 (2 : Int32)).bind fun t14 =>
    some (t14, (0 : Int32))
  else
  if i2 = (6 : Int32) then
    (fX7_deliveredField c_state i1 (3 : Int32)).bind fun t16 =>
    if t16 = (-1 : Int32) then
      some ((-1 : Int32), (0 : Int32))
    else
    (fX7_deliveredField c_state i1 (3 : Int32)).bind fun t18 =>
    some ((t18 - (1 : Int32)), (0 : Int32))
  else
  if i2 = (7 : Int32) then
    (fX7_ofMessage c_state i1 (((4 : Int32) + i2) - (7 : Int32))).bind fun t20 =>
    some (t20, (0 : Int32))
  else
  if i2 = (8 : Int32) then
    (fX7_ofMessage c_state i1 (((4 : Int32) + i2) - (7 : Int32))).bind fun t22 =>
    some (t22, (0 : Int32))
  else
  if i2 = (9 : Int32) then
    (fX7_copiesIn N c_state i1 (1 : Int32)).bind fun t24 =>
    some (t24, (0 : Int32))
  else
  if i2 = (10 : Int32) then
    (fX7_ofMessage c_state i1 (((6 : Int32) + i2) - (10 : Int32))).bind fun t26 =>
    some (t26, (0 : Int32))
  else
  if i2 = (11 : Int32) then
    (fX7_ofMessage c_state i1 (((6 : Int32) + i2) - (10 : Int32))).bind fun t28 =>
    some (t28, (0 : Int32))
  else
  (fX7_fail (0 : Int32) (2 : Int32)).bind fun t29 =>
  some (t29.1, t29.2)
def fX7_copy (N : Nat) (c_thrown : Int32) (c_state : Nat → Int32) (c_arrival : Nat → Int32) (c_links : Nat → Int32) (c_isAvoided : Nat → Int32) (i1 : Int32) (i2 : Int32) (i3 : Int32) : Option (Int32 × Int32 × (Nat → Int32) × (Nat → Int32) × (Nat → Int32)) :=
  (fX7_isMessage c_state i1).bind fun t1 =>
  if t1 = 0 then
    (fX7_fail (0 : Int32) (1 : Int32)).bind fun t3 =>
    some (t3.1, t3.2, c_arrival, c_links, c_isAvoided)
  else
  (fX7_isStation c_state i2).bind fun t4 =>
  if t4 = 0 then
    (fX7_fail (0 : Int32) (1 : Int32)).bind fun t16 =>
    some (t16.1, t16.2, c_arrival, c_links, c_isAvoided)
  else
  (fX7_isBetween i3 (0 : Int32) (4 : Int32)).bind fun t6 =>
  if t6 = 0 then
    (fX7_fail (0 : Int32) (2 : Int32)).bind fun t15 =>
    some (t15.1, t15.2, c_arrival, c_links, c_isAvoided)
  else
  (fX7_ofCopy c_state i1 i2 (0 : Int32)).bind fun t8 =>
  if i3 = 0 then
    some (t8, (0 : Int32), c_arrival, c_links, c_isAvoided)
  else
  if t8 = 0 then
    some ((-1 : Int32), (0 : Int32), c_arrival, c_links, c_isAvoided)
  else
  if i3 = (4 : Int32) then
    if t8 = (1 : Int32) then
      (fX7_nextOf N c_state c_arrival c_links c_isAvoided i1 i2).bind fun t14 =>
      some (t14.1, (0 : Int32), t14.2.1, t14.2.2.1, t14.2.2.2)
    else
    some ((-1 : Int32), (0 : Int32), c_arrival, c_links, c_isAvoided)
  else
  (fX7_ofCopy c_state i1 i2 i3).bind fun t12 =>
  some (t12, (0 : Int32), c_arrival, c_links, c_isAvoided)
def fX7_path (c_thrown : Int32) (c_state : Nat → Int32) (i1 : Int32) (i2 : Int32) (i3 : Int32) : Option (Int32 × Int32) :=
  (fX7_isMessage c_state i1).bind fun t1 =>
  Option.bind (
    if t1 = 0 then
      some (0 : Int32)
    else
    (fX7_isStation c_state i2).bind fun t4 =>
    if t4 = 0 then
      some (0 : Int32)
    else
    (fX7_ofCopy c_state i1 i2 (0 : Int32)).bind fun t6 =>
    if t6 = 0 then
      some (0 : Int32)
    else
    some (1 : Int32)
    ) fun t2 =>
  if t2 = 0 then
    (fX7_fail (0 : Int32) (1 : Int32)).bind fun t9 =>
    some (t9.1, t9.2)
  else
  (fX7_ofCopy c_state i1 i2 (3 : Int32)).bind fun t10 =>
  (fX7_isBetween i3 (0 : Int32) (t10 - (1 : Int32))).bind fun t11 =>
  if t11 = 0 then
    (fX7_fail (0 : Int32) (1 : Int32)).bind fun t13 =>
    some (t13.1, t13.2)
  else
  (fX7_ofCopy c_state i1 i2 ((4 : Int32) + i3)).bind fun t14 =>
  some (t14, (0 : Int32))
def lX7_layFrames_96 (c_state : Nat → Int32) (x2_22 : Int32) : Nat → Int32 → (Nat → Int32) → (Nat → Int32) → Option (Int32 × (Nat → Int32) × (Nat → Int32))
  | 0, _, _, _ => none
  | n+1, x5_96, y_toSend_96, y_sendTo_96 =>
    if x5_96 ≤ 0 then
      some (x5_96, y_toSend_96, y_sendTo_96)
    else
    rn_g (x5_96 - (1 : Int32)) 24 <|
    (fX7_ofMessage c_state (y_toSend_96 (x5_96 - (1 : Int32)).toNatClampNeg) (2 : Int32)).bind fun t20 =>
    (fX7_ofMessage c_state x2_22 (2 : Int32)).bind fun t21 =>
    if t21 ≤ t20 then
      some (x5_96, y_toSend_96, y_sendTo_96)
    else
    rn_g (x5_96 - (1 : Int32)) 24 <|
    rn_g x5_96 24 <|
    rn_let (upd y_toSend_96 x5_96.toNatClampNeg (y_toSend_96 (x5_96 - (1 : Int32)).toNatClampNeg)) fun w25 =>
    rn_g (x5_96 - (1 : Int32)) 24 <|
    rn_g x5_96 24 <|
    rn_let (upd y_sendTo_96 x5_96.toNatClampNeg (y_sendTo_96 (x5_96 - (1 : Int32)).toNatClampNeg)) fun w28 =>
    lX7_layFrames_96 c_state x2_22 n (x5_96 + (-1 : Int32)) w25 w28
def lX7_layFrames_22 (N : Nat) (c_state : Nat → Int32) (i1 : Int32) : Nat → Int32 → Int32 → (Nat → Int32) → (Nat → Int32) → (Nat → Int32) → (Nat → Int32) → (Nat → Int32) → Option (Int32 × (Nat → Int32) × (Nat → Int32) × (Nat → Int32) × (Nat → Int32) × (Nat → Int32))
  | 0, _, _, _, _, _, _, _ => none
  | n+1, x2_22, y_sendCount_22, y_arrival_22, y_links_22, y_isAvoided_22, y_toSend_22, y_sendTo_22 =>
    rn_g (2 : Int32) 2888 <|
    if (c_state (2 : Int32).toNatClampNeg) ≤ x2_22 then
      some (y_sendCount_22, y_arrival_22, y_links_22, y_isAvoided_22, y_toSend_22, y_sendTo_22)
    else
    (fX7_ofCopy c_state x2_22 i1 (0 : Int32)).bind fun t7 =>
    Option.bind (
      if t7 = (1 : Int32) then
        (fX7_ofCopy c_state x2_22 i1 (2 : Int32)).bind fun t10 =>
        rn_g (3 : Int32) 2888 <|
        if (c_state (3 : Int32).toNatClampNeg) < t10 then
          some (0 : Int32)
        else
        some (1 : Int32)
      else
      some (0 : Int32)
      ) fun t8 =>
    Option.bind (
      if t8 = 0 then
        some ((-1 : Int32), y_arrival_22, y_links_22, y_isAvoided_22)
      else
      (fX7_nextOf N c_state y_arrival_22 y_links_22 y_isAvoided_22 x2_22 i1).bind fun t15 =>
      some (t15.1, t15.2.1, t15.2.2.1, t15.2.2.2)
      ) fun t13 =>
    if t13.1 = (-1 : Int32) then
      lX7_layFrames_22 N c_state i1 n (x2_22 + (1 : Int32)) y_sendCount_22 t13.2.1 t13.2.2.1 t13.2.2.2 y_toSend_22 y_sendTo_22
    else
    (lX7_layFrames_96 c_state x2_22 N y_sendCount_22 y_toSend_22 y_sendTo_22).bind fun t17 =>
    rn_g t17.1 24 <|
    rn_let (upd t17.2.1 t17.1.toNatClampNeg x2_22) fun w30 =>
    rn_g t17.1 24 <|
    rn_let (upd t17.2.2 t17.1.toNatClampNeg t13.1) fun w32 =>
    lX7_layFrames_22 N c_state i1 n (x2_22 + (1 : Int32)) (y_sendCount_22 + (1 : Int32)) t13.2.1 t13.2.2.1 t13.2.2.2 w30 w32
def fX7_layFrames (N : Nat) (c_sendCount : Int32) (c_state : Nat → Int32) (c_arrival : Nat → Int32) (c_links : Nat → Int32) (c_isAvoided : Nat → Int32) (c_toSend : Nat → Int32) (c_sendTo : Nat → Int32) (i1 : Int32) : Option (Int32 × (Nat → Int32) × (Nat → Int32) × (Nat → Int32) × (Nat → Int32) × (Nat → Int32)) :=
  rn_g (3 : Int32) 2888 <|
  (fX7_isOnAir c_state i1 (c_state (3 : Int32).toNatClampNeg)).bind fun t2 =>
  if t2 = 0 then
    some ((0 : Int32), c_arrival, c_links, c_isAvoided, c_toSend, c_sendTo)
  else
  (lX7_layFrames_22 N c_state i1 N (0 : Int32) (0 : Int32) c_arrival c_links c_isAvoided c_toSend c_sendTo).bind fun t4 =>
  (fX7_ofStation c_state i1 (2 : Int32)).bind fun t33 =>
  some ((rn_min t4.1 t33), t4.2.1, t4.2.2.1, t4.2.2.2.1, t4.2.2.2.2.1, t4.2.2.2.2.2)
def fX7_sends (N : Nat) (c_thrown : Int32) (c_sendCount : Int32) (c_state : Nat → Int32) (c_arrival : Nat → Int32) (c_links : Nat → Int32) (c_isAvoided : Nat → Int32) (c_toSend : Nat → Int32) (c_sendTo : Nat → Int32) (i1 : Int32) (i2 : Int32) : Option (Int32 × Int32 × Int32 × (Nat → Int32) × (Nat → Int32) × (Nat → Int32) × (Nat → Int32) × (Nat → Int32)) :=
  (fX7_isStation c_state i1).bind fun t1 =>
  if t1 = 0 then
    (fX7_fail (0 : Int32) (1 : Int32)).bind fun t3 =>
    some (t3.1, t3.2, c_sendCount, c_arrival, c_links, c_isAvoided, c_toSend, c_sendTo)
  else
  if 0 ≤ i2 then
    (fX7_layFrames N c_sendCount c_state c_arrival c_links c_isAvoided c_toSend c_sendTo i1).bind fun t5 =>
    if t5.1 ≤ i2 then
      some ((-1 : Int32), (0 : Int32), t5.1, t5.2.1, t5.2.2.1, t5.2.2.2.1, t5.2.2.2.2.1, t5.2.2.2.2.2)
    else
    rn_g i2 24 <|
    some ((t5.2.2.2.2.1 i2.toNatClampNeg), (0 : Int32), t5.1, t5.2.1, t5.2.2.1, t5.2.2.2.1, t5.2.2.2.2.1, t5.2.2.2.2.2)
  else
  (fX7_fail (0 : Int32) (1 : Int32)).bind fun t8 =>
  some (t8.1, t8.2, c_sendCount, c_arrival, c_links, c_isAvoided, c_toSend, c_sendTo)
def fX7_draw (c_state : Nat → Int32) : Option (Int32 × (Nat → Int32)) :=
  rn_g (6 : Int32) 2888 <|
  rn_g (6 : Int32) 2888 <|
  rn_let (upd c_state (6 : Int32).toNatClampNeg ((rn_lrem (((1103 : Int64) * ((c_state (6 : Int32).toNatClampNeg).toInt64)) + (12345 : Int64)) (1000003 : Int64)).toInt32)) fun w3 =>
  rn_g (6 : Int32) 2888 <|
  some ((rn_rem (w3 (6 : Int32).toNatClampNeg) (100 : Int32)), w3)
def fX7_add (c_state : Nat → Int32) (i1 : Int32) : Option ((Nat → Int32)) :=
  rn_g i1 2888 <|
  rn_g i1 2888 <|
  rn_let (upd c_state i1.toNatClampNeg ((c_state i1.toNatClampNeg) + (1 : Int32))) fun w3 =>
  some w3
def fX7_tryAgain (N : Nat) (c_state : Nat → Int32) (i1 : Int32) (i2 : Int32) (i3 : Int32) : Option ((Nat → Int32)) :=
  (fX7_copyPlace i1 i2).bind fun t1 =>
  rn_g (t1 + (1 : Int32)) 2888 <|
  rn_g (t1 + (1 : Int32)) 2888 <|
  rn_let (upd c_state (t1 + (1 : Int32)).toNatClampNeg ((c_state (t1 + (1 : Int32)).toNatClampNeg) + (1 : Int32))) fun w4 =>
  rn_g (t1 + (1 : Int32)) 2888 <|
  rn_g (5 : Int32) 2888 <|
  if (w4 (t1 + (1 : Int32)).toNatClampNeg) < (w4 (5 : Int32).toNatClampNeg) then
    some w4
  else
  (fX7_endCopy N w4 i1 i2 (3 : Int32) (6 : Int32) i3).bind fun t8 =>
  some t8
def lX7_get_103 (i1 : Int32) (i2 : Int32) (i3 : Int32) : Nat → Int32 → (Nat → Int32) → Option ((Nat → Int32))
  | 0, _, _ => none
  | n+1, x5_103, y_state_103 =>
    (fX7_ofCopy y_state_103 i1 i2 (3 : Int32)).bind fun t12 =>
    if t12 ≤ x5_103 then
      some y_state_103
    else
    (fX7_ofCopy y_state_103 i1 i2 ((4 : Int32) + x5_103)).bind fun t14 =>
    (fX7_extendPath y_state_103 i1 i3 t14).bind fun t15 =>
    lX7_get_103 i1 i2 i3 n (x5_103 + (1 : Int32)) t15
def fX7_get (N : Nat) (c_state : Nat → Int32) (i1 : Int32) (i2 : Int32) (i3 : Int32) : Option ((Nat → Int32)) :=
  (fX7_add c_state (((8 : Int32) + ((7 : Int32) * i3)) + (4 : Int32))).bind fun t1 =>
  (fX7_ofCopy t1 i1 i3 (0 : Int32)).bind fun t2 =>
  if t2 = 0 then
    (fX7_ofMessage t1 i1 (1 : Int32)).bind fun t4 =>
    Option.bind (
      if t4 = i3 then
        some (1 : Int32)
      else
      some (0 : Int32)
      ) fun t5 =>
    Option.bind (
      if t5 = 0 then
        some (1 : Int32)
      else
      some (5 : Int32)
      ) fun t7 =>
    rn_g (3 : Int32) 2888 <|
    (fX7_putCopy t1 i1 i3 t7 ((t1 (3 : Int32).toNatClampNeg) + (1 : Int32))).bind fun t10 =>
    (lX7_get_103 i1 i2 i3 N (0 : Int32) t10).bind fun t11 =>
    (fX7_extendPath t11 i1 i3 i3).bind fun t16 =>
    if t5 = 0 then
      some t16
    else
    (fX7_add t16 (((8 : Int32) + ((7 : Int32) * i3)) + (6 : Int32))).bind fun t18 =>
    (fX7_note N t18 (5 : Int32) i1 i3 i2).bind fun t19 =>
    some t19
  else
  (fX7_add t1 (((8 : Int32) + ((7 : Int32) * i3)) + (5 : Int32))).bind fun t20 =>
  (fX7_add t20 (((192 : Int32) + ((8 : Int32) * i1)) + (5 : Int32))).bind fun t21 =>
  (fX7_note N t21 (4 : Int32) i1 i3 i2).bind fun t22 =>
  some t22
def fX7_sendFrame (N : Nat) (c_state : Nat → Int32) (i1 : Int32) (i2 : Int32) (i3 : Int32) : Option ((Nat → Int32)) :=
  (fX7_linkOf N c_state i2 i3).bind fun t1 =>
  (fX7_add c_state (((8 : Int32) + ((7 : Int32) * i2)) + (3 : Int32))).bind fun t2 =>
  (fX7_add t2 (((192 : Int32) + ((8 : Int32) * i1)) + (4 : Int32))).bind fun t3 =>
  (fX7_add t3 (((64 : Int32) + ((8 : Int32) * t1)) + (5 : Int32))).bind fun t4 =>
  (fX7_draw t4).bind fun t5 =>
  (fX7_ofLink t5.2 t1 (4 : Int32)).bind fun t6 =>
  if t5.1 < t6 then
    (fX7_get N t5.2 i1 i2 i3).bind fun t8 =>
    (fX7_draw t8).bind fun t9 =>
    (fX7_ofLink t9.2 t1 (4 : Int32)).bind fun t10 =>
    if t10 ≤ t9.1 then
      (fX7_add t9.2 (((64 : Int32) + ((8 : Int32) * t1)) + (7 : Int32))).bind fun t12 =>
      (fX7_note N t12 (3 : Int32) i1 i2 i3).bind fun t13 =>
      (fX7_tryAgain N t13 i1 i2 i3).bind fun t14 =>
      some t14
    else
    (fX7_copyPlace i1 i2).bind fun t15 =>
    rn_g (t15 + (0 : Int32)) 2888 <|
    rn_let (upd t9.2 (t15 + (0 : Int32)).toNatClampNeg (2 : Int32)) fun w17 =>
    (fX7_note N w17 (1 : Int32) i1 i2 i3).bind fun t18 =>
    some t18
  else
  (fX7_add t5.2 (((64 : Int32) + ((8 : Int32) * t1)) + (6 : Int32))).bind fun t19 =>
  (fX7_note N t19 (2 : Int32) i1 i2 i3).bind fun t20 =>
  (fX7_tryAgain N t20 i1 i2 i3).bind fun t21 =>
  some t21
def lX7_expire_42 (N : Nat) (x1_2 : Int32) (t7 : Int32) : Nat → Int32 → (Nat → Int32) → Option ((Nat → Int32))
  | 0, _, _ => none
  | n+1, x3_42, y_state_42 =>
    rn_g (0 : Int32) 2888 <|
    if (y_state_42 (0 : Int32).toNatClampNeg) ≤ x3_42 then
      some y_state_42
    else
    if t7 = 0 then
      some y_state_42
    else
    (fX7_ofCopy y_state_42 x1_2 x3_42 (0 : Int32)).bind fun t13 =>
    if t13 = (1 : Int32) then
      (fX7_endCopy N y_state_42 x1_2 x3_42 (4 : Int32) (7 : Int32) (-1 : Int32)).bind fun t15 =>
      lX7_expire_42 N x1_2 t7 n (x3_42 + (1 : Int32)) t15
    else
    lX7_expire_42 N x1_2 t7 n (x3_42 + (1 : Int32)) y_state_42
def lX7_expire_2 (N : Nat) : Nat → Int32 → (Nat → Int32) → Option ((Nat → Int32))
  | 0, _, _ => none
  | n+1, x1_2, y_state_2 =>
    rn_g (2 : Int32) 2888 <|
    if (y_state_2 (2 : Int32).toNatClampNeg) ≤ x1_2 then
      some y_state_2
    else
    rn_g (3 : Int32) 2888 <|
    (fX7_ofMessage y_state_2 x1_2 (3 : Int32)).bind fun t5 =>
    rn_g (4 : Int32) 2888 <|
    Option.bind (
      if ((y_state_2 (3 : Int32).toNatClampNeg) - t5) < (y_state_2 (4 : Int32).toNatClampNeg) then
        some (0 : Int32)
      else
      some (1 : Int32)
      ) fun t7 =>
    (lX7_expire_42 N x1_2 t7 N (0 : Int32) y_state_2).bind fun t9 =>
    lX7_expire_2 N n (x1_2 + (1 : Int32)) t9
def fX7_expire (N : Nat) (c_state : Nat → Int32) : Option ((Nat → Int32)) :=
  (lX7_expire_2 N N (0 : Int32) c_state).bind fun t1 =>
  some t1
def lX7_passHour_23 (N : Nat) (x1_6 : Int32) (t5 : Int32 × (Nat → Int32) × (Nat → Int32) × (Nat → Int32) × (Nat → Int32) × (Nat → Int32)) : Nat → Int32 → (Nat → Int32) → Option ((Nat → Int32))
  | 0, _, _ => none
  | n+1, x2_23, y_state_23 =>
    if t5.1 ≤ x2_23 then
      some y_state_23
    else
    rn_g x2_23 24 <|
    rn_g x2_23 24 <|
    (fX7_sendFrame N y_state_23 (t5.2.2.2.2.1 x2_23.toNatClampNeg) x1_6 (t5.2.2.2.2.2 x2_23.toNatClampNeg)).bind fun t10 =>
    lX7_passHour_23 N x1_6 t5 n (x2_23 + (1 : Int32)) t10
def lX7_passHour_6 (N : Nat) : Nat → Int32 → Int32 → (Nat → Int32) → (Nat → Int32) → (Nat → Int32) → (Nat → Int32) → (Nat → Int32) → (Nat → Int32) → Option (Int32 × (Nat → Int32) × (Nat → Int32) × (Nat → Int32) × (Nat → Int32) × (Nat → Int32) × (Nat → Int32))
  | 0, _, _, _, _, _, _, _, _ => none
  | n+1, x1_6, y_sendCount_6, y_state_6, y_arrival_6, y_links_6, y_isAvoided_6, y_toSend_6, y_sendTo_6 =>
    rn_g (0 : Int32) 2888 <|
    if (y_state_6 (0 : Int32).toNatClampNeg) ≤ x1_6 then
      some (y_sendCount_6, y_state_6, y_arrival_6, y_links_6, y_isAvoided_6, y_toSend_6, y_sendTo_6)
    else
    (fX7_layFrames N y_sendCount_6 y_state_6 y_arrival_6 y_links_6 y_isAvoided_6 y_toSend_6 y_sendTo_6 x1_6).bind fun t5 =>
    (lX7_passHour_23 N x1_6 t5 N (0 : Int32) y_state_6).bind fun t6 =>
    lX7_passHour_6 N n (x1_6 + (1 : Int32)) t5.1 t6 t5.2.1 t5.2.2.1 t5.2.2.2.1 t5.2.2.2.2.1 t5.2.2.2.2.2
def fX7_passHour (N : Nat) (c_sendCount : Int32) (c_state : Nat → Int32) (c_arrival : Nat → Int32) (c_links : Nat → Int32) (c_isAvoided : Nat → Int32) (c_toSend : Nat → Int32) (c_sendTo : Nat → Int32) : Option (Int32 × (Nat → Int32) × (Nat → Int32) × (Nat → Int32) × (Nat → Int32) × (Nat → Int32) × (Nat → Int32)) :=
  (fX7_expire N c_state).bind fun t1 =>
  (lX7_passHour_6 N N (0 : Int32) c_sendCount t1 c_arrival c_links c_isAvoided c_toSend c_sendTo).bind fun t2 =>
  rn_g (3 : Int32) 2888 <|
  rn_g (3 : Int32) 2888 <|
  rn_let (upd t2.2.1 (3 : Int32).toNatClampNeg ((t2.2.1 (3 : Int32).toNatClampNeg) + (1 : Int32))) fun w13 =>
  some (t2.1, w13, t2.2.2.1, t2.2.2.2.1, t2.2.2.2.2.1, t2.2.2.2.2.2.1, t2.2.2.2.2.2.2)
def lX7_run_30 (N : Nat) (i1 : Int32) : Nat → Int32 → Int32 → (Nat → Int32) → (Nat → Int32) → (Nat → Int32) → (Nat → Int32) → (Nat → Int32) → (Nat → Int32) → Option (Int32 × (Nat → Int32) × (Nat → Int32) × (Nat → Int32) × (Nat → Int32) × (Nat → Int32) × (Nat → Int32))
  | 0, _, _, _, _, _, _, _, _ => none
  | n+1, x3_30, y_sendCount_30, y_state_30, y_arrival_30, y_links_30, y_isAvoided_30, y_toSend_30, y_sendTo_30 =>
    if i1 ≤ x3_30 then
      some (y_sendCount_30, y_state_30, y_arrival_30, y_links_30, y_isAvoided_30, y_toSend_30, y_sendTo_30)
    else
    (fX7_passHour N y_sendCount_30 y_state_30 y_arrival_30 y_links_30 y_isAvoided_30 y_toSend_30 y_sendTo_30).bind fun t6 =>
    lX7_run_30 N i1 n (x3_30 + (1 : Int32)) t6.1 t6.2.1 t6.2.2.1 t6.2.2.2.1 t6.2.2.2.2.1 t6.2.2.2.2.2.1 t6.2.2.2.2.2.2
def fX7_run (N : Nat) (c_thrown : Int32) (c_sendCount : Int32) (c_state : Nat → Int32) (c_arrival : Nat → Int32) (c_links : Nat → Int32) (c_isAvoided : Nat → Int32) (c_toSend : Nat → Int32) (c_sendTo : Nat → Int32) (i1 : Int32) : Option (Int32 × Int32 × Int32 × (Nat → Int32) × (Nat → Int32) × (Nat → Int32) × (Nat → Int32) × (Nat → Int32) × (Nat → Int32)) :=
  (fX7_isBetween i1 (1 : Int32) (72 : Int32)).bind fun t1 =>
  if t1 = 0 then
    (fX7_fail (0 : Int32) (1 : Int32)).bind fun t8 =>
    some (t8.1, t8.2, c_sendCount, c_state, c_arrival, c_links, c_isAvoided, c_toSend, c_sendTo)
  else
  (fX7_sumOfStations N c_state (6 : Int32)).bind fun t3 =>
  (lX7_run_30 N i1 N (0 : Int32) c_sendCount c_state c_arrival c_links c_isAvoided c_toSend c_sendTo).bind fun t4 =>
  (fX7_sumOfStations N t4.2.1 (6 : Int32)).bind fun t7 =>
  some ((t7 - t3), (0 : Int32), t4.1, t4.2.1, t4.2.2.1, t4.2.2.2.1, t4.2.2.2.2.1, t4.2.2.2.2.2.1, t4.2.2.2.2.2.2)
def lX7_stateAfter_50 (N : Nat) (i2 : Int32) : Nat → Int32 → Int32 → (Nat → Int32) → (Nat → Int32) → (Nat → Int32) → (Nat → Int32) → (Nat → Int32) → (Nat → Int32) → Option (Int32 × (Nat → Int32) × (Nat → Int32) × (Nat → Int32) × (Nat → Int32) × (Nat → Int32) × (Nat → Int32))
  | 0, _, _, _, _, _, _, _, _ => none
  | n+1, x3_50, y_sendCount_50, y_state_50, y_arrival_50, y_links_50, y_isAvoided_50, y_toSend_50, y_sendTo_50 =>
    if i2 ≤ x3_50 then
      some (y_sendCount_50, y_state_50, y_arrival_50, y_links_50, y_isAvoided_50, y_toSend_50, y_sendTo_50)
    else
    (fX7_passHour N y_sendCount_50 y_state_50 y_arrival_50 y_links_50 y_isAvoided_50 y_toSend_50 y_sendTo_50).bind fun t8 =>
    lX7_stateAfter_50 N i2 n (x3_50 + (1 : Int32)) t8.1 t8.2.1 t8.2.2.1 t8.2.2.2.1 t8.2.2.2.2.1 t8.2.2.2.2.2.1 t8.2.2.2.2.2.2
def fX7_stateAfter (N : Nat) (c_thrown : Int32) (c_sendCount : Int32) (c_state : Nat → Int32) (c_aside : Nat → Int32) (c_arrival : Nat → Int32) (c_links : Nat → Int32) (c_isAvoided : Nat → Int32) (c_toSend : Nat → Int32) (c_sendTo : Nat → Int32) (i1 : Int32) (i2 : Int32) : Option (Int32 × Int32 × Int32 × (Nat → Int32) × (Nat → Int32) × (Nat → Int32) × (Nat → Int32) × (Nat → Int32) × (Nat → Int32) × (Nat → Int32)) :=
  (fX7_isMessage c_state i1).bind fun t1 =>
  if t1 = 0 then
    (fX7_fail (0 : Int32) (1 : Int32)).bind fun t12 =>
    some (t12.1, t12.2, c_sendCount, c_state, c_aside, c_arrival, c_links, c_isAvoided, c_toSend, c_sendTo)
  else
  (fX7_isBetween i2 (1 : Int32) (72 : Int32)).bind fun t3 =>
  if t3 = 0 then
    (fX7_fail (0 : Int32) (2 : Int32)).bind fun t11 =>
    some (t11.1, t11.2, c_sendCount, c_state, c_aside, c_arrival, c_links, c_isAvoided, c_toSend, c_sendTo)
  else
  (fX7_copyAll N 2888 2888 c_state c_aside (0 : Int32) (0 : Int32)).bind fun t5 =>
  (lX7_stateAfter_50 N i2 N (0 : Int32) c_sendCount c_state c_arrival c_links c_isAvoided c_toSend c_sendTo).bind fun t6 =>
  (fX7_stateOf N t6.2.1 i1).bind fun t9 =>
  (fX7_copyAll N 2888 2888 t5 t6.2.1 (0 : Int32) (0 : Int32)).bind fun t10 =>
  some (t9, (0 : Int32), t6.1, t10, t5, t6.2.2.1, t6.2.2.2.1, t6.2.2.2.2.1, t6.2.2.2.2.2.1, t6.2.2.2.2.2.2)
def lX7_hoursTo_36 (N : Nat) (i1 : Int32) : Nat → Int32 → Int32 → (Nat → Int32) → (Nat → Int32) → (Nat → Int32) → (Nat → Int32) → (Nat → Int32) → (Nat → Int32) → Option (Int32 × Int32 × (Nat → Int32) × (Nat → Int32) × (Nat → Int32) × (Nat → Int32) × (Nat → Int32) × (Nat → Int32))
  | 0, _, _, _, _, _, _, _, _ => none
  | n+1, x2_36, y_sendCount_36, y_state_36, y_arrival_36, y_links_36, y_isAvoided_36, y_toSend_36, y_sendTo_36 =>
    if (72 : Int32) < x2_36 then
      some (x2_36, y_sendCount_36, y_state_36, y_arrival_36, y_links_36, y_isAvoided_36, y_toSend_36, y_sendTo_36)
    else
    (fX7_messagesIn N y_state_36 (1 : Int32)).bind fun t6 =>
    if i1 ≤ t6 then
      some (x2_36, y_sendCount_36, y_state_36, y_arrival_36, y_links_36, y_isAvoided_36, y_toSend_36, y_sendTo_36)
    else
    (fX7_passHour N y_sendCount_36 y_state_36 y_arrival_36 y_links_36 y_isAvoided_36 y_toSend_36 y_sendTo_36).bind fun t8 =>
    lX7_hoursTo_36 N i1 n (x2_36 + (1 : Int32)) t8.1 t8.2.1 t8.2.2.1 t8.2.2.2.1 t8.2.2.2.2.1 t8.2.2.2.2.2.1 t8.2.2.2.2.2.2
def fX7_hoursTo (N : Nat) (c_thrown : Int32) (c_sendCount : Int32) (c_state : Nat → Int32) (c_aside : Nat → Int32) (c_arrival : Nat → Int32) (c_links : Nat → Int32) (c_isAvoided : Nat → Int32) (c_toSend : Nat → Int32) (c_sendTo : Nat → Int32) (i1 : Int32) : Option (Int32 × Int32 × Int32 × (Nat → Int32) × (Nat → Int32) × (Nat → Int32) × (Nat → Int32) × (Nat → Int32) × (Nat → Int32) × (Nat → Int32)) :=
  (fX7_isBetween i1 (1 : Int32) (24 : Int32)).bind fun t1 =>
  if t1 = 0 then
    (fX7_fail (0 : Int32) (1 : Int32)).bind fun t11 =>
    some (t11.1, t11.2, c_sendCount, c_state, c_aside, c_arrival, c_links, c_isAvoided, c_toSend, c_sendTo)
  else
  (fX7_copyAll N 2888 2888 c_state c_aside (0 : Int32) (0 : Int32)).bind fun t3 =>
  (lX7_hoursTo_36 N i1 N (0 : Int32) c_sendCount c_state c_arrival c_links c_isAvoided c_toSend c_sendTo).bind fun t4 =>
  (fX7_copyAll N 2888 2888 t3 t4.2.2.1 (0 : Int32) (0 : Int32)).bind fun t9 =>
  if (72 : Int32) < t4.1 then
    some ((-1 : Int32), (0 : Int32), t4.2.1, t9, t3, t4.2.2.2.1, t4.2.2.2.2.1, t4.2.2.2.2.2.1, t4.2.2.2.2.2.2.1, t4.2.2.2.2.2.2.2)
  else
  some (t4.1, (0 : Int32), t4.2.1, t9, t3, t4.2.2.2.1, t4.2.2.2.2.1, t4.2.2.2.2.2.1, t4.2.2.2.2.2.2.1, t4.2.2.2.2.2.2.2)
def fX7_save (N : Nat) (c_thrown : Int32) (c_state : Nat → Int32) (c_saved : Nat → Int32) (c_isSaved : Nat → Int32) (i1 : Int32) : Option (Int32 × (Nat → Int32) × (Nat → Int32)) :=
  (fX7_isBetween i1 (0 : Int32) (1 : Int32)).bind fun t1 =>
  Option.bind (
    if t1 = 0 then
      some (1 : Int32)
    else
    some (0 : Int32)
    ) fun t2 =>
  if t2 = 0 then
    (fX7_copyAll N 2888 5776 c_state c_saved (0 : Int32) ((2888 : Int32) * i1)).bind fun t5 =>
    rn_g i1 2 <|
    rn_let (upd c_isSaved i1.toNatClampNeg (vp_nar .boolean (1 : Int32))) fun w7 =>
    some (t2, t5, w7)
  else
  some (t2, c_saved, c_isSaved)
def fX7_restore (N : Nat) (c_thrown : Int32) (c_state : Nat → Int32) (c_saved : Nat → Int32) (c_isSaved : Nat → Int32) (i1 : Int32) : Option (Int32 × (Nat → Int32)) :=
  (fX7_isBetween i1 (0 : Int32) (1 : Int32)).bind fun t1 =>
  Option.bind (
    if t1 = 0 then
      some (1 : Int32)
    else
    rn_g i1 2 <|
    if (c_isSaved i1.toNatClampNeg) = 0 then
      some (2 : Int32)
    else
    some (0 : Int32)
    ) fun t2 =>
  if t2 = 0 then
    (fX7_copyAll N 5776 2888 c_saved c_state ((2888 : Int32) * i1) (0 : Int32)).bind fun t7 =>
    some (t2, t7)
  else
  some (t2, c_state)
