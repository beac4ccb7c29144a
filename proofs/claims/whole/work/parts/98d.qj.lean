/-! written lines, outputs, texts, on both sides -/
section QK
variable {N t : Nat} {sc lc mc tm life tries x : Int32} {stations links messages copies : Nat → Int32} {first size : Int32} {events st : Nat → Int32} {heard : Nat → Int64}
theorem pkd {n kd : Nat} {bytes out : Nat → Int32} (hN : 6000 ≤ N) (hk : kd < 9) (hn : n + 9 ≤ 60) (h : ro n bytes out) : ∃ n' bytes' out', n' ≤ 60 ∧ fX1_putWord N (nI n) bytes (wX0_wordOf (nI kd)) = some (nI n', bytes') ∧ fX7_putKind N (nI n) out (nI kd) = some (nI n', out') ∧ ro n' bytes' out' := by
  have ex : ∀ l : List Int32, l.length ≤ 9 → (∀ k, k < l.length → ∃ w, w < 128 ∧ l.getD k 0 = nI w) → ∃ n' bytes' out', n' ≤ 60 ∧ fX1_putWord N (nI n) bytes l = some (nI n', bytes') ∧ ((fX7_putWord N (nI n) out l).bind fun t2 => some (t2.1, t2.2)) = some (nI n', out') ∧ ro n' bytes' out' := fun l hl hw => by
    obtain ⟨b', o', p1, p2, p3⟩ := pwd hN (show n + l.length ≤ 60 by omega) hw h
    exact ⟨n + l.length, b', o', by omega, p1, by rw [p2, rn_bs], p3⟩
  have hk9 : kd = 0 ∨ kd = 1 ∨ kd = 2 ∨ kd = 3 ∨ kd = 4 ∨ kd = 5 ∨ kd = 6 ∨ kd = 7 ∨ kd = 8 := by omega
  have w4 : ∀ a b c d : Nat, a < 128 → b < 128 → c < 128 → d < 128 → ∀ k, k < 4 → ∃ w, w < 128 ∧ [nI a, nI b, nI c, nI d].getD k 0 = nI w := fun a b c d ha hb hc hd k hk => by
    have : k = 0 ∨ k = 1 ∨ k = 2 ∨ k = 3 := by omega
    rcases this with rfl | rfl | rfl | rfl
    · exact ⟨a, ha, rfl⟩
    · exact ⟨b, hb, rfl⟩
    · exact ⟨c, hc, rfl⟩
    · exact ⟨d, hd, rfl⟩
  have gen : ∀ l : List Nat, (∀ w, w ∈ l → w < 128) → ∀ k, k < (l.map nI).length → ∃ w, w < 128 ∧ (l.map nI).getD k 0 = nI w := fun l hl k hk => by
    rw [List.length_map] at hk
    refine ⟨l[k], hl _ (List.getElem_mem hk), ?_⟩
    rw [List.getD_eq_getElem?_getD, List.getElem?_map, List.getElem?_eq_getElem hk]
    rfl
  rcases hk9 with rfl | rfl | rfl | rfl | rfl | rfl | rfl | rfl | rfl
  · exact ex _ (by decide) (gen [98, 111, 114, 110] (by decide))
  · exact ex _ (by decide) (gen [112, 97, 115, 115, 101, 100] (by decide))
  · exact ex _ (by decide) (gen [108, 111, 115, 116] (by decide))
  · exact ex _ (by decide) (gen [117, 110, 115, 117, 114, 101] (by decide))
  · exact ex _ (by decide) (gen [100, 111, 117, 98, 108, 101] (by decide))
  · exact ex _ (by decide) (gen [100, 101, 108, 105, 118, 101, 114, 101, 100] (by decide))
  · exact ex _ (by decide) (gen [115, 116, 111, 112, 112, 101, 100] (by decide))
  · exact ex _ (by decide) (gen [101, 120, 112, 105, 114, 101, 100] (by decide))
  · exact ex _ (by decide) (gen [98, 97, 99, 107] (by decide))
theorem pw1 {n w : Nat} {bytes out : Nat → Int32} (hN : 6000 ≤ N) (hn : n < 60) (hw : w < 128) (h : ro n bytes out) : ∃ bytes' out', fX1_putWord N (nI n) bytes [nI w] = some (nI (n + 1), bytes') ∧ fX7_put (nI n) out (nI w) = some (nI (n + 1), out') ∧ ro (n + 1) bytes' out' := by
  obtain ⟨b', o', p1, p2, p3⟩ := pt1 hn hw h
  refine ⟨b', o', ?_, p2, p3⟩
  obtain ⟨N', rfl⟩ : ∃ g, N = g + 2 := ⟨N - 2, by omega⟩
  unfold fX1_putWord
  rw [lX1_putWord_2, if_neg (show ¬ Int32.ofNat [nI w].length ≤ 0 from (show ¬ Int32.ofNat 1 ≤ 0 by decide)), show rn_g (0 : Int32) [nI w].length = rn_g (nI 0) 1 from rfl, rn_gI (by decide) (by decide), show [nI w].getD (0 : Int32).toNatClampNeg 0 = nI w from rfl, p1, rn_bs, lX1_putWord_2, if_pos (show Int32.ofNat [nI w].length ≤ (0 : Int32) + (1 : Int32) from (show Int32.ofNat 1 ≤ (0 : Int32) + (1 : Int32) by decide)), rn_bs]
theorem co_write {ll ol : Int32} {bytes out : Nat → Int32} (hN : 6000 ≤ N) (ht : t ≤ 90000) (h : rl_net t sc lc mc tm life tries x stations links messages copies first size events heard st) (ho : rl_out ll bytes ol out) (z thr : Int32) : ∃ (k : Nat) (kI v ll' ol' : Int32) (b' o' : Nat → Int32), fX6_write N first size events ll bytes z = some (k, v, ll', b') ∧ fX7_write N thr ol st out z = some (v, kI, ol', o') ∧ ((k = 0 ∧ kI = 0) ∨ (k = 3 ∧ kI = 1)) ∧ rl_out ll' b' ol' o' := by
  obtain ⟨a, b, m, e, tt, h0, eH⟩ := h
  obtain ⟨hA, hZ⟩ := rlA_iff.mp h0
  obtain ⟨ha, hb, hm, he, htt⟩ := hA.1.1.1
  have z7 := hA.1.1.2.2.2.2.2.1
  obtain ⟨f, hf, ef, E2⟩ := hA.2.2.2.2.2.2.2
  have se : size = nI e := hA.1.2.2.2.2.2.2.2.2.trans z7
  subst ef se
  unfold fX6_write fX7_write fX6_isEvent fX2_eventCount fX0_size
  rw [g7, cl7, z7, rn_bs, rn_bs]
  rcases rg_eb z e with ⟨j, hj, rfl⟩ | q
  · obtain ⟨⟨T, hT, eT⟩, ⟨kd, hkd, ek⟩, ⟨ms, hms, em⟩, ⟨s, hs, es⟩, eo⟩ := hA.2.2.2.2.2.2.1 j hj
    have E : ∀ q : Nat, q < 5 → fX2_eventNumber (nI f) events (nI j) (nI q) = some (qE st j q) := fun q hq => ev2 E2 he hf hj hq
    have P0 : (2688 : Int32) + (5 : Int32) * nI j = nI (2688 + 5 * j) := by rw [show (2688 : Int32) = nI 2688 from rfl, show (5 : Int32) = nI 5 from rfl, pk_mul, nI_add]
    have P2 : nI (2688 + 5 * j) + (2 : Int32) = nI (2688 + 5 * j + 2) := nI_add _ 2
    have P3 : nI (2688 + 5 * j) + (3 : Int32) = nI (2688 + 5 * j + 3) := nI_add _ 3
    have P4 : nI (2688 + 5 * j) + (4 : Int32) = nI (2688 + 5 * j + 4) := nI_add _ 4
    have P1 : nI (2688 + 5 * j) + (1 : Int32) = nI (2688 + 5 * j + 1) := nI_add _ 1
    have C : ∀ q : Nat, q < 5 → (nI (2688 + 5 * j + q)).toNatClampNeg = 2688 + 5 * j + q := fun q hq => nI_clamp (by omega)
    have G : ∀ q : Nat, q < 5 → ∀ {α : Type} {o : Option α}, rn_g (nI (2688 + 5 * j + q)) 2888 o = o := fun q hq => rn_gI (by omega) (by decide)
    have v0 : st (2688 + 5 * j) = nI T := eT
    have v1 : st (2688 + 5 * j + 1) = nI kd := ek
    have v2 : st (2688 + 5 * j + 2) = nI ms := em
    have v3 : st (2688 + 5 * j + 3) = nI s := es
    obtain ⟨n1, b1, o1, l1, a1, a2, a3⟩ := pnm (n := 0) (bytes := bytes) (out := out) hN hT (by decide) (fun i hi => by omega)
    obtain ⟨b2, o2, c1, c2, c3⟩ := pwd (n := n1) (l := [32, 109]) hN (show n1 + 2 ≤ 60 by omega) (fun k hk => by
      have : k = 0 ∨ k = 1 := by
        have hk : k < 2 := hk
        omega
      rcases this with rfl | rfl
      · exact ⟨32, by decide, rfl⟩
      · exact ⟨109, by decide, rfl⟩) a3
    have c1 : fX1_putWord N (nI n1) b1 [32, 109] = some (nI (n1 + 2), b2) := c1
    have c2 : fX7_putWord N (nI n1) o1 [32, 109] = some (nI (n1 + 2), o2) := c2
    obtain ⟨n3, b3, o3, l3, d1, d2, d3⟩ := pnm (n := n1 + 2) (x := ms) hN (by omega) (by omega) c3
    obtain ⟨b4, o4, e1, e2, e3⟩ := pw1 (w := 32) hN (show n3 < 60 by omega) (by decide) d3
    obtain ⟨n5, b5, o5, l5, f1, f2, f3⟩ := pnm (n := n3 + 1) (x := s) hN (by omega) (by omega) e3
    have oth : ∃ n6 b6 o6, n6 ≤ n5 + 7 ∧ (if qE st j 4 = (-1 : Int32) then some (nI n5, b5) else (fX1_putWord N (nI n5) b5 [62]).bind fun t15 => (fX1_putNumber N t15.1 t15.2 (qE st j 4)).bind fun t16 => some (t16.1, t16.2)) = some (nI n6, b6) ∧ (if qE st j 4 = (-1 : Int32) then some (nI n5, o5) else (fX7_put (nI n5) o5 (62 : Int32)).bind fun t15 => (fX7_putNumber N t15.1 t15.2 (qE st j 4)).bind fun t17 => some (t17.1, t17.2)) = some (nI n6, o6) ∧ ro n6 b6 o6 := by
      by_cases c : qE st j 4 = -1
      · rw [if_pos c, if_pos c]
        exact ⟨n5, b5, o5, by omega, rfl, rfl, f3⟩
      · obtain ⟨u, hu, eu⟩ := eo.resolve_left c
        obtain ⟨b7, o7, g1, g2, g3⟩ := pw1 (w := 62) hN (show n5 < 60 by omega) (by decide) f3
        obtain ⟨n8, b8, o8, l8, h1, h2, h3⟩ := pnm (n := n5 + 1) (x := u) hN (by omega) (by omega) g3
        rw [if_neg c, if_neg c, eu, show fX1_putWord N (nI n5) b5 [62] = _ from g1, show fX7_put (nI n5) o5 (62 : Int32) = _ from g2, rn_bs, rn_bs, h1, h2, rn_bs, rn_bs]
        exact ⟨n8, b8, o8, by omega, rfl, rfl, h3⟩
    obtain ⟨n6, b6, o6, l6, p1, p2, p3⟩ := oth
    obtain ⟨b9, o9, q1, q2, q3⟩ := pw1 (w := 32) hN (show n6 < 60 by omega) (by decide) p3
    obtain ⟨nA, bA, oA, lA, r1, r2, r3⟩ := pkd (kd := kd) hN hkd (show n6 + 1 + 9 ≤ 60 by omega) q3
    refine ⟨0, 0, nI nA, nI nA, nI nA, bA, oA, ?_, ?_, Or.inl ⟨rfl, rfl⟩, nA, lA, rfl, rfl, r3⟩
    · unfold fX1_clear fX1_length
      rw [cxy hj (by omega), rn_bs, if_neg (show ¬ (1 : Int32) = 0 by decide), rn_bs, show fX2_eventNumber (nI f) events (nI j) (0 : Int32) = _ from E 0 (by decide), rn_bs, eT, show fX1_putNumber N (0 : Int32) bytes (nI T) = _ from a1, rn_bs, c1, rn_bs, show fX2_eventNumber (nI f) events (nI j) (2 : Int32) = _ from E 2 (by decide), rn_bs, em, show fX1_putNumber N (nI (n1 + 2), b2).1 (nI (n1 + 2), b2).2 (nI ms) = _ from d1, rn_bs, show fX1_putWord N (nI n3, b3).1 (nI n3, b3).2 [32] = _ from e1, rn_bs, show fX2_eventNumber (nI f) events (nI j) (3 : Int32) = _ from E 3 (by decide), rn_bs, es, f1, rn_bs, show fX2_eventNumber (nI f) events (nI j) (4 : Int32) = _ from E 4 (by decide), rn_bs, p1, rn_bs, show fX1_putWord N (nI n6, b6).1 (nI n6, b6).2 [32] = _ from q1, rn_bs, show fX2_eventNumber (nI f) events (nI j) (1 : Int32) = _ from E 1 (by decide), rn_bs, ek, r1, rn_bs, rn_bs]
    · rw [b7a hj (by omega), rn_bs, if_neg (show ¬ (1 : Int32) = 0 by decide), P0, rn_gI (by omega) (by decide), nI_clamp (by omega), v0, show fX7_putNumber N (0 : Int32) out (nI T) = _ from a2, rn_bs, c2, rn_bs, P2, G 2 (by decide), C 2 (by decide), v2, show fX7_putNumber N (nI (n1 + 2), o2).1 (nI (n1 + 2), o2).2 (nI ms) = _ from d2, rn_bs, show fX7_put (nI n3, o3).1 (nI n3, o3).2 (32 : Int32) = _ from e2, rn_bs, P3, G 3 (by decide), C 3 (by decide), v3, f2, rn_bs]
      simp only [P4, G 4 (by decide), C 4 (by decide), show st (2688 + 5 * j + 4) = qE st j 4 from rfl]
      rw [p2, rn_bs, show fX7_put (nI n6, o6).1 (nI n6, o6).2 (32 : Int32) = _ from q2, rn_bs, P1, G 1 (by decide), C 1 (by decide), v1, r2, rn_bs]
  · rw [b7b q (by omega), cxn q (by omega), rn_bs, rn_bs, if_pos rfl, if_pos rfl]
    exact ⟨3, 1, 0, _, _, _, _, rfl, rfl, Or.inr ⟨rfl, rfl⟩, ho⟩
theorem co_output {ll ol : Int32} {bytes out : Nat → Int32} (ho : rl_out ll bytes ol out) (z thr : Int32) : ∃ v, fX6_output ll bytes z = some v ∧ fX7_output thr ol out z = some (v, 0) := by
  obtain ⟨n, hn, rfl, rfl, h⟩ := ho
  unfold fX6_output fX7_output fX1_byteAt
  rcases rg_eb z n with ⟨i, hi, rfl⟩ | q
  · obtain ⟨v, v1, v2, v3⟩ := h i hi
    rw [b7a hi (by omega), rn_bs, if_neg (show ¬ (1 : Int32) = 0 by decide), if_neg (nI_pos (by omega)), if_neg (nI_ge hi (by omega)), if_neg (show ¬ Int32.ofNat 64 ≤ nI i from nI_ge (b := 64) (by omega) (by decide)), rn_gI (by omega) (by decide), rn_gI (by omega) (by decide), nI_clamp (by omega), rn_bs, v2, v3]
    exact ⟨_, rfl, rfl⟩
  · rw [b7b q (by omega), rn_bs, if_pos rfl]
    rcases zc z with r | ⟨i, r1, rfl⟩
    · rw [if_pos r, rn_bs]
      exact ⟨_, rfl, rfl⟩
    · rw [if_neg (nI_pos r1)]
      rcases Nat.lt_or_ge i n with c | c
      · exact absurd rfl (q i c)
      · rw [if_pos (nI_le c r1), rn_bs]
        exact ⟨_, rfl, rfl⟩
theorem co_truncateText {len tl : Int32} {text mt : Nat → Int32} (hr : rl_text len text tl mt) (z thr : Int32) : ∃ (k : Nat) (kI v len' tl' : Int32), fX6_truncateText len z = some (k, v, len') ∧ fX7_truncateText thr tl z = some (v, kI, tl') ∧ ((k = 0 ∧ kI = 0) ∨ (k = 1 ∧ kI = 1)) ∧ rl_text len' text tl' mt := by
  have hr0 := hr
  obtain ⟨n, hn, rfl, rfl, h⟩ := hr
  unfold fX6_truncateText fX7_truncateText fX3_length fX3_cutTo
  rw [rn_bs]
  rcases rg_em z 0 n with ⟨i, -, hi, rfl⟩ | q
  · rw [show fX7_isBetween (nI i) (0 : Int32) (nI n) = some 1 from b7y (lo := 0) (by omega) hi (by omega), cly hi (by omega), rn_bs, rn_bs, rn_bs, if_neg (show ¬ (1 : Int32) = 0 by decide)]
    exact ⟨0, 0, _, _, _, rfl, rfl, Or.inl ⟨rfl, rfl⟩, i, by omega, rfl, rfl, fun j hj => h j (by omega)⟩
  · rw [show fX7_isBetween z (0 : Int32) (nI n) = some 0 from b7n (lo := 0) q (by omega) (by decide), rn_bs, rn_bs, rn_bs, if_pos rfl, cln (fun j hj => q j (by omega) hj) (by omega)]
    exact ⟨1, 1, 0, _, _, rfl, rfl, Or.inr ⟨rfl, rfl⟩, hr0⟩
def rt (n : Nat) (text mt : Nat → Int32) : Prop := ∀ i, i < n → ∃ v, v < 256 ∧ mt i = nI v ∧ text i = (nI v).toInt8.toInt32
theorem tx1 {n : Nat} {text mt : Nat → Int32} (hn : n < 700) (h : rt n text mt) (y : Int32) : ∃ text', fX3_put (nI n) text y = some (nI (n + 1), text') ∧ rt (n + 1) text' (upd mt n (y &&& (255 : Int32))) := by
  obtain ⟨v, v1, v2, v3⟩ := byt y
  refine ⟨upd text n (vp_nar .byte (y.toInt8.toInt32)), ?_, fun i hi => ?_⟩
  · unfold fX3_put
    rw [if_neg (nI_pos (by omega)), if_neg (show ¬ Int32.ofNat 700 ≤ nI n from nI_ge (b := 700) hn (by decide)), rn_gI hn (by decide), rn_lt, nI_clamp (by omega), nI_1]
  · by_cases c : i = n
    · rw [c]
      exact ⟨v, v1, by rw [pk_us, v2], by rw [pk_us, v3]⟩
    · rw [pk_un c, pk_un c]
      exact h i (by omega)
theorem co_appendText {len tl : Int32} {text mt : Nat → Int32} (hN : 6000 ≤ N) (hr : rl_text len text tl mt) (z thr : Int32) : ∃ (k : Nat) (kI v len' tl' : Int32) (text' mt' : Nat → Int32), fX6_appendText N len text z = some (k, v, len', text') ∧ fX7_appendText N thr tl mt z = some (v, kI, tl', mt') ∧ ((k = 0 ∧ kI = 0) ∨ (k = 2 ∧ kI = 1)) ∧ rl_text len' text' tl' mt' := by
  have hr0 := hr
  obtain ⟨n, hn, rfl, rfl, h⟩ := hr
  unfold fX6_appendText fX7_appendText fX3_length
  rw [rn_bs, show nI n + (4 : Int32) = nI (n + 4) from nI_add n 4]
  rcases Nat.lt_or_ge 700 (n + 4) with c | c
  · rw [if_neg (show ¬ nI (n + 4) ≤ (700 : Int32) from nI_ge (a := 700) c (by omega)), if_neg (show ¬ nI (n + 4) ≤ (700 : Int32) from nI_ge (a := 700) c (by omega))]
    exact ⟨2, 1, 0, _, _, _, _, rfl, rfl, Or.inr ⟨rfl, rfl⟩, hr0⟩
  · rw [if_pos (show nI (n + 4) ≤ (700 : Int32) from nI_le (b := 700) c (by decide)), if_pos (show nI (n + 4) ≤ (700 : Int32) from nI_le (b := 700) c (by decide))]
    obtain ⟨t1, p1, q1⟩ := tx1 (show n < 700 by omega) h (z >>> ((24 : Int32) &&& (31 : Int32)))
    obtain ⟨t2, p2, q2⟩ := tx1 (show n + 1 < 700 by omega) q1 (z >>> (((24 : Int32) + (-8 : Int32)) &&& (31 : Int32)))
    obtain ⟨t3, p3, q3⟩ := tx1 (show n + 1 + 1 < 700 by omega) q2 (z >>> (((24 : Int32) + (-8 : Int32) + (-8 : Int32)) &&& (31 : Int32)))
    obtain ⟨t4, p4, q4⟩ := tx1 (show n + 1 + 1 + 1 < 700 by omega) q3 (z >>> (((24 : Int32) + (-8 : Int32) + (-8 : Int32) + (-8 : Int32)) &&& (31 : Int32)))
    obtain ⟨N', rfl⟩ : ∃ g, N = g + 5 := ⟨N - 5, by omega⟩
    have d1 : ¬ (24 : Int32) < 0 := by decide
    have d2 : ¬ (24 : Int32) + (-8 : Int32) < 0 := by decide
    have d3 : ¬ (24 : Int32) + (-8 : Int32) + (-8 : Int32) < 0 := by decide
    have d4 : ¬ (24 : Int32) + (-8 : Int32) + (-8 : Int32) + (-8 : Int32) < 0 := by decide
    have d5 : (24 : Int32) + (-8 : Int32) + (-8 : Int32) + (-8 : Int32) + (-8 : Int32) < 0 := by decide
    rw [lX6_appendText_28, if_neg d1, p1, rn_bs, lX6_appendText_28, if_neg d2, p2, rn_bs, lX6_appendText_28, if_neg d3, p3, rn_bs, lX6_appendText_28, if_neg d4, p4, rn_bs, lX6_appendText_28, if_pos d5, rn_bs, rn_bs]
    rw [lX7_appendText_26, if_neg d1, rn_gI (by omega) (by decide), rn_lt, nI_clamp (by omega), nI_1, lX7_appendText_26, if_neg d2, rn_gI (by omega) (by decide), rn_lt, nI_clamp (by omega), nI_1, lX7_appendText_26, if_neg d3, rn_gI (by omega) (by decide), rn_lt, nI_clamp (by omega), nI_1, lX7_appendText_26, if_neg d4, rn_gI (by omega) (by decide), rn_lt, nI_clamp (by omega), nI_1, lX7_appendText_26, if_pos d5, rn_bs]
    exact ⟨0, 0, _, _, _, _, _, rfl, rfl, Or.inl ⟨rfl, rfl⟩, n + 1 + 1 + 1 + 1, by omega, rfl, rfl, q4⟩
end QK
