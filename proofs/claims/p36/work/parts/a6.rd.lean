/-! what the law reads, in terms of the picture -/
section A6
variable {N t a b m e tt : Nat} {sc lc mc tm life tries x : Int32} {stations links messages copies : Nat → Int32} {first size : Int32} {events st : Nat → Int32} {heard : Nat → Int64}
theorem bz {α β : Type} {o : Option (Nat × β)} {v : β} {f : Nat × β → Option α} (h : o = some (0, v)) : (o.bind fun t => rn_z (¬ t.1 = 0) (f t)) = f (0, v) := by
  rw [h]
  show rn_z (¬ (0 : Nat) = 0) (f (0, v)) = f (0, v)
  unfold rn_z
  exact if_neg (fun q => q rfl)
theorem bx {α β : Type} {o : Option β} {v : β} {f : β → Option α} (h : o = some v) : (o.bind fun t => f t) = f v := by
  rw [h]
  rfl
theorem is7 {i : Nat} (z0 : st 0 = nI a) (ha : a ≤ 8) (hi : i < a) : fX7_isStation st (nI i) = some 1 := by
  unfold fX7_isStation
  rw [g0, cl0, z0, b7a hi (by omega), rn_bs]
theorem imm7 {i : Nat} (z2 : st 2 = nI m) (hm : m ≤ 24) (hi : i < m) : fX7_isMessage st (nI i) = some 1 := by
  unfold fX7_isMessage
  rw [g2, cl2, z2, b7a hi (by omega), rn_bs]
theorem n10 : ¬ (1 : Int32) = 0 := by decide
theorem rd_station {v : Int32} {z z2 : Int32} (hN : 6000 ≤ N) (ht : t ≤ 90000) (h : rl_net t sc lc mc tm life tries x stations links messages copies first size events heard st) (h7 : fX7_station N 0 st z z2 = some (v, 0)) : fL_station N sc lc mc tm stations links copies z z2 = some (0, v) := by
  obtain ⟨k, kI, v1, e1, e2, e3⟩ := co_station hN ht h z z2 0
  have q := Option.some.inj (e2.symm.trans h7)
  have q1 : v1 = v := congrArg Prod.fst q
  have q2 : kI = 0 := congrArg Prod.snd q
  subst q1
  subst q2
  have k0 : k = 0 := by
    rcases e3 with r | r | r
    · exact r.1
    · exact absurd r.2 (by decide)
    · exact absurd r.2 (by decide)
  subst k0
  unfold fL_station
  rw [e1, rn_bs]
  exact if_pos rfl
theorem rd_link {v : Int32} {z z2 : Int32} (ht : t ≤ 90000) (h : rl_net t sc lc mc tm life tries x stations links messages copies first size events heard st) (h7 : fX7_link 0 st z z2 = some (v, 0)) : fL_link lc tm stations links z z2 = some (0, v) := by
  obtain ⟨k, kI, v1, e1, e2, e3⟩ := co_link ht h z z2 0
  have q := Option.some.inj (e2.symm.trans h7)
  have q1 : v1 = v := congrArg Prod.fst q
  have q2 : kI = 0 := congrArg Prod.snd q
  subst q1
  subst q2
  have k0 : k = 0 := by
    rcases e3 with r | r | r
    · exact r.1
    · exact absurd r.2 (by decide)
    · exact absurd r.2 (by decide)
  subst k0
  unfold fL_link
  rw [e1, rn_bs]
  exact if_pos rfl
theorem rd_count {v : Int32} {z : Int32} (hN : 6000 ≤ N) (ht : t ≤ 90000) (h : rl_net t sc lc mc tm life tries x stations links messages copies first size events heard st) (h7 : fX7_count N 0 st z = some (v, 0)) : fL_count N sc lc mc tm life tries x stations links messages copies size z = some (0, v) := by
  obtain ⟨k, kI, v1, e1, e2, e3⟩ := co_count hN ht h z 0
  have q := Option.some.inj (e2.symm.trans h7)
  have q1 : v1 = v := congrArg Prod.fst q
  have q2 : kI = 0 := congrArg Prod.snd q
  subst q1
  subst q2
  have k0 : k = 0 := by
    rcases e3 with r | r
    · exact r.1
    · exact absurd r.2 (by decide)
  subst k0
  unfold fL_count
  rw [e1, rn_bs]
  exact if_pos rfl
theorem rd_message {v : Int32} {z z2 : Int32} (hN : 6000 ≤ N) (ht : t ≤ 90000) (h : rl_net t sc lc mc tm life tries x stations links messages copies first size events heard st) (h7 : fX7_message N 0 st z z2 = some (v, 0)) : fL_message N sc mc messages copies z z2 = some (0, v) := by
  obtain ⟨k, kI, v1, e1, e2, e3⟩ := co_message hN ht h z z2 0
  have q := Option.some.inj (e2.symm.trans h7)
  have q1 : v1 = v := congrArg Prod.fst q
  have q2 : kI = 0 := congrArg Prod.snd q
  subst q1
  subst q2
  have k0 : k = 0 := by
    rcases e3 with r | r | r
    · exact r.1
    · exact absurd r.2 (by decide)
    · exact absurd r.2 (by decide)
  subst k0
  unfold fL_message
  rw [e1, rn_bs]
  exact if_pos rfl
theorem rd_path {v : Int32} {z z2 z3 : Int32} (ht : t ≤ 90000) (h : rl_net t sc lc mc tm life tries x stations links messages copies first size events heard st) (h7 : fX7_path 0 st z z2 z3 = some (v, 0)) : fL_path sc mc copies z z2 z3 = some (0, v) := by
  obtain ⟨k, kI, v1, e1, e2, e3⟩ := co_path ht h z z2 z3 0
  have q := Option.some.inj (e2.symm.trans h7)
  have q1 : v1 = v := congrArg Prod.fst q
  have q2 : kI = 0 := congrArg Prod.snd q
  subst q1
  subst q2
  have k0 : k = 0 := by
    rcases e3 with r | r
    · exact r.1
    · exact absurd r.2 (by decide)
  subst k0
  unfold fL_path
  rw [e1, rn_bs]
  exact if_pos rfl
theorem rd_event {v : Int32} {z z2 : Int32} (ht : t ≤ 90000) (h : rl_net t sc lc mc tm life tries x stations links messages copies first size events heard st) (h7 : fX7_event 0 st z z2 = some (v, 0)) : fL_event first size events z z2 = some (0, v) := by
  obtain ⟨k, kI, v1, e1, e2, e3⟩ := co_event ht h z z2 0
  have q := Option.some.inj (e2.symm.trans h7)
  have q1 : v1 = v := congrArg Prod.fst q
  have q2 : kI = 0 := congrArg Prod.snd q
  subst q1
  subst q2
  have k0 : k = 0 := by
    rcases e3 with r | r | r
    · exact r.1
    · exact absurd r.2 (by decide)
    · exact absurd r.2 (by decide)
  subst k0
  unfold fL_event
  rw [e1, rn_bs]
  exact if_pos rfl
theorem rd_copy {v : Int32} {z z2 z3 : Int32} (hN : 6000 ≤ N) (ht : t ≤ 90000) (h : rl_net t sc lc mc tm life tries x stations links messages copies first size events heard st) (ar fe nx : Int32) (A K I : Nat → Int32) (h7 : ∃ w2, fX7_copy N 0 st A K I z z2 z3 = some (v, 0, w2)) : ∃ w, fL_copy N sc mc tm messages copies ar fe nx heard z z2 z3 = some (0, v, w) := by
  obtain ⟨w2, h7⟩ := h7
  obtain ⟨k, kI, v1, w, w3, e1, e2, e3⟩ := co_copy hN ht h z z2 z3 0 ar fe nx A K I
  have q := Option.some.inj (e2.symm.trans h7)
  have q1 : v1 = v := congrArg Prod.fst q
  have q2 : kI = 0 := congrArg (fun r => r.2.1) q
  subst q1
  subst q2
  have k0 : k = 0 := by
    rcases e3 with r | r | r
    · exact r.1
    · exact absurd r.2 (by decide)
    · exact absurd r.2 (by decide)
  subst k0
  refine ⟨w, ?_⟩
  unfold fL_copy
  rw [e1, rn_bs]
  exact if_pos rfl
theorem rd_way {v : Int32} {z z2 z3 z4 : Int32} (hN : 6000 ≤ N) (ht : t ≤ 90000) (h : rl_net t sc lc mc tm life tries x stations links messages copies first size events heard st) (ar fe nx : Int32) (A K I : Nat → Int32) (h7 : ∃ w2, fX7_way N 0 st A K I z z2 z3 z4 = some (v, 0, w2)) : ∃ w, fL_way N sc ar fe nx heard z z2 z3 z4 = some (0, v, w) := by
  obtain ⟨w2, h7⟩ := h7
  obtain ⟨k, kI, v1, w, w3, e1, e2, e3⟩ := co_way hN ht h z z2 z3 z4 0 ar fe nx A K I
  have q := Option.some.inj (e2.symm.trans h7)
  have q1 : v1 = v := congrArg Prod.fst q
  have q2 : kI = 0 := congrArg (fun r => r.2.1) q
  subst q1
  subst q2
  have k0 : k = 0 := by
    rcases e3 with r | r | r
    · exact r.1
    · exact absurd r.2 (by decide)
    · exact absurd r.2 (by decide)
  subst k0
  refine ⟨w, ?_⟩
  unfold fL_way
  rw [e1, rn_bs]
  exact if_pos rfl
theorem rd_sends {v : Int32} {z z2 : Int32} (hN : 6000 ≤ N) (ht : t ≤ 90000) (h : rl_net t sc lc mc tm life tries x stations links messages copies first size events heard st) (ar fe nx : Int32) (c7 : Int32) (F A K I T D : Nat → Int32) (h7 : ∃ w2, fX7_sends N 0 c7 st A K I T D z z2 = some (v, 0, w2)) : ∃ w, fL_sends N sc mc tm stations messages copies ar fe nx heard F z z2 = some (0, v, w) := by
  obtain ⟨w2, h7⟩ := h7
  obtain ⟨k, kI, v1, w, w3, e1, e2, e3⟩ := co_sends hN ht h z z2 0 c7 ar fe nx F A K I T D
  have q := Option.some.inj (e2.symm.trans h7)
  have q1 : v1 = v := congrArg Prod.fst q
  have q2 : kI = 0 := congrArg (fun r => r.2.1) q
  subst q1
  subst q2
  have k0 : k = 0 := by
    rcases e3 with r | r
    · exact r.1
    · exact absurd r.2 (by decide)
  subst k0
  refine ⟨w, ?_⟩
  unfold fL_sends
  rw [e1, rn_bs]
  exact if_pos rfl
theorem rd_path3 {v : Int32} {z z2 z3 : Int32} (ht : t ≤ 90000) (h : rl_net t sc lc mc tm life tries x stations links messages copies first size events heard st) (h7 : fX7_path 0 st z z2 z3 = some (v, 1)) : fL_path sc mc copies z z2 z3 = some (3, -101) := by
  obtain ⟨k, kI, v1, e1, e2, e3⟩ := co_path ht h z z2 z3 0
  have q := Option.some.inj (e2.symm.trans h7)
  have q2 : kI = 1 := congrArg Prod.snd q
  subst q2
  have k0 : k = 3 := by
    rcases e3 with r | r
    · exact absurd r.2 (by decide)
    · exact r.1
  subst k0
  unfold fL_path
  rw [e1, rn_bs]
  first | rfl | exact (if_neg (by decide)).trans (if_pos rfl)
theorem rd_way1 {v : Int32} {z z2 z3 z4 : Int32} (hN : 6000 ≤ N) (ht : t ≤ 90000) (h : rl_net t sc lc mc tm life tries x stations links messages copies first size events heard st) (ar fe nx : Int32) (A K I : Nat → Int32) (h7 : ∃ w2, fX7_way N 0 st A K I z z2 z3 z4 = some (v, 2, w2)) : ∃ w, fL_way N sc ar fe nx heard z z2 z3 z4 = some (1, -102, w) := by
  obtain ⟨w2, h7⟩ := h7
  obtain ⟨k, kI, v1, w, w3, e1, e2, e3⟩ := co_way hN ht h z z2 z3 z4 0 ar fe nx A K I
  have q := Option.some.inj (e2.symm.trans h7)
  have q2 : kI = 2 := congrArg (fun r => r.2.1) q
  subst q2
  have k0 : k = 1 := by
    rcases e3 with r | r | r
    · exact absurd r.2 (by decide)
    · exact absurd r.2 (by decide)
    · exact r.1
  subst k0
  refine ⟨w, ?_⟩
  unfold fL_way
  rw [e1, rn_bs]
  rfl
theorem s7_0 {i : Nat} (z0 : st 0 = nI a) (ha : a ≤ 8) (hi : i < a) : fX7_station N 0 st (nI i) (0 : Int32) = some (qS st i 0, 0) := by
  unfold fX7_station
  rw [is7 z0 ha hi, rn_bs, if_neg n10, if_pos rfl, show fX7_ofStation st (nI i) (0 : Int32) = _ from oS (q := 0) (by omega) (by decide), rn_bs]
theorem s7_1 {i : Nat} (z0 : st 0 = nI a) (ha : a ≤ 8) (hi : i < a) : fX7_station N 0 st (nI i) (1 : Int32) = some (qS st i 1, 0) := by
  unfold fX7_station
  rw [is7 z0 ha hi, rn_bs, if_neg n10, if_neg (show ¬ (1 : Int32) = (0 : Int32) by decide), if_pos rfl, show fX7_ofStation st (nI i) (1 : Int32) = _ from oS (q := 1) (by omega) (by decide), rn_bs]
theorem s7_2 {i : Nat} (z0 : st 0 = nI a) (ha : a ≤ 8) (hi : i < a) : fX7_station N 0 st (nI i) (2 : Int32) = some (qS st i 2, 0) := by
  unfold fX7_station
  rw [is7 z0 ha hi, rn_bs, if_neg n10, if_neg (show ¬ (2 : Int32) = (0 : Int32) by decide), if_neg (show ¬ (2 : Int32) = (1 : Int32) by decide), if_pos rfl, show fX7_ofStation st (nI i) (2 : Int32) = _ from oS (q := 2) (by omega) (by decide), rn_bs]
theorem s7_3 {i : Nat} (z0 : st 0 = nI a) (z3 : st 3 = nI tt) (htt : tt < 2 ^ 30) (gS : gd_S a st) (ha : a ≤ 8) (hi : i < a) : fX7_station N 0 st (nI i) (3 : Int32) = some (b2 (q_on st i (tt % 24)), 0) := by
  unfold fX7_station
  rw [is7 z0 ha hi, rn_bs, if_neg n10, if_neg (show ¬ (3 : Int32) = (0 : Int32) by decide), if_neg (show ¬ (3 : Int32) = (1 : Int32) by decide), if_neg (show ¬ (3 : Int32) = (2 : Int32) by decide), if_pos rfl, g3, cl3, z3, on7 gS hi ha htt, rn_bs, b2_w]
theorem s7_5 {i : Nat} (z0 : st 0 = nI a) (ha : a ≤ 8) (hi : i < a) : fX7_station N 0 st (nI i) (5 : Int32) = some (qS st i 3, 0) := by
  unfold fX7_station
  rw [is7 z0 ha hi, rn_bs, if_neg n10, if_neg (show ¬ (5 : Int32) = (0 : Int32) by decide), if_neg (show ¬ (5 : Int32) = (1 : Int32) by decide), if_neg (show ¬ (5 : Int32) = (2 : Int32) by decide), if_neg (show ¬ (5 : Int32) = (3 : Int32) by decide), if_neg (show ¬ (5 : Int32) = (4 : Int32) by decide), if_pos rfl, show fX7_ofStation st (nI i) (((3 : Int32) + (5 : Int32)) - (5 : Int32)) = _ from oS (q := 3) (by omega) (by decide), rn_bs]
theorem s7_6 {i : Nat} (z0 : st 0 = nI a) (ha : a ≤ 8) (hi : i < a) : fX7_station N 0 st (nI i) (6 : Int32) = some (qS st i 4, 0) := by
  unfold fX7_station
  rw [is7 z0 ha hi, rn_bs, if_neg n10, if_neg (show ¬ (6 : Int32) = (0 : Int32) by decide), if_neg (show ¬ (6 : Int32) = (1 : Int32) by decide), if_neg (show ¬ (6 : Int32) = (2 : Int32) by decide), if_neg (show ¬ (6 : Int32) = (3 : Int32) by decide), if_neg (show ¬ (6 : Int32) = (4 : Int32) by decide), if_neg (show ¬ (6 : Int32) = (5 : Int32) by decide), if_pos rfl, show fX7_ofStation st (nI i) (((3 : Int32) + (6 : Int32)) - (5 : Int32)) = _ from oS (q := 4) (by omega) (by decide), rn_bs]
theorem s7_7 {i : Nat} (z0 : st 0 = nI a) (ha : a ≤ 8) (hi : i < a) : fX7_station N 0 st (nI i) (7 : Int32) = some (qS st i 5, 0) := by
  unfold fX7_station
  rw [is7 z0 ha hi, rn_bs, if_neg n10, if_neg (show ¬ (7 : Int32) = (0 : Int32) by decide), if_neg (show ¬ (7 : Int32) = (1 : Int32) by decide), if_neg (show ¬ (7 : Int32) = (2 : Int32) by decide), if_neg (show ¬ (7 : Int32) = (3 : Int32) by decide), if_neg (show ¬ (7 : Int32) = (4 : Int32) by decide), if_neg (show ¬ (7 : Int32) = (5 : Int32) by decide), if_neg (show ¬ (7 : Int32) = (6 : Int32) by decide), if_pos rfl, show fX7_ofStation st (nI i) (((3 : Int32) + (7 : Int32)) - (5 : Int32)) = _ from oS (q := 5) (by omega) (by decide), rn_bs]
theorem s7_8 {i : Nat} (z0 : st 0 = nI a) (ha : a ≤ 8) (hi : i < a) : fX7_station N 0 st (nI i) (8 : Int32) = some (qS st i 6, 0) := by
  unfold fX7_station
  rw [is7 z0 ha hi, rn_bs, if_neg n10, if_neg (show ¬ (8 : Int32) = (0 : Int32) by decide), if_neg (show ¬ (8 : Int32) = (1 : Int32) by decide), if_neg (show ¬ (8 : Int32) = (2 : Int32) by decide), if_neg (show ¬ (8 : Int32) = (3 : Int32) by decide), if_neg (show ¬ (8 : Int32) = (4 : Int32) by decide), if_neg (show ¬ (8 : Int32) = (5 : Int32) by decide), if_neg (show ¬ (8 : Int32) = (6 : Int32) by decide), if_neg (show ¬ (8 : Int32) = (7 : Int32) by decide), if_pos rfl, show fX7_ofStation st (nI i) (((3 : Int32) + (8 : Int32)) - (5 : Int32)) = _ from oS (q := 6) (by omega) (by decide), rn_bs]
theorem s7_9 {i : Nat} (hN : 6000 ≤ N) (z0 : st 0 = nI a) (z1 : st 1 = nI b) (hb : b ≤ 16) (ha : a ≤ 8) (hi : i < a) : fX7_station N 0 st (nI i) (9 : Int32) = some (sm (fun j => ow (qL st j 0 = nI i ∨ qL st j 1 = nI i)) 0 b, 0) := by
  unfold fX7_station
  rw [is7 z0 ha hi, rn_bs, if_neg n10, if_neg (show ¬ (9 : Int32) = (0 : Int32) by decide), if_neg (show ¬ (9 : Int32) = (1 : Int32) by decide), if_neg (show ¬ (9 : Int32) = (2 : Int32) by decide), if_neg (show ¬ (9 : Int32) = (3 : Int32) by decide), if_neg (show ¬ (9 : Int32) = (4 : Int32) by decide), if_neg (show ¬ (9 : Int32) = (5 : Int32) by decide), if_neg (show ¬ (9 : Int32) = (6 : Int32) by decide), if_neg (show ¬ (9 : Int32) = (7 : Int32) by decide), if_neg (show ¬ (9 : Int32) = (8 : Int32) by decide), if_pos rfl, la7 hN z1 hb, rn_bs]
theorem l7_0 {j : Nat} (z1 : st 1 = nI b) (hb : b ≤ 16) (hj : j < b) : fX7_link 0 st (nI j) (0 : Int32) = some (qL st j 0, 0) := by
  unfold fX7_link
  rw [g1, cl1, z1, b7a hj (by omega), rn_bs, if_neg n10, show fX7_isBetween (0 : Int32) (0 : Int32) (8 : Int32) = some 1 by decide, rn_bs, if_neg n10, if_neg (show ¬ (0 : Int32) = (5 : Int32) by decide), if_neg (show ¬ (5 : Int32) ≤ (0 : Int32) by decide), rn_bs, show fX7_ofLink st (nI j) (0 : Int32) = _ from oL (q := 0) (by omega) (by decide), rn_bs]
theorem l7_1 {j : Nat} (z1 : st 1 = nI b) (hb : b ≤ 16) (hj : j < b) : fX7_link 0 st (nI j) (1 : Int32) = some (qL st j 1, 0) := by
  unfold fX7_link
  rw [g1, cl1, z1, b7a hj (by omega), rn_bs, if_neg n10, show fX7_isBetween (1 : Int32) (0 : Int32) (8 : Int32) = some 1 by decide, rn_bs, if_neg n10, if_neg (show ¬ (1 : Int32) = (5 : Int32) by decide), if_neg (show ¬ (5 : Int32) ≤ (1 : Int32) by decide), rn_bs, show fX7_ofLink st (nI j) (1 : Int32) = _ from oL (q := 1) (by omega) (by decide), rn_bs]
theorem l7_4 {j : Nat} (z1 : st 1 = nI b) (hb : b ≤ 16) (hj : j < b) : fX7_link 0 st (nI j) (4 : Int32) = some (qL st j 4, 0) := by
  unfold fX7_link
  rw [g1, cl1, z1, b7a hj (by omega), rn_bs, if_neg n10, show fX7_isBetween (4 : Int32) (0 : Int32) (8 : Int32) = some 1 by decide, rn_bs, if_neg n10, if_neg (show ¬ (4 : Int32) = (5 : Int32) by decide), if_neg (show ¬ (5 : Int32) ≤ (4 : Int32) by decide), rn_bs, show fX7_ofLink st (nI j) (4 : Int32) = _ from oL (q := 4) (by omega) (by decide), rn_bs]
theorem l7_6 {j : Nat} (z1 : st 1 = nI b) (hb : b ≤ 16) (hj : j < b) : fX7_link 0 st (nI j) (6 : Int32) = some (qL st j 5, 0) := by
  unfold fX7_link
  rw [g1, cl1, z1, b7a hj (by omega), rn_bs, if_neg n10, show fX7_isBetween (6 : Int32) (0 : Int32) (8 : Int32) = some 1 by decide, rn_bs, if_neg n10, if_neg (show ¬ (6 : Int32) = (5 : Int32) by decide), if_pos (show (5 : Int32) ≤ (6 : Int32) by decide), rn_bs, show fX7_ofLink st (nI j) ((6 : Int32) - (1 : Int32)) = _ from oL (q := 5) (by omega) (by decide), rn_bs]
theorem l7_7 {j : Nat} (z1 : st 1 = nI b) (hb : b ≤ 16) (hj : j < b) : fX7_link 0 st (nI j) (7 : Int32) = some (qL st j 6, 0) := by
  unfold fX7_link
  rw [g1, cl1, z1, b7a hj (by omega), rn_bs, if_neg n10, show fX7_isBetween (7 : Int32) (0 : Int32) (8 : Int32) = some 1 by decide, rn_bs, if_neg n10, if_neg (show ¬ (7 : Int32) = (5 : Int32) by decide), if_pos (show (5 : Int32) ≤ (7 : Int32) by decide), rn_bs, show fX7_ofLink st (nI j) ((7 : Int32) - (1 : Int32)) = _ from oL (q := 6) (by omega) (by decide), rn_bs]
theorem l7_8 {j : Nat} (z1 : st 1 = nI b) (hb : b ≤ 16) (hj : j < b) : fX7_link 0 st (nI j) (8 : Int32) = some (qL st j 7, 0) := by
  unfold fX7_link
  rw [g1, cl1, z1, b7a hj (by omega), rn_bs, if_neg n10, show fX7_isBetween (8 : Int32) (0 : Int32) (8 : Int32) = some 1 by decide, rn_bs, if_neg n10, if_neg (show ¬ (8 : Int32) = (5 : Int32) by decide), if_pos (show (5 : Int32) ≤ (8 : Int32) by decide), rn_bs, show fX7_ofLink st (nI j) ((8 : Int32) - (1 : Int32)) = _ from oL (q := 7) (by omega) (by decide), rn_bs]
theorem c7_0 : fX7_count N 0 st (0 : Int32) = some (st 0, 0) := by
  unfold fX7_count
  rw [if_neg (show ¬ (0 : Int32) = (7 : Int32) by decide), if_neg (show ¬ (0 : Int32) = (8 : Int32) by decide), if_neg (show ¬ (0 : Int32) = (9 : Int32) by decide), if_neg (show ¬ (0 : Int32) = (10 : Int32) by decide), if_neg (show ¬ (0 : Int32) = (11 : Int32) by decide), if_neg (show ¬ (0 : Int32) = (12 : Int32) by decide), if_neg (show ¬ (0 : Int32) = (13 : Int32) by decide), show fX7_isBetween (0 : Int32) (0 : Int32) (6 : Int32) = some 1 by decide, rn_bs, if_neg n10, g0, cl0]
theorem c7_1 : fX7_count N 0 st (1 : Int32) = some (st 1, 0) := by
  unfold fX7_count
  rw [if_neg (show ¬ (1 : Int32) = (7 : Int32) by decide), if_neg (show ¬ (1 : Int32) = (8 : Int32) by decide), if_neg (show ¬ (1 : Int32) = (9 : Int32) by decide), if_neg (show ¬ (1 : Int32) = (10 : Int32) by decide), if_neg (show ¬ (1 : Int32) = (11 : Int32) by decide), if_neg (show ¬ (1 : Int32) = (12 : Int32) by decide), if_neg (show ¬ (1 : Int32) = (13 : Int32) by decide), show fX7_isBetween (1 : Int32) (0 : Int32) (6 : Int32) = some 1 by decide, rn_bs, if_neg n10, g1, cl1]
theorem c7_2 : fX7_count N 0 st (2 : Int32) = some (st 2, 0) := by
  unfold fX7_count
  rw [if_neg (show ¬ (2 : Int32) = (7 : Int32) by decide), if_neg (show ¬ (2 : Int32) = (8 : Int32) by decide), if_neg (show ¬ (2 : Int32) = (9 : Int32) by decide), if_neg (show ¬ (2 : Int32) = (10 : Int32) by decide), if_neg (show ¬ (2 : Int32) = (11 : Int32) by decide), if_neg (show ¬ (2 : Int32) = (12 : Int32) by decide), if_neg (show ¬ (2 : Int32) = (13 : Int32) by decide), show fX7_isBetween (2 : Int32) (0 : Int32) (6 : Int32) = some 1 by decide, rn_bs, if_neg n10, g2, cl2]
theorem c7_3 : fX7_count N 0 st (3 : Int32) = some (st 3, 0) := by
  unfold fX7_count
  rw [if_neg (show ¬ (3 : Int32) = (7 : Int32) by decide), if_neg (show ¬ (3 : Int32) = (8 : Int32) by decide), if_neg (show ¬ (3 : Int32) = (9 : Int32) by decide), if_neg (show ¬ (3 : Int32) = (10 : Int32) by decide), if_neg (show ¬ (3 : Int32) = (11 : Int32) by decide), if_neg (show ¬ (3 : Int32) = (12 : Int32) by decide), if_neg (show ¬ (3 : Int32) = (13 : Int32) by decide), show fX7_isBetween (3 : Int32) (0 : Int32) (6 : Int32) = some 1 by decide, rn_bs, if_neg n10, g3, cl3]
theorem c7_6 : fX7_count N 0 st (6 : Int32) = some (st 6, 0) := by
  unfold fX7_count
  rw [if_neg (show ¬ (6 : Int32) = (7 : Int32) by decide), if_neg (show ¬ (6 : Int32) = (8 : Int32) by decide), if_neg (show ¬ (6 : Int32) = (9 : Int32) by decide), if_neg (show ¬ (6 : Int32) = (10 : Int32) by decide), if_neg (show ¬ (6 : Int32) = (11 : Int32) by decide), if_neg (show ¬ (6 : Int32) = (12 : Int32) by decide), if_neg (show ¬ (6 : Int32) = (13 : Int32) by decide), show fX7_isBetween (6 : Int32) (0 : Int32) (6 : Int32) = some 1 by decide, rn_bs, if_neg n10, g6, cl6]
theorem c7_7 (hN : 6000 ≤ N) (h0 : st 0 = nI a) (h2 : st 2 = nI m) (ha : a ≤ 8) (hm : m ≤ 24) : fX7_count N 0 st (7 : Int32) = some (sm (fun k => ow (q_st st a k = 0)) 0 m, 0) := by
  unfold fX7_count
  rw [if_pos rfl, show ((7 : Int32) - (7 : Int32)) = (0 : Int32) by decide, mi7 hN h0 h2 ha hm, rn_bs]
theorem c7_8 (hN : 6000 ≤ N) (h0 : st 0 = nI a) (h2 : st 2 = nI m) (ha : a ≤ 8) (hm : m ≤ 24) : fX7_count N 0 st (8 : Int32) = some (sm (fun k => ow (q_st st a k = 1)) 0 m, 0) := by
  unfold fX7_count
  rw [if_neg (show ¬ (8 : Int32) = (7 : Int32) by decide), if_pos rfl, show ((8 : Int32) - (7 : Int32)) = (1 : Int32) by decide, mi7 hN h0 h2 ha hm, rn_bs]
theorem c7_9 (hN : 6000 ≤ N) (h0 : st 0 = nI a) (h2 : st 2 = nI m) (ha : a ≤ 8) (hm : m ≤ 24) : fX7_count N 0 st (9 : Int32) = some (sm (fun k => ow (q_st st a k = 2)) 0 m, 0) := by
  unfold fX7_count
  rw [if_neg (show ¬ (9 : Int32) = (7 : Int32) by decide), if_neg (show ¬ (9 : Int32) = (8 : Int32) by decide), if_pos rfl, show ((9 : Int32) - (7 : Int32)) = (2 : Int32) by decide, mi7 hN h0 h2 ha hm, rn_bs]
theorem c7_11 (hN : 6000 ≤ N) (h0 : st 0 = nI a) (ha : a ≤ 8) (gS : gd_S a st) : fX7_count N 0 st (11 : Int32) = some (isum (fun i => qS st i 3) 8, 0) := by
  unfold fX7_count
  rw [if_neg (show ¬ (11 : Int32) = (7 : Int32) by decide), if_neg (show ¬ (11 : Int32) = (8 : Int32) by decide), if_neg (show ¬ (11 : Int32) = (9 : Int32) by decide), if_neg (show ¬ (11 : Int32) = (10 : Int32) by decide), if_pos rfl, show fX7_sumOfStations N st (3 : Int32) = _ from ss7 (q := 3) hN h0 ha (by decide), rn_bs, sm_isum, smS gS ha (by decide)]
theorem c7_12 (hN : 6000 ≤ N) (h0 : st 0 = nI a) (ha : a ≤ 8) (gS : gd_S a st) : fX7_count N 0 st (12 : Int32) = some (isum (fun i => qS st i 5) 8, 0) := by
  unfold fX7_count
  rw [if_neg (show ¬ (12 : Int32) = (7 : Int32) by decide), if_neg (show ¬ (12 : Int32) = (8 : Int32) by decide), if_neg (show ¬ (12 : Int32) = (9 : Int32) by decide), if_neg (show ¬ (12 : Int32) = (10 : Int32) by decide), if_neg (show ¬ (12 : Int32) = (11 : Int32) by decide), if_pos rfl, show fX7_sumOfStations N st (5 : Int32) = _ from ss7 (q := 5) hN h0 ha (by decide), rn_bs, sm_isum, smS gS ha (by decide)]
theorem c7_13 : fX7_count N 0 st (13 : Int32) = some (st 7, 0) := by
  unfold fX7_count
  rw [if_neg (show ¬ (13 : Int32) = (7 : Int32) by decide), if_neg (show ¬ (13 : Int32) = (8 : Int32) by decide), if_neg (show ¬ (13 : Int32) = (9 : Int32) by decide), if_neg (show ¬ (13 : Int32) = (10 : Int32) by decide), if_neg (show ¬ (13 : Int32) = (11 : Int32) by decide), if_neg (show ¬ (13 : Int32) = (12 : Int32) by decide), if_pos rfl, g7, cl7]
theorem m7_0 {k : Nat} (z2 : st 2 = nI m) (hm : m ≤ 24) (hk : k < m) : fX7_message N 0 st (nI k) (0 : Int32) = some (qM st k 0, 0) := by
  unfold fX7_message
  rw [imm7 z2 hm hk, rn_bs, if_neg n10, if_pos rfl, show fX7_ofMessage st (nI k) (0 : Int32) = _ from oM (q := 0) (by omega) (by decide), rn_bs]
theorem m7_1 {k : Nat} (z2 : st 2 = nI m) (hm : m ≤ 24) (hk : k < m) : fX7_message N 0 st (nI k) (1 : Int32) = some (qM st k 1, 0) := by
  unfold fX7_message
  rw [imm7 z2 hm hk, rn_bs, if_neg n10, if_neg (show ¬ (1 : Int32) = (0 : Int32) by decide), if_pos rfl, show fX7_ofMessage st (nI k) (1 : Int32) = _ from oM (q := 1) (by omega) (by decide), rn_bs]
theorem m7_3 {k : Nat} (z2 : st 2 = nI m) (hm : m ≤ 24) (hk : k < m) : fX7_message N 0 st (nI k) (3 : Int32) = some (qM st k 3, 0) := by
  unfold fX7_message
  rw [imm7 z2 hm hk, rn_bs, if_neg n10, if_neg (show ¬ (3 : Int32) = (0 : Int32) by decide), if_neg (show ¬ (3 : Int32) = (1 : Int32) by decide), if_neg (show ¬ (3 : Int32) = (2 : Int32) by decide), if_pos rfl, show fX7_ofMessage st (nI k) (3 : Int32) = _ from oM (q := 3) (by omega) (by decide), rn_bs]
theorem m7_7 {k : Nat} (z2 : st 2 = nI m) (hm : m ≤ 24) (hk : k < m) : fX7_message N 0 st (nI k) (7 : Int32) = some (qM st k 4, 0) := by
  unfold fX7_message
  rw [imm7 z2 hm hk, rn_bs, if_neg n10, if_neg (show ¬ (7 : Int32) = (0 : Int32) by decide), if_neg (show ¬ (7 : Int32) = (1 : Int32) by decide), if_neg (show ¬ (7 : Int32) = (2 : Int32) by decide), if_neg (show ¬ (7 : Int32) = (3 : Int32) by decide), if_neg (show ¬ (7 : Int32) = (4 : Int32) by decide), if_neg (show ¬ (7 : Int32) = (5 : Int32) by decide), if_neg (show ¬ (7 : Int32) = (6 : Int32) by decide), if_pos rfl, show fX7_ofMessage st (nI k) (((4 : Int32) + (7 : Int32)) - (7 : Int32)) = _ from oM (q := 4) (by omega) (by decide), rn_bs]
theorem m7_8 {k : Nat} (z2 : st 2 = nI m) (hm : m ≤ 24) (hk : k < m) : fX7_message N 0 st (nI k) (8 : Int32) = some (qM st k 5, 0) := by
  unfold fX7_message
  rw [imm7 z2 hm hk, rn_bs, if_neg n10, if_neg (show ¬ (8 : Int32) = (0 : Int32) by decide), if_neg (show ¬ (8 : Int32) = (1 : Int32) by decide), if_neg (show ¬ (8 : Int32) = (2 : Int32) by decide), if_neg (show ¬ (8 : Int32) = (3 : Int32) by decide), if_neg (show ¬ (8 : Int32) = (4 : Int32) by decide), if_neg (show ¬ (8 : Int32) = (5 : Int32) by decide), if_neg (show ¬ (8 : Int32) = (6 : Int32) by decide), if_neg (show ¬ (8 : Int32) = (7 : Int32) by decide), if_pos rfl, show fX7_ofMessage st (nI k) (((4 : Int32) + (8 : Int32)) - (7 : Int32)) = _ from oM (q := 5) (by omega) (by decide), rn_bs]
theorem m7_10 {k : Nat} (z2 : st 2 = nI m) (hm : m ≤ 24) (hk : k < m) : fX7_message N 0 st (nI k) (10 : Int32) = some (qM st k 6, 0) := by
  unfold fX7_message
  rw [imm7 z2 hm hk, rn_bs, if_neg n10, if_neg (show ¬ (10 : Int32) = (0 : Int32) by decide), if_neg (show ¬ (10 : Int32) = (1 : Int32) by decide), if_neg (show ¬ (10 : Int32) = (2 : Int32) by decide), if_neg (show ¬ (10 : Int32) = (3 : Int32) by decide), if_neg (show ¬ (10 : Int32) = (4 : Int32) by decide), if_neg (show ¬ (10 : Int32) = (5 : Int32) by decide), if_neg (show ¬ (10 : Int32) = (6 : Int32) by decide), if_neg (show ¬ (10 : Int32) = (7 : Int32) by decide), if_neg (show ¬ (10 : Int32) = (8 : Int32) by decide), if_neg (show ¬ (10 : Int32) = (9 : Int32) by decide), if_pos rfl, show fX7_ofMessage st (nI k) (((6 : Int32) + (10 : Int32)) - (10 : Int32)) = _ from oM (q := 6) (by omega) (by decide), rn_bs]
theorem m7_11 {k : Nat} (z2 : st 2 = nI m) (hm : m ≤ 24) (hk : k < m) : fX7_message N 0 st (nI k) (11 : Int32) = some (qM st k 7, 0) := by
  unfold fX7_message
  rw [imm7 z2 hm hk, rn_bs, if_neg n10, if_neg (show ¬ (11 : Int32) = (0 : Int32) by decide), if_neg (show ¬ (11 : Int32) = (1 : Int32) by decide), if_neg (show ¬ (11 : Int32) = (2 : Int32) by decide), if_neg (show ¬ (11 : Int32) = (3 : Int32) by decide), if_neg (show ¬ (11 : Int32) = (4 : Int32) by decide), if_neg (show ¬ (11 : Int32) = (5 : Int32) by decide), if_neg (show ¬ (11 : Int32) = (6 : Int32) by decide), if_neg (show ¬ (11 : Int32) = (7 : Int32) by decide), if_neg (show ¬ (11 : Int32) = (8 : Int32) by decide), if_neg (show ¬ (11 : Int32) = (9 : Int32) by decide), if_neg (show ¬ (11 : Int32) = (10 : Int32) by decide), if_pos rfl, show fX7_ofMessage st (nI k) (((6 : Int32) + (11 : Int32)) - (10 : Int32)) = _ from oM (q := 7) (by omega) (by decide), rn_bs]
theorem m7_4 {k : Nat} (hN : 6000 ≤ N) (z0 : st 0 = nI a) (ha : a ≤ 8) (z2 : st 2 = nI m) (hm : m ≤ 24) (hk : k < m) : fX7_message N 0 st (nI k) (4 : Int32) = some (q_st st a k, 0) := by
  unfold fX7_message
  rw [imm7 z2 hm hk, rn_bs, if_neg n10, if_neg (show ¬ (4 : Int32) = (0 : Int32) by decide), if_neg (show ¬ (4 : Int32) = (1 : Int32) by decide), if_neg (show ¬ (4 : Int32) = (2 : Int32) by decide), if_neg (show ¬ (4 : Int32) = (3 : Int32) by decide), if_pos rfl, st7 hN z0 ha (by omega), rn_bs]
theorem m7_9 {k : Nat} (hN : 6000 ≤ N) (z0 : st 0 = nI a) (ha : a ≤ 8) (z2 : st 2 = nI m) (hm : m ≤ 24) (hk : k < m) : fX7_message N 0 st (nI k) (9 : Int32) = some (sm (fun s => ow (qC st k s 0 = 1)) 0 a, 0) := by
  unfold fX7_message
  rw [imm7 z2 hm hk, rn_bs, if_neg n10, if_neg (show ¬ (9 : Int32) = (0 : Int32) by decide), if_neg (show ¬ (9 : Int32) = (1 : Int32) by decide), if_neg (show ¬ (9 : Int32) = (2 : Int32) by decide), if_neg (show ¬ (9 : Int32) = (3 : Int32) by decide), if_neg (show ¬ (9 : Int32) = (4 : Int32) by decide), if_neg (show ¬ (9 : Int32) = (5 : Int32) by decide), if_neg (show ¬ (9 : Int32) = (6 : Int32) by decide), if_neg (show ¬ (9 : Int32) = (7 : Int32) by decide), if_neg (show ¬ (9 : Int32) = (8 : Int32) by decide), if_pos rfl, ci7 hN z0 ha (by omega), rn_bs]
theorem m7_5 {k g : Nat} (z2 : st 2 = nI m) (hm : m ≤ 24) (hk : k < m) (hg : g < 8) (eg : qM st k 1 = nI g) : fX7_message N 0 st (nI k) (5 : Int32) = some (if qC st k g 0 = 5 then qC st k g 2 else -1, 0) := by
  unfold fX7_message fX7_deliveredField
  rw [imm7 z2 hm hk, rn_bs, if_neg n10, if_neg (show ¬ (5 : Int32) = (0 : Int32) by decide), if_neg (show ¬ (5 : Int32) = (1 : Int32) by decide), if_neg (show ¬ (5 : Int32) = (2 : Int32) by decide), if_neg (show ¬ (5 : Int32) = (3 : Int32) by decide), if_neg (show ¬ (5 : Int32) = (4 : Int32) by decide), if_pos rfl, show fX7_ofMessage st (nI k) (1 : Int32) = some (nI g) from (oM (q := 1) (by omega) (by decide)).trans (congrArg some eg), rn_bs, show fX7_ofCopy st (nI k) (nI g) (0 : Int32) = _ from oC (q := 0) (by omega) hg (by decide), rn_bs]
  by_cases c : qC st k g 0 = 5
  · rw [if_pos c, if_pos c, show fX7_ofCopy st (nI k) (nI g) (2 : Int32) = _ from oC (q := 2) (by omega) hg (by decide), rn_bs, rn_bs]
  · rw [if_neg c, if_neg c, rn_bs]
theorem p7_y {k s i L : Nat} (z0 : st 0 = nI a) (ha : a ≤ 8) (z2 : st 2 = nI m) (hm : m ≤ 24) (hk : k < m) (hs : s < a) (h0 : ¬ qC st k s 0 = 0) (hL : L ≤ 8) (e3 : qC st k s 3 = nI L) (hi : i < L) : fX7_path 0 st (nI k) (nI s) (nI i) = some (qC st k s (4 + i), 0) := by
  unfold fX7_path
  rw [imm7 z2 hm hk, rn_bs, if_neg n10, is7 z0 ha hs, rn_bs, if_neg n10, show fX7_ofCopy st (nI k) (nI s) (0 : Int32) = _ from oC (q := 0) (by omega) (by omega) (by decide), rn_bs, if_neg h0, rn_bs, if_neg n10, show fX7_ofCopy st (nI k) (nI s) (3 : Int32) = some (nI L) from (oC (q := 3) (by omega) (by omega) (by decide)).trans (congrArg some e3), rn_bs, b7a hi (by omega), rn_bs, if_neg n10, show (4 : Int32) + nI i = nI (4 + i) from nI_add 4 i, oC (by omega) (by omega) (by omega), rn_bs]
theorem p7_n {k s : Nat} {z : Int32} (z0 : st 0 = nI a) (ha : a ≤ 8) (z2 : st 2 = nI m) (hm : m ≤ 24) (hk : k < m) (hs : s < a) (h0 : qC st k s 0 = 0) : fX7_path 0 st (nI k) (nI s) z = some (0, 1) := by
  unfold fX7_path
  rw [imm7 z2 hm hk, rn_bs, if_neg n10, is7 z0 ha hs, rn_bs, if_neg n10, show fX7_ofCopy st (nI k) (nI s) (0 : Int32) = _ from oC (q := 0) (by omega) (by omega) (by decide), rn_bs, if_pos h0, rn_bs, if_pos rfl]
  rfl
theorem cp7_0 {k s : Nat} {A K I : Nat → Int32} (z0 : st 0 = nI a) (ha : a ≤ 8) (z2 : st 2 = nI m) (hm : m ≤ 24) (hk : k < m) (hs : s < a) : ∃ w, fX7_copy N 0 st A K I (nI k) (nI s) (0 : Int32) = some (qC st k s 0, 0, w) := by
  refine ⟨(A, K, I), ?_⟩
  unfold fX7_copy
  rw [imm7 z2 hm hk, rn_bs, if_neg n10, is7 z0 ha hs, rn_bs, if_neg n10, show fX7_isBetween (0 : Int32) (0 : Int32) (4 : Int32) = some 1 by decide, rn_bs, if_neg n10, show fX7_ofCopy st (nI k) (nI s) (0 : Int32) = _ from oC (q := 0) (by omega) (by omega) (by decide), rn_bs, if_pos rfl]
theorem cp7_1 {k s : Nat} {A K I : Nat → Int32} (z0 : st 0 = nI a) (ha : a ≤ 8) (z2 : st 2 = nI m) (hm : m ≤ 24) (hk : k < m) (hs : s < a) : ∃ w, fX7_copy N 0 st A K I (nI k) (nI s) (1 : Int32) = some (if qC st k s 0 = 0 then -1 else qC st k s 1, 0, w) := by
  refine ⟨(A, K, I), ?_⟩
  unfold fX7_copy
  rw [imm7 z2 hm hk, rn_bs, if_neg n10, is7 z0 ha hs, rn_bs, if_neg n10, show fX7_isBetween (1 : Int32) (0 : Int32) (4 : Int32) = some 1 by decide, rn_bs, if_neg n10, show fX7_ofCopy st (nI k) (nI s) (0 : Int32) = _ from oC (q := 0) (by omega) (by omega) (by decide), rn_bs, if_neg (show ¬ (1 : Int32) = 0 by decide)]
  by_cases c : qC st k s 0 = 0
  · rw [if_pos c, if_pos c]
  · rw [if_neg c, if_neg c, if_neg (show ¬ (1 : Int32) = (4 : Int32) by decide), show fX7_ofCopy st (nI k) (nI s) (1 : Int32) = _ from oC (q := 1) (by omega) (by omega) (by decide), rn_bs]
theorem cp7_2 {k s : Nat} {A K I : Nat → Int32} (z0 : st 0 = nI a) (ha : a ≤ 8) (z2 : st 2 = nI m) (hm : m ≤ 24) (hk : k < m) (hs : s < a) : ∃ w, fX7_copy N 0 st A K I (nI k) (nI s) (2 : Int32) = some (if qC st k s 0 = 0 then -1 else qC st k s 2, 0, w) := by
  refine ⟨(A, K, I), ?_⟩
  unfold fX7_copy
  rw [imm7 z2 hm hk, rn_bs, if_neg n10, is7 z0 ha hs, rn_bs, if_neg n10, show fX7_isBetween (2 : Int32) (0 : Int32) (4 : Int32) = some 1 by decide, rn_bs, if_neg n10, show fX7_ofCopy st (nI k) (nI s) (0 : Int32) = _ from oC (q := 0) (by omega) (by omega) (by decide), rn_bs, if_neg (show ¬ (2 : Int32) = 0 by decide)]
  by_cases c : qC st k s 0 = 0
  · rw [if_pos c, if_pos c]
  · rw [if_neg c, if_neg c, if_neg (show ¬ (2 : Int32) = (4 : Int32) by decide), show fX7_ofCopy st (nI k) (nI s) (2 : Int32) = _ from oC (q := 2) (by omega) (by omega) (by decide), rn_bs]
theorem cp7_3 {k s : Nat} {A K I : Nat → Int32} (z0 : st 0 = nI a) (ha : a ≤ 8) (z2 : st 2 = nI m) (hm : m ≤ 24) (hk : k < m) (hs : s < a) : ∃ w, fX7_copy N 0 st A K I (nI k) (nI s) (3 : Int32) = some (if qC st k s 0 = 0 then -1 else qC st k s 3, 0, w) := by
  refine ⟨(A, K, I), ?_⟩
  unfold fX7_copy
  rw [imm7 z2 hm hk, rn_bs, if_neg n10, is7 z0 ha hs, rn_bs, if_neg n10, show fX7_isBetween (3 : Int32) (0 : Int32) (4 : Int32) = some 1 by decide, rn_bs, if_neg n10, show fX7_ofCopy st (nI k) (nI s) (0 : Int32) = _ from oC (q := 0) (by omega) (by omega) (by decide), rn_bs, if_neg (show ¬ (3 : Int32) = 0 by decide)]
  by_cases c : qC st k s 0 = 0
  · rw [if_pos c, if_pos c]
  · rw [if_neg c, if_neg c, if_neg (show ¬ (3 : Int32) = (4 : Int32) by decide), show fX7_ofCopy st (nI k) (nI s) (3 : Int32) = _ from oC (q := 3) (by omega) (by omega) (by decide), rn_bs]
theorem e7_q {j q : Nat} (z7 : st 7 = nI e) (he : e ≤ 40) (hj : j < e) (hq : q < 5) : fX7_event 0 st (nI j) (nI q) = some (qE st j q, 0) := by
  unfold fX7_event
  rw [g7, cl7, z7, b7a hj (by omega), rn_bs, if_neg n10, show fX7_isBetween (nI q) (0 : Int32) (4 : Int32) = some 1 from b7y (lo := 0) (hi := 4) (by omega) (by omega) (by decide), rn_bs, if_neg n10, ePl, rn_gI (by omega) (by decide), nI_clamp (by omega)]
  rfl
end A6
