/-! meanHours, lossRate: a quotient, whose NaN bits the run may draw (own rows) -/
theorem rn_X.dr {p : Program} {m : MethodId} {c : Code} {cc : ByteArray} {nL : Nat} {s : State} {args : Array Value} {own : String} {D : va_G} {k : Nat → ClassId} {z : (Nat → Nat) × (Nat → Nat)} {A : Nat → Prop} (X : rn_X p m c cc nL s args own D k z A) (d0 : Drawn) : rn_X p m c cc nL (s.setDrawn d0) args own D k z A :=
  ⟨⟨X.1.1, X.1.2.1, X.1.2.2.1, X.1.2.2.2.1, dr_words X.1.2.2.2.2 d0⟩, va_K.moved (u := s) (U := s.setDrawn d0) (Vm.Alike.refl s.vm) X.2.1, X.2.2.1, rn_S.same (u := s) (U := s.setDrawn d0) rfl X.2.2.2⟩
theorem gq_d6 : Cond.constantDouble RX6 238 (13830554455654793216 : UInt64) ∈ rn_G := rn_Gix 597 (by decide +kernel) rfl
theorem gq_d7 : Cond.constantDouble RX7 368 (13830554455654793216 : UInt64) ∈ rn_G := rn_Gix 1671 (by decide +kernel) rfl
def rn_mean (sum cnt : Int32) (r : UInt64) : Prop := (cnt = 0 → r = 13830554455654793216) ∧ (¬ cnt = 0 → alike64 r (FP.ddiv (FP.i2d sum) (FP.i2d cnt)) = true)
def rn_rate (bad n : Int32) (r : UInt32) : Prop := (n = 0 → r = FP.fconst0) ∧ (¬ n = 0 → alike32 r (FP.fdiv (FP.i2f bad) (FP.i2f n)) = true)
def rn_KD (l : Launch) (D : va_G) (k : Nat → ClassId) (z : (Nat → Nat) × (Nat → Nat)) (y : MethodName) (b : ByteArray) (n : Nat) (fr lo : Nat) (av : List Value) (ws ws' : va_W) (P : UInt64 → Prop) : Prop :=
  ∀ sz, MetD lw_cs l y (.code y b n (some .double) :: rn_G) { frames := fr, cells := 0, slots := 0, locals := lo } (rn_Pc D k z av ws sz) (va_Qd (fun (r : UInt64) (_ : Unit) => P r) (fun _ t => va_P D vwCl ws' t.heap) (va_A ws sz)) 0 0 (va_A ws sz)
theorem rn_KD.go {l : Launch} {D : va_G} {k : Nat → ClassId} {z : (Nat → Nat) × (Nat → Nat)} {y : MethodName} {own : String} {b : ByteArray} {n : Nat} {fr lo : Nat} {av : List Value} {ws ws' : va_W} {P : UInt64 → Prop} {LOC : List (Nat × Value)} (ho : y.cls = own) (hy : plainName y.cls = true) (hn : (lg_sl av).length ≤ n) (hL : lv_args 0 av = LOC)
    (body : ∀ (p : Program) (e : Env) (s : State) (m : MethodId) (args : Array Value) (below : List Frame) (meth : Method) (c : Code) (A : Nat → Prop) (ls : Array Slot) (R : Room) (Q : State → Prop), rn_X p m c b n s args own D k z A → R = { frames := fr, cells := 0, slots := 0, locals := lo } →
      (∀ (H : Heap) (locs : List Loc) (ls : Array Slot) (pc : Nat) (r : UInt64), rn_W D A s ws' H locs → P r → decode b pc = .ok (.dreturn, 1) → W p l e R s m args below meth c H locs 0 0 Q (F0 m pc ls [.double r])) →
      (∀ (H : Heap) (locs : List Loc) (ls : Array Slot) (pc : Nat) (x y : UInt64), rn_W D A s ws' H locs → (∀ r : UInt64, alike64 r (FP.ddiv x y) = true → P r) → decode b pc = .ok (.ddiv, 1) → decode b (pc + 1) = .ok (.dreturn, 1) → W p l e R s m args below meth c H locs 0 0 Q (F0 m pc ls [.double y, .double x])) →
      rn_W D A s ws s.heap [] → lv_has ls n LOC → W p l e R s m args below meth c s.heap [] 0 0 Q (F0 m 0 ls [])) : rn_KD l D k z y b n fr lo av ws ws' P := by
  subst ho
  subst hL
  intro sz
  refine MetD.ofW (cc := b) (maxL := n) (ret := some .double) hy rfl ?_
  intro p e s m args below meth c s₁ B hml hv hd0
  obtain ⟨rfl, hsz, hP, hK, hD0, hS0⟩ := hv
  subst hsz
  have hts := atoms_spec (ws := .code y b n (some .double) :: rn_G) B.pre
  rw [lg_entry_eq]
  have X : rn_X p m c b n s av.toArray y.cls D k z (va_A ws s.heap.size) := ⟨⟨B.exec, B.bytes, hml, findClass_of_methodNamed B.named, fun w hw => hts w (List.mem_cons_of_mem _ hw)⟩, hK, fun q h => Or.inr h, hS0⟩
  have hE : ∀ (d1 : Drawn) (hd1 : s.drawn.sameBut d1 lw_cs) (H : Heap) (locs : List Loc) (ls : Array Slot) (pc : Nat) (r : UInt64), rn_W D (va_A ws s.heap.size) s ws' H locs → P r → decode b pc = .ok (.dreturn, 1) → W p l e { frames := fr, cells := 0, slots := 0, locals := lo } (s.setDrawn d1) m av.toArray below meth c H locs 0 0 (MQD lw_cs below (va_Qd (fun (r : UInt64) (_ : Unit) => P r) (fun _ t => va_P D vwCl ws' t.heap) (va_A ws s.heap.size)) av.toArray s 0 0 (va_A ws s.heap.size)) (F0 m pc ls [.double r]) := by
    intro d1 hd1 H locs ls pc r hW hp hd
    refine W.endD hd1 ?_
    exact W.dret B.exec B.bytes B.returns (fun t ht hW2 => ⟨⟨r, (), rfl, hp, by show va_P D vwCl ws' t.heap; rw [ht]; exact hW.1⟩, hW.2.2.F (s := s) ht⟩) hW.2.2.2.2 hd B.notSynchronized
  refine body p e (s.setDrawn s.drawn) m _ below meth c _ _ _ _ (X.dr s.drawn) rfl (hE s.drawn hd0) ?_ ⟨hP, hD0.self, va_S.rf⟩ (lv_entry av hn)
  intro H locs ls pc x y hW hp hd hd2
  exact lv_ddiv_any hd0 lw_bits B.exec B.bytes hd (fun r d1 hal hd1 => hE d1 hd1 H locs ls (pc + 1) r hW (hp r hal) hd2)
def rn_KF (l : Launch) (D : va_G) (k : Nat → ClassId) (z : (Nat → Nat) × (Nat → Nat)) (y : MethodName) (b : ByteArray) (n : Nat) (fr lo : Nat) (av : List Value) (ws ws' : va_W) (P : UInt32 → Prop) : Prop :=
  ∀ sz, MetD lw_cs l y (.code y b n (some .float) :: rn_G) { frames := fr, cells := 0, slots := 0, locals := lo } (rn_Pc D k z av ws sz) (va_Qf (fun (r : UInt32) (_ : Unit) => P r) (fun _ t => va_P D vwCl ws' t.heap) (va_A ws sz)) 0 0 (va_A ws sz)
theorem rn_KF.go {l : Launch} {D : va_G} {k : Nat → ClassId} {z : (Nat → Nat) × (Nat → Nat)} {y : MethodName} {own : String} {b : ByteArray} {n : Nat} {fr lo : Nat} {av : List Value} {ws ws' : va_W} {P : UInt32 → Prop} {LOC : List (Nat × Value)} (ho : y.cls = own) (hy : plainName y.cls = true) (hn : (lg_sl av).length ≤ n) (hL : lv_args 0 av = LOC)
    (body : ∀ (p : Program) (e : Env) (s : State) (m : MethodId) (args : Array Value) (below : List Frame) (meth : Method) (c : Code) (A : Nat → Prop) (ls : Array Slot) (R : Room) (Q : State → Prop), rn_X p m c b n s args own D k z A → R = { frames := fr, cells := 0, slots := 0, locals := lo } →
      (∀ (H : Heap) (locs : List Loc) (ls : Array Slot) (pc : Nat) (r : UInt32), rn_W D A s ws' H locs → P r → decode b pc = .ok (.freturn, 1) → W p l e R s m args below meth c H locs 0 0 Q (F0 m pc ls [.float r])) →
      (∀ (H : Heap) (locs : List Loc) (ls : Array Slot) (pc : Nat) (x y : UInt32), rn_W D A s ws' H locs → (∀ r : UInt32, alike32 r (FP.fdiv x y) = true → P r) → decode b pc = .ok (.fdiv, 1) → decode b (pc + 1) = .ok (.freturn, 1) → W p l e R s m args below meth c H locs 0 0 Q (F0 m pc ls [.float y, .float x])) →
      rn_W D A s ws s.heap [] → lv_has ls n LOC → W p l e R s m args below meth c s.heap [] 0 0 Q (F0 m 0 ls [])) : rn_KF l D k z y b n fr lo av ws ws' P := by
  subst ho
  subst hL
  intro sz
  refine MetD.ofW (cc := b) (maxL := n) (ret := some .float) hy rfl ?_
  intro p e s m args below meth c s₁ B hml hv hd0
  obtain ⟨rfl, hsz, hP, hK, hD0, hS0⟩ := hv
  subst hsz
  have hts := atoms_spec (ws := .code y b n (some .float) :: rn_G) B.pre
  rw [lg_entry_eq]
  have X : rn_X p m c b n s av.toArray y.cls D k z (va_A ws s.heap.size) := ⟨⟨B.exec, B.bytes, hml, findClass_of_methodNamed B.named, fun w hw => hts w (List.mem_cons_of_mem _ hw)⟩, hK, fun q h => Or.inr h, hS0⟩
  have hE : ∀ (d1 : Drawn) (hd1 : s.drawn.sameBut d1 lw_cs) (H : Heap) (locs : List Loc) (ls : Array Slot) (pc : Nat) (r : UInt32), rn_W D (va_A ws s.heap.size) s ws' H locs → P r → decode b pc = .ok (.freturn, 1) → W p l e { frames := fr, cells := 0, slots := 0, locals := lo } (s.setDrawn d1) m av.toArray below meth c H locs 0 0 (MQD lw_cs below (va_Qf (fun (r : UInt32) (_ : Unit) => P r) (fun _ t => va_P D vwCl ws' t.heap) (va_A ws s.heap.size)) av.toArray s 0 0 (va_A ws s.heap.size)) (F0 m pc ls [.float r]) := by
    intro d1 hd1 H locs ls pc r hW hp hd
    refine W.endD hd1 ?_
    exact W.fret B.exec B.bytes B.returns (fun t ht hW2 => ⟨⟨r, (), rfl, hp, by show va_P D vwCl ws' t.heap; rw [ht]; exact hW.1⟩, hW.2.2.F (s := s) ht⟩) hW.2.2.2.2 hd B.notSynchronized
  refine body p e (s.setDrawn s.drawn) m _ below meth c _ _ _ _ (X.dr s.drawn) rfl (hE s.drawn hd0) ?_ ⟨hP, hD0.self, va_S.rf⟩ (lv_entry av hn)
  intro H locs ls pc x y hW hp hd hd2
  exact lv_fdiv_any hd0 lw_bits B.exec B.bytes hd (fun r d1 hal hd1 => hE d1 hd1 H locs ls (pc + 1) r hW (hp r hal) hd2)
set_option maxHeartbeats 4000000 in
set_option maxRecDepth 20000 in
theorem kX6_meanHours (l : Launch) (D : va_G) (k : Nat → ClassId) (z : (Nat → Nat) × (Nat → Nat)) (N : Nat) (a_this : Nat) (a_this_setup : Nat) (a_this_net : Nat) (a_this_trial : Nat) (a_this_saved : Nat) (a_this_line : Nat) (a_this_net_stations : Nat) (a_this_net_links : Nat) (a_this_net_messages : Nat) (a_this_net_copies : Nat) (a_this_net_log : Nat) (a_this_net_ways : Nat) (a_this_net_frames : Nat) (a_this_net_messages_cells : Nat) (a_this_net_copies_cells : Nat) (c_latestError : Int32) (c_latestErrorPosition : Int32) (c_net_stationCount : Int32) (c_net_linkCount : Int32) (c_net_messageCount : Int32) (c_net_time : Int32) (c_net_life : Int32) (c_net_tries : Int32) (c_net_x : Int32) (c_net_messages : Nat → Int32) (c_net_copies : Nat → Int32) {t1 t2 : Int32} (ht1 : fX2_messagesInState N c_net_stationCount c_net_messageCount c_net_messages c_net_copies (1 : Int32) = some t1) (ht2 : fX2_hoursOfDelivered N c_net_stationCount c_net_messageCount c_net_messages c_net_copies = some t2) : rn_KD l D k z yX6_meanHours cX6_meanHours 2 5 116 [.ref a_this] [(a_this, .inr (6, [.ref a_this_setup, .int c_latestError, .int c_latestErrorPosition, .ref a_this_net, .ref a_this_trial, .ref a_this_saved, .ref a_this_line])), (a_this_net, .inr (2, [.ref a_this_net_stations, .ref a_this_net_links, .ref a_this_net_messages, .ref a_this_net_copies, .ref a_this_net_log, .ref a_this_net_ways, .ref a_this_net_frames, .int c_net_stationCount, .int c_net_linkCount, .int c_net_messageCount, .int c_net_time, .int c_net_life, .int c_net_tries, .int c_net_x])), (a_this_net_messages, .inr (4, [.int (24 : Int32), .int (12 : Int32), .ref a_this_net_messages_cells])), (a_this_net_messages_cells, .inl (k 0, 288, .inl c_net_messages)), (a_this_net_copies, .inr (4, [.int (192 : Int32), .int (5 : Int32), .ref a_this_net_copies_cells])), (a_this_net_copies_cells, .inl (k 0, 960, .inl c_net_copies))] [(a_this, .inr (6, [.ref a_this_setup, .int c_latestError, .int c_latestErrorPosition, .ref a_this_net, .ref a_this_trial, .ref a_this_saved, .ref a_this_line])), (a_this_net, .inr (2, [.ref a_this_net_stations, .ref a_this_net_links, .ref a_this_net_messages, .ref a_this_net_copies, .ref a_this_net_log, .ref a_this_net_ways, .ref a_this_net_frames, .int c_net_stationCount, .int c_net_linkCount, .int c_net_messageCount, .int c_net_time, .int c_net_life, .int c_net_tries, .int c_net_x])), (a_this_net_messages, .inr (4, [.int (24 : Int32), .int (12 : Int32), .ref a_this_net_messages_cells])), (a_this_net_messages_cells, .inl (k 0, 288, .inl c_net_messages)), (a_this_net_copies, .inr (4, [.int (192 : Int32), .int (5 : Int32), .ref a_this_net_copies_cells])), (a_this_net_copies_cells, .inl (k 0, 960, .inl c_net_copies))] (rn_mean t2 t1) := by
  refine rn_KD.go (LOC := [(0, .ref a_this)]) rfl (by decide) (Nat.le_of_ble_eq_true rfl) rfl ?_
  intro p e s m args below meth c A ls R Q X hR hE hV hW hl
  have hx := X.1.1
  have hb := X.1.2.1
  refine lv_aload_n hx hb dX6_meanHours_0 rfl (lv_at hl 0 rfl) ?_
  refine rr_get X hW 0 3 gf_X6_26 rfl rfl dX6_meanHours_1 ?_
  refine lv_iconst (v := 1) hx hb dX6_meanHours_4 (by decide) ?_
  refine rr_callI (As := [.int (1 : Int32)]) (rest := []) X hW (kX2_messagesInState l D k z N a_this_net a_this_net_stations a_this_net_links a_this_net_messages a_this_net_copies a_this_net_log a_this_net_ways a_this_net_frames a_this_net_messages_cells a_this_net_copies_cells c_net_stationCount c_net_linkCount c_net_messageCount c_net_time c_net_life c_net_tries c_net_x c_net_messages c_net_copies (1 : Int32) ht1) gm_X2_messagesInState gl_X6_227 [1, 2, 3, 4, 5] [0] [(a_this, .inr (6, [.ref a_this_setup, .int c_latestError, .int c_latestErrorPosition, .ref a_this_net, .ref a_this_trial, .ref a_this_saved, .ref a_this_line])), (a_this_net, .inr (2, [.ref a_this_net_stations, .ref a_this_net_links, .ref a_this_net_messages, .ref a_this_net_copies, .ref a_this_net_log, .ref a_this_net_ways, .ref a_this_net_frames, .int c_net_stationCount, .int c_net_linkCount, .int c_net_messageCount, .int c_net_time, .int c_net_life, .int c_net_tries, .int c_net_x])), (a_this_net_messages, .inr (4, [.int (24 : Int32), .int (12 : Int32), .ref a_this_net_messages_cells])), (a_this_net_messages_cells, .inl (k 0, 288, .inl c_net_messages)), (a_this_net_copies, .inr (4, [.int (192 : Int32), .int (5 : Int32), .ref a_this_net_copies_cells])), (a_this_net_copies_cells, .inl (k 0, 960, .inl c_net_copies))] rfl rfl rfl rfl ⟨rfl, rfl, rn_Bw (wr := [(a_this, .inr (6, [.ref a_this_setup, .int c_latestError, .int c_latestErrorPosition, .ref a_this_net, .ref a_this_trial, .ref a_this_saved, .ref a_this_line]))]) rfl rfl, rfl, rfl⟩ (rn_r hR rfl) rn_cs hl.1 rfl (Nat.le_of_ble_eq_true rfl) dX6_meanHours_5 (fun hn1 H locs hW => ?_)
  refine lv_istore_n (lv' := [(1, .int t1), (0, .ref a_this)]) hx hb dX6_meanHours_8 rfl hl (Nat.le_of_ble_eq_true rfl) rfl (fun ls hl => ?_)
  refine lv_iload_n hx hb dX6_meanHours_9 rfl (lv_at hl 0 rfl) ?_
  refine lv_if_ne (tgt := 19) hx hb dX6_meanHours_10 (by decide) (fun hz => ?_) (fun hz => ?_)
  · refine lv_aload_n hx hb dX6_meanHours_19 rfl (lv_at hl 1 rfl) ?_
    refine rr_get X hW 0 3 gf_X6_26 rfl rfl dX6_meanHours_20 ?_
    refine rr_callI (As := []) (rest := []) X hW (kX2_hoursOfDelivered l D k z N a_this_net a_this_net_stations a_this_net_links a_this_net_messages a_this_net_copies a_this_net_log a_this_net_ways a_this_net_frames a_this_net_messages_cells a_this_net_copies_cells c_net_stationCount c_net_linkCount c_net_messageCount c_net_time c_net_life c_net_tries c_net_x c_net_messages c_net_copies ht2) gm_X2_hoursOfDelivered gl_X6_240 [1, 2, 3, 4, 5] [0] [(a_this, .inr (6, [.ref a_this_setup, .int c_latestError, .int c_latestErrorPosition, .ref a_this_net, .ref a_this_trial, .ref a_this_saved, .ref a_this_line])), (a_this_net, .inr (2, [.ref a_this_net_stations, .ref a_this_net_links, .ref a_this_net_messages, .ref a_this_net_copies, .ref a_this_net_log, .ref a_this_net_ways, .ref a_this_net_frames, .int c_net_stationCount, .int c_net_linkCount, .int c_net_messageCount, .int c_net_time, .int c_net_life, .int c_net_tries, .int c_net_x])), (a_this_net_messages, .inr (4, [.int (24 : Int32), .int (12 : Int32), .ref a_this_net_messages_cells])), (a_this_net_messages_cells, .inl (k 0, 288, .inl c_net_messages)), (a_this_net_copies, .inr (4, [.int (192 : Int32), .int (5 : Int32), .ref a_this_net_copies_cells])), (a_this_net_copies_cells, .inl (k 0, 960, .inl c_net_copies))] rfl rfl rfl rfl ⟨rfl, rfl, rn_Bw (wr := [(a_this, .inr (6, [.ref a_this_setup, .int c_latestError, .int c_latestErrorPosition, .ref a_this_net, .ref a_this_trial, .ref a_this_saved, .ref a_this_line]))]) rfl rfl, rfl, rfl⟩ (rn_r hR rfl) rn_cs hl.1 rfl (Nat.le_of_ble_eq_true rfl) dX6_meanHours_23 (fun hn2 H locs hW => ?_)
    refine lv_i2d hx hb dX6_meanHours_26 ?_
    refine lv_iload_n hx hb dX6_meanHours_27 rfl (lv_at hl 0 rfl) ?_
    refine lv_i2d hx hb dX6_meanHours_28 ?_
    exact hV _ _ _ _ _ _ hW (fun r hr => ⟨fun h => absurd h hz, fun _ => hr⟩) dX6_meanHours_29 dX6_meanHours_30
  · refine lv_ldc2d hx hb X.1.2.2.2.1 (X.1.2.2.2.2 _ gq_d6) dX6_meanHours_13 ?_
    refine lv_goto (tgt := 30) hx hb dX6_meanHours_16 (by decide) ?_
    exact hE _ _ _ _ _ hW ⟨fun _ => rfl, fun h => absurd hz h⟩ dX6_meanHours_30
set_option maxHeartbeats 4000000 in
set_option maxRecDepth 20000 in
theorem kX6_lossRate (l : Launch) (D : va_G) (k : Nat → ClassId) (z : (Nat → Nat) × (Nat → Nat)) (N : Nat) (a_this : Nat) (a_this_setup : Nat) (a_this_net : Nat) (a_this_trial : Nat) (a_this_saved : Nat) (a_this_line : Nat) (a_this_net_stations : Nat) (a_this_net_links : Nat) (a_this_net_messages : Nat) (a_this_net_copies : Nat) (a_this_net_log : Nat) (a_this_net_ways : Nat) (a_this_net_frames : Nat) (a_this_net_links_cells : Nat) (c_latestError : Int32) (c_latestErrorPosition : Int32) (c_net_stationCount : Int32) (c_net_linkCount : Int32) (c_net_messageCount : Int32) (c_net_time : Int32) (c_net_life : Int32) (c_net_tries : Int32) (c_net_x : Int32) (c_net_links : Nat → Int32) {t1 t2 : Int32} (ht1 : fX2_framesSent N c_net_links = some t1) (ht2 : fX2_framesOrAnswersLost N c_net_links = some t2) : rn_KF l D k z yX6_lossRate cX6_lossRate 2 3 66 [.ref a_this] [(a_this, .inr (6, [.ref a_this_setup, .int c_latestError, .int c_latestErrorPosition, .ref a_this_net, .ref a_this_trial, .ref a_this_saved, .ref a_this_line])), (a_this_net, .inr (2, [.ref a_this_net_stations, .ref a_this_net_links, .ref a_this_net_messages, .ref a_this_net_copies, .ref a_this_net_log, .ref a_this_net_ways, .ref a_this_net_frames, .int c_net_stationCount, .int c_net_linkCount, .int c_net_messageCount, .int c_net_time, .int c_net_life, .int c_net_tries, .int c_net_x])), (a_this_net_links, .inr (4, [.int (16 : Int32), .int (9 : Int32), .ref a_this_net_links_cells])), (a_this_net_links_cells, .inl (k 0, 144, .inl c_net_links))] [(a_this, .inr (6, [.ref a_this_setup, .int c_latestError, .int c_latestErrorPosition, .ref a_this_net, .ref a_this_trial, .ref a_this_saved, .ref a_this_line])), (a_this_net, .inr (2, [.ref a_this_net_stations, .ref a_this_net_links, .ref a_this_net_messages, .ref a_this_net_copies, .ref a_this_net_log, .ref a_this_net_ways, .ref a_this_net_frames, .int c_net_stationCount, .int c_net_linkCount, .int c_net_messageCount, .int c_net_time, .int c_net_life, .int c_net_tries, .int c_net_x])), (a_this_net_links, .inr (4, [.int (16 : Int32), .int (9 : Int32), .ref a_this_net_links_cells])), (a_this_net_links_cells, .inl (k 0, 144, .inl c_net_links))] (rn_rate t2 t1) := by
  refine rn_KF.go (LOC := [(0, .ref a_this)]) rfl (by decide) (Nat.le_of_ble_eq_true rfl) rfl ?_
  intro p e s m args below meth c A ls R Q X hR hE hV hW hl
  have hx := X.1.1
  have hb := X.1.2.1
  refine lv_aload_n hx hb dX6_lossRate_0 rfl (lv_at hl 0 rfl) ?_
  refine rr_get X hW 0 3 gf_X6_26 rfl rfl dX6_lossRate_1 ?_
  refine rr_callI (As := []) (rest := []) X hW (kX2_framesSent l D k z N a_this_net a_this_net_stations a_this_net_links a_this_net_messages a_this_net_copies a_this_net_log a_this_net_ways a_this_net_frames a_this_net_links_cells c_net_stationCount c_net_linkCount c_net_messageCount c_net_time c_net_life c_net_tries c_net_x c_net_links ht1) gm_X2_framesSent gl_X6_243 [1, 2, 3] [0] [(a_this, .inr (6, [.ref a_this_setup, .int c_latestError, .int c_latestErrorPosition, .ref a_this_net, .ref a_this_trial, .ref a_this_saved, .ref a_this_line])), (a_this_net, .inr (2, [.ref a_this_net_stations, .ref a_this_net_links, .ref a_this_net_messages, .ref a_this_net_copies, .ref a_this_net_log, .ref a_this_net_ways, .ref a_this_net_frames, .int c_net_stationCount, .int c_net_linkCount, .int c_net_messageCount, .int c_net_time, .int c_net_life, .int c_net_tries, .int c_net_x])), (a_this_net_links, .inr (4, [.int (16 : Int32), .int (9 : Int32), .ref a_this_net_links_cells])), (a_this_net_links_cells, .inl (k 0, 144, .inl c_net_links))] rfl rfl rfl rfl ⟨rfl, rfl, rn_Bw (wr := [(a_this, .inr (6, [.ref a_this_setup, .int c_latestError, .int c_latestErrorPosition, .ref a_this_net, .ref a_this_trial, .ref a_this_saved, .ref a_this_line]))]) rfl rfl, rfl, rfl⟩ (rn_r hR rfl) rn_cs hl.1 rfl (Nat.le_of_ble_eq_true rfl) dX6_lossRate_4 (fun hn1 H locs hW => ?_)
  refine lv_istore_n (lv' := [(1, .int t1), (0, .ref a_this)]) hx hb dX6_lossRate_7 rfl hl (Nat.le_of_ble_eq_true rfl) rfl (fun ls hl => ?_)
  refine lv_iload_n hx hb dX6_lossRate_8 rfl (lv_at hl 0 rfl) ?_
  refine lv_if_ne (tgt := 16) hx hb dX6_lossRate_9 (by decide) (fun hz => ?_) (fun hz => ?_)
  · refine lv_aload_n hx hb dX6_lossRate_16 rfl (lv_at hl 1 rfl) ?_
    refine rr_get X hW 0 3 gf_X6_26 rfl rfl dX6_lossRate_17 ?_
    refine rr_callI (As := []) (rest := []) X hW (kX2_framesOrAnswersLost l D k z N a_this_net a_this_net_stations a_this_net_links a_this_net_messages a_this_net_copies a_this_net_log a_this_net_ways a_this_net_frames a_this_net_links_cells c_net_stationCount c_net_linkCount c_net_messageCount c_net_time c_net_life c_net_tries c_net_x c_net_links ht2) gm_X2_framesOrAnswersLost gl_X6_246 [1, 2, 3] [0] [(a_this, .inr (6, [.ref a_this_setup, .int c_latestError, .int c_latestErrorPosition, .ref a_this_net, .ref a_this_trial, .ref a_this_saved, .ref a_this_line])), (a_this_net, .inr (2, [.ref a_this_net_stations, .ref a_this_net_links, .ref a_this_net_messages, .ref a_this_net_copies, .ref a_this_net_log, .ref a_this_net_ways, .ref a_this_net_frames, .int c_net_stationCount, .int c_net_linkCount, .int c_net_messageCount, .int c_net_time, .int c_net_life, .int c_net_tries, .int c_net_x])), (a_this_net_links, .inr (4, [.int (16 : Int32), .int (9 : Int32), .ref a_this_net_links_cells])), (a_this_net_links_cells, .inl (k 0, 144, .inl c_net_links))] rfl rfl rfl rfl ⟨rfl, rfl, rn_Bw (wr := [(a_this, .inr (6, [.ref a_this_setup, .int c_latestError, .int c_latestErrorPosition, .ref a_this_net, .ref a_this_trial, .ref a_this_saved, .ref a_this_line]))]) rfl rfl, rfl, rfl⟩ (rn_r hR rfl) rn_cs hl.1 rfl (Nat.le_of_ble_eq_true rfl) dX6_lossRate_20 (fun hn2 H locs hW => ?_)
    refine lv_i2f hx hb dX6_lossRate_23 ?_
    refine lv_iload_n hx hb dX6_lossRate_24 rfl (lv_at hl 0 rfl) ?_
    refine lv_i2f hx hb dX6_lossRate_25 ?_
    exact hV _ _ _ _ _ _ hW (fun r hr => ⟨fun h => absurd h hz, fun _ => hr⟩) dX6_lossRate_26 dX6_lossRate_27
  · refine lv_fconst0 hx hb dX6_lossRate_12 ?_
    refine lv_goto (tgt := 27) hx hb dX6_lossRate_13 (by decide) ?_
    exact hE _ _ _ _ _ hW ⟨fun _ => rfl, fun h => absurd hz h⟩ dX6_lossRate_27
def lX7_meanHours_11 (N : Nat) (c_state : Nat → Int32) : Nat → Int32 → Int32 → Int32 → Option (Int32 × Int32)
  | 0, _, _, _ => none
  | n+1, x1_11, x2_11, x3_11 =>
    rn_g (2 : Int32) 2888 <|
    if (c_state (2 : Int32).toNatClampNeg) ≤ x3_11 then
      some (x1_11, x2_11)
    else
    (fX7_stateOf N c_state x3_11).bind fun t4 =>
    if t4 = (1 : Int32) then
      (fX7_deliveredField c_state x3_11 (2 : Int32)).bind fun t6 =>
      (fX7_ofMessage c_state x3_11 (3 : Int32)).bind fun t7 =>
      lX7_meanHours_11 N c_state n (x1_11 + (t6 - t7)) (x2_11 + (1 : Int32)) (x3_11 + (1 : Int32))
    else
    lX7_meanHours_11 N c_state n x1_11 x2_11 (x3_11 + (1 : Int32))
def fX7_meanHours (N : Nat) (c_thrown : Int32) (c_state : Nat → Int32) : Option (Int32 × Int32 × Int32) :=
  (lX7_meanHours_11 N c_state N (0 : Int32) (0 : Int32) (0 : Int32)).bind fun t1 =>
  some (t1.1, t1.2, (0 : Int32))
set_option maxHeartbeats 4000000 in
set_option maxRecDepth 20000 in
theorem kX7_meanHours (l : Launch) (D : va_G) (k : Nat → ClassId) (z : (Nat → Nat) × (Nat → Nat)) (N : Nat) (a_this : Nat) (a_this_state : Nat) (a_this_backup : Nat) (a_this_aside : Nat) (a_this_saved : Nat) (a_this_isSaved : Nat) (a_this_text : Nat) (a_this_arrival : Nat) (a_this_links : Nat) (a_this_isAvoided : Nat) (a_this_output : Nat) (a_this_toSend : Nat) (a_this_sendTo : Nat) (c_thrown : Int32) (c_textLength : Int32) (c_position : Int32) (c_tokenStart : Int32) (c_token : Int32) (c_letters : Int32) (c_number : Int32) (c_errorCode : Int32) (c_errorPosition : Int32) (c_word : Int64) (c_outputLength : Int32) (c_sendCount : Int32) (c_state : Nat → Int32) {u : Int32 × Int32 × Int32} (hf : fX7_meanHours N c_thrown c_state = some u) : rn_KD l D k z yX7_meanHours cX7_meanHours 4 4 89 [.ref a_this] [(a_this, .inr (7, [.ref a_this_state, .ref a_this_backup, .ref a_this_aside, .ref a_this_saved, .ref a_this_isSaved, .int c_thrown, .ref a_this_text, .int c_textLength, .int c_position, .int c_tokenStart, .int c_token, .int c_letters, .int c_number, .int c_errorCode, .int c_errorPosition, .long c_word, .ref a_this_arrival, .ref a_this_links, .ref a_this_isAvoided, .ref a_this_output, .int c_outputLength, .ref a_this_toSend, .ref a_this_sendTo, .int c_sendCount])), (a_this_state, .inl (k 0, 2888, .inl c_state))] [(a_this, .inr (7, [.ref a_this_state, .ref a_this_backup, .ref a_this_aside, .ref a_this_saved, .ref a_this_isSaved, .int u.2.2, .ref a_this_text, .int c_textLength, .int c_position, .int c_tokenStart, .int c_token, .int c_letters, .int c_number, .int c_errorCode, .int c_errorPosition, .long c_word, .ref a_this_arrival, .ref a_this_links, .ref a_this_isAvoided, .ref a_this_output, .int c_outputLength, .ref a_this_toSend, .ref a_this_sendTo, .int c_sendCount])), (a_this_state, .inl (k 0, 2888, .inl c_state))] (rn_mean u.1 u.2.1) := by
  refine rn_KD.go (LOC := [(0, .ref a_this)]) rfl (by decide) (Nat.le_of_ble_eq_true rfl) rfl ?_
  intro p e s m args below meth c A ls R Q X hR hE hV hW hl
  have hx := X.1.1
  have hb := X.1.2.1
  have hT : ∀ (H : Heap) (locs : List Loc) (ls : Array Slot), rn_W D A s [(a_this, .inr (7, [.ref a_this_state, .ref a_this_backup, .ref a_this_aside, .ref a_this_saved, .ref a_this_isSaved, .int u.2.2, .ref a_this_text, .int c_textLength, .int c_position, .int c_tokenStart, .int c_token, .int c_letters, .int c_number, .int c_errorCode, .int c_errorPosition, .long c_word, .ref a_this_arrival, .ref a_this_links, .ref a_this_isAvoided, .ref a_this_output, .int c_outputLength, .ref a_this_toSend, .ref a_this_sendTo, .int c_sendCount])), (a_this_state, .inl (k 0, 2888, .inl c_state))] H locs → lv_has ls 4 [(1, .int u.1), (2, .int u.2.1)] → W p l e R s m args below meth c H locs 0 0 Q (F0 m 55 ls []) := by
    intro H locs ls hW hl
    refine lv_iload_n hx hb dX7_meanHours_55 rfl (lv_at hl 1 rfl) ?_
    refine lv_if_ne (tgt := 65) hx hb dX7_meanHours_56 (by decide) (fun hz => ?_) (fun hz => ?_)
    · refine lv_iload_n hx hb dX7_meanHours_65 rfl (lv_at hl 0 rfl) ?_
      refine lv_i2d hx hb dX7_meanHours_66 ?_
      refine lv_iload_n hx hb dX7_meanHours_67 rfl (lv_at hl 1 rfl) ?_
      refine lv_i2d hx hb dX7_meanHours_68 ?_
      exact hV _ _ _ _ _ _ hW (fun r hr => ⟨fun h => absurd h hz, fun _ => hr⟩) dX7_meanHours_69 dX7_meanHours_70
    · refine lv_ldc2d hx hb X.1.2.2.2.1 (X.1.2.2.2.2 _ gq_d7) dX7_meanHours_59 ?_
      refine lv_goto (tgt := 70) hx hb dX7_meanHours_62 (by decide) ?_
      exact hE _ _ _ _ _ hW ⟨fun _ => rfl, fun h => absurd hz h⟩ dX7_meanHours_70
  clear hE hV
  unfold fX7_meanHours at hf
  refine lv_aload_n hx hb dX7_meanHours_0 rfl (lv_at hl 0 rfl) ?_
  refine lv_iconst (v := 0) hx hb dX7_meanHours_1 (by decide) ?_
  refine rr_put X hW 0 5 gp_X7_54 rfl rfl rfl (Nat.le_of_ble_eq_true rfl) (ws' := [(a_this, .inr (7, [.ref a_this_state, .ref a_this_backup, .ref a_this_aside, .ref a_this_saved, .ref a_this_isSaved, .int (0 : Int32), .ref a_this_text, .int c_textLength, .int c_position, .int c_tokenStart, .int c_token, .int c_letters, .int c_number, .int c_errorCode, .int c_errorPosition, .long c_word, .ref a_this_arrival, .ref a_this_links, .ref a_this_isAvoided, .ref a_this_output, .int c_outputLength, .ref a_this_toSend, .ref a_this_sendTo, .int c_sendCount])), (a_this_state, .inl (k 0, 2888, .inl c_state))]) rfl dX7_meanHours_2 (fun H locs hW => ?_)
  refine lv_iconst (v := 0) hx hb dX7_meanHours_5 (by decide) ?_
  refine lv_istore_n (lv' := [(1, .int (0 : Int32)), (0, .ref a_this)]) hx hb dX7_meanHours_6 rfl hl (Nat.le_of_ble_eq_true rfl) rfl (fun ls hl => ?_)
  refine lv_iconst (v := 0) hx hb dX7_meanHours_7 (by decide) ?_
  refine lv_istore_n (lv' := [(2, .int (0 : Int32)), (1, .int (0 : Int32)), (0, .ref a_this)]) hx hb dX7_meanHours_8 rfl hl (Nat.le_of_ble_eq_true rfl) rfl (fun ls hl => ?_)
  refine lv_iconst (v := 0) hx hb dX7_meanHours_9 (by decide) ?_
  refine lv_istore_n (lv' := [(3, .int (0 : Int32)), (2, .int (0 : Int32)), (1, .int (0 : Int32)), (0, .ref a_this)]) hx hb dX7_meanHours_10 rfl hl (Nat.le_of_ble_eq_true rfl) rfl (fun ls hl => ?_)
  obtain ⟨t1, ht1, hf⟩ := rn_bind hf
  have kk_11 : ∀ (H : Heap) (locs : List Loc) (ls : Array Slot), rn_W D A s [(a_this, .inr (7, [.ref a_this_state, .ref a_this_backup, .ref a_this_aside, .ref a_this_saved, .ref a_this_isSaved, .int (0 : Int32), .ref a_this_text, .int c_textLength, .int c_position, .int c_tokenStart, .int c_token, .int c_letters, .int c_number, .int c_errorCode, .int c_errorPosition, .long c_word, .ref a_this_arrival, .ref a_this_links, .ref a_this_isAvoided, .ref a_this_output, .int c_outputLength, .ref a_this_toSend, .ref a_this_sendTo, .int c_sendCount])), (a_this_state, .inl (k 0, 2888, .inl c_state))] H locs → lv_has ls 4 [(1, .int t1.1), (2, .int t1.2)] → W p l e R s m args below meth c H locs 0 0 Q (F0 m 55 ls []) := by
    intro H locs ls hW hl
    cases hf
    exact hT _ _ _ hW (lv_sub hl [0, 1] rfl)
  clear hf
  have lp_11 : ∀ (n : Nat) (x1_11 : Int32) (x2_11 : Int32) (x3_11 : Int32) (H : Heap) (locs : List Loc) (ls : Array Slot), lX7_meanHours_11 N c_state n x1_11 x2_11 x3_11 = some t1 → rn_W D A s [(a_this, .inr (7, [.ref a_this_state, .ref a_this_backup, .ref a_this_aside, .ref a_this_saved, .ref a_this_isSaved, .int (0 : Int32), .ref a_this_text, .int c_textLength, .int c_position, .int c_tokenStart, .int c_token, .int c_letters, .int c_number, .int c_errorCode, .int c_errorPosition, .long c_word, .ref a_this_arrival, .ref a_this_links, .ref a_this_isAvoided, .ref a_this_output, .int c_outputLength, .ref a_this_toSend, .ref a_this_sendTo, .int c_sendCount])), (a_this_state, .inl (k 0, 2888, .inl c_state))] H locs → lv_has ls 4 [(0, .ref a_this), (1, .int x1_11), (2, .int x2_11), (3, .int x3_11)] → W p l e R s m args below meth c H locs 0 0 Q (F0 m 11 ls []) := by
    intro n
    induction n with
    | zero => intro x1_11 x2_11 x3_11 H locs ls hf; exact absurd hf (by rw [lX7_meanHours_11]; exact fun h => nomatch h)
    | succ n ih_11 =>
      intro x1_11 x2_11 x3_11 H locs ls hf hW hl
      rw [lX7_meanHours_11] at hf
      refine lv_iload_n hx hb dX7_meanHours_11 rfl (lv_at hl 3 rfl) ?_
      refine lv_aload_n hx hb dX7_meanHours_12 rfl (lv_at hl 0 rfl) ?_
      refine rr_get X hW 0 0 gf_X7_7 rfl rfl dX7_meanHours_13 ?_
      refine lv_iconst (v := 2) hx hb dX7_meanHours_16 (by decide) ?_
      obtain ⟨hg2, hf⟩ := rn_g_s hf
      refine rr_iald X hW 1 rfl hg2 dX7_meanHours_17 ?_
      refine lv_icmp_ge (tgt := 55) hx hb dX7_meanHours_18 (by decide) (fun hc3 => ?_) (fun hc3 => ?_)
      · replace hf := rn_t hf hc3
        cases hf
        exact kk_11 _ _ _ hW (lv_sub hl [1, 2] rfl)
      · replace hf := rn_f hf hc3
        refine lv_aload_n hx hb dX7_meanHours_21 rfl (lv_at hl 0 rfl) ?_
        refine lv_iload_n hx hb dX7_meanHours_22 rfl (lv_at hl 3 rfl) ?_
        obtain ⟨t4, ht4, hf⟩ := rn_bind hf
        refine rr_callI (As := [.int x3_11]) (rest := []) X hW (kX7_stateOf l D k z N a_this a_this_state a_this_backup a_this_aside a_this_saved a_this_isSaved a_this_text a_this_arrival a_this_links a_this_isAvoided a_this_output a_this_toSend a_this_sendTo (0 : Int32) c_textLength c_position c_tokenStart c_token c_letters c_number c_errorCode c_errorPosition c_word c_outputLength c_sendCount c_state x3_11 ht4) gm_X7_stateOf gl_X7_230 [0, 1] [] [(a_this, .inr (7, [.ref a_this_state, .ref a_this_backup, .ref a_this_aside, .ref a_this_saved, .ref a_this_isSaved, .int (0 : Int32), .ref a_this_text, .int c_textLength, .int c_position, .int c_tokenStart, .int c_token, .int c_letters, .int c_number, .int c_errorCode, .int c_errorPosition, .long c_word, .ref a_this_arrival, .ref a_this_links, .ref a_this_isAvoided, .ref a_this_output, .int c_outputLength, .ref a_this_toSend, .ref a_this_sendTo, .int c_sendCount])), (a_this_state, .inl (k 0, 2888, .inl c_state))] rfl rfl rfl rfl ⟨rfl, rfl, rfl, rfl, rfl⟩ (rn_r hR rfl) rn_cs hl.1 rfl (Nat.le_of_ble_eq_true rfl) dX7_meanHours_23 (fun hn4 H locs hW => ?_)
        refine lv_iconst (v := 1) hx hb dX7_meanHours_26 (by decide) ?_
        refine lv_icmp_ne (tgt := 49) hx hb dX7_meanHours_27 (by decide) (fun hc5 => ?_) (fun hc5 => ?_)
        · replace hf := rn_f hf hc5
          refine lv_iinc (v := (x3_11 + (1 : Int32))) (lv' := [(3, .int (x3_11 + (1 : Int32))), (0, .ref a_this), (1, .int x1_11), (2, .int x2_11)]) hx hb dX7_meanHours_49 hl (k := 3) rfl (congrArg (fun q => _ + q) (by decide)) (Nat.le_of_ble_eq_true rfl) rfl (fun ls hl => ?_)
          refine lv_goto (tgt := 11) hx hb dX7_meanHours_52 (by decide) ?_
          exact ih_11 x1_11 x2_11 (x3_11 + (1 : Int32)) _ _ _ hf hW (lv_sub hl [1, 2, 3, 0] rfl)
        · replace hf := rn_t hf hc5
          refine lv_iload_n hx hb dX7_meanHours_30 rfl (lv_at hl 1 rfl) ?_
          refine lv_aload_n hx hb dX7_meanHours_31 rfl (lv_at hl 0 rfl) ?_
          refine lv_iload_n hx hb dX7_meanHours_32 rfl (lv_at hl 3 rfl) ?_
          refine lv_iconst (v := 2) hx hb dX7_meanHours_33 (by decide) ?_
          obtain ⟨t6, ht6, hf⟩ := rn_bind hf
          refine rr_callI (As := [.int x3_11, .int (2 : Int32)]) (rest := [.int x1_11]) X hW (kX7_deliveredField l D k z a_this a_this_state a_this_backup a_this_aside a_this_saved a_this_isSaved a_this_text a_this_arrival a_this_links a_this_isAvoided a_this_output a_this_toSend a_this_sendTo (0 : Int32) c_textLength c_position c_tokenStart c_token c_letters c_number c_errorCode c_errorPosition c_word c_outputLength c_sendCount c_state x3_11 (2 : Int32) ht6) gm_X7_deliveredField gl_X7_324 [0, 1] [] [(a_this, .inr (7, [.ref a_this_state, .ref a_this_backup, .ref a_this_aside, .ref a_this_saved, .ref a_this_isSaved, .int (0 : Int32), .ref a_this_text, .int c_textLength, .int c_position, .int c_tokenStart, .int c_token, .int c_letters, .int c_number, .int c_errorCode, .int c_errorPosition, .long c_word, .ref a_this_arrival, .ref a_this_links, .ref a_this_isAvoided, .ref a_this_output, .int c_outputLength, .ref a_this_toSend, .ref a_this_sendTo, .int c_sendCount])), (a_this_state, .inl (k 0, 2888, .inl c_state))] rfl rfl rfl rfl ⟨rfl, rfl, rfl, rfl, rfl⟩ (rn_r hR rfl) rn_cs hl.1 rfl (Nat.le_of_ble_eq_true rfl) dX7_meanHours_34 (fun hn6 H locs hW => ?_)
          refine lv_aload_n hx hb dX7_meanHours_37 rfl (lv_at hl 0 rfl) ?_
          refine lv_iload_n hx hb dX7_meanHours_38 rfl (lv_at hl 3 rfl) ?_
          refine lv_iconst (v := 3) hx hb dX7_meanHours_39 (by decide) ?_
          obtain ⟨t7, ht7, hf⟩ := rn_bind hf
          refine rr_callI (As := [.int x3_11, .int (3 : Int32)]) (rest := [.int t6, .int x1_11]) X hW (kX7_ofMessage l D k z a_this a_this_state a_this_backup a_this_aside a_this_saved a_this_isSaved a_this_text a_this_arrival a_this_links a_this_isAvoided a_this_output a_this_toSend a_this_sendTo (0 : Int32) c_textLength c_position c_tokenStart c_token c_letters c_number c_errorCode c_errorPosition c_word c_outputLength c_sendCount c_state x3_11 (3 : Int32) ht7) gm_X7_ofMessage gl_X7_267 [0, 1] [] [(a_this, .inr (7, [.ref a_this_state, .ref a_this_backup, .ref a_this_aside, .ref a_this_saved, .ref a_this_isSaved, .int (0 : Int32), .ref a_this_text, .int c_textLength, .int c_position, .int c_tokenStart, .int c_token, .int c_letters, .int c_number, .int c_errorCode, .int c_errorPosition, .long c_word, .ref a_this_arrival, .ref a_this_links, .ref a_this_isAvoided, .ref a_this_output, .int c_outputLength, .ref a_this_toSend, .ref a_this_sendTo, .int c_sendCount])), (a_this_state, .inl (k 0, 2888, .inl c_state))] rfl rfl rfl rfl ⟨rfl, rfl, rfl, rfl, rfl⟩ (rn_r hR rfl) rn_cs hl.1 rfl (Nat.le_of_ble_eq_true rfl) dX7_meanHours_40 (fun hn7 H locs hW => ?_)
          refine lv_isub hx hb dX7_meanHours_43 ?_
          refine lv_iadd hx hb dX7_meanHours_44 ?_
          refine lv_istore_n (lv' := [(1, .int (x1_11 + (t6 - t7))), (0, .ref a_this), (2, .int x2_11), (3, .int x3_11)]) hx hb dX7_meanHours_45 rfl hl (Nat.le_of_ble_eq_true rfl) rfl (fun ls hl => ?_)
          refine lv_iinc (v := (x2_11 + (1 : Int32))) (lv' := [(2, .int (x2_11 + (1 : Int32))), (1, .int (x1_11 + (t6 - t7))), (0, .ref a_this), (3, .int x3_11)]) hx hb dX7_meanHours_46 hl (k := 2) rfl (congrArg (fun q => _ + q) (by decide)) (Nat.le_of_ble_eq_true rfl) rfl (fun ls hl => ?_)
          refine lv_iinc (v := (x3_11 + (1 : Int32))) (lv' := [(3, .int (x3_11 + (1 : Int32))), (2, .int (x2_11 + (1 : Int32))), (1, .int (x1_11 + (t6 - t7))), (0, .ref a_this)]) hx hb dX7_meanHours_49 hl (k := 3) rfl (congrArg (fun q => _ + q) (by decide)) (Nat.le_of_ble_eq_true rfl) rfl (fun ls hl => ?_)
          refine lv_goto (tgt := 11) hx hb dX7_meanHours_52 (by decide) ?_
          exact ih_11 (x1_11 + (t6 - t7)) (x2_11 + (1 : Int32)) (x3_11 + (1 : Int32)) _ _ _ hf hW (lv_sub hl [3, 2, 1, 0] rfl)
  exact lp_11 N (0 : Int32) (0 : Int32) (0 : Int32) _ _ _ ht1 hW (lv_sub hl [3, 2, 1, 0] rfl)
def lX7_lossRate_11 (c_state : Nat → Int32) : Nat → Int32 → Int32 → Int32 → Option (Int32 × Int32)
  | 0, _, _, _ => none
  | n+1, x1_11, x2_11, x3_11 =>
    rn_g (1 : Int32) 2888 <|
    if (c_state (1 : Int32).toNatClampNeg) ≤ x3_11 then
      some (x1_11, x2_11)
    else
    (fX7_ofLink c_state x3_11 (5 : Int32)).bind fun t4 =>
    (fX7_ofLink c_state x3_11 (6 : Int32)).bind fun t5 =>
    (fX7_ofLink c_state x3_11 (7 : Int32)).bind fun t6 =>
    lX7_lossRate_11 c_state n (x1_11 + t4) (x2_11 + (t5 + t6)) (x3_11 + (1 : Int32))
def fX7_lossRate (N : Nat) (c_thrown : Int32) (c_state : Nat → Int32) : Option (Int32 × Int32 × Int32) :=
  (lX7_lossRate_11 c_state N (0 : Int32) (0 : Int32) (0 : Int32)).bind fun t1 =>
  some (t1.1, t1.2, (0 : Int32))
set_option maxHeartbeats 4000000 in
set_option maxRecDepth 20000 in
theorem kX7_lossRate (l : Launch) (D : va_G) (k : Nat → ClassId) (z : (Nat → Nat) × (Nat → Nat)) (N : Nat) (a_this : Nat) (a_this_state : Nat) (a_this_backup : Nat) (a_this_aside : Nat) (a_this_saved : Nat) (a_this_isSaved : Nat) (a_this_text : Nat) (a_this_arrival : Nat) (a_this_links : Nat) (a_this_isAvoided : Nat) (a_this_output : Nat) (a_this_toSend : Nat) (a_this_sendTo : Nat) (c_thrown : Int32) (c_textLength : Int32) (c_position : Int32) (c_tokenStart : Int32) (c_token : Int32) (c_letters : Int32) (c_number : Int32) (c_errorCode : Int32) (c_errorPosition : Int32) (c_word : Int64) (c_outputLength : Int32) (c_sendCount : Int32) (c_state : Nat → Int32) {u : Int32 × Int32 × Int32} (hf : fX7_lossRate N c_thrown c_state = some u) : rn_KF l D k z yX7_lossRate cX7_lossRate 4 1 22 [.ref a_this] [(a_this, .inr (7, [.ref a_this_state, .ref a_this_backup, .ref a_this_aside, .ref a_this_saved, .ref a_this_isSaved, .int c_thrown, .ref a_this_text, .int c_textLength, .int c_position, .int c_tokenStart, .int c_token, .int c_letters, .int c_number, .int c_errorCode, .int c_errorPosition, .long c_word, .ref a_this_arrival, .ref a_this_links, .ref a_this_isAvoided, .ref a_this_output, .int c_outputLength, .ref a_this_toSend, .ref a_this_sendTo, .int c_sendCount])), (a_this_state, .inl (k 0, 2888, .inl c_state))] [(a_this, .inr (7, [.ref a_this_state, .ref a_this_backup, .ref a_this_aside, .ref a_this_saved, .ref a_this_isSaved, .int u.2.2, .ref a_this_text, .int c_textLength, .int c_position, .int c_tokenStart, .int c_token, .int c_letters, .int c_number, .int c_errorCode, .int c_errorPosition, .long c_word, .ref a_this_arrival, .ref a_this_links, .ref a_this_isAvoided, .ref a_this_output, .int c_outputLength, .ref a_this_toSend, .ref a_this_sendTo, .int c_sendCount])), (a_this_state, .inl (k 0, 2888, .inl c_state))] (rn_rate u.2.1 u.1) := by
  refine rn_KF.go (LOC := [(0, .ref a_this)]) rfl (by decide) (Nat.le_of_ble_eq_true rfl) rfl ?_
  intro p e s m args below meth c A ls R Q X hR hE hV hW hl
  have hx := X.1.1
  have hb := X.1.2.1
  have hT : ∀ (H : Heap) (locs : List Loc) (ls : Array Slot), rn_W D A s [(a_this, .inr (7, [.ref a_this_state, .ref a_this_backup, .ref a_this_aside, .ref a_this_saved, .ref a_this_isSaved, .int u.2.2, .ref a_this_text, .int c_textLength, .int c_position, .int c_tokenStart, .int c_token, .int c_letters, .int c_number, .int c_errorCode, .int c_errorPosition, .long c_word, .ref a_this_arrival, .ref a_this_links, .ref a_this_isAvoided, .ref a_this_output, .int c_outputLength, .ref a_this_toSend, .ref a_this_sendTo, .int c_sendCount])), (a_this_state, .inl (k 0, 2888, .inl c_state))] H locs → lv_has ls 4 [(1, .int u.1), (2, .int u.2.1)] → W p l e R s m args below meth c H locs 0 0 Q (F0 m 54 ls []) := by
    intro H locs ls hW hl
    refine lv_iload_n hx hb dX7_lossRate_54 rfl (lv_at hl 0 rfl) ?_
    refine lv_if_ne (tgt := 62) hx hb dX7_lossRate_55 (by decide) (fun hz => ?_) (fun hz => ?_)
    · refine lv_iload_n hx hb dX7_lossRate_62 rfl (lv_at hl 1 rfl) ?_
      refine lv_i2f hx hb dX7_lossRate_63 ?_
      refine lv_iload_n hx hb dX7_lossRate_64 rfl (lv_at hl 0 rfl) ?_
      refine lv_i2f hx hb dX7_lossRate_65 ?_
      exact hV _ _ _ _ _ _ hW (fun r hr => ⟨fun h => absurd h hz, fun _ => hr⟩) dX7_lossRate_66 dX7_lossRate_67
    · refine lv_fconst0 hx hb dX7_lossRate_58 ?_
      refine lv_goto (tgt := 67) hx hb dX7_lossRate_59 (by decide) ?_
      exact hE _ _ _ _ _ hW ⟨fun _ => rfl, fun h => absurd hz h⟩ dX7_lossRate_67
  clear hE hV
  unfold fX7_lossRate at hf
  refine lv_aload_n hx hb dX7_lossRate_0 rfl (lv_at hl 0 rfl) ?_
  refine lv_iconst (v := 0) hx hb dX7_lossRate_1 (by decide) ?_
  refine rr_put X hW 0 5 gp_X7_54 rfl rfl rfl (Nat.le_of_ble_eq_true rfl) (ws' := [(a_this, .inr (7, [.ref a_this_state, .ref a_this_backup, .ref a_this_aside, .ref a_this_saved, .ref a_this_isSaved, .int (0 : Int32), .ref a_this_text, .int c_textLength, .int c_position, .int c_tokenStart, .int c_token, .int c_letters, .int c_number, .int c_errorCode, .int c_errorPosition, .long c_word, .ref a_this_arrival, .ref a_this_links, .ref a_this_isAvoided, .ref a_this_output, .int c_outputLength, .ref a_this_toSend, .ref a_this_sendTo, .int c_sendCount])), (a_this_state, .inl (k 0, 2888, .inl c_state))]) rfl dX7_lossRate_2 (fun H locs hW => ?_)
  refine lv_iconst (v := 0) hx hb dX7_lossRate_5 (by decide) ?_
  refine lv_istore_n (lv' := [(1, .int (0 : Int32)), (0, .ref a_this)]) hx hb dX7_lossRate_6 rfl hl (Nat.le_of_ble_eq_true rfl) rfl (fun ls hl => ?_)
  refine lv_iconst (v := 0) hx hb dX7_lossRate_7 (by decide) ?_
  refine lv_istore_n (lv' := [(2, .int (0 : Int32)), (1, .int (0 : Int32)), (0, .ref a_this)]) hx hb dX7_lossRate_8 rfl hl (Nat.le_of_ble_eq_true rfl) rfl (fun ls hl => ?_)
  refine lv_iconst (v := 0) hx hb dX7_lossRate_9 (by decide) ?_
  refine lv_istore_n (lv' := [(3, .int (0 : Int32)), (2, .int (0 : Int32)), (1, .int (0 : Int32)), (0, .ref a_this)]) hx hb dX7_lossRate_10 rfl hl (Nat.le_of_ble_eq_true rfl) rfl (fun ls hl => ?_)
  obtain ⟨t1, ht1, hf⟩ := rn_bind hf
  have kk_11 : ∀ (H : Heap) (locs : List Loc) (ls : Array Slot), rn_W D A s [(a_this, .inr (7, [.ref a_this_state, .ref a_this_backup, .ref a_this_aside, .ref a_this_saved, .ref a_this_isSaved, .int (0 : Int32), .ref a_this_text, .int c_textLength, .int c_position, .int c_tokenStart, .int c_token, .int c_letters, .int c_number, .int c_errorCode, .int c_errorPosition, .long c_word, .ref a_this_arrival, .ref a_this_links, .ref a_this_isAvoided, .ref a_this_output, .int c_outputLength, .ref a_this_toSend, .ref a_this_sendTo, .int c_sendCount])), (a_this_state, .inl (k 0, 2888, .inl c_state))] H locs → lv_has ls 4 [(1, .int t1.1), (2, .int t1.2)] → W p l e R s m args below meth c H locs 0 0 Q (F0 m 54 ls []) := by
    intro H locs ls hW hl
    cases hf
    exact hT _ _ _ hW (lv_sub hl [0, 1] rfl)
  clear hf
  have lp_11 : ∀ (n : Nat) (x1_11 : Int32) (x2_11 : Int32) (x3_11 : Int32) (H : Heap) (locs : List Loc) (ls : Array Slot), lX7_lossRate_11 c_state n x1_11 x2_11 x3_11 = some t1 → rn_W D A s [(a_this, .inr (7, [.ref a_this_state, .ref a_this_backup, .ref a_this_aside, .ref a_this_saved, .ref a_this_isSaved, .int (0 : Int32), .ref a_this_text, .int c_textLength, .int c_position, .int c_tokenStart, .int c_token, .int c_letters, .int c_number, .int c_errorCode, .int c_errorPosition, .long c_word, .ref a_this_arrival, .ref a_this_links, .ref a_this_isAvoided, .ref a_this_output, .int c_outputLength, .ref a_this_toSend, .ref a_this_sendTo, .int c_sendCount])), (a_this_state, .inl (k 0, 2888, .inl c_state))] H locs → lv_has ls 4 [(0, .ref a_this), (1, .int x1_11), (2, .int x2_11), (3, .int x3_11)] → W p l e R s m args below meth c H locs 0 0 Q (F0 m 11 ls []) := by
    intro n
    induction n with
    | zero => intro x1_11 x2_11 x3_11 H locs ls hf; exact absurd hf (by rw [lX7_lossRate_11]; exact fun h => nomatch h)
    | succ n ih_11 =>
      intro x1_11 x2_11 x3_11 H locs ls hf hW hl
      rw [lX7_lossRate_11] at hf
      refine lv_iload_n hx hb dX7_lossRate_11 rfl (lv_at hl 3 rfl) ?_
      refine lv_aload_n hx hb dX7_lossRate_12 rfl (lv_at hl 0 rfl) ?_
      refine rr_get X hW 0 0 gf_X7_7 rfl rfl dX7_lossRate_13 ?_
      refine lv_iconst (v := 1) hx hb dX7_lossRate_16 (by decide) ?_
      obtain ⟨hg2, hf⟩ := rn_g_s hf
      refine rr_iald X hW 1 rfl hg2 dX7_lossRate_17 ?_
      refine lv_icmp_ge (tgt := 54) hx hb dX7_lossRate_18 (by decide) (fun hc3 => ?_) (fun hc3 => ?_)
      · replace hf := rn_t hf hc3
        cases hf
        exact kk_11 _ _ _ hW (lv_sub hl [1, 2] rfl)
      · replace hf := rn_f hf hc3
        refine lv_iload_n hx hb dX7_lossRate_21 rfl (lv_at hl 1 rfl) ?_
        refine lv_aload_n hx hb dX7_lossRate_22 rfl (lv_at hl 0 rfl) ?_
        refine lv_iload_n hx hb dX7_lossRate_23 rfl (lv_at hl 3 rfl) ?_
        refine lv_iconst (v := 5) hx hb dX7_lossRate_24 (by decide) ?_
        obtain ⟨t4, ht4, hf⟩ := rn_bind hf
        refine rr_callI (As := [.int x3_11, .int (5 : Int32)]) (rest := [.int x1_11]) X hW (kX7_ofLink l D k z a_this a_this_state a_this_backup a_this_aside a_this_saved a_this_isSaved a_this_text a_this_arrival a_this_links a_this_isAvoided a_this_output a_this_toSend a_this_sendTo (0 : Int32) c_textLength c_position c_tokenStart c_token c_letters c_number c_errorCode c_errorPosition c_word c_outputLength c_sendCount c_state x3_11 (5 : Int32) ht4) gm_X7_ofLink gl_X7_193 [0, 1] [] [(a_this, .inr (7, [.ref a_this_state, .ref a_this_backup, .ref a_this_aside, .ref a_this_saved, .ref a_this_isSaved, .int (0 : Int32), .ref a_this_text, .int c_textLength, .int c_position, .int c_tokenStart, .int c_token, .int c_letters, .int c_number, .int c_errorCode, .int c_errorPosition, .long c_word, .ref a_this_arrival, .ref a_this_links, .ref a_this_isAvoided, .ref a_this_output, .int c_outputLength, .ref a_this_toSend, .ref a_this_sendTo, .int c_sendCount])), (a_this_state, .inl (k 0, 2888, .inl c_state))] rfl rfl rfl rfl ⟨rfl, rfl, rfl, rfl, rfl⟩ (rn_r hR rfl) rn_cs hl.1 rfl (Nat.le_of_ble_eq_true rfl) dX7_lossRate_25 (fun hn4 H locs hW => ?_)
        refine lv_iadd hx hb dX7_lossRate_28 ?_
        refine lv_istore_n (lv' := [(1, .int (x1_11 + t4)), (0, .ref a_this), (2, .int x2_11), (3, .int x3_11)]) hx hb dX7_lossRate_29 rfl hl (Nat.le_of_ble_eq_true rfl) rfl (fun ls hl => ?_)
        refine lv_iload_n hx hb dX7_lossRate_30 rfl (lv_at hl 2 rfl) ?_
        refine lv_aload_n hx hb dX7_lossRate_31 rfl (lv_at hl 1 rfl) ?_
        refine lv_iload_n hx hb dX7_lossRate_32 rfl (lv_at hl 3 rfl) ?_
        refine lv_bipush (v := 6) hx hb dX7_lossRate_33 (by decide) ?_
        obtain ⟨t5, ht5, hf⟩ := rn_bind hf
        refine rr_callI (As := [.int x3_11, .int (6 : Int32)]) (rest := [.int x2_11]) X hW (kX7_ofLink l D k z a_this a_this_state a_this_backup a_this_aside a_this_saved a_this_isSaved a_this_text a_this_arrival a_this_links a_this_isAvoided a_this_output a_this_toSend a_this_sendTo (0 : Int32) c_textLength c_position c_tokenStart c_token c_letters c_number c_errorCode c_errorPosition c_word c_outputLength c_sendCount c_state x3_11 (6 : Int32) ht5) gm_X7_ofLink gl_X7_193 [0, 1] [] [(a_this, .inr (7, [.ref a_this_state, .ref a_this_backup, .ref a_this_aside, .ref a_this_saved, .ref a_this_isSaved, .int (0 : Int32), .ref a_this_text, .int c_textLength, .int c_position, .int c_tokenStart, .int c_token, .int c_letters, .int c_number, .int c_errorCode, .int c_errorPosition, .long c_word, .ref a_this_arrival, .ref a_this_links, .ref a_this_isAvoided, .ref a_this_output, .int c_outputLength, .ref a_this_toSend, .ref a_this_sendTo, .int c_sendCount])), (a_this_state, .inl (k 0, 2888, .inl c_state))] rfl rfl rfl rfl ⟨rfl, rfl, rfl, rfl, rfl⟩ (rn_r hR rfl) rn_cs hl.1 rfl (Nat.le_of_ble_eq_true rfl) dX7_lossRate_35 (fun hn5 H locs hW => ?_)
        refine lv_aload_n hx hb dX7_lossRate_38 rfl (lv_at hl 1 rfl) ?_
        refine lv_iload_n hx hb dX7_lossRate_39 rfl (lv_at hl 3 rfl) ?_
        refine lv_bipush (v := 7) hx hb dX7_lossRate_40 (by decide) ?_
        obtain ⟨t6, ht6, hf⟩ := rn_bind hf
        refine rr_callI (As := [.int x3_11, .int (7 : Int32)]) (rest := [.int t5, .int x2_11]) X hW (kX7_ofLink l D k z a_this a_this_state a_this_backup a_this_aside a_this_saved a_this_isSaved a_this_text a_this_arrival a_this_links a_this_isAvoided a_this_output a_this_toSend a_this_sendTo (0 : Int32) c_textLength c_position c_tokenStart c_token c_letters c_number c_errorCode c_errorPosition c_word c_outputLength c_sendCount c_state x3_11 (7 : Int32) ht6) gm_X7_ofLink gl_X7_193 [0, 1] [] [(a_this, .inr (7, [.ref a_this_state, .ref a_this_backup, .ref a_this_aside, .ref a_this_saved, .ref a_this_isSaved, .int (0 : Int32), .ref a_this_text, .int c_textLength, .int c_position, .int c_tokenStart, .int c_token, .int c_letters, .int c_number, .int c_errorCode, .int c_errorPosition, .long c_word, .ref a_this_arrival, .ref a_this_links, .ref a_this_isAvoided, .ref a_this_output, .int c_outputLength, .ref a_this_toSend, .ref a_this_sendTo, .int c_sendCount])), (a_this_state, .inl (k 0, 2888, .inl c_state))] rfl rfl rfl rfl ⟨rfl, rfl, rfl, rfl, rfl⟩ (rn_r hR rfl) rn_cs hl.1 rfl (Nat.le_of_ble_eq_true rfl) dX7_lossRate_42 (fun hn6 H locs hW => ?_)
        refine lv_iadd hx hb dX7_lossRate_45 ?_
        refine lv_iadd hx hb dX7_lossRate_46 ?_
        refine lv_istore_n (lv' := [(2, .int (x2_11 + (t5 + t6))), (1, .int (x1_11 + t4)), (0, .ref a_this), (3, .int x3_11)]) hx hb dX7_lossRate_47 rfl hl (Nat.le_of_ble_eq_true rfl) rfl (fun ls hl => ?_)
        refine lv_iinc (v := (x3_11 + (1 : Int32))) (lv' := [(3, .int (x3_11 + (1 : Int32))), (2, .int (x2_11 + (t5 + t6))), (1, .int (x1_11 + t4)), (0, .ref a_this)]) hx hb dX7_lossRate_48 hl (k := 3) rfl (congrArg (fun q => _ + q) (by decide)) (Nat.le_of_ble_eq_true rfl) rfl (fun ls hl => ?_)
        refine lv_goto (tgt := 11) hx hb dX7_lossRate_51 (by decide) ?_
        exact ih_11 (x1_11 + t4) (x2_11 + (t5 + t6)) (x3_11 + (1 : Int32)) _ _ _ hf hW (lv_sub hl [3, 2, 1, 0] rfl)
  exact lp_11 N (0 : Int32) (0 : Int32) (0 : Int32) _ _ _ ht1 hW (lv_sub hl [3, 2, 1, 0] rfl)
