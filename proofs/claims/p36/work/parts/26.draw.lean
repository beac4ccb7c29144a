/-! lossRate: a quotient that is no NaN (own rows) -/
def rn_nn (r : UInt32) : Bool := decide (r &&& 0x7fffffff ≤ 0x7f800000)
theorem rn_nn_s {r : UInt32} (h : ¬ rn_nn r = false) : vf_n32 r := by
  unfold rn_nn at h
  by_cases c : r &&& 0x7fffffff ≤ 0x7f800000
  · exact c
  · exact absurd (decide_eq_false c) h
def rn_Qf (D : va_G) (r : UInt32) (ws' : va_W) (A : Nat → Prop) : Array Value → State → Outcome → State → Prop := va_Qf (fun (r' : UInt32) (_ : Unit) => r' = r) (fun _ t => va_P D vwCl ws' t.heap) A
def rn_KF (l : Launch) (D : va_G) (k : Nat → ClassId) (z : (Nat → Nat) × (Nat → Nat)) (y : MethodName) (b : ByteArray) (n : Nat) (fr lo : Nat) (av : List Value) (ws ws' : va_W) (r : UInt32) : Prop :=
  ∀ sz, Met l y (.code y b n (some .float) :: rn_G) { frames := fr, cells := 0, slots := 0, locals := lo } (rn_Pc D k z av ws sz) (rn_Qf D r ws' (va_A ws sz)) 0 0 (va_A ws sz)
theorem rn_KF.of {l : Launch} {D : va_G} {k : Nat → ClassId} {z : (Nat → Nat) × (Nat → Nat)} {y : MethodName} {b : ByteArray} {n : Nat} {fr lo : Nat} {av : List Value} {ws ws' : va_W} {r : UInt32} (hy : plainName y.cls = true) (hn : (lg_sl av).length ≤ n)
    (body : ∀ (p : Program) (e : Env) (s : State) (m : MethodId) (args : Array Value) (below : List Frame) (meth : Method) (c : Code) (A : Nat → Prop) (ls : Array Slot), rn_X p m c b n s args y.cls D k z A → (meth.sig.returnType = some .float ∧ meth.locks = false) → rn_W D A s ws s.heap [] → lv_has ls n (lv_args 0 av) →
      W p l e { frames := fr, cells := 0, slots := 0, locals := lo } s m args below meth c s.heap [] 0 0 (MQ below (rn_Qf D r ws' A) args s 0 0 A) (F0 m 0 ls [])) : rn_KF l D k z y b n fr lo av ws ws' r := by
  intro sz
  refine Met.ofW (cc := b) (maxL := n) (ret := some .float) hy rfl ?_
  intro p e s m args below meth c s₁ B hml hv
  obtain ⟨rfl, hsz, hP, hK, hD0, hS0⟩ := hv
  subst hsz
  have hts := atoms_spec (ws := .code y b n (some .float) :: rn_G) B.pre
  rw [lg_entry_eq]
  exact body p e s m _ below meth c _ _ ⟨⟨B.exec, B.bytes, hml, findClass_of_methodNamed B.named, fun w hw => hts w (List.mem_cons_of_mem _ hw)⟩, hK, fun q h => Or.inr h, hS0⟩ ⟨B.returns, B.notSynchronized⟩ ⟨hP, hD0.self, va_S.rf⟩ (lv_entry av hn)
section RF
variable {p : Program} {l : Launch} {e : Env} {R : Room} {s : State} {m : MethodId} {args : Array Value} {below : List Frame} {meth : Method} {c : Code} {H : Heap} {locs : List Loc}
variable {cc : ByteArray} {nL : Nat} {own : String} {pc : Nat} {ls : Array Slot} {D : va_G} {k : Nat → ClassId} {z : (Nat → Nat) × (Nat → Nat)} {A : Nat → Prop} {ws : va_W}
theorem rr_fret (X : rn_X p m c cc nL s args own D k z A) (hr : meth.sig.returnType = some .float ∧ meth.locks = false) (hW : rn_W D A s ws H locs) {r : UInt32} (hdg : decode cc pc = .ok (.freturn, 1)) : W p l e R s m args below meth c H locs 0 0 (MQ below (rn_Qf D r ws A) args s 0 0 A) (F0 m pc ls [.float r]) :=
  W.fret X.1.1 X.1.2.1 hr.1 (fun t ht hW2 => ⟨⟨r, (), rfl, rfl, by show va_P D vwCl ws t.heap; rw [ht]; exact hW.1⟩, hW.2.2.F ht⟩) hW.2.2.2.2 hdg hr.2
end RF
theorem rn_KF.go {l : Launch} {D : va_G} {k : Nat → ClassId} {z : (Nat → Nat) × (Nat → Nat)} {y : MethodName} {own : String} {b : ByteArray} {n : Nat} {fr lo : Nat} {av : List Value} {ws ws' : va_W} {r : UInt32} {LOC : List (Nat × Value)} (ho : y.cls = own) (hy : plainName y.cls = true) (hn : (lg_sl av).length ≤ n) (hL : lv_args 0 av = LOC)
    (body : ∀ (p : Program) (e : Env) (s : State) (m : MethodId) (args : Array Value) (below : List Frame) (meth : Method) (c : Code) (A : Nat → Prop) (ls : Array Slot) (R : Room) (Q : State → Prop), rn_X p m c b n s args own D k z A → R = { frames := fr, cells := 0, slots := 0, locals := lo } →
      (∀ (H : Heap) (locs : List Loc) (ls : Array Slot) (pc : Nat), rn_W D A s ws' H locs → decode b pc = .ok (.freturn, 1) → W p l e R s m args below meth c H locs 0 0 Q (F0 m pc ls [.float r])) →
      rn_W D A s ws s.heap [] → lv_has ls n LOC → W p l e R s m args below meth c s.heap [] 0 0 Q (F0 m 0 ls [])) : rn_KF l D k z y b n fr lo av ws ws' r := by
  subst ho
  subst hL
  exact rn_KF.of hy hn (fun p e s m args below meth c A ls X hr hW hl => body p e s m args below meth c A ls _ _ X rfl (fun H locs ls pc hW hd => rr_fret X hr hW hd) hW hl)
section RF2
variable {p : Program} {l : Launch} {e : Env} {R : Room} {s : State} {m : MethodId} {args : Array Value} {below : List Frame} {meth : Method} {c : Code} {H : Heap} {locs : List Loc} {cells slots : Nat} {Q : State → Prop}
variable {cc : ByteArray} {nL : Nat} {own : String} {pc : Nat} {ls : Array Slot} {rest : List Value} {D : va_G} {k : Nat → ClassId} {z : (Nat → Nat) × (Nat → Nat)} {A : Nat → Prop} {ws ws' : va_W}
theorem rr_callF (X : rn_X p m c cc nL s args own D k z A) (hW : rn_W D A s ws H locs) {y : MethodName} {b : ByteArray} {n : Nat} {fr lo : Nat} {b0 : Nat} {As st : List Value} {wc wc' : va_W} {r : UInt32} {idx ci : Nat} {fs : List Value}
    (hM : rn_KF l D k z y b n fr lo (.ref b0 :: As) wc wc' r) (lk : rn_M y b n (some .float) As.length) (hl : Cond.methodLink own idx y ∈ rn_G) (isC isR : List Nat) (ws' : va_W) (hC : isC.map (fun i => ws[i]?) = wc.map some) (hn : va_nd isC = true) (hq : wc[0]? = some (b0, .inr (ci, fs))) (hcl : (vwCl[ci]?).map (fun q => q.1) = some y.cls) (hB : rn_B ws isC isR wc' ws')
    (hR : fr + 1 ≤ R.frames ∧ 8 + (n + 11) + lo ≤ R.locals) (hcs : cells + 0 ≤ R.cells ∧ slots + 0 ≤ R.slots) (hls : ls.size = nL) (hst : st = As.reverse ++ .ref b0 :: rest) (hrm : (rest.map fun v => v.category).sum ≤ 8) (hdg : decode cc pc = .ok (.invokevirtual idx, 3))
    (kk : ∀ (H1 : Heap) (locs1 : List Loc), rn_W D A s ws' H1 locs1 → W p l e R s m args below meth c H1 locs1 cells slots Q (F0 m (pc + 3) ls (.float r :: rest))) : W p l e R s m args below meth c H locs cells slots Q (F0 m pc ls st) := by
  subst hst
  have hF := va_free (wc := wc) hW.2.1 hW.2.2 X.2.2.1 isC hC
  obtain ⟨⟨l1, l2⟩, l3, l4, l5⟩ := lk
  have hs : isC.filterMap (fun i => ws[i]?) = wc := by
    have h1 : (isC.map (fun i => ws[i]?)).filterMap id = (wc.map some).filterMap id := by rw [hC]
    simpa [List.filterMap_map, Function.comp_def] using h1
  have hrecv : ∃ cell : Cell, H[b0]? = some cell ∧ cell.vm.isStatics = false ∧ s.vm.findClass y.cls = some cell.cls := by
    cases hv : vwCl[ci]? with
    | none => rw [hv] at hcl; cases hcl
    | some q =>
      rw [hv] at hcl
      have := va_recv X.2.1 (hW.1.sub isC hs) hv hq
      rw [show q.1 = y.cls from Option.some.inj hcl] at this
      exact this
  have hts := X.1.2.2.2.2
  have cb : CallW R s args own y.cls idx y b n (some .float) (.code y b n (some .float) :: rn_G) { frames := fr, cells := 0, slots := 0, locals := lo } 0 0 As.length := ⟨callB_of As.length hts (rn_Ggd l4) rfl rfl rfl (hts _ l3) (hts _ hl) l5 hR, hts _ l1, hts _ l2⟩
  refine va_callf (va_runV (As := As) (rest := rest) X.1 (hM H.size) cb ⟨rn_blind, hrecv, fun U hU hw => rn_pre hF X hW hC hn hU hw⟩ rfl rfl hls rfl (lv_room hrm) hdg hcs) hW.2.2 (fun q _ h => hF q h) hF (fun r' u t H1 locs1 ht hvm hp hb hz hk hS1 => ?_)
  subst hp
  rw [ht] at hb
  exact kk H1 locs1 (rn_back hW hC hB hb hk hS1)
end RF2
def fX6_lossRate (N : Nat) (c_net_links : Nat → Int32) : Option UInt32 :=
  (fX2_framesSent N c_net_links).bind fun t1 =>
  (fX2_framesOrAnswersLost N c_net_links).bind fun t2 =>
  rn_z (¬ t1 = 0 ∧ rn_nn (FP.fdiv (FP.i2f t2) (FP.i2f t1)) = false) <|
  some (if t1 = 0 then FP.fconst0 else FP.fdiv (FP.i2f t2) (FP.i2f t1))
set_option maxHeartbeats 4000000 in
set_option maxRecDepth 20000 in
theorem kX6_lossRate (l : Launch) (D : va_G) (k : Nat → ClassId) (z : (Nat → Nat) × (Nat → Nat)) (N : Nat) (a_this : Nat) (a_this_setup : Nat) (a_this_net : Nat) (a_this_trial : Nat) (a_this_saved : Nat) (a_this_line : Nat) (a_this_net_stations : Nat) (a_this_net_links : Nat) (a_this_net_messages : Nat) (a_this_net_copies : Nat) (a_this_net_log : Nat) (a_this_net_ways : Nat) (a_this_net_frames : Nat) (a_this_net_links_cells : Nat) (c_latestError : Int32) (c_latestErrorPosition : Int32) (c_net_stationCount : Int32) (c_net_linkCount : Int32) (c_net_messageCount : Int32) (c_net_time : Int32) (c_net_life : Int32) (c_net_tries : Int32) (c_net_x : Int32) (c_net_links : Nat → Int32) {u : UInt32} (hf : fX6_lossRate N c_net_links = some u) : rn_KF l D k z yX6_lossRate cX6_lossRate 2 3 66 [.ref a_this] [(a_this, .inr (6, [.ref a_this_setup, .int c_latestError, .int c_latestErrorPosition, .ref a_this_net, .ref a_this_trial, .ref a_this_saved, .ref a_this_line])), (a_this_net, .inr (2, [.ref a_this_net_stations, .ref a_this_net_links, .ref a_this_net_messages, .ref a_this_net_copies, .ref a_this_net_log, .ref a_this_net_ways, .ref a_this_net_frames, .int c_net_stationCount, .int c_net_linkCount, .int c_net_messageCount, .int c_net_time, .int c_net_life, .int c_net_tries, .int c_net_x])), (a_this_net_links, .inr (4, [.int (16 : Int32), .int (9 : Int32), .ref a_this_net_links_cells])), (a_this_net_links_cells, .inl (k 0, 144, .inl c_net_links))] [(a_this, .inr (6, [.ref a_this_setup, .int c_latestError, .int c_latestErrorPosition, .ref a_this_net, .ref a_this_trial, .ref a_this_saved, .ref a_this_line])), (a_this_net, .inr (2, [.ref a_this_net_stations, .ref a_this_net_links, .ref a_this_net_messages, .ref a_this_net_copies, .ref a_this_net_log, .ref a_this_net_ways, .ref a_this_net_frames, .int c_net_stationCount, .int c_net_linkCount, .int c_net_messageCount, .int c_net_time, .int c_net_life, .int c_net_tries, .int c_net_x])), (a_this_net_links, .inr (4, [.int (16 : Int32), .int (9 : Int32), .ref a_this_net_links_cells])), (a_this_net_links_cells, .inl (k 0, 144, .inl c_net_links))] u := by
  refine rn_KF.go (LOC := [(0, .ref a_this)]) rfl (by decide) (Nat.le_of_ble_eq_true rfl) rfl ?_
  intro p e s m args below meth c A ls R Q X hR hE hW hl
  have hx := X.1.1
  have hb := X.1.2.1
  unfold fX6_lossRate at hf
  obtain ⟨t1, ht1, hf⟩ := rn_bind hf
  obtain ⟨t2, ht2, hf⟩ := rn_bind hf
  obtain ⟨hg, hf⟩ := rn_z_s hf
  cases hf
  refine lv_aload_n hx hb dX6_lossRate_0 rfl (lv_at hl 0 rfl) ?_
  refine rr_get X hW 0 3 gf_X6_26 rfl rfl dX6_lossRate_1 ?_
  refine rr_callI (As := []) (rest := []) X hW (kX2_framesSent l D k z N a_this_net a_this_net_stations a_this_net_links a_this_net_messages a_this_net_copies a_this_net_log a_this_net_ways a_this_net_frames a_this_net_links_cells c_net_stationCount c_net_linkCount c_net_messageCount c_net_time c_net_life c_net_tries c_net_x c_net_links ht1) gm_X2_framesSent gl_X6_243 [1, 2, 3] [0] [(a_this, .inr (6, [.ref a_this_setup, .int c_latestError, .int c_latestErrorPosition, .ref a_this_net, .ref a_this_trial, .ref a_this_saved, .ref a_this_line])), (a_this_net, .inr (2, [.ref a_this_net_stations, .ref a_this_net_links, .ref a_this_net_messages, .ref a_this_net_copies, .ref a_this_net_log, .ref a_this_net_ways, .ref a_this_net_frames, .int c_net_stationCount, .int c_net_linkCount, .int c_net_messageCount, .int c_net_time, .int c_net_life, .int c_net_tries, .int c_net_x])), (a_this_net_links, .inr (4, [.int (16 : Int32), .int (9 : Int32), .ref a_this_net_links_cells])), (a_this_net_links_cells, .inl (k 0, 144, .inl c_net_links))] rfl rfl rfl rfl ⟨rfl, rfl, rn_Bw (wr := [(a_this, .inr (6, [.ref a_this_setup, .int c_latestError, .int c_latestErrorPosition, .ref a_this_net, .ref a_this_trial, .ref a_this_saved, .ref a_this_line]))]) rfl rfl, rfl, rfl⟩ (rn_r hR rfl) rn_cs hl.1 rfl (Nat.le_of_ble_eq_true rfl) dX6_lossRate_4 (fun hn1 H locs hW => ?_)
  refine lv_istore_n (lv' := [(1, .int t1), (0, .ref a_this)]) hx hb dX6_lossRate_7 rfl hl (Nat.le_of_ble_eq_true rfl) rfl (fun ls hl => ?_)
  refine lv_iload_n hx hb dX6_lossRate_8 rfl (lv_at hl 0 rfl) ?_
  refine lv_if_ne (tgt := 16) hx hb dX6_lossRate_9 (by decide) (fun hz => ?_) (fun hz => ?_)
  · have hnn := rn_nn_s (fun h => hg ⟨hz, h⟩)
    rw [if_neg hz] at hE
    refine lv_aload_n hx hb dX6_lossRate_16 rfl (lv_at hl 1 rfl) ?_
    refine rr_get X hW 0 3 gf_X6_26 rfl rfl dX6_lossRate_17 ?_
    refine rr_callI (As := []) (rest := []) X hW (kX2_framesOrAnswersLost l D k z N a_this_net a_this_net_stations a_this_net_links a_this_net_messages a_this_net_copies a_this_net_log a_this_net_ways a_this_net_frames a_this_net_links_cells c_net_stationCount c_net_linkCount c_net_messageCount c_net_time c_net_life c_net_tries c_net_x c_net_links ht2) gm_X2_framesOrAnswersLost gl_X6_246 [1, 2, 3] [0] [(a_this, .inr (6, [.ref a_this_setup, .int c_latestError, .int c_latestErrorPosition, .ref a_this_net, .ref a_this_trial, .ref a_this_saved, .ref a_this_line])), (a_this_net, .inr (2, [.ref a_this_net_stations, .ref a_this_net_links, .ref a_this_net_messages, .ref a_this_net_copies, .ref a_this_net_log, .ref a_this_net_ways, .ref a_this_net_frames, .int c_net_stationCount, .int c_net_linkCount, .int c_net_messageCount, .int c_net_time, .int c_net_life, .int c_net_tries, .int c_net_x])), (a_this_net_links, .inr (4, [.int (16 : Int32), .int (9 : Int32), .ref a_this_net_links_cells])), (a_this_net_links_cells, .inl (k 0, 144, .inl c_net_links))] rfl rfl rfl rfl ⟨rfl, rfl, rn_Bw (wr := [(a_this, .inr (6, [.ref a_this_setup, .int c_latestError, .int c_latestErrorPosition, .ref a_this_net, .ref a_this_trial, .ref a_this_saved, .ref a_this_line]))]) rfl rfl, rfl, rfl⟩ (rn_r hR rfl) rn_cs hl.1 rfl (Nat.le_of_ble_eq_true rfl) dX6_lossRate_20 (fun hn2 H locs hW => ?_)
    refine lv_i2f hx hb dX6_lossRate_23 ?_
    refine lv_iload_n hx hb dX6_lossRate_24 rfl (lv_at hl 0 rfl) ?_
    refine lv_i2f hx hb dX6_lossRate_25 ?_
    refine lv_fdiv hx hb dX6_lossRate_26 hnn ?_
    exact hE _ _ _ _ hW dX6_lossRate_27
  · rw [if_pos hz] at hE
    refine lv_fconst0 hx hb dX6_lossRate_12 ?_
    refine lv_goto (tgt := 27) hx hb dX6_lossRate_13 (by decide) ?_
    exact hE _ _ _ _ hW dX6_lossRate_27
