/-! the law: frames beside the cells, the doubles' calls (own rows) -/
theorem rn_frC {ws sv wc : va_W} {isC : List Nat} (h : isC.map (fun i => ws[i]?) = wc.map some) : isC.map (fun i => (ws ++ sv)[i]?) = wc.map some := by
  rw [← h]
  apply List.map_congr_left
  intro i hi
  have h1 : ws[i]? ∈ wc.map some := by rw [← h]; exact List.mem_map.mpr ⟨i, hi, rfl⟩
  obtain ⟨x, -, hx⟩ := List.mem_map.mp h1
  have h2 : i < ws.length := (List.getElem?_eq_some_iff.mp hx.symm).1
  exact List.getElem?_append_left h2
theorem rn_frB {ws sv wc' ws' : va_W} {isC isR : List Nat} (h : rn_B ws isC isR wc' ws') : rn_B (ws ++ sv) isC (isR ++ (List.range sv.length).map (fun j => ws.length + j)) wc' (ws' ++ sv) := by
  obtain ⟨h1, h2, h3, h4, h5⟩ := h
  have hl : ws'.length = ws.length := by
    have h := congrArg List.length h1
    simpa using h
  refine ⟨by rw [List.map_append, List.map_append, h1], rn_frC h2, ?_, ?_, ?_⟩
  · apply List.map_congr_left
    intro i hi
    rcases Nat.lt_or_ge i ws.length with hlt | hge
    · rw [List.getElem?_append_left hlt, List.getElem?_append_left (by omega)]
      rcases List.mem_append.mp hi with h | h
      · exact List.map_inj_left.mp h3 i h
      · obtain ⟨j, -, hj⟩ := List.mem_map.mp h
        omega
    · rw [List.getElem?_append_right hge, List.getElem?_append_right (by omega), hl]
  · rw [List.all_eq_true]
    intro i hi
    have hi2 : i < ws.length + sv.length := by simpa using hi
    rcases Nat.lt_or_ge i ws.length with hlt | hge
    · have h6 := List.all_eq_true.mp h4 i (List.mem_range.mpr hlt)
      simp only [Bool.or_eq_true, List.contains_iff_mem, List.mem_append] at h6 ⊢
      rcases h6 with h | h
      · exact Or.inl h
      · exact Or.inr (Or.inl h)
    · simp only [Bool.or_eq_true, List.contains_iff_mem, List.mem_append, List.mem_map, List.mem_range]
      exact Or.inr (Or.inr ⟨i - ws.length, by omega, by omega⟩)
  · rw [List.all_eq_true]
    intro i hi
    rcases List.mem_append.mp hi with h | h
    · exact List.all_eq_true.mp h5 i h
    · obtain ⟨j, -, hj⟩ := List.mem_map.mp h
      have h7 : i ∉ isC := by
        intro hm
        have h8 : ws'[i]? ∈ wc'.map some := by rw [← h2]; exact List.mem_map.mpr ⟨i, hm, rfl⟩
        obtain ⟨x, -, hx⟩ := List.mem_map.mp h8
        have h9 := (List.getElem?_eq_some_iff.mp hx.symm).1
        omega
      simpa using h7
theorem lg_cmp_rfl (x : Int64) : lg_cmp x x = 0 := by
  unfold lg_cmp
  rw [if_neg (by simp), if_pos rfl]
section RDD
variable {p : Program} {l : Launch} {e : Env} {R : Room} {s : State} {m : MethodId} {args : Array Value} {below : List Frame} {meth : Method} {c : Code} {H : Heap} {locs : List Loc} {cells slots : Nat} {Q : State → Prop}
variable {cc : ByteArray} {nL : Nat} {own : String} {pc : Nat} {ls : Array Slot} {rest : List Value} {D : va_G} {k : Nat → ClassId} {z : (Nat → Nat) × (Nat → Nat)} {A : Nat → Prop} {ws ws' : va_W}
theorem rr_callD {d0 : Drawn} (hd0 : s.drawn.sameBut d0 lw_cs) (X : rn_X p m c cc nL s args own D k z A) (hW : rn_W D A s ws H locs) {y : MethodName} {b : ByteArray} {n : Nat} {fr lo : Nat} {b0 : Nat} {As st : List Value} {wc wc' : va_W} {P : UInt64 → Prop} {idx ci : Nat} {fs : List Value}
    (hM : rn_KD l D k z y b n fr lo (.ref b0 :: As) wc wc' P) (lk : rn_M y b n (some .double) As.length) (hl : Cond.methodLink own idx y ∈ rn_G) (isC isR : List Nat) (ws' : va_W) (hC : isC.map (fun i => ws[i]?) = wc.map some) (hn : va_nd isC = true) (hq : wc[0]? = some (b0, .inr (ci, fs))) (hcl : (vwCl[ci]?).map (fun q => q.1) = some y.cls) (hB : rn_B ws isC isR wc' ws')
    (hR : fr + 1 ≤ R.frames ∧ 8 + (n + 11) + lo ≤ R.locals) (hcs : cells + 0 ≤ R.cells ∧ slots + 0 ≤ R.slots) (hls : ls.size = nL) (hst : st = As.reverse ++ .ref b0 :: rest) (hrm : (rest.map fun v => v.category).sum ≤ 8) (hdg : decode cc pc = .ok (.invokevirtual idx, 3))
    (kk : ∀ (r : UInt64) (d1 : Drawn), P r → s.drawn.sameBut d1 lw_cs → ∀ (H1 : Heap) (locs1 : List Loc), rn_W D A s ws' H1 locs1 → W p l e R (s.setDrawn d1) m args below meth c H1 locs1 cells slots Q (F0 m (pc + 3) ls (.double r :: rest))) : W p l e R (s.setDrawn d0) m args below meth c H locs cells slots Q (F0 m pc ls st) := by
  subst hst
  have X' := X.dr d0
  have hW' : rn_W D A (s.setDrawn d0) ws H locs := hW
  have hF := va_free (wc := wc) hW.2.1 hW.2.2 X.2.2.1 isC hC
  obtain ⟨⟨l1, l2⟩, l3, l4, l5⟩ := lk
  have hs : isC.filterMap (fun i => ws[i]?) = wc := by
    have h1 : (isC.map (fun i => ws[i]?)).filterMap id = (wc.map some).filterMap id := by rw [hC]
    simpa [List.filterMap_map, Function.comp_def] using h1
  have hrecv : ∃ cell : Cell, H[b0]? = some cell ∧ cell.vm.isStatics = false ∧ (s.setDrawn d0).vm.findClass y.cls = some cell.cls := by
    cases hv : vwCl[ci]? with
    | none => rw [hv] at hcl; cases hcl
    | some q =>
      rw [hv] at hcl
      have := va_recv X'.2.1 (hW.1.sub isC hs) hv hq
      rw [show q.1 = y.cls from Option.some.inj hcl] at this
      exact this
  have hts := X'.1.2.2.2.2
  have cb : CallW R (s.setDrawn d0) args own y.cls idx y b n (some .double) (.code y b n (some .double) :: rn_G) { frames := fr, cells := 0, slots := 0, locals := lo } 0 0 As.length := ⟨callB_of As.length hts (rn_Ggd l4) rfl rfl rfl (hts _ l3) (hts _ hl) l5 hR, hts _ l1, hts _ l2⟩
  refine va_calldD hd0 (va_runV_D (As := As) (rest := rest) X'.1 (hM H.size) cb ⟨rn_blind, hrecv, fun U hU hw => rn_pre hF X' hW' hC hn hU hw⟩ rfl rfl hls rfl (lv_room hrm) hdg hcs) hW.2.2 (fun q _ h => hF q h) hF (fun r u t H1 locs1 ht hvm hp hb hz hk hS1 d1 hd1 => ?_)
  rw [ht] at hb
  exact kk r d1 hp hd1 H1 locs1 (rn_back hW hC hB hb hk hS1)
theorem rr_callF {d0 : Drawn} (hd0 : s.drawn.sameBut d0 lw_cs) (X : rn_X p m c cc nL s args own D k z A) (hW : rn_W D A s ws H locs) {y : MethodName} {b : ByteArray} {n : Nat} {fr lo : Nat} {b0 : Nat} {As st : List Value} {wc wc' : va_W} {P : UInt32 → Prop} {idx ci : Nat} {fs : List Value}
    (hM : rn_KF l D k z y b n fr lo (.ref b0 :: As) wc wc' P) (lk : rn_M y b n (some .float) As.length) (hl : Cond.methodLink own idx y ∈ rn_G) (isC isR : List Nat) (ws' : va_W) (hC : isC.map (fun i => ws[i]?) = wc.map some) (hn : va_nd isC = true) (hq : wc[0]? = some (b0, .inr (ci, fs))) (hcl : (vwCl[ci]?).map (fun q => q.1) = some y.cls) (hB : rn_B ws isC isR wc' ws')
    (hR : fr + 1 ≤ R.frames ∧ 8 + (n + 11) + lo ≤ R.locals) (hcs : cells + 0 ≤ R.cells ∧ slots + 0 ≤ R.slots) (hls : ls.size = nL) (hst : st = As.reverse ++ .ref b0 :: rest) (hrm : (rest.map fun v => v.category).sum ≤ 8) (hdg : decode cc pc = .ok (.invokevirtual idx, 3))
    (kk : ∀ (r : UInt32) (d1 : Drawn), P r → s.drawn.sameBut d1 lw_cs → ∀ (H1 : Heap) (locs1 : List Loc), rn_W D A s ws' H1 locs1 → W p l e R (s.setDrawn d1) m args below meth c H1 locs1 cells slots Q (F0 m (pc + 3) ls (.float r :: rest))) : W p l e R (s.setDrawn d0) m args below meth c H locs cells slots Q (F0 m pc ls st) := by
  subst hst
  have X' := X.dr d0
  have hW' : rn_W D A (s.setDrawn d0) ws H locs := hW
  have hF := va_free (wc := wc) hW.2.1 hW.2.2 X.2.2.1 isC hC
  obtain ⟨⟨l1, l2⟩, l3, l4, l5⟩ := lk
  have hs : isC.filterMap (fun i => ws[i]?) = wc := by
    have h1 : (isC.map (fun i => ws[i]?)).filterMap id = (wc.map some).filterMap id := by rw [hC]
    simpa [List.filterMap_map, Function.comp_def] using h1
  have hrecv : ∃ cell : Cell, H[b0]? = some cell ∧ cell.vm.isStatics = false ∧ (s.setDrawn d0).vm.findClass y.cls = some cell.cls := by
    cases hv : vwCl[ci]? with
    | none => rw [hv] at hcl; cases hcl
    | some q =>
      rw [hv] at hcl
      have := va_recv X'.2.1 (hW.1.sub isC hs) hv hq
      rw [show q.1 = y.cls from Option.some.inj hcl] at this
      exact this
  have hts := X'.1.2.2.2.2
  have cb : CallW R (s.setDrawn d0) args own y.cls idx y b n (some .float) (.code y b n (some .float) :: rn_G) { frames := fr, cells := 0, slots := 0, locals := lo } 0 0 As.length := ⟨callB_of As.length hts (rn_Ggd l4) rfl rfl rfl (hts _ l3) (hts _ hl) l5 hR, hts _ l1, hts _ l2⟩
  refine va_callfD hd0 (va_runV_D (As := As) (rest := rest) X'.1 (hM H.size) cb ⟨rn_blind, hrecv, fun U hU hw => rn_pre hF X' hW' hC hn hU hw⟩ rfl rfl hls rfl (lv_room hrm) hdg hcs) hW.2.2 (fun q _ h => hF q h) hF (fun r u t H1 locs1 ht hvm hp hb hz hk hS1 d1 hd1 => ?_)
  rw [ht] at hb
  exact kk r d1 hp hd1 H1 locs1 (rn_back hW hC hB hb hk hS1)
end RDD
