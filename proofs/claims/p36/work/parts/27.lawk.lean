/-! the law's own methods: contracts, calls (own rows) -/
def rn_max (x y : Int32) : Int32 := if x < y then y else x
def rn_PcM (D : va_G) (k : Nat → ClassId) (z : (Nat → Nat) × (Nat → Nat)) (av : List Value) (ws : va_W) (sz : Nat) : Array Value → State → Prop := fun a U => rn_Pc D k z av ws sz a U ∧ rn_xc U ∧ rn_nc U
theorem rn_blindM {D : va_G} {k : Nat → ClassId} {z : (Nat → Nat) × (Nat → Nat)} {av : List Value} {ws : va_W} {sz : Nat} : FrameBlind (rn_PcM D k z av ws sz) := fun a U g mk q => ⟨rn_blind a U g mk q.1, rn_xc.moved (u := U) (U := U.calling g mk a) (Vm.Alike.refl U.vm) q.2.1, rn_nc.same (u := U) (U := U.calling g mk a) rfl q.2.2⟩
def rn_KM (l : Launch) (D : va_G) (k : Nat → ClassId) (z : (Nat → Nat) × (Nat → Nat)) (y : MethodName) (b : ByteArray) (n : Nat) (fr lo mc : Nat) (av : List Value) (ws ws' : va_W) : Prop :=
  l.stackTraces = false → ∀ sz, Met l y (.code y b n (some .boolean) :: rn_G) { frames := fr, cells := mc, slots := 6 * mc, locals := lo } (rn_PcM D k z av ws sz) (rn_Qi D .boolean 1 ws' (va_A ws sz)) mc (6 * mc) (va_A ws sz)
theorem rn_KM.go {l : Launch} {D : va_G} {k : Nat → ClassId} {z : (Nat → Nat) × (Nat → Nat)} {y : MethodName} {own : String} {b : ByteArray} {n : Nat} {fr lo mc : Nat} {av : List Value} {ws ws' : va_W} {LOC : List (Nat × Value)} (ho : y.cls = own) (hy : plainName y.cls = true) (hn : (lg_sl av).length ≤ n) (hL : lv_args 0 av = LOC)
    (body : ∀ (p : Program) (e : Env) (s : State) (m : MethodId) (args : Array Value) (below : List Frame) (meth : Method) (c : Code) (A : Nat → Prop) (ls : Array Slot) (R : Room) (Q : State → Prop), l.stackTraces = false → rn_xc s → rn_nc s → rn_X p m c b n s args own D k z A → R = { frames := fr, cells := mc, slots := 6 * mc, locals := lo } →
      (∀ (H : Heap) (locs : List Loc) (ls : Array Slot) (pc k1 k2 : Nat), rn_W D A s ws' H locs → narrow .boolean (.int (1 : Int32)) = .int (1 : Int32) → k1 ≤ mc → k2 ≤ 6 * mc → decode b pc = .ok (.ireturn, 1) → W p l e R s m args below meth c H locs k1 k2 Q (F0 m pc ls [.int (1 : Int32)])) →
      rn_W D A s ws s.heap [] → lv_has ls n LOC → W p l e R s m args below meth c s.heap [] 0 0 Q (F0 m 0 ls [])) : rn_KM l D k z y b n fr lo mc av ws ws' := by
  subst ho
  subst hL
  intro hst sz
  refine Met.ofW (cc := b) (maxL := n) (ret := some .boolean) hy rfl ?_
  intro p e s m args below meth c s₁ B hml hv
  obtain ⟨⟨rfl, hsz, hP, hK, hD0, hS0⟩, hxc, hnc⟩ := hv
  subst hsz
  have hts := atoms_spec (ws := .code y b n (some .boolean) :: rn_G) B.pre
  rw [lg_entry_eq]
  have X : rn_X p m c b n s av.toArray y.cls D k z (va_A ws s.heap.size) := ⟨⟨B.exec, B.bytes, hml, findClass_of_methodNamed B.named, fun w hw => hts w (List.mem_cons_of_mem _ hw)⟩, hK, fun q h => Or.inr h, hS0⟩
  refine body p e s m _ below meth c _ _ _ _ hst hxc hnc X rfl ?_ ⟨hP, hD0.self, va_S.rf⟩ (lv_entry av hn)
  intro H locs ls pc k1 k2 hW hnr h1 h2 hd
  exact W.widen h1 h2 (W.zret B.exec B.bytes B.returns hnr (fun t ht hW2 => ⟨⟨(1 : Int32), (), rfl, ⟨rfl, hnr⟩, by show va_P D vwCl ws' t.heap; rw [ht]; exact hW.1⟩, hW.2.2.F ht⟩) hW.2.2.2.2 hd B.notSynchronized)
theorem rn_csm {R : Room} {fr lo mc ms x y a b : Nat} (hR : R = { frames := fr, cells := mc, slots := ms, locals := lo }) (h1 : x + a ≤ mc) (h2 : y + b ≤ ms) : x + a ≤ R.cells ∧ y + b ≤ R.slots := by
  subst hR
  exact ⟨h1, h2⟩
section RM
variable {p : Program} {l : Launch} {e : Env} {R : Room} {s : State} {m : MethodId} {args : Array Value} {below : List Frame} {meth : Method} {c : Code} {H : Heap} {locs : List Loc} {cells slots : Nat} {Q : State → Prop}
variable {cc : ByteArray} {nL : Nat} {own : String} {pc : Nat} {ls : Array Slot} {rest : List Value} {D : va_G} {k : Nat → ClassId} {z : (Nat → Nat) × (Nat → Nat)} {A : Nat → Prop} {ws ws' : va_W}
theorem rr_mmax (X : rn_X p m c cc nL s args own D k z A) (hls : ls.size = nL) {idx : Nat} (lk : rn_MS yJ9_max_7cf53 cJ9_max_7cf53 2 (some .int) 2) (hl : Cond.methodLink own idx yJ9_max_7cf53 ∈ rn_G) (hR : 0 + 1 ≤ R.frames ∧ 8 + (2 + 11) + 0 ≤ R.locals) (hrm : (rest.map fun v => v.category).sum ≤ 8) {x y : Int32} (hdg : decode cc pc = .ok (.invokestatic idx, 3))
    (kk : W p l e R s m args below meth c H locs 0 0 Q (F0 m (pc + 3) ls (.int (rn_max x y) :: rest))) : W p l e R s m args below meth c H locs 0 0 Q (F0 m pc ls (.int y :: .int x :: rest)) := by
  obtain ⟨⟨hx, hb, hml, hown, hts⟩, -⟩ := X
  exact va_mmax hx hb (hml.trans hls.symm) hown (hts _ hl) (hts _ lk.1) (hts _ lk.2.1) (hts _ lk.2.2.1) hR.1 (Nat.le_trans (Nat.add_le_add_right hrm 13) hR.2) (Nat.zero_le _) (Nat.zero_le _) hdg kk
theorem rr_callM (X : rn_X p m c cc nL s args own D k z A) (hxc : rn_xc s) (hnc : rn_nc s) (hst0 : l.stackTraces = false) (hW : rn_W D A s ws H locs) {y : MethodName} {b : ByteArray} {n : Nat} {fr lo mc : Nat} {b0 : Nat} {As st : List Value} {wc wc' : va_W} {idx ci : Nat} {fs : List Value}
    (hM : rn_KM l D k z y b n fr lo mc (.ref b0 :: As) wc wc') (lk : rn_M y b n (some .boolean) As.length) (hl : Cond.methodLink own idx y ∈ rn_G) (isC isR : List Nat) (ws' : va_W) (hC : isC.map (fun i => ws[i]?) = wc.map some) (hn : va_nd isC = true) (hq : wc[0]? = some (b0, .inr (ci, fs))) (hcl : (vwCl[ci]?).map (fun q => q.1) = some y.cls) (hB : rn_B ws isC isR wc' ws')
    (hR : fr + 1 ≤ R.frames ∧ 8 + (n + 11) + lo ≤ R.locals) (hcs : cells + mc ≤ R.cells ∧ slots + 6 * mc ≤ R.slots) (hls : ls.size = nL) (hst : st = As.reverse ++ .ref b0 :: rest) (hrm : (rest.map fun v => v.category).sum ≤ 8) (hdg : decode cc pc = .ok (.invokevirtual idx, 3))
    (kk : narrow .boolean (.int (1 : Int32)) = .int (1 : Int32) → ∀ (H1 : Heap) (locs1 : List Loc), rn_W D A s ws' H1 locs1 → W p l e R s m args below meth c H1 locs1 (cells + mc) (slots + 6 * mc) Q (F0 m (pc + 3) ls (.int (1 : Int32) :: rest))) : W p l e R s m args below meth c H locs cells slots Q (F0 m pc ls st) := by
  subst hst
  have hF := va_free (wc := wc) hW.2.1 hW.2.2 X.2.2.1 isC hC
  obtain ⟨⟨l1, l2⟩, l3, l4, l5⟩ := lk
  have hs : isC.filterMap (fun i => ws[i]?) = wc := by
    have h1 : (isC.map (fun i => ws[i]?)).filterMap id = (wc.map some).filterMap id := by rw [hC]
    simpa [List.filterMap_map, Function.comp_def] using h1
  have hrecv : ∃ cell : Cell, H[b0]? = some cell ∧ cell.vm.isStatics = false ∧ s.vm.findClass y.cls = some cell.cls := by
    cases hv : vwCl[ci]? with
    | none => rw [hv] at hcl; cases hcl
    | some q =>
      rw [hv] at hcl
      have := va_recv X.2.1 (hW.1.sub isC hs) hv hq
      rw [show q.1 = y.cls from Option.some.inj hcl] at this
      exact this
  have hts := X.1.2.2.2.2
  have cb : CallW R s args own y.cls idx y b n (some .boolean) (.code y b n (some .boolean) :: rn_G) { frames := fr, cells := mc, slots := 6 * mc, locals := lo } mc (6 * mc) As.length := ⟨callB_of As.length hts (rn_Ggd l4) rfl rfl rfl (hts _ l3) (hts _ hl) l5 hR, hts _ l1, hts _ l2⟩
  refine va_calli (va_runV (As := As) (rest := rest) X.1 (hM hst0 H.size) cb ⟨rn_blindM, hrecv, fun U hU hw => ⟨rn_pre hF X hW hC hn hU hw, hxc.moved hw.alike, hnc.warm hw⟩⟩ rfl rfl hls rfl (lv_room hrm) hdg hcs) hW.2.2 (fun q _ h => hF q h) hF (fun r' u t H1 locs1 ht hvm hp hb hz hk hS1 => ?_)
  obtain ⟨rfl, hnar⟩ := hp
  rw [ht] at hb
  exact kk hnar H1 locs1 (rn_back hW hC hB hb hk hS1)
theorem rr_wcall0 (X : rn_X p m c cc nL s args own D k z A) (hxc : rn_xc s) (hst0 : l.stackTraces = false) (hW : rn_W D A s ws H locs) {y : MethodName} {b : ByteArray} {n : Nat} {hh : List (Nat × Nat × Nat × Nat)} {fr lo : Nat} {As st : List Value} {wc wc' : va_W} {kk : Nat} {r : Int32} {idx : Nat}
    (hM : rn_KW l D k z y b n hh fr lo As wc wc' kk r) (hk : kk = 0) (lk : rn_MSW y b n hh As.length) (hl : Cond.methodLink own idx y ∈ rn_G) (isC isR : List Nat) (ws' : va_W) (hC : isC.map (fun i => ws[i]?) = wc.map some) (hn : va_nd isC = true) (hB : rn_B ws isC isR wc' ws')
    (hR : fr + 1 ≤ R.frames ∧ 8 + (n + 11) + lo ≤ R.locals) (hcs : cells + 0 ≤ R.cells ∧ slots + 0 ≤ R.slots) (hls : ls.size = nL) (hst : st = As.reverse ++ rest) (hrm : (rest.map fun v => v.category).sum ≤ 8) (hdg : decode cc pc = .ok (.invokestatic idx, 3))
    (kg : ∀ (H1 : Heap) (locs1 : List Loc), rn_W D A s ws' H1 locs1 → W p l e R s m args below meth c H1 locs1 cells slots Q (F0 m (pc + 3) ls (.int r :: rest))) : W p l e R s m args below meth c H locs cells slots Q (F0 m pc ls st) := by
  subst hk
  exact rr_wcall X hxc hst0 hW hM lk hl isC isR ws' hC hn hB hR hcs hls hst hrm hdg kg
theorem rr_wcall1 (X : rn_X p m c cc nL s args own D k z A) (hxc : rn_xc s) (hst0 : l.stackTraces = false) (hW : rn_W D A s ws H locs) {y : MethodName} {b : ByteArray} {n : Nat} {hh : List (Nat × Nat × Nat × Nat)} {fr lo : Nat} {As st : List Value} {wc wc' : va_W} {kk : Nat} {r : Int32} {idx : Nat}
    (hM : rn_KW l D k z y b n hh fr lo As wc wc' kk r) (lk : rn_MSW y b n hh As.length) (hl : Cond.methodLink own idx y ∈ rn_G) (isC isR : List Nat) (ws' : va_W) (hC : isC.map (fun i => ws[i]?) = wc.map some) (hn : va_nd isC = true) (hB : rn_B ws isC isR wc' ws')
    (hR : fr + 1 ≤ R.frames ∧ 8 + (n + 11) + lo ≤ R.locals) (hcs : cells + 1 ≤ R.cells ∧ slots + 6 ≤ R.slots) (hls : ls.size = nL) (hst : st = As.reverse ++ rest) (hrm : (rest.map fun v => v.category).sum ≤ 8) (hdg : decode cc pc = .ok (.invokestatic idx, 3))
    (kg : ∀ (H1 : Heap) (locs1 : List Loc), rn_W D A s ws' H1 locs1 → W p l e R s m args below meth c H1 locs1 (cells + 1) (slots + 6) Q (F0 m (pc + 3) ls (.int r :: rest))) : W p l e R s m args below meth c H locs cells slots Q (F0 m pc ls st) := by
  have h1 := ec_le kk
  exact rr_wcall X hxc hst0 hW hM lk hl isC isR ws' hC hn hB hR ⟨by omega, by omega⟩ hls hst hrm hdg (fun H1 locs1 hW1 => W.widen (by omega) (by omega) (kg H1 locs1 hW1))
end RM
