/-! methods that throw, and the law's catching of it (own rows) -/
def rn_en : List String := ["java/lang/RuntimeException", "java/lang/Exception"]
def rn_ex (k : Nat) : String := if k = 1 then "java/lang/IllegalArgumentException" else if k = 2 then "java/lang/IllegalStateException" else "java/lang/IndexOutOfBoundsException"
def rn_cst (C : String) (U : State) : Prop := (Cond.castable C C).before #[] U = true
theorem rn_cst.moved {C : String} {u U : State} (hvm : u.vm.Alike U.vm) (h : rn_cst C u) : rn_cst C U := by
  have e := Cond.onTables_vm (A := #[]) (A' := #[]) (U := u) (U' := U) U.vm (Cond.castable C C) rfl
  have hU : U.setVm U.vm = U := rfl
  rw [hU] at e
  show (Cond.castable C C).before #[] U = true
  rw [← e, Cond.castable_setVm hvm]
  exact h
def rn_dc (C : String) (U : State) : Prop := va_Nw (.declares (Bundle.initS C)) U
theorem rn_dc.moved {C : String} {u U : State} (hvm : u.vm.Alike U.vm) (h : rn_dc C u) : rn_dc C U := va_tabs rfl (rfl : (u.setVm U.vm).vm = U.vm) (by rw [Cond.declares_setVm hvm]; exact h)
def rn_xd (U : State) : Prop := rn_dc "java/lang/RuntimeException" U ∧ rn_dc "java/lang/Exception" U ∧ rn_dc "java/lang/Throwable" U
def rn_xc (U : State) : Prop := rn_xd U ∧ (rn_cst (rn_ex 1) U ∧ rn_cst (rn_ex 2) U ∧ rn_cst (rn_ex 3) U) ∧ (va_Nc (rn_ex 1) (rn_ex 2) U ∧ va_Nc (rn_ex 1) (rn_ex 3) U) ∧ (va_Nc (rn_ex 2) (rn_ex 1) U ∧ va_Nc (rn_ex 2) (rn_ex 3) U) ∧ va_Nc (rn_ex 3) (rn_ex 1) U ∧ va_Nc (rn_ex 3) (rn_ex 2) U
theorem rn_xc.moved {u U : State} (v : u.vm.Alike U.vm) (h : rn_xc u) : rn_xc U :=
  ⟨⟨h.1.1.moved v, h.1.2.1.moved v, h.1.2.2.moved v⟩, ⟨h.2.1.1.moved v, h.2.1.2.1.moved v, h.2.1.2.2.moved v⟩, ⟨h.2.2.1.1.moved v, h.2.2.1.2.moved v⟩, ⟨h.2.2.2.1.1.moved v, h.2.2.2.1.2.moved v⟩, h.2.2.2.2.1.moved v, h.2.2.2.2.2.moved v⟩
def rn_PcT (D : va_G) (k : Nat → ClassId) (z : (Nat → Nat) × (Nat → Nat)) (av : List Value) (ws : va_W) (sz : Nat) : Array Value → State → Prop := fun a U => rn_Pc D k z av ws sz a U ∧ rn_xc U
theorem rn_blindT {D : va_G} {k : Nat → ClassId} {z : (Nat → Nat) × (Nat → Nat)} {av : List Value} {ws : va_W} {sz : Nat} : FrameBlind (rn_PcT D k z av ws sz) := fun a U g mk q => ⟨rn_blind a U g mk q.1, rn_xc.moved (u := U) (U := U.calling g mk a) (Vm.Alike.refl U.vm) q.2⟩
/-- what a throw costs -/
def ec (kk : Nat) : Nat := if kk = 0 then 0 else 1
theorem ec0 {kk : Nat} (h : kk = 0) : ec kk = 0 := if_pos h
theorem ec1 {kk : Nat} (h : kk ≠ 0) : ec kk = 1 := if_neg h
theorem ec_le (kk : Nat) : ec kk ≤ 1 := by unfold ec; split <;> omega
def rn_XT (D : va_G) (kk : Nat) (ws' : va_W) (A : Nat → Prop) : String → State → State → Prop := vx_X (fun (_ : Unit) => kk ≠ 0) (fun E _ t => E = rn_ex kk ∧ va_P D vwCl ws' t.heap) A
def rn_QTi (D : va_G) (ty : FieldType) (kk : Nat) (r : Int32) (ws' : va_W) (A : Nat → Prop) : Array Value → State → Outcome → State → Prop := va_Qi (fun (r' : Int32) (_ : Unit) => kk = 0 ∧ r' = r ∧ narrow ty (.int r) = .int r) (fun _ t => va_P D vwCl ws' t.heap) A
def rn_QTv (D : va_G) (kk : Nat) (ws' : va_W) (A : Nat → Prop) : Array Value → State → Outcome → State → Prop := va_Qv (fun (_ : Unit) => kk = 0) (fun _ t => va_P D vwCl ws' t.heap) A
def rn_KTI (l : Launch) (D : va_G) (k : Nat → ClassId) (z : (Nat → Nat) × (Nat → Nat)) (y : MethodName) (b : ByteArray) (n : Nat) (ty : FieldType) (fr lo : Nat) (av : List Value) (ws ws' : va_W) (kk : Nat) (r : Int32) : Prop :=
  l.stackTraces = false → ∀ sz, vx_Met l y (.code y b n (some ty) :: rn_G) { frames := fr, cells := ec kk, slots := 6 * ec kk, locals := lo } (rn_PcT D k z av ws sz) (rn_QTi D ty kk r ws' (va_A ws sz)) (rn_XT D kk ws' (va_A ws sz)) (ec kk) (6 * ec kk) (va_A ws sz)
def rn_KTV (l : Launch) (D : va_G) (k : Nat → ClassId) (z : (Nat → Nat) × (Nat → Nat)) (y : MethodName) (b : ByteArray) (n : Nat) (fr lo : Nat) (av : List Value) (ws ws' : va_W) (kk : Nat) : Prop :=
  l.stackTraces = false → ∀ sz, vx_Met l y (.code y b n none :: rn_G) { frames := fr, cells := ec kk, slots := 6 * ec kk, locals := lo } (rn_PcT D k z av ws sz) (rn_QTv D kk ws' (va_A ws sz)) (rn_XT D kk ws' (va_A ws sz)) (ec kk) (6 * ec kk) (va_A ws sz)
def rn_KW (l : Launch) (D : va_G) (k : Nat → ClassId) (z : (Nat → Nat) × (Nat → Nat)) (y : MethodName) (b : ByteArray) (n : Nat) (hh : List (Nat × Nat × Nat × Nat)) (fr lo : Nat) (av : List Value) (ws ws' : va_W) (kk : Nat) (r : Int32) : Prop :=
  l.stackTraces = false → ∀ sz, vx_Met l y (.codeWith y b n (some .int) hh :: rn_G) { frames := fr, cells := ec kk, slots := 6 * ec kk, locals := lo } (rn_PcT D k z av ws sz) (rn_QTi D .int 0 r ws' (va_A ws sz)) (rn_XT D 0 ws' (va_A ws sz)) (ec kk) (6 * ec kk) (va_A ws sz)
/-- the words of a throw of the class number kk -/
def rn_TW (own : String) (kk ik ic : Nat) : Prop :=
  Bundle.fit (rn_ex kk) = true ∧ Cond.classLink own ik (rn_ex kk) ∈ rn_G ∧ Cond.initialized (rn_ex kk) ∈ rn_G ∧ (∀ w ∈ (vx_atS own ic (rn_ex kk) rn_en).filter goodWord, w ∈ rn_G) ∧ (∀ w ∈ (vx_atS own ic (rn_ex kk) rn_en).filter (fun w => !goodWord w), w ∈ [Cond.castable (rn_ex kk) (rn_ex kk), Cond.declares (Bundle.initS "java/lang/RuntimeException"), Cond.declares (Bundle.initS "java/lang/Exception"), Cond.declares (Bundle.initS "java/lang/Throwable")]) ∧ (∀ w ∈ Cond.classLink own ik (rn_ex kk) :: Cond.initialized (rn_ex kk) :: vx_atS own ic (rn_ex kk) rn_en, vx_ot w = true)
def rn_MSW (y : MethodName) (b : ByteArray) (n : Nat) (hh : List (Nat × Nat × Nat × Nat)) (na : Nat) : Prop :=
  .static y ∈ rn_G ∧ .initialized y.cls ∈ rn_G ∧ .codeWith y b n (some .int) hh ∈ rn_G ∧ (y.cls ≠ "java/lang/invoke/MethodHandle" ∧ y.cls ≠ "java/lang/invoke/VarHandle" ∧ (parseMethodDescriptor y.desc).map (fun d => d.parameters.length) = some na)
theorem rn_rT {R : Room} {fr lo f n lo' c0 s0 : Nat} (hR : R = { frames := fr, cells := c0, slots := s0, locals := lo }) (h : (Nat.ble (f + 1) fr && Nat.ble (8 + (n + 11) + lo') lo) = true) : f + 1 ≤ R.frames ∧ 8 + (n + 11) + lo' ≤ R.locals := by
  subst hR
  simp only [Bool.and_eq_true] at h
  exact ⟨Nat.le_of_ble_eq_true h.1, Nat.le_of_ble_eq_true h.2⟩
theorem rn_cs1 {R : Room} {fr lo kk : Nat} (hR : R = { frames := fr, cells := ec kk, slots := 6 * ec kk, locals := lo }) : 0 + ec kk ≤ R.cells ∧ 0 + 6 * ec kk ≤ R.slots := by
  subst hR
  exact ⟨Nat.le_of_eq (Nat.zero_add _), Nat.le_of_eq (Nat.zero_add _)⟩
section RT
variable {p : Program} {l : Launch} {e : Env} {R : Room} {s : State} {m : MethodId} {args : Array Value} {below : List Frame} {meth : Method} {c : Code} {H : Heap} {locs : List Loc} {cells slots : Nat} {Q : State → Prop}
variable {cc : ByteArray} {nL : Nat} {own : String} {pc : Nat} {ls : Array Slot} {rest : List Value} {D : va_G} {k : Nat → ClassId} {z : (Nat → Nat) × (Nat → Nat)} {A : Nat → Prop} {ws ws' : va_W}
theorem rn_keep (hW : rn_W D A s ws H locs) {t : State} (h1 : H.size ≤ t.heap.size) (h2 : ∀ q : Nat, q < H.size → t.heap[q]? = H[q]?) : va_P D vwCl ws t.heap ∧ va_F A s t :=
  ⟨fun i q hq => (hW.1 i q hq).kept (h2 q.1 (hW.1 i q hq).lt), Nat.le_trans hW.2.2.1 h1, fun q h3 h4 => (h2 q (Nat.lt_of_lt_of_le h3 hW.2.2.1)).trans (hW.2.2.2.1 q h3 h4)⟩
theorem rr_thr {Qc : Array Value → State → Outcome → State → Prop} (X : rn_X p m c cc nL s args own D k z A) {kk ik is ic j : Nat} (hxd : rn_xd s) (hxc : rn_cst (rn_ex kk) s) (hst : l.stackTraces = false) (hlocks : meth.locks = false) (htab : ∀ x ∈ c.exceptionTable.toList, False) {tx : String} {w : List Int32} (T : rn_TW own kk ik ic) (hk : kk ≠ 0) (hq : rn_str[j]? = some (own, is, tx, w)) (hW : rn_W D A s ws H locs) (hls : ls.size = nL)
    (hR : 6 ≤ R.frames ∧ 82 ≤ R.locals ∧ 1 ≤ R.cells ∧ 6 ≤ R.slots) (d0 : decode cc pc = .ok (.new ik, 3)) (d3 : decode cc (pc + 3) = .ok (.dup, 1)) (d4 : decode cc (pc + 4) = .ok (.ldc is, 2)) (d6 : decode cc (pc + 6) = .ok (.invokespecial ic, 3)) (d9 : decode cc (pc + 9) = .ok (.athrow, 1)) :
    W p l e R s m args below meth c H locs 0 0 (vx_MQ below Qc (rn_XT D kk ws A) args s 1 6 A) (F0 m pc ls []) := by
  obtain ⟨t1, t2, t3, t4, t5, t6⟩ := T
  have hts := X.1.2.2.2.2
  exact vx_throwS (free := A) (names := rn_en) X.1.1 X.1.2.1 hst X.1.2.2.2.1 t1 (by decide) (hts _ t2) (hts _ t3) (X.2.2.2.1 j _ hq).1 (vx_hat (fun w hw => hts w (t4 w hw)) t5 (vx_c (va_any rfl hxc) (vx_c (va_Nw.use rfl hxd.1) (vx_c (va_Nw.use rfl hxd.2.1) (vx_c (va_Nw.use rfl hxd.2.2) vx_n))))) t6 X.2.2.2.2.2.2.1 X.2.2.2.2.2.2.2 hW.2.2 (hls.trans X.1.2.2.1.symm) d0 d3 d4 d6 d9 (fun x hx => absurd (htab x hx) not_false)
    hR.1 hR.2.1 (by rw [Nat.zero_add]; exact hR.2.2.1) (by rw [Nat.zero_add]; exact hR.2.2.2) hlocks (fun t _ h1 h2 => ⟨(), hk, ⟨rfl, (rn_keep hW h1 h2).1⟩, (rn_keep hW h1 h2).2⟩) hW.2.2.2.2 (Nat.le_refl _) (Nat.le_refl _)
theorem rr_thrW {Qc : Array Value → State → Outcome → State → Prop} (X : rn_X p m c cc nL s args own D k z A) {kk ik is ic j : Nat} (hxd : rn_xd s) (hxc : rn_cst (rn_ex kk) s) (hst : l.stackTraces = false) (hlocks : meth.locks = false) (htab : ∀ x ∈ c.exceptionTable.toList, False) {tx : String} {w : List Int32} (T : rn_TW own kk ik ic) (hk : kk ≠ 0) (hq : rn_str[j]? = some (own, is, tx, w)) (hW : rn_W D A s ws H locs) (hls : ls.size = nL)
    (hR : 6 ≤ R.frames ∧ 82 ≤ R.locals ∧ 1 ≤ R.cells ∧ 6 ≤ R.slots) (d0 : decode cc pc = .ok (.new ik, 3)) (d3 : decode cc (pc + 3) = .ok (.dup, 1)) (d4 : decode cc (pc + 4) = .ok (.ldc_w is, 3)) (d7 : decode cc (pc + 7) = .ok (.invokespecial ic, 3)) (d10 : decode cc (pc + 10) = .ok (.athrow, 1)) :
    W p l e R s m args below meth c H locs 0 0 (vx_MQ below Qc (rn_XT D kk ws A) args s 1 6 A) (F0 m pc ls []) := by
  obtain ⟨t1, t2, t3, t4, t5, t6⟩ := T
  have hts := X.1.2.2.2.2
  exact vx_throwSW (free := A) (names := rn_en) X.1.1 X.1.2.1 hst X.1.2.2.2.1 t1 (by decide) (hts _ t2) (hts _ t3) (X.2.2.2.1 j _ hq).1 (vx_hat (fun w hw => hts w (t4 w hw)) t5 (vx_c (va_any rfl hxc) (vx_c (va_Nw.use rfl hxd.1) (vx_c (va_Nw.use rfl hxd.2.1) (vx_c (va_Nw.use rfl hxd.2.2) vx_n))))) t6 X.2.2.2.2.2.2.1 X.2.2.2.2.2.2.2 hW.2.2 (hls.trans X.1.2.2.1.symm) d0 d3 d4 d7 d10 (fun x hx => absurd (htab x hx) not_false)
    hR.1 hR.2.1 (by rw [Nat.zero_add]; exact hR.2.2.1) (by rw [Nat.zero_add]; exact hR.2.2.2) hlocks (fun t _ h1 h2 => ⟨(), hk, ⟨rfl, (rn_keep hW h1 h2).1⟩, (rn_keep hW h1 h2).2⟩) hW.2.2.2.2 (Nat.le_refl _) (Nat.le_refl _)
/-- the throws of a body, with an abstract goal -/
def rn_TH (p : Program) (l : Launch) (e : Env) (R : Room) (s : State) (m : MethodId) (args : Array Value) (below : List Frame) (meth : Method) (c : Code) (cc : ByteArray) (nL : Nat) (own : String) (D : va_G) (A : Nat → Prop) (Q : State → Prop) (kk : Nat) (ws' : va_W) : Prop :=
  (∀ (H : Heap) (locs : List Loc) (ls : Array Slot) (pc ik is ic j : Nat) (tx : String) (w : List Int32), rn_W D A s ws' H locs → ls.size = nL → kk ≠ 0 → rn_TW own kk ik ic → rn_str[j]? = some (own, is, tx, w) → decode cc pc = .ok (.new ik, 3) → decode cc (pc + 3) = .ok (.dup, 1) → decode cc (pc + 4) = .ok (.ldc is, 2) → decode cc (pc + 6) = .ok (.invokespecial ic, 3) → decode cc (pc + 9) = .ok (.athrow, 1) → W p l e R s m args below meth c H locs 0 0 Q (F0 m pc ls [])) ∧
  (∀ (H : Heap) (locs : List Loc) (ls : Array Slot) (pc ik is ic j : Nat) (tx : String) (w : List Int32), rn_W D A s ws' H locs → ls.size = nL → kk ≠ 0 → rn_TW own kk ik ic → rn_str[j]? = some (own, is, tx, w) → decode cc pc = .ok (.new ik, 3) → decode cc (pc + 3) = .ok (.dup, 1) → decode cc (pc + 4) = .ok (.ldc_w is, 3) → decode cc (pc + 7) = .ok (.invokespecial ic, 3) → decode cc (pc + 10) = .ok (.athrow, 1) → W p l e R s m args below meth c H locs 0 0 Q (F0 m pc ls []))
theorem rn_xk {s : State} {kk : Nat} (h : rn_xc s) (hk : kk ≠ 0) : rn_cst (rn_ex kk) s := by
  match kk, hk with
  | 0, h0 => exact absurd rfl h0
  | 1, _ => exact h.2.1.1
  | 2, _ => exact h.2.1.2.1
  | n + 3, _ => exact h.2.1.2.2
end RT
theorem rn_KTI.go {l : Launch} {D : va_G} {k : Nat → ClassId} {z : (Nat → Nat) × (Nat → Nat)} {y : MethodName} {own : String} {b : ByteArray} {n : Nat} {ty : FieldType} {fr lo : Nat} {av : List Value} {ws ws' : va_W} {kk : Nat} {r : Int32} {LOC : List (Nat × Value)} (ho : y.cls = own) (hy : plainName y.cls = true) (hn : (lg_sl av).length ≤ n) (hL : lv_args 0 av = LOC) (hfr : (Nat.ble 6 fr && Nat.ble 82 lo) = true)
    (body : ∀ (p : Program) (e : Env) (s : State) (m : MethodId) (args : Array Value) (below : List Frame) (meth : Method) (c : Code) (A : Nat → Prop) (ls : Array Slot) (R : Room) (Q : State → Prop), rn_X p m c b n s args own D k z A → R = { frames := fr, cells := ec kk, slots := 6 * ec kk, locals := lo } →
      (∀ (H : Heap) (locs : List Loc) (ls : Array Slot) (pc : Nat), rn_W D A s ws' H locs → narrow ty (.int r) = .int r → kk = 0 → decode b pc = .ok (.ireturn, 1) → W p l e R s m args below meth c H locs 0 0 Q (F0 m pc ls [.int r])) →
      rn_TH p l e R s m args below meth c b n own D A Q kk ws' →
      rn_W D A s ws s.heap [] → lv_has ls n LOC → W p l e R s m args below meth c s.heap [] 0 0 Q (F0 m 0 ls [])) : rn_KTI l D k z y b n ty fr lo av ws ws' kk r := by
  subst ho
  subst hL
  intro hst sz
  simp only [Bool.and_eq_true] at hfr
  refine vx_ofW (cc := b) (maxL := n) (ret := some ty) hy rfl ?_
  intro p e s m args below meth c s₁ B hml htab hv
  obtain ⟨⟨rfl, hsz, hP, hK, hD0, hS0⟩, hxc⟩ := hv
  subst hsz
  have hts := atoms_spec (ws := .code y b n (some ty) :: rn_G) B.pre
  rw [lg_entry_eq]
  have X : rn_X p m c b n s av.toArray y.cls D k z (va_A ws s.heap.size) := ⟨⟨B.exec, B.bytes, hml, findClass_of_methodNamed B.named, fun w hw => hts w (List.mem_cons_of_mem _ hw)⟩, hK, fun q h => Or.inr h, hS0⟩
  refine body p e s m _ below meth c _ _ _ _ X rfl ?_ ⟨?_, ?_⟩ ⟨hP, hD0.self, va_S.rf⟩ (lv_entry av hn)
  · intro H locs ls pc hW hnr hk hd
    exact vx_ret (W.widen (k := ec kk) (n := 6 * ec kk) (Nat.zero_le _) (Nat.zero_le _) (W.zret B.exec B.bytes B.returns hnr (fun t ht hW2 => ⟨⟨r, (), rfl, ⟨hk, rfl, hnr⟩, by show va_P D vwCl ws' t.heap; rw [ht]; exact hW.1⟩, hW.2.2.F ht⟩) hW.2.2.2.2 hd B.notSynchronized))
  · intro H locs ls pc ik is ic j tx w hW hls hk T hq d0 d3 d4 d6 d9
    have e1 := ec1 hk
    rw [e1]
    exact rr_thr X hxc.1 (rn_xk hxc hk) hst B.notSynchronized htab T hk hq hW hls ⟨Nat.le_of_ble_eq_true hfr.1, Nat.le_of_ble_eq_true hfr.2, Nat.le_refl _, Nat.le_refl _⟩ d0 d3 d4 d6 d9
  · intro H locs ls pc ik is ic j tx w hW hls hk T hq d0 d3 d4 d6 d9
    have e1 := ec1 hk
    rw [e1]
    exact rr_thrW X hxc.1 (rn_xk hxc hk) hst B.notSynchronized htab T hk hq hW hls ⟨Nat.le_of_ble_eq_true hfr.1, Nat.le_of_ble_eq_true hfr.2, Nat.le_refl _, Nat.le_refl _⟩ d0 d3 d4 d6 d9
theorem rn_KTV.go {l : Launch} {D : va_G} {k : Nat → ClassId} {z : (Nat → Nat) × (Nat → Nat)} {y : MethodName} {own : String} {b : ByteArray} {n : Nat} {fr lo : Nat} {av : List Value} {ws ws' : va_W} {kk : Nat} {LOC : List (Nat × Value)} (ho : y.cls = own) (hy : plainName y.cls = true) (hn : (lg_sl av).length ≤ n) (hL : lv_args 0 av = LOC) (hfr : (Nat.ble 6 fr && Nat.ble 82 lo) = true)
    (body : ∀ (p : Program) (e : Env) (s : State) (m : MethodId) (args : Array Value) (below : List Frame) (meth : Method) (c : Code) (A : Nat → Prop) (ls : Array Slot) (R : Room) (Q : State → Prop), rn_X p m c b n s args own D k z A → R = { frames := fr, cells := ec kk, slots := 6 * ec kk, locals := lo } →
      (∀ (H : Heap) (locs : List Loc) (ls : Array Slot) (pc : Nat), rn_W D A s ws' H locs → kk = 0 → decode b pc = .ok (.return_, 1) → W p l e R s m args below meth c H locs 0 0 Q (F0 m pc ls [])) →
      rn_TH p l e R s m args below meth c b n own D A Q kk ws' →
      rn_W D A s ws s.heap [] → lv_has ls n LOC → W p l e R s m args below meth c s.heap [] 0 0 Q (F0 m 0 ls [])) : rn_KTV l D k z y b n fr lo av ws ws' kk := by
  subst ho
  subst hL
  intro hst sz
  simp only [Bool.and_eq_true] at hfr
  refine vx_ofW (cc := b) (maxL := n) (ret := none) hy rfl ?_
  intro p e s m args below meth c s₁ B hml htab hv
  obtain ⟨⟨rfl, hsz, hP, hK, hD0, hS0⟩, hxc⟩ := hv
  subst hsz
  have hts := atoms_spec (ws := .code y b n none :: rn_G) B.pre
  rw [lg_entry_eq]
  have X : rn_X p m c b n s av.toArray y.cls D k z (va_A ws s.heap.size) := ⟨⟨B.exec, B.bytes, hml, findClass_of_methodNamed B.named, fun w hw => hts w (List.mem_cons_of_mem _ hw)⟩, hK, fun q h => Or.inr h, hS0⟩
  refine body p e s m _ below meth c _ _ _ _ X rfl ?_ ⟨?_, ?_⟩ ⟨hP, hD0.self, va_S.rf⟩ (lv_entry av hn)
  · intro H locs ls pc hW hk hd
    exact vx_ret (W.widen (k := ec kk) (n := 6 * ec kk) (Nat.zero_le _) (Nat.zero_le _) (W.vret B.exec B.bytes B.returns (fun t ht hW2 => ⟨⟨(), rfl, hk, by show va_P D vwCl ws' t.heap; rw [ht]; exact hW.1⟩, hW.2.2.F ht⟩) hW.2.2.2.2 hd B.notSynchronized))
  · intro H locs ls pc ik is ic j tx w hW hls hk T hq d0 d3 d4 d6 d9
    have e1 := ec1 hk
    rw [e1]
    exact rr_thr X hxc.1 (rn_xk hxc hk) hst B.notSynchronized htab T hk hq hW hls ⟨Nat.le_of_ble_eq_true hfr.1, Nat.le_of_ble_eq_true hfr.2, Nat.le_refl _, Nat.le_refl _⟩ d0 d3 d4 d6 d9
  · intro H locs ls pc ik is ic j tx w hW hls hk T hq d0 d3 d4 d6 d9
    have e1 := ec1 hk
    rw [e1]
    exact rr_thrW X hxc.1 (rn_xk hxc hk) hst B.notSynchronized htab T hk hq hW hls ⟨Nat.le_of_ble_eq_true hfr.1, Nat.le_of_ble_eq_true hfr.2, Nat.le_refl _, Nat.le_refl _⟩ d0 d3 d4 d6 d9
/-- a wrapper of the law: its table -/
theorem rn_KW.go {l : Launch} {D : va_G} {k : Nat → ClassId} {z : (Nat → Nat) × (Nat → Nat)} {y : MethodName} {own : String} {b : ByteArray} {n : Nat} {hh : List (Nat × Nat × Nat × Nat)} {fr lo : Nat} {av : List Value} {ws ws' : va_W} {kk : Nat} {r : Int32} {LOC : List (Nat × Value)} (ho : y.cls = own) (hy : plainName y.cls = true) (hn : (lg_sl av).length ≤ n) (hL : lv_args 0 av = LOC)
    (body : ∀ (p : Program) (e : Env) (s : State) (m : MethodId) (args : Array Value) (below : List Frame) (meth : Method) (c : Code) (A : Nat → Prop) (ls : Array Slot) (R : Room) (Q : State → Prop), l.stackTraces = false → rn_xc s → c.exceptionTable.toList = tableOf hh → rn_X p m c b n s args own D k z A → R = { frames := fr, cells := ec kk, slots := 6 * ec kk, locals := lo } →
      (∀ (H : Heap) (locs : List Loc) (ls : Array Slot) (pc : Nat), rn_W D A s ws' H locs → decode b pc = .ok (.ireturn, 1) → W p l e R s m args below meth c H locs (0 + ec kk) (0 + 6 * ec kk) Q (F0 m pc ls [.int r])) →
      rn_W D A s ws s.heap [] → lv_has ls n LOC → W p l e R s m args below meth c s.heap [] 0 0 Q (F0 m 0 ls [])) : rn_KW l D k z y b n hh fr lo av ws ws' kk r := by
  subst ho
  subst hL
  intro hst sz
  refine vx_ofWH (cc := b) (maxL := n) (ret := some .int) (hh := hh) hy rfl ?_
  intro p e s m args below meth c s₁ B hml hv
  obtain ⟨⟨rfl, hsz, hP, hK, hD0, hS0⟩, hxc⟩ := hv
  subst hsz
  have hts := atoms_spec (ws := .codeWith y b n (some .int) hh :: rn_G) B.pre
  have htab := vx_table (x := y) B (hts _ List.mem_cons_self)
  rw [lg_entry_eq]
  have X : rn_X p m c b n s av.toArray y.cls D k z (va_A ws s.heap.size) := ⟨⟨B.exec, B.bytes, hml, findClass_of_methodNamed B.named, fun w hw => hts w (List.mem_cons_of_mem _ hw)⟩, hK, fun q h => Or.inr h, hS0⟩
  refine body p e s m _ below meth c _ _ _ _ hst hxc htab X rfl ?_ ⟨hP, hD0.self, va_S.rf⟩ (lv_entry av hn)
  intro H locs ls pc hW hd
  exact vx_ret (W.widen (k := ec kk) (n := 6 * ec kk) (Nat.le_of_eq (Nat.zero_add _)) (Nat.le_of_eq (Nat.zero_add _)) (W.zret (ty := .int) B.exec B.bytes B.returns rfl (fun t ht hW2 => ⟨⟨r, (), rfl, ⟨rfl, rfl, rfl⟩, by show va_P D vwCl ws' t.heap; rw [ht]; exact hW.1⟩, hW.2.2.F ht⟩) hW.2.2.2.2 hd B.notSynchronized))
section RT2
variable {p : Program} {l : Launch} {e : Env} {R : Room} {s : State} {m : MethodId} {args : Array Value} {below : List Frame} {meth : Method} {c : Code} {H : Heap} {locs : List Loc} {cells slots : Nat} {Q : State → Prop}
variable {cc : ByteArray} {nL : Nat} {own : String} {pc : Nat} {ls : Array Slot} {rest : List Value} {D : va_G} {k : Nat → ClassId} {z : (Nat → Nat) × (Nat → Nat)} {A : Nat → Prop} {ws ws' : va_W}
theorem rr_xcallI (X : rn_X p m c cc nL s args own D k z A) (hxc : rn_xc s) (hst0 : l.stackTraces = false) (hW : rn_W D A s ws H locs) {y : MethodName} {b : ByteArray} {n : Nat} {ty : FieldType} {fr lo : Nat} {b0 : Nat} {As st : List Value} {wc wc' : va_W} {kk : Nat} {r : Int32} {idx ci : Nat} {fs : List Value}
    (hM : rn_KTI l D k z y b n ty fr lo (.ref b0 :: As) wc wc' kk r) (lk : rn_M y b n (some ty) As.length) (hl : Cond.methodLink own idx y ∈ rn_G) (isC isR : List Nat) (ws' : va_W) (hC : isC.map (fun i => ws[i]?) = wc.map some) (hn : va_nd isC = true) (hq : wc[0]? = some (b0, .inr (ci, fs))) (hcl : (vwCl[ci]?).map (fun q => q.1) = some y.cls) (hB : rn_B ws isC isR wc' ws')
    (hR : fr + 1 ≤ R.frames ∧ 8 + (n + 11) + lo ≤ R.locals) (hcs : cells + ec kk ≤ R.cells ∧ slots + 6 * ec kk ≤ R.slots) (hls : ls.size = nL) (hst : st = As.reverse ++ .ref b0 :: rest) (hrm : (rest.map fun v => v.category).sum ≤ 8) (hdg : decode cc pc = .ok (.invokevirtual idx, 3))
    (kx : kk ≠ 0 → ∀ (H1 : Heap) (locs1 : List Loc) (q9 : Nat) (ce : Cell), rn_W D A s ws' H1 locs1 → H1[q9]? = some ce → ce.vm = .none → s.vm.findClass (rn_ex kk) = some ce.cls → vx_W p l e R s m args below meth c H1 locs1 (cells + ec kk) (slots + 6 * ec kk) Q (F0 m pc ls rest) q9)
    (kg : kk = 0 → narrow ty (.int r) = .int r → ∀ (H1 : Heap) (locs1 : List Loc), rn_W D A s ws' H1 locs1 → W p l e R s m args below meth c H1 locs1 (cells + ec kk) (slots + 6 * ec kk) Q (F0 m (pc + 3) ls (.int r :: rest))) : W p l e R s m args below meth c H locs cells slots Q (F0 m pc ls st) := by
  subst hst
  have hF := va_free (wc := wc) hW.2.1 hW.2.2 X.2.2.1 isC hC
  obtain ⟨⟨l1, l2⟩, l3, l4, l5⟩ := lk
  have hs : isC.filterMap (fun i => ws[i]?) = wc := by
    have h1 : (isC.map (fun i => ws[i]?)).filterMap id = (wc.map some).filterMap id := by rw [hC]
    simpa [List.filterMap_map, Function.comp_def] using h1
  have hrecv : ∃ cell : Cell, H[b0]? = some cell ∧ cell.vm.isStatics = false ∧ s.vm.findClass y.cls = some cell.cls := by
    cases hv : vwCl[ci]? with
    | none => rw [hv] at hcl; cases hcl
    | some q =>
      rw [hv] at hcl
      have := va_recv X.2.1 (hW.1.sub isC hs) hv hq
      rw [show q.1 = y.cls from Option.some.inj hcl] at this
      exact this
  have hts := X.1.2.2.2.2
  have cb : CallW R s args own y.cls idx y b n (some ty) (.code y b n (some ty) :: rn_G) { frames := fr, cells := ec kk, slots := 6 * ec kk, locals := lo } (ec kk) (6 * ec kk) As.length := ⟨callB_of As.length hts (rn_Ggd l4) rfl rfl rfl (hts _ l3) (hts _ hl) l5 hR, hts _ l1, hts _ l2⟩
  refine vx_calli (vx_runV (As := As) (rest := rest) X.1 (hM hst0 H.size) cb ⟨rn_blindT, hrecv, fun U hU hw => ⟨rn_pre hF X hW hC hn hU hw, hxc.moved hw.alike⟩⟩ rfl rfl hls rfl (lv_room hrm) hdg hcs) hW.2.2 (fun q _ h => hF q h) hF (fun q _ h => hF q h) (fun E ce q9 u t H1 locs1 ht hvm hp hb hz hk hS1 hc hv hcl2 => ?_) (fun r' u t H1 locs1 ht hvm hp hb hz hk hS1 => ?_)
  · obtain ⟨rfl, hb⟩ := hb
    rw [ht] at hb
    exact kx hp H1 locs1 q9 ce (rn_back hW hC hB hb hk hS1) hc hv hcl2
  · obtain ⟨h0, rfl, hnar⟩ := hp
    rw [ht] at hb
    exact kg h0 hnar H1 locs1 (rn_back hW hC hB hb hk hS1)
theorem rr_xcallV (X : rn_X p m c cc nL s args own D k z A) (hxc : rn_xc s) (hst0 : l.stackTraces = false) (hW : rn_W D A s ws H locs) {y : MethodName} {b : ByteArray} {n : Nat} {fr lo : Nat} {b0 : Nat} {As st : List Value} {wc wc' : va_W} {kk : Nat} {idx ci : Nat} {fs : List Value}
    (hM : rn_KTV l D k z y b n fr lo (.ref b0 :: As) wc wc' kk) (lk : rn_M y b n none As.length) (hl : Cond.methodLink own idx y ∈ rn_G) (isC isR : List Nat) (ws' : va_W) (hC : isC.map (fun i => ws[i]?) = wc.map some) (hn : va_nd isC = true) (hq : wc[0]? = some (b0, .inr (ci, fs))) (hcl : (vwCl[ci]?).map (fun q => q.1) = some y.cls) (hB : rn_B ws isC isR wc' ws')
    (hR : fr + 1 ≤ R.frames ∧ 8 + (n + 11) + lo ≤ R.locals) (hcs : cells + ec kk ≤ R.cells ∧ slots + 6 * ec kk ≤ R.slots) (hls : ls.size = nL) (hst : st = As.reverse ++ .ref b0 :: rest) (hrm : (rest.map fun v => v.category).sum ≤ 8) (hdg : decode cc pc = .ok (.invokevirtual idx, 3))
    (kx : kk ≠ 0 → ∀ (H1 : Heap) (locs1 : List Loc) (q9 : Nat) (ce : Cell), rn_W D A s ws' H1 locs1 → H1[q9]? = some ce → ce.vm = .none → s.vm.findClass (rn_ex kk) = some ce.cls → vx_W p l e R s m args below meth c H1 locs1 (cells + ec kk) (slots + 6 * ec kk) Q (F0 m pc ls rest) q9)
    (kg : kk = 0 → ∀ (H1 : Heap) (locs1 : List Loc), rn_W D A s ws' H1 locs1 → W p l e R s m args below meth c H1 locs1 (cells + ec kk) (slots + 6 * ec kk) Q (F0 m (pc + 3) ls rest)) : W p l e R s m args below meth c H locs cells slots Q (F0 m pc ls st) := by
  subst hst
  have hF := va_free (wc := wc) hW.2.1 hW.2.2 X.2.2.1 isC hC
  obtain ⟨⟨l1, l2⟩, l3, l4, l5⟩ := lk
  have hs : isC.filterMap (fun i => ws[i]?) = wc := by
    have h1 : (isC.map (fun i => ws[i]?)).filterMap id = (wc.map some).filterMap id := by rw [hC]
    simpa [List.filterMap_map, Function.comp_def] using h1
  have hrecv : ∃ cell : Cell, H[b0]? = some cell ∧ cell.vm.isStatics = false ∧ s.vm.findClass y.cls = some cell.cls := by
    cases hv : vwCl[ci]? with
    | none => rw [hv] at hcl; cases hcl
    | some q =>
      rw [hv] at hcl
      have := va_recv X.2.1 (hW.1.sub isC hs) hv hq
      rw [show q.1 = y.cls from Option.some.inj hcl] at this
      exact this
  have hts := X.1.2.2.2.2
  have cb : CallW R s args own y.cls idx y b n none (.code y b n none :: rn_G) { frames := fr, cells := ec kk, slots := 6 * ec kk, locals := lo } (ec kk) (6 * ec kk) As.length := ⟨callB_of As.length hts (rn_Ggd l4) rfl rfl rfl (hts _ l3) (hts _ hl) l5 hR, hts _ l1, hts _ l2⟩
  refine vx_callv (vx_runV (As := As) (rest := rest) X.1 (hM hst0 H.size) cb ⟨rn_blindT, hrecv, fun U hU hw => ⟨rn_pre hF X hW hC hn hU hw, hxc.moved hw.alike⟩⟩ rfl rfl hls rfl (lv_room hrm) hdg hcs) hW.2.2 (fun q _ h => hF q h) hF (fun q _ h => hF q h) (fun E ce q9 u t H1 locs1 ht hvm hp hb hz hk hS1 hc hv hcl2 => ?_) (fun u t H1 locs1 ht hvm hp hb hz hk hS1 => ?_)
  · obtain ⟨rfl, hb⟩ := hb
    rw [ht] at hb
    exact kx hp H1 locs1 q9 ce (rn_back hW hC hB hb hk hS1) hc hv hcl2
  · rw [ht] at hb
    exact kg hp H1 locs1 (rn_back hW hC hB hb hk hS1)
/-- the law calls a wrapper -/
theorem rr_wcall (X : rn_X p m c cc nL s args own D k z A) (hxc : rn_xc s) (hst0 : l.stackTraces = false) (hW : rn_W D A s ws H locs) {y : MethodName} {b : ByteArray} {n : Nat} {hh : List (Nat × Nat × Nat × Nat)} {fr lo : Nat} {As st : List Value} {wc wc' : va_W} {kk : Nat} {r : Int32} {idx : Nat}
    (hM : rn_KW l D k z y b n hh fr lo As wc wc' kk r) (lk : rn_MSW y b n hh As.length) (hl : Cond.methodLink own idx y ∈ rn_G) (isC isR : List Nat) (ws' : va_W) (hC : isC.map (fun i => ws[i]?) = wc.map some) (hn : va_nd isC = true) (hB : rn_B ws isC isR wc' ws')
    (hR : fr + 1 ≤ R.frames ∧ 8 + (n + 11) + lo ≤ R.locals) (hcs : cells + ec kk ≤ R.cells ∧ slots + 6 * ec kk ≤ R.slots) (hls : ls.size = nL) (hst : st = As.reverse ++ rest) (hrm : (rest.map fun v => v.category).sum ≤ 8) (hdg : decode cc pc = .ok (.invokestatic idx, 3))
    (kg : ∀ (H1 : Heap) (locs1 : List Loc), rn_W D A s ws' H1 locs1 → W p l e R s m args below meth c H1 locs1 (cells + ec kk) (slots + 6 * ec kk) Q (F0 m (pc + 3) ls (.int r :: rest))) : W p l e R s m args below meth c H locs cells slots Q (F0 m pc ls st) := by
  subst hst
  have hF := va_free (wc := wc) hW.2.1 hW.2.2 X.2.2.1 isC hC
  obtain ⟨l1, l3, l4, l5⟩ := lk
  have hts := X.1.2.2.2.2
  have cb : vx_CSW R s args own idx y b n (some .int) hh (.codeWith y b n (some .int) hh :: rn_G) { frames := fr, cells := ec kk, slots := 6 * ec kk, locals := lo } (ec kk) (6 * ec kk) As.length :=
    ⟨⟨rfl, rfl, hR.1, hR.2, pay_in hts (rn_Ggd l4), List.mem_cons_self⟩, hts _ l4, hts _ l3, ⟨l5.1, l5.2.1⟩, fun sig h => by have h2 := l5.2.2; rw [h] at h2; exact (Option.some.inj h2).symm, hts _ hl, hts _ l1⟩
  refine vx_calli (vx_runSX (As := As) (rest := rest) X.1 (hM hst0 H.size) cb ⟨rn_blindT, fun U hU hw => ⟨rn_pre hF X hW hC hn hU hw, hxc.moved hw.alike⟩⟩ rfl rfl hls rfl (lv_room hrm) hdg hcs) hW.2.2 (fun q _ h => hF q h) hF (fun q _ h => hF q h) (fun E ce q9 u t H1 locs1 ht hvm hp hb hz hk hS1 hc hv hcl2 => ?_) (fun r' u t H1 locs1 ht hvm hp hb hz hk hS1 => ?_)
  · exact absurd rfl hp
  · obtain ⟨-, rfl, -⟩ := hp
    rw [ht] at hb
    exact kg H1 locs1 (rn_back hW hC hB hb hk hS1)
end RT2
set_option maxRecDepth 20000 in
theorem qt_g1 : ∀ w ∈ (vx_atS RX6 63 (rn_ex 1) rn_en).filter goodWord, w ∈ rn_G := rn_Gs [44, 311, 320, 324, 327, 329, 312, 313, 58, 59, 314, 319, 325, 345, 301, 346, 303, 347, 305, 315, 317, 307, 341, 342, 344, 307, 332, 333, 334, 335, 335, 336, 337, 338, 338, 339, 340, 341, 331, 290, 298, 299, 300, 302, 304, 306, 310, 309, 308] (by decide +kernel) (by decide +kernel)
set_option maxRecDepth 20000 in
theorem qt_1 : rn_TW RX6 1 59 63 := ⟨by decide, rn_Gix 289 (by decide +kernel) rfl, rn_Gix 47 (by decide +kernel) rfl, qt_g1, by decide +kernel, by decide +kernel⟩
theorem qc_1 : Cond.classLink RL 46 (rn_ex 1) ∈ rn_G := rn_Gix 277 (by decide +kernel) rfl
set_option maxRecDepth 20000 in
theorem qt_g2 : ∀ w ∈ (vx_atS RX6 52 (rn_ex 2) rn_en).filter goodWord, w ∈ rn_G := rn_Gs [44, 311, 320, 324, 327, 329, 312, 313, 58, 59, 314, 319, 325, 345, 301, 346, 303, 347, 305, 315, 317, 307, 341, 342, 344, 307, 371, 372, 373, 335, 335, 336, 337, 338, 338, 339, 340, 341, 370, 361, 363, 322, 364, 365, 366, 367, 310, 309, 368] (by decide +kernel) (by decide +kernel)
set_option maxRecDepth 20000 in
theorem qt_2 : rn_TW RX6 2 48 52 := ⟨by decide, rn_Gix 360 (by decide +kernel) rfl, rn_Gix 48 (by decide +kernel) rfl, qt_g2, by decide +kernel, by decide +kernel⟩
theorem qc_2 : Cond.classLink RL 48 (rn_ex 2) ∈ rn_G := rn_Gix 278 (by decide +kernel) rfl
set_option maxRecDepth 20000 in
theorem qt_g3 : ∀ w ∈ (vx_atS RX6 112 (rn_ex 3) rn_en).filter goodWord, w ∈ rn_G := rn_Gs [44, 311, 320, 324, 327, 329, 312, 313, 58, 59, 314, 319, 325, 345, 301, 346, 303, 347, 305, 315, 317, 307, 341, 342, 344, 307, 455, 456, 457, 335, 335, 336, 337, 338, 338, 339, 340, 341, 454, 445, 447, 323, 448, 449, 450, 451, 310, 309, 452] (by decide +kernel) (by decide +kernel)
set_option maxRecDepth 20000 in
theorem qt_3 : rn_TW RX6 3 108 112 := ⟨by decide, rn_Gix 444 (by decide +kernel) rfl, rn_Gix 49 (by decide +kernel) rfl, qt_g3, by decide +kernel, by decide +kernel⟩
theorem qc_3 : Cond.classLink RL 54 (rn_ex 3) ∈ rn_G := rn_Gix 435 (by decide +kernel) rfl
abbrev hhL_addStation : List (Nat × Nat × Nat × Nat) := [(0, 7, 8, 46), (0, 7, 13, 48)]
theorem gm_L_addStation : rn_MSW yL_addStation cL_addStation 5 hhL_addStation 4 := ⟨rn_Gix 275 (by decide +kernel) rfl, rn_Gix 35 (by decide +kernel) rfl, rn_Gix 276 (by decide +kernel) rfl, by decide +kernel, by decide +kernel, by decide +kernel⟩
abbrev hhL_addLink : List (Nat × Nat × Nat × Nat) := [(0, 11, 12, 54), (0, 11, 17, 46), (0, 11, 22, 48)]
theorem gm_L_addLink : rn_MSW yL_addLink cL_addLink 7 hhL_addLink 6 := ⟨rn_Gix 433 (by decide +kernel) rfl, rn_Gix 35 (by decide +kernel) rfl, rn_Gix 434 (by decide +kernel) rfl, by decide +kernel, by decide +kernel, by decide +kernel⟩
abbrev hhL_setRules : List (Nat × Nat × Nat × Nat) := [(0, 8, 9, 46)]
theorem gm_L_setRules : rn_MSW yL_setRules cL_setRules 5 hhL_setRules 4 := ⟨rn_Gix 502 (by decide +kernel) rfl, rn_Gix 35 (by decide +kernel) rfl, rn_Gix 503 (by decide +kernel) rfl, by decide +kernel, by decide +kernel, by decide +kernel⟩
abbrev hhL_station : List (Nat × Nat × Nat × Nat) := [(0, 6, 7, 54), (0, 6, 11, 46)]
theorem gm_L_station : rn_MSW yL_station cL_station 4 hhL_station 3 := ⟨rn_Gix 715 (by decide +kernel) rfl, rn_Gix 35 (by decide +kernel) rfl, rn_Gix 716 (by decide +kernel) rfl, by decide +kernel, by decide +kernel, by decide +kernel⟩
abbrev hhL_link : List (Nat × Nat × Nat × Nat) := [(0, 6, 7, 54), (0, 6, 11, 46)]
theorem gm_L_link : rn_MSW yL_link cL_link 4 hhL_link 3 := ⟨rn_Gix 801 (by decide +kernel) rfl, rn_Gix 35 (by decide +kernel) rfl, rn_Gix 802 (by decide +kernel) rfl, by decide +kernel, by decide +kernel, by decide +kernel⟩
abbrev hhL_count : List (Nat × Nat × Nat × Nat) := [(0, 5, 6, 46)]
theorem gm_L_count : rn_MSW yL_count cL_count 3 hhL_count 2 := ⟨rn_Gix 385 (by decide +kernel) rfl, rn_Gix 35 (by decide +kernel) rfl, rn_Gix 386 (by decide +kernel) rfl, by decide +kernel, by decide +kernel, by decide +kernel⟩
abbrev hhL_way : List (Nat × Nat × Nat × Nat) := [(0, 9, 10, 54), (0, 9, 15, 46)]
theorem gm_L_way : rn_MSW yL_way cL_way 6 hhL_way 5 := ⟨rn_Gix 671 (by decide +kernel) rfl, rn_Gix 35 (by decide +kernel) rfl, rn_Gix 672 (by decide +kernel) rfl, by decide +kernel, by decide +kernel, by decide +kernel⟩
abbrev hhL_send : List (Nat × Nat × Nat × Nat) := [(0, 7, 8, 54), (0, 7, 13, 46), (0, 7, 18, 48)]
theorem gm_L_send : rn_MSW yL_send cL_send 5 hhL_send 4 := ⟨rn_Gix 527 (by decide +kernel) rfl, rn_Gix 35 (by decide +kernel) rfl, rn_Gix 528 (by decide +kernel) rfl, by decide +kernel, by decide +kernel, by decide +kernel⟩
abbrev hhL_takeBack : List (Nat × Nat × Nat × Nat) := [(0, 5, 6, 54)]
theorem gm_L_takeBack : rn_MSW yL_takeBack cL_takeBack 3 hhL_takeBack 2 := ⟨rn_Gix 696 (by decide +kernel) rfl, rn_Gix 35 (by decide +kernel) rfl, rn_Gix 697 (by decide +kernel) rfl, by decide +kernel, by decide +kernel, by decide +kernel⟩
abbrev hhL_message : List (Nat × Nat × Nat × Nat) := [(0, 6, 7, 54), (0, 6, 11, 46)]
theorem gm_L_message : rn_MSW yL_message cL_message 4 hhL_message 3 := ⟨rn_Gix 556 (by decide +kernel) rfl, rn_Gix 35 (by decide +kernel) rfl, rn_Gix 557 (by decide +kernel) rfl, by decide +kernel, by decide +kernel, by decide +kernel⟩
abbrev hhL_copy : List (Nat × Nat × Nat × Nat) := [(0, 7, 8, 54), (0, 7, 13, 46)]
theorem gm_L_copy : rn_MSW yL_copy cL_copy 5 hhL_copy 4 := ⟨rn_Gix 572 (by decide +kernel) rfl, rn_Gix 35 (by decide +kernel) rfl, rn_Gix 573 (by decide +kernel) rfl, by decide +kernel, by decide +kernel, by decide +kernel⟩
abbrev hhL_path : List (Nat × Nat × Nat × Nat) := [(0, 7, 8, 54)]
theorem gm_L_path : rn_MSW yL_path cL_path 5 hhL_path 4 := ⟨rn_Gix 627 (by decide +kernel) rfl, rn_Gix 35 (by decide +kernel) rfl, rn_Gix 628 (by decide +kernel) rfl, by decide +kernel, by decide +kernel, by decide +kernel⟩
abbrev hhL_sends : List (Nat × Nat × Nat × Nat) := [(0, 6, 7, 54)]
theorem gm_L_sends : rn_MSW yL_sends cL_sends 4 hhL_sends 3 := ⟨rn_Gix 734 (by decide +kernel) rfl, rn_Gix 35 (by decide +kernel) rfl, rn_Gix 735 (by decide +kernel) rfl, by decide +kernel, by decide +kernel, by decide +kernel⟩
abbrev hhL_run : List (Nat × Nat × Nat × Nat) := [(0, 5, 6, 46)]
theorem gm_L_run : rn_MSW yL_run cL_run 3 hhL_run 2 := ⟨rn_Gix 750 (by decide +kernel) rfl, rn_Gix 35 (by decide +kernel) rfl, rn_Gix 751 (by decide +kernel) rfl, by decide +kernel, by decide +kernel, by decide +kernel⟩
abbrev hhL_stateAfter : List (Nat × Nat × Nat × Nat) := [(0, 6, 7, 54), (0, 6, 11, 46)]
theorem gm_L_stateAfter : rn_MSW yL_stateAfter cL_stateAfter 4 hhL_stateAfter 3 := ⟨rn_Gix 865 (by decide +kernel) rfl, rn_Gix 35 (by decide +kernel) rfl, rn_Gix 866 (by decide +kernel) rfl, by decide +kernel, by decide +kernel, by decide +kernel⟩
abbrev hhL_hoursTo : List (Nat × Nat × Nat × Nat) := [(0, 5, 6, 46)]
theorem gm_L_hoursTo : rn_MSW yL_hoursTo cL_hoursTo 3 hhL_hoursTo 2 := ⟨rn_Gix 834 (by decide +kernel) rfl, rn_Gix 35 (by decide +kernel) rfl, rn_Gix 835 (by decide +kernel) rfl, by decide +kernel, by decide +kernel, by decide +kernel⟩
abbrev hhL_event : List (Nat × Nat × Nat × Nat) := [(0, 6, 7, 54), (0, 6, 11, 46)]
theorem gm_L_event : rn_MSW yL_event cL_event 4 hhL_event 3 := ⟨rn_Gix 642 (by decide +kernel) rfl, rn_Gix 35 (by decide +kernel) rfl, rn_Gix 643 (by decide +kernel) rfl, by decide +kernel, by decide +kernel, by decide +kernel⟩
abbrev hhL_save : List (Nat × Nat × Nat × Nat) := [(0, 6, 7, 46)]
theorem gm_L_save : rn_MSW yL_save cL_save 3 hhL_save 2 := ⟨rn_Gix 873 (by decide +kernel) rfl, rn_Gix 35 (by decide +kernel) rfl, rn_Gix 874 (by decide +kernel) rfl, by decide +kernel, by decide +kernel, by decide +kernel⟩
abbrev hhL_restore : List (Nat × Nat × Nat × Nat) := [(0, 6, 7, 46), (0, 6, 11, 48)]
theorem gm_L_restore : rn_MSW yL_restore cL_restore 3 hhL_restore 2 := ⟨rn_Gix 881 (by decide +kernel) rfl, rn_Gix 35 (by decide +kernel) rfl, rn_Gix 882 (by decide +kernel) rfl, by decide +kernel, by decide +kernel, by decide +kernel⟩
theorem gl_L_185 : Cond.methodLink RL 185 yL_init ∈ rn_G := rn_Gix 54 (by decide +kernel) rfl
theorem gl_L_126 : Cond.methodLink RL 126 yL_addStation ∈ rn_G := rn_Gix 274 (by decide +kernel) rfl
theorem gl_L_129 : Cond.methodLink RL 129 yL_count ∈ rn_G := rn_Gix 384 (by decide +kernel) rfl
theorem gl_L_132 : Cond.methodLink RL 132 yL_addLink ∈ rn_G := rn_Gix 432 (by decide +kernel) rfl
theorem gl_L_136 : Cond.methodLink RL 136 yL_setRules ∈ rn_G := rn_Gix 501 (by decide +kernel) rfl
theorem gl_L_141 : Cond.methodLink RL 141 yL_send ∈ rn_G := rn_Gix 526 (by decide +kernel) rfl
theorem gl_L_143 : Cond.methodLink RL 143 yL_message ∈ rn_G := rn_Gix 555 (by decide +kernel) rfl
theorem gl_L_146 : Cond.methodLink RL 146 yL_copy ∈ rn_G := rn_Gix 571 (by decide +kernel) rfl
theorem gl_L_148 : Cond.methodLink RL 148 yL_path ∈ rn_G := rn_Gix 626 (by decide +kernel) rfl
theorem gl_L_153 : Cond.methodLink RL 153 yL_event ∈ rn_G := rn_Gix 641 (by decide +kernel) rfl
theorem gl_L_138 : Cond.methodLink RL 138 yL_way ∈ rn_G := rn_Gix 670 (by decide +kernel) rfl
theorem gl_L_171 : Cond.methodLink RL 171 yL_takeBack ∈ rn_G := rn_Gix 695 (by decide +kernel) rfl
theorem gl_L_159 : Cond.methodLink RL 159 yL_station ∈ rn_G := rn_Gix 714 (by decide +kernel) rfl
theorem gl_L_167 : Cond.methodLink RL 167 yL_sends ∈ rn_G := rn_Gix 733 (by decide +kernel) rfl
theorem gl_L_169 : Cond.methodLink RL 169 yL_run ∈ rn_G := rn_Gix 749 (by decide +kernel) rfl
theorem gl_L_161 : Cond.methodLink RL 161 yL_link ∈ rn_G := rn_Gix 800 (by decide +kernel) rfl
theorem gl_L_173 : Cond.methodLink RL 173 yL_hoursTo ∈ rn_G := rn_Gix 833 (by decide +kernel) rfl
theorem gl_L_175 : Cond.methodLink RL 175 yL_stateAfter ∈ rn_G := rn_Gix 864 (by decide +kernel) rfl
theorem gl_L_177 : Cond.methodLink RL 177 yL_save ∈ rn_G := rn_Gix 872 (by decide +kernel) rfl
theorem gl_L_179 : Cond.methodLink RL 179 yL_restore ∈ rn_G := rn_Gix 880 (by decide +kernel) rfl
