/-! rows of the generated walks: names for values, ends with an abstract goal (wip/whole/gen/gen.py writes their uses) -/
def rn_let {α β : Type} (e : α) (f : α → Option β) : Option β := f e
theorem rn_let_s {α β : Type} {e : α} {f : α → Option β} {u : β} (h : rn_let e f = some u) : ∃ v, e = v ∧ f v = some u := ⟨e, rfl, h⟩
def rn_rem (x y : Int32) : Int32 := x - x / y * y
def rn_lrem (x y : Int64) : Int64 := x - x / y * y
def rn_iushr (x y : Int32) : Int32 := (x.toUInt32 >>> (y.toUInt32 &&& Int32.toUInt32 31)).toInt32
def rn_lushr (x : Int64) (y : Int32) : Int64 := (x.toUInt64 >>> (y.toInt64.toUInt64 &&& Int64.toUInt64 63)).toInt64
def rn_lshl (x : Int64) (y : Int32) : Int64 := x <<< (y.toInt64 &&& 63)
theorem rn_r {R : Room} {fr lo f n lo' : Nat} (hR : R = { frames := fr, cells := 0, slots := 0, locals := lo }) (h : (Nat.ble (f + 1) fr && Nat.ble (8 + (n + 11) + lo') lo) = true) : f + 1 ≤ R.frames ∧ 8 + (n + 11) + lo' ≤ R.locals := by
  subst hR
  simp only [Bool.and_eq_true] at h
  exact ⟨Nat.le_of_ble_eq_true h.1, Nat.le_of_ble_eq_true h.2⟩
theorem rn_cs {R : Room} : 0 + 0 ≤ R.cells ∧ 0 + 0 ≤ R.slots := ⟨Nat.zero_le _, Nat.zero_le _⟩
theorem rn_Bw {ws ws' wr : va_W} {isR : List Nat} (h1 : isR.map (fun i => ws'[i]?) = wr.map some) (h2 : isR.map (fun i => ws[i]?) = wr.map some) : isR.map (fun i => ws'[i]?) = isR.map (fun i => ws[i]?) := h1.trans h2.symm
/-- a text constant's place and its bytes -/
def rn_sw (j : Nat) (w : List Int32) : Prop := ∃ q, rn_str[j]? = some q ∧ q.2.2.2 = w
section RG
variable {p : Program} {l : Launch} {e : Env} {R : Room} {s : State} {m : MethodId} {args : Array Value} {below : List Frame} {meth : Method} {c : Code} {H : Heap} {locs : List Loc} {cells slots : Nat} {Q : State → Prop}
variable {cc : ByteArray} {nL : Nat} {own : String} {pc : Nat} {ls : Array Slot} {rest : List Value} {D : va_G} {k : Nat → ClassId} {z : (Nat → Nat) × (Nat → Nat)} {A : Nat → Prop} {ws ws' : va_W}
theorem rn_topi {x v : Int32} (h : x = v) (kk : W p l e R s m args below meth c H locs cells slots Q (F0 m pc ls (.int v :: rest))) : W p l e R s m args below meth c H locs cells slots Q (F0 m pc ls (.int x :: rest)) := by subst h; exact kk
theorem rn_topl {x v : Int64} (h : x = v) (kk : W p l e R s m args below meth c H locs cells slots Q (F0 m pc ls (.long v :: rest))) : W p l e R s m args below meth c H locs cells slots Q (F0 m pc ls (.long x :: rest)) := by subst h; exact kk
theorem rr_irem (hexec : p.tables.exec = Jvm.exec) (hb : c.code = cc) {x y : Int32} (hdg : decode cc pc = .ok (.irem, 1)) (hne : ¬ y = 0)
    (kk : W p l e R s m args below meth c H locs cells slots Q (F0 m (pc + 1) ls (.int (rn_rem x y) :: rest))) : W p l e R s m args below meth c H locs cells slots Q (F0 m pc ls (.int y :: .int x :: rest)) := lv_irem hexec hb hdg hne kk
theorem rr_lrem (hexec : p.tables.exec = Jvm.exec) (hb : c.code = cc) {x y : Int64} (hdg : decode cc pc = .ok (.lrem, 1)) (hne : ¬ y = 0)
    (kk : W p l e R s m args below meth c H locs cells slots Q (F0 m (pc + 1) ls (.long (rn_lrem x y) :: rest))) : W p l e R s m args below meth c H locs cells slots Q (F0 m pc ls (.long y :: .long x :: rest)) := lv_lrem hexec hb hdg hne kk
theorem rr_iast' (X : rn_X p m c cc nL s args own D k z A) (hW : rn_W D A s ws H locs) (q0 : Nat) {a n : Nat} {f g : Nat → Int32} {i x : Int32} (ha : ws[q0]? = some (a, .inl (k 0, n, .inl f))) (hin : vp_in i n) (hg : upd f i.toNatClampNeg x = g) (hws : ws.set q0 (a, .inl (k 0, n, .inl g)) = ws') (hdg : decode cc pc = .ok (.iastore, 1))
    (kk : ∀ (H1 : Heap) (locs1 : List Loc), rn_W D A s ws' H1 locs1 → W p l e R s m args below meth c H1 locs1 cells slots Q (F0 m (pc + 1) ls rest)) : W p l e R s m args below meth c H locs cells slots Q (F0 m pc ls (.int x :: .int i :: .ref a :: rest)) := by
  subst hg
  exact rr_iast X hW q0 ha hin hws hdg kk
theorem rr_bast' (X : rn_X p m c cc nL s args own D k z A) (hW : rn_W D A s ws H locs) (q0 : Nat) {a n : Nat} {f g : Nat → Int32} {i x : Int32} (ha : ws[q0]? = some (a, .inl (k 2, n, .inl f))) (hin : vp_in i n) (hg : upd f i.toNatClampNeg (vp_nar .byte x) = g) (hws : ws.set q0 (a, .inl (k 2, n, .inl g)) = ws') (hdg : decode cc pc = .ok (.bastore, 1))
    (kk : ∀ (H1 : Heap) (locs1 : List Loc), rn_W D A s ws' H1 locs1 → W p l e R s m args below meth c H1 locs1 cells slots Q (F0 m (pc + 1) ls rest)) : W p l e R s m args below meth c H locs cells slots Q (F0 m pc ls (.int x :: .int i :: .ref a :: rest)) := by
  subst hg
  exact rr_bast X hW q0 ha hin hws hdg kk
theorem rr_last' (X : rn_X p m c cc nL s args own D k z A) (hW : rn_W D A s ws H locs) (q0 : Nat) {a n : Nat} {f g : Nat → Int64} {i : Int32} {x : Int64} (ha : ws[q0]? = some (a, .inl (k 1, n, .inr (.inl f)))) (hin : vp_in i n) (hg : vp_updL f i.toNatClampNeg x = g) (hws : ws.set q0 (a, .inl (k 1, n, .inr (.inl g))) = ws') (hdg : decode cc pc = .ok (.lastore, 1))
    (kk : ∀ (H1 : Heap) (locs1 : List Loc), rn_W D A s ws' H1 locs1 → W p l e R s m args below meth c H1 locs1 cells slots Q (F0 m (pc + 1) ls rest)) : W p l e R s m args below meth c H locs cells slots Q (F0 m pc ls (.long x :: .int i :: .ref a :: rest)) := by
  subst hg
  exact rr_last X hW q0 ha hin hws hdg kk
def rn_min (x y : Int32) : Int32 := if y < x then y else x
theorem rr_mmin (X : rn_X p m c cc nL s args own D k z A) (hls : ls.size = nL) {idx : Nat} (lk : rn_MS yJ9_min_7cf53 cJ9_min_7cf53 2 (some .int) 2) (hl : Cond.methodLink own idx yJ9_min_7cf53 ∈ rn_G) (hR : 0 + 1 ≤ R.frames ∧ 8 + (2 + 11) + 0 ≤ R.locals) (hrm : (rest.map fun v => v.category).sum ≤ 8) {x y : Int32} (hdg : decode cc pc = .ok (.invokestatic idx, 3))
    (kk : W p l e R s m args below meth c H locs 0 0 Q (F0 m (pc + 3) ls (.int (rn_min x y) :: rest))) : W p l e R s m args below meth c H locs 0 0 Q (F0 m pc ls (.int y :: .int x :: rest)) := by
  obtain ⟨⟨hx, hb, hml, hown, hts⟩, -⟩ := X
  exact va_mmin hx hb (hml.trans hls.symm) hown (hts _ hl) (hts _ lk.1) (hts _ lk.2.1) (hts _ lk.2.2.1) hR.1 (Nat.le_trans (Nat.add_le_add_right hrm 13) hR.2) (Nat.zero_le _) (Nat.zero_le _) hdg kk
end RG
theorem rn_KI.go {l : Launch} {D : va_G} {k : Nat → ClassId} {z : (Nat → Nat) × (Nat → Nat)} {y : MethodName} {own : String} {b : ByteArray} {n : Nat} {ty : FieldType} {fr lo : Nat} {av : List Value} {ws ws' : va_W} {r : Int32} {LOC : List (Nat × Value)} (ho : y.cls = own) (hy : plainName y.cls = true) (hn : (lg_sl av).length ≤ n) (hL : lv_args 0 av = LOC)
    (body : ∀ (p : Program) (e : Env) (s : State) (m : MethodId) (args : Array Value) (below : List Frame) (meth : Method) (c : Code) (A : Nat → Prop) (ls : Array Slot) (R : Room) (Q : State → Prop), rn_X p m c b n s args own D k z A → R = { frames := fr, cells := 0, slots := 0, locals := lo } →
      (∀ (H : Heap) (locs : List Loc) (ls : Array Slot) (pc : Nat), rn_W D A s ws' H locs → narrow ty (.int r) = .int r → decode b pc = .ok (.ireturn, 1) → W p l e R s m args below meth c H locs 0 0 Q (F0 m pc ls [.int r])) →
      rn_W D A s ws s.heap [] → lv_has ls n LOC → W p l e R s m args below meth c s.heap [] 0 0 Q (F0 m 0 ls [])) : rn_KI l D k z y b n ty fr lo av ws ws' r := by
  subst ho
  subst hL
  exact rn_KI.of hy hn (fun p e s m args below meth c A ls X hr hW hl => body p e s m args below meth c A ls _ _ X rfl (fun H locs ls pc hW hn hd => rr_iret X hr hW hn hd) hW hl)
theorem rn_KL.go {l : Launch} {D : va_G} {k : Nat → ClassId} {z : (Nat → Nat) × (Nat → Nat)} {y : MethodName} {own : String} {b : ByteArray} {n : Nat} {fr lo : Nat} {av : List Value} {ws ws' : va_W} {r : Int64} {LOC : List (Nat × Value)} (ho : y.cls = own) (hy : plainName y.cls = true) (hn : (lg_sl av).length ≤ n) (hL : lv_args 0 av = LOC)
    (body : ∀ (p : Program) (e : Env) (s : State) (m : MethodId) (args : Array Value) (below : List Frame) (meth : Method) (c : Code) (A : Nat → Prop) (ls : Array Slot) (R : Room) (Q : State → Prop), rn_X p m c b n s args own D k z A → R = { frames := fr, cells := 0, slots := 0, locals := lo } →
      (∀ (H : Heap) (locs : List Loc) (ls : Array Slot) (pc : Nat), rn_W D A s ws' H locs → decode b pc = .ok (.lreturn, 1) → W p l e R s m args below meth c H locs 0 0 Q (F0 m pc ls [.long r])) →
      rn_W D A s ws s.heap [] → lv_has ls n LOC → W p l e R s m args below meth c s.heap [] 0 0 Q (F0 m 0 ls [])) : rn_KL l D k z y b n fr lo av ws ws' r := by
  subst ho
  subst hL
  exact rn_KL.of hy hn (fun p e s m args below meth c A ls X hr hW hl => body p e s m args below meth c A ls _ _ X rfl (fun H locs ls pc hW hd => rr_lret X hr hW hd) hW hl)
theorem rn_KV.go {l : Launch} {D : va_G} {k : Nat → ClassId} {z : (Nat → Nat) × (Nat → Nat)} {y : MethodName} {own : String} {b : ByteArray} {n : Nat} {fr lo : Nat} {av : List Value} {ws ws' : va_W} {LOC : List (Nat × Value)} (ho : y.cls = own) (hy : plainName y.cls = true) (hn : (lg_sl av).length ≤ n) (hL : lv_args 0 av = LOC)
    (body : ∀ (p : Program) (e : Env) (s : State) (m : MethodId) (args : Array Value) (below : List Frame) (meth : Method) (c : Code) (A : Nat → Prop) (ls : Array Slot) (R : Room) (Q : State → Prop), rn_X p m c b n s args own D k z A → R = { frames := fr, cells := 0, slots := 0, locals := lo } →
      (∀ (H : Heap) (locs : List Loc) (ls : Array Slot) (pc : Nat), rn_W D A s ws' H locs → decode b pc = .ok (.return_, 1) → W p l e R s m args below meth c H locs 0 0 Q (F0 m pc ls [])) →
      rn_W D A s ws s.heap [] → lv_has ls n LOC → W p l e R s m args below meth c s.heap [] 0 0 Q (F0 m 0 ls [])) : rn_KV l D k z y b n fr lo av ws ws' := by
  subst ho
  subst hL
  exact rn_KV.of hy hn (fun p e s m args below meth c A ls X hr hW hl => body p e s m args below meth c A ls _ _ X rfl (fun H locs ls pc hW hd => rr_vret X hr hW hd) hW hl)
