/-! THE ROWS OF THIS PROOF: one world (a list of cells), one list of words, contracts by a function's value. -/
def rn_G : List Cond := lw_tbl.filter goodWord
theorem rn_Gix {w : Cond} (i : Nat) (h : lw_tbl[i]? = some w) (g : goodWord w = true) : w ∈ rn_G := List.mem_filter.mpr ⟨List.mem_of_getElem? h, g⟩
theorem rn_Ggd {k1 : Cond} (h : k1 ∈ rn_G) : GoodIn rn_G (k1 :: rn_G) := fun w hw => by
  have h1 : w ∈ rn_G := by
    rcases List.mem_cons.mp hw with e | e
    · rw [e]; exact h
    · exact e
  exact ⟨h1, good_of_word (List.mem_filter.mp h1).2⟩
abbrev rn_ty (k : Nat → ClassId) : List (ClassId × FieldType) := [(k 0, .int), (k 1, .long), (k 2, .byte), (k 3, .int), (k 4, .object "ReliefNet$Net")]
/-- a method that is called by its name: its words -/
def rn_M (y : MethodName) (b : ByteArray) (n : Nat) (ret : Option FieldType) (na : Nat) : Prop :=
  (.instanceMethod y ∈ rn_G ∧ .selects y.cls y y ∈ rn_G) ∧ .initialized y.cls ∈ rn_G ∧ .code y b n ret ∈ rn_G ∧ (y.cls ≠ "java/lang/invoke/MethodHandle" ∧ y.cls ≠ "java/lang/invoke/VarHandle" ∧ (parseMethodDescriptor y.desc).map (fun d => d.parameters.length) = some na)
def rn_MS (y : MethodName) (b : ByteArray) (n : Nat) (ret : Option FieldType) (na : Nat) : Prop :=
  .static y ∈ rn_G ∧ .initialized y.cls ∈ rn_G ∧ .code y b n ret ∈ rn_G ∧ (y.cls ≠ "java/lang/invoke/MethodHandle" ∧ y.cls ≠ "java/lang/invoke/VarHandle" ∧ (parseMethodDescriptor y.desc).map (fun d => d.parameters.length) = some na)
/-- a field that is read; that is written -/
def rn_F (own : String) (idx ci j : Nat) : Prop := ∃ (C : String) (T : u_T) (N : Nat), vwCl[ci]? = some (C, T, N) ∧ j < N ∧ (∀ w ∈ u_ws C T N, w ∈ rn_G) ∧ Cond.fieldLink own idx C (T j).2.1 (T j).2.2.1 ∈ rn_G ∧ (T j).1 = C
def rn_FP (own : String) (idx ci j : Nat) (ty : FieldType) : Prop := ∃ (C : String) (T : u_T) (N : Nat) (ty0 : Nat → FieldType), vwCl[ci]? = some (C, T, N) ∧ j < N ∧ (∀ w ∈ u_ws C T N, w ∈ rn_G) ∧ Cond.fieldLink own idx C (T j).2.1 (T j).2.2.1 ∈ rn_G ∧ (T j).1 = C ∧
  (∀ k, k < N → parseFieldDescriptor (T k).2.2.1 = some (ty0 k)) ∧ (∀ a, a < N → ∀ b, b < N → a ≠ b → (T a).2.1 ≠ (T b).2.1) ∧ (T j).2.2.2 = false ∧ parseFieldDescriptor (T j).2.2.1 = some ty
def rn_str : List (String × Nat × String × List Int32) := [
  ("ReliefNet", 94, "a number of the station is out of range", [97, 32, 110, 117, 109, 98, 101, 114, 32, 111, 102, 32, 116, 104, 101, 32, 115, 116, 97, 116, 105, 111, 110, 32, 105, 115, 32, 111, 117, 116, 32, 111, 102, 32, 114, 97, 110, 103, 101]),
  ("ReliefNet", 99, "there are 8 stations", [116, 104, 101, 114, 101, 32, 97, 114, 101, 32, 56, 32, 115, 116, 97, 116, 105, 111, 110, 115]),
  ("ReliefNet", 156, "what is out of range", [119, 104, 97, 116, 32, 105, 115, 32, 111, 117, 116, 32, 111, 102, 32, 114, 97, 110, 103, 101]),
  ("ReliefNet", 110, "there is no such station", [116, 104, 101, 114, 101, 32, 105, 115, 32, 110, 111, 32, 115, 117, 99, 104, 32, 115, 116, 97, 116, 105, 111, 110]),
  ("ReliefNet", 116, "both stations are the same, or a number is out of range", [98, 111, 116, 104, 32, 115, 116, 97, 116, 105, 111, 110, 115, 32, 97, 114, 101, 32, 116, 104, 101, 32, 115, 97, 109, 101, 44, 32, 111, 114, 32, 97, 32, 110, 117, 109, 98, 101, 114, 32, 105, 115, 32, 111, 117, 116, 32, 111, 102, 32, 114, 97, 110, 103, 101]),
  ("ReliefNet", 125, "there is a link between both, or there are 16 links", [116, 104, 101, 114, 101, 32, 105, 115, 32, 97, 32, 108, 105, 110, 107, 32, 98, 101, 116, 119, 101, 101, 110, 32, 98, 111, 116, 104, 44, 32, 111, 114, 32, 116, 104, 101, 114, 101, 32, 97, 114, 101, 32, 49, 54, 32, 108, 105, 110, 107, 115]),
  ("ReliefNet", 145, "a rule is out of range", [97, 32, 114, 117, 108, 101, 32, 105, 115, 32, 111, 117, 116, 32, 111, 102, 32, 114, 97, 110, 103, 101]),
  ("ReliefNet", 181, "both stations are the same, or the priority is out of range", [98, 111, 116, 104, 32, 115, 116, 97, 116, 105, 111, 110, 115, 32, 97, 114, 101, 32, 116, 104, 101, 32, 115, 97, 109, 101, 44, 32, 111, 114, 32, 116, 104, 101, 32, 112, 114, 105, 111, 114, 105, 116, 121, 32, 105, 115, 32, 111, 117, 116, 32, 111, 102, 32, 114, 97, 110, 103, 101]),
  ("ReliefNet", 186, "there are 24 messages", [116, 104, 101, 114, 101, 32, 97, 114, 101, 32, 50, 52, 32, 109, 101, 115, 115, 97, 103, 101, 115]),
  ("ReliefNet", 194, "there is no such message", [116, 104, 101, 114, 101, 32, 105, 115, 32, 110, 111, 32, 115, 117, 99, 104, 32, 109, 101, 115, 115, 97, 103, 101]),
  ("ReliefNet", 207, "there is no such message or station", [116, 104, 101, 114, 101, 32, 105, 115, 32, 110, 111, 32, 115, 117, 99, 104, 32, 109, 101, 115, 115, 97, 103, 101, 32, 111, 114, 32, 115, 116, 97, 116, 105, 111, 110]),
  ("ReliefNet", 215, "there is no copy, or its path has not so many stations", [116, 104, 101, 114, 101, 32, 105, 115, 32, 110, 111, 32, 99, 111, 112, 121, 44, 32, 111, 114, 32, 105, 116, 115, 32, 112, 97, 116, 104, 32, 104, 97, 115, 32, 110, 111, 116, 32, 115, 111, 32, 109, 97, 110, 121, 32, 115, 116, 97, 116, 105, 111, 110, 115]),
  ("ReliefNet", 252, "there is no such event", [116, 104, 101, 114, 101, 32, 105, 115, 32, 110, 111, 32, 115, 117, 99, 104, 32, 101, 118, 101, 110, 116]),
  ("ReliefNet", 169, "both stations are the same, or time or what is out of range", [98, 111, 116, 104, 32, 115, 116, 97, 116, 105, 111, 110, 115, 32, 97, 114, 101, 32, 116, 104, 101, 32, 115, 97, 109, 101, 44, 32, 111, 114, 32, 116, 105, 109, 101, 32, 111, 114, 32, 119, 104, 97, 116, 32, 105, 115, 32, 111, 117, 116, 32, 111, 102, 32, 114, 97, 110, 103, 101]),
  ("ReliefNet", 217, "there is no such station, or the index is less than 0", [116, 104, 101, 114, 101, 32, 105, 115, 32, 110, 111, 32, 115, 117, 99, 104, 32, 115, 116, 97, 116, 105, 111, 110, 44, 32, 111, 114, 32, 116, 104, 101, 32, 105, 110, 100, 101, 120, 32, 105, 115, 32, 108, 101, 115, 115, 32, 116, 104, 97, 110, 32, 48]),
  ("ReliefNet", 225, "hours is out of range", [104, 111, 117, 114, 115, 32, 105, 115, 32, 111, 117, 116, 32, 111, 102, 32, 114, 97, 110, 103, 101]),
  ("ReliefNet", 139, "there is no such link", [116, 104, 101, 114, 101, 32, 105, 115, 32, 110, 111, 32, 115, 117, 99, 104, 32, 108, 105, 110, 107]),
  ("ReliefNet", 236, "many is out of range", [109, 97, 110, 121, 32, 105, 115, 32, 111, 117, 116, 32, 111, 102, 32, 114, 97, 110, 103, 101]),
  ("ReliefNet", 280, "the slot is out of range", [116, 104, 101, 32, 115, 108, 111, 116, 32, 105, 115, 32, 111, 117, 116, 32, 111, 102, 32, 114, 97, 110, 103, 101]),
  ("ReliefNet", 282, "nothing is saved there", [110, 111, 116, 104, 105, 110, 103, 32, 105, 115, 32, 115, 97, 118, 101, 100, 32, 116, 104, 101, 114, 101])]
/-- the script: its length, its ints -/
def zN (z : (Nat → Nat) × (Nat → Nat)) : Nat := z.2 1
def zF (z : (Nat → Nat) × (Nat → Nat)) (i : Nat) : Int32 := Int32.ofNat (z.2 (i + 2))
/-- what lies outside every world: the text constants, by their places in rn_str; the script; two statics -/
def rn_S (z : (Nat → Nat) × (Nat → Nat)) (A : Nat → Prop) (U : State) (H : Heap) : Prop :=
  (∀ (j : Nat) (q : String × Nat × String × List Int32), rn_str[j]? = some q → vk_R q.1 q.2.1 q.2.2.1 (z.1 j) U ∧ True) ∧
  va_T .int (z.2 0) (zN z) (fun i => .int (zF z i)) A U H ∧ True ∧ vx_Zq Bundle.tN "UNASSIGNED_STACK" Bundle.steD A U H ∧ vx_Zq Bundle.tN "SUPPRESSED_SENTINEL" Bundle.listD A U H
theorem rn_S.warm {z : (Nat → Nat) × (Nat → Nat)} {A : Nat → Prop} {s U : State} {H : Heap} (hW : s.WarmedH U.vm) (h : rn_S z A s H) : rn_S z A U H :=
  ⟨fun j q hq => ⟨vk_R.warm hW (h.1 j q hq).1, trivial⟩, va_T.moved hW.alike h.2.1, trivial, vx_Zq.moved hW.alike h.2.2.2.1, vx_Zq.moved hW.alike h.2.2.2.2⟩
theorem rn_S.same {z : (Nat → Nat) × (Nat → Nat)} {A : Nat → Prop} {u U : State} {H : Heap} (hv : U.vm = u.vm) (h : rn_S z A u H) : rn_S z A U H := by
  have ha : u.vm.Alike U.vm := by rw [hv]; exact Vm.Alike.refl u.vm
  exact ⟨fun j q hq => ⟨vk_R.same hv (h.1 j q hq).1, trivial⟩, va_T.moved ha h.2.1, trivial, vx_Zq.moved ha h.2.2.2.1, vx_Zq.moved ha h.2.2.2.2⟩
theorem rn_S.kept {z : (Nat → Nat) × (Nat → Nat)} {A : Nat → Prop} {U : State} {H H1 : Heap} (h : rn_S z A U H) (hq : ∀ a : Nat, a < H.size → ¬ A a → H1[a]? = H[a]?) : rn_S z A U H1 :=
  ⟨h.1, h.2.1.kept hq, trivial, h.2.2.2.1.kept hq, h.2.2.2.2.kept hq⟩
theorem rn_S.narrow {z : (Nat → Nat) × (Nat → Nat)} {A B : Nat → Prop} {U : State} {H : Heap} (h : rn_S z A U H) (hAB : ∀ q, B q → A q) : rn_S z B U H :=
  ⟨h.1, h.2.1.narrow hAB, trivial, h.2.2.2.1.narrow hAB, h.2.2.2.2.narrow hAB⟩
/-- contracts -/
def rn_Pc (D : va_G) (k : Nat → ClassId) (z : (Nat → Nat) × (Nat → Nat)) (av : List Value) (ws : va_W) (sz : Nat) : Array Value → State → Prop := va_Pc av (fun U => U.heap.size = sz ∧ va_P D vwCl ws U.heap ∧ va_K D vwCl (rn_ty k) U ∧ va_D (fun _ => True) ws ∧ rn_S z (va_A ws sz) U U.heap)
theorem rn_blind {D : va_G} {k : Nat → ClassId} {z : (Nat → Nat) × (Nat → Nat)} {av : List Value} {ws : va_W} {sz : Nat} : FrameBlind (rn_Pc D k z av ws sz) := fun a U g mk q => ⟨q.1, q.2.1, q.2.2.1, va_K.moved (u := U) (U := U.calling g mk a) (Vm.Alike.refl U.vm) q.2.2.2.1, q.2.2.2.2.1, rn_S.same (u := U) (U := U.calling g mk a) rfl q.2.2.2.2.2⟩
def rn_Qi (D : va_G) (ty : FieldType) (r : Int32) (ws' : va_W) (A : Nat → Prop) : Array Value → State → Outcome → State → Prop := va_Qi (fun (r' : Int32) (_ : Unit) => r' = r ∧ narrow ty (.int r) = .int r) (fun _ t => va_P D vwCl ws' t.heap) A
def rn_Ql (D : va_G) (r : Int64) (ws' : va_W) (A : Nat → Prop) : Array Value → State → Outcome → State → Prop := va_Ql (fun (r' : Int64) (_ : Unit) => r' = r) (fun _ t => va_P D vwCl ws' t.heap) A
def rn_Qv (D : va_G) (ws' : va_W) (A : Nat → Prop) : Array Value → State → Outcome → State → Prop := va_Qv (fun (_ : Unit) => True) (fun _ t => va_P D vwCl ws' t.heap) A
def rn_KI (l : Launch) (D : va_G) (k : Nat → ClassId) (z : (Nat → Nat) × (Nat → Nat)) (y : MethodName) (b : ByteArray) (n : Nat) (ty : FieldType) (fr lo : Nat) (av : List Value) (ws ws' : va_W) (r : Int32) : Prop :=
  ∀ sz, Met l y (.code y b n (some ty) :: rn_G) { frames := fr, cells := 0, slots := 0, locals := lo } (rn_Pc D k z av ws sz) (rn_Qi D ty r ws' (va_A ws sz)) 0 0 (va_A ws sz)
def rn_KL (l : Launch) (D : va_G) (k : Nat → ClassId) (z : (Nat → Nat) × (Nat → Nat)) (y : MethodName) (b : ByteArray) (n : Nat) (fr lo : Nat) (av : List Value) (ws ws' : va_W) (r : Int64) : Prop :=
  ∀ sz, Met l y (.code y b n (some .long) :: rn_G) { frames := fr, cells := 0, slots := 0, locals := lo } (rn_Pc D k z av ws sz) (rn_Ql D r ws' (va_A ws sz)) 0 0 (va_A ws sz)
def rn_KV (l : Launch) (D : va_G) (k : Nat → ClassId) (z : (Nat → Nat) × (Nat → Nat)) (y : MethodName) (b : ByteArray) (n : Nat) (fr lo : Nat) (av : List Value) (ws ws' : va_W) : Prop :=
  ∀ sz, Met l y (.code y b n none :: rn_G) { frames := fr, cells := 0, slots := 0, locals := lo } (rn_Pc D k z av ws sz) (rn_Qv D ws' (va_A ws sz)) 0 0 (va_A ws sz)
/-- what stays through a body; the world at a point of it -/
def rn_X (p : Program) (m : MethodId) (c : Code) (cc : ByteArray) (nL : Nat) (s : State) (args : Array Value) (own : String) (D : va_G) (k : Nat → ClassId) (z : (Nat → Nat) × (Nat → Nat)) (A : Nat → Prop) : Prop :=
  CallFix p m c cc nL s args rn_G own ∧ va_K D vwCl (rn_ty k) s ∧ (∀ q : Nat, s.heap.size ≤ q → A q) ∧ rn_S z A s s.heap
def rn_W (D : va_G) (A : Nat → Prop) (s : State) (ws : va_W) (H : Heap) (locs : List Loc) : Prop := va_P D vwCl ws H ∧ va_D A ws ∧ va_S A s.heap H locs
/-- ws' is ws with the cells at isC as in wc', the rest as it was, the same addresses -/
def rn_B (ws : va_W) (isC isR : List Nat) (wc' ws' : va_W) : Prop :=
  ws'.map Prod.fst = ws.map Prod.fst ∧ isC.map (fun i => ws'[i]?) = wc'.map some ∧ isR.map (fun i => ws'[i]?) = isR.map (fun i => ws[i]?) ∧ (List.range ws.length).all (fun i => isC.contains i || isR.contains i) = true ∧ isR.all (fun i => !isC.contains i) = true
section RN
variable {p : Program} {l : Launch} {e : Env} {R : Room} {s : State} {m : MethodId} {args : Array Value} {below : List Frame} {meth : Method} {c : Code} {H : Heap} {locs : List Loc} {cells slots : Nat} {Q : State → Prop}
variable {cc : ByteArray} {nL : Nat} {own : String} {pc : Nat} {ls : Array Slot} {rest : List Value} {D : va_G} {k : Nat → ClassId} {z : (Nat → Nat) × (Nat → Nat)} {A : Nat → Prop} {ws ws' : va_W}
theorem rr_get (X : rn_X p m c cc nL s args own D k z A) (hW : rn_W D A s ws H locs) (q0 j : Nat) {a ci : Nat} {fs : List Value} {v : Value} {idx : Nat} (fl : rn_F own idx ci j) (he : ws[q0]? = some (a, .inr (ci, fs))) (hv : fs[j]? = some v) (hdg : decode cc pc = .ok (.getfield idx, 3))
    (kk : W p l e R s m args below meth c H locs cells slots Q (F0 m (pc + 3) ls (v :: rest))) : W p l e R s m args below meth c H locs cells slots Q (F0 m pc ls (.ref a :: rest)) := by
  obtain ⟨C, T, N, h1, h2, h3, h4, h5⟩ := fl
  obtain ⟨⟨hx, hb, -, hown, hts⟩, hK, -⟩ := X
  exact va_get hx hb hts h3 hown hK hW.1 q0 he h1 j h2 (hts _ h4) (fun x hx => by rw [h5] at hx; exact hx) hv hdg kk
theorem rr_put (X : rn_X p m c cc nL s args own D k z A) (hW : rn_W D A s ws H locs) (q0 j : Nat) {a ci : Nat} {fs : List Value} {v : Value} {idx : Nat} {ty : FieldType} (fl : rn_FP own idx ci j ty) (he : ws[q0]? = some (a, .inr (ci, fs))) (hn : narrow ty v = v) (hf : fits ty v = true) (hl : j < fs.length) (hws : ws.set q0 (a, .inr (ci, fs.set j v)) = ws') (hdg : decode cc pc = .ok (.putfield idx, 3))
    (kk : ∀ (H1 : Heap) (locs1 : List Loc), rn_W D A s ws' H1 locs1 → W p l e R s m args below meth c H1 locs1 cells slots Q (F0 m (pc + 3) ls rest)) : W p l e R s m args below meth c H locs cells slots Q (F0 m pc ls (v :: .ref a :: rest)) := by
  obtain ⟨C, T, N, ty0, h1, h2, h3, h4, h5, h6, h7, h8, h9⟩ := fl
  obtain ⟨⟨hx, hb, -, hown, hts⟩, hK, -⟩ := X
  subst hws
  exact va_put hx hb hts h3 ty0 h6 h7 hown hK hW.1 hW.2.1 hW.2.2 q0 he h1 j h2 (hts _ h4) (fun x hx => by rw [h5] at hx; exact hx) h8 h9 hn hf hl hdg (fun H1 l1 a1 a2 a3 => kk H1 l1 ⟨a1, a2, a3⟩)
theorem rr_iald (X : rn_X p m c cc nL s args own D k z A) (hW : rn_W D A s ws H locs) (q0 : Nat) {a n : Nat} {f : Nat → Int32} {i : Int32} (ha : ws[q0]? = some (a, .inl (k 0, n, .inl f))) (hin : vp_in i n) (hdg : decode cc pc = .ok (.iaload, 1))
    (kk : W p l e R s m args below meth c H locs cells slots Q (F0 m (pc + 1) ls (.int (f i.toNatClampNeg) :: rest))) : W p l e R s m args below meth c H locs cells slots Q (F0 m pc ls (.int i :: .ref a :: rest)) :=
  va_iald X.1.1 X.1.2.1 X.2.1 hW.1 q0 0 ha rfl hin hdg kk
theorem rr_bald (X : rn_X p m c cc nL s args own D k z A) (hW : rn_W D A s ws H locs) (q0 : Nat) {a n : Nat} {f : Nat → Int32} {i : Int32} (ha : ws[q0]? = some (a, .inl (k 2, n, .inl f))) (hin : vp_in i n) (hdg : decode cc pc = .ok (.baload, 1))
    (kk : W p l e R s m args below meth c H locs cells slots Q (F0 m (pc + 1) ls (.int (f i.toNatClampNeg) :: rest))) : W p l e R s m args below meth c H locs cells slots Q (F0 m pc ls (.int i :: .ref a :: rest)) :=
  va_bald X.1.1 X.1.2.1 X.2.1 hW.1 q0 2 ha rfl hin hdg kk
theorem rr_lald (X : rn_X p m c cc nL s args own D k z A) (hW : rn_W D A s ws H locs) (q0 : Nat) {a n : Nat} {f : Nat → Int64} {i : Int32} (ha : ws[q0]? = some (a, .inl (k 1, n, .inr (.inl f)))) (hin : vp_in i n) (hdg : decode cc pc = .ok (.laload, 1))
    (kk : W p l e R s m args below meth c H locs cells slots Q (F0 m (pc + 1) ls (.long (f i.toNatClampNeg) :: rest))) : W p l e R s m args below meth c H locs cells slots Q (F0 m pc ls (.int i :: .ref a :: rest)) :=
  va_lald X.1.1 X.1.2.1 X.2.1 hW.1 q0 1 ha rfl hin hdg kk
theorem rr_iast (X : rn_X p m c cc nL s args own D k z A) (hW : rn_W D A s ws H locs) (q0 : Nat) {a n : Nat} {f : Nat → Int32} {i x : Int32} (ha : ws[q0]? = some (a, .inl (k 0, n, .inl f))) (hin : vp_in i n) (hws : ws.set q0 (a, .inl (k 0, n, .inl (upd f i.toNatClampNeg x))) = ws') (hdg : decode cc pc = .ok (.iastore, 1))
    (kk : ∀ (H1 : Heap) (locs1 : List Loc), rn_W D A s ws' H1 locs1 → W p l e R s m args below meth c H1 locs1 cells slots Q (F0 m (pc + 1) ls rest)) : W p l e R s m args below meth c H locs cells slots Q (F0 m pc ls (.int x :: .int i :: .ref a :: rest)) := by
  subst hws
  exact va_iast X.1.1 X.1.2.1 X.2.1 hW.1 hW.2.1 hW.2.2 q0 0 ha rfl hin hdg (fun H1 l1 a1 a2 a3 => kk H1 l1 ⟨a1, a2, a3⟩)
theorem rr_bast (X : rn_X p m c cc nL s args own D k z A) (hW : rn_W D A s ws H locs) (q0 : Nat) {a n : Nat} {f : Nat → Int32} {i x : Int32} (ha : ws[q0]? = some (a, .inl (k 2, n, .inl f))) (hin : vp_in i n) (hws : ws.set q0 (a, .inl (k 2, n, .inl (upd f i.toNatClampNeg (vp_nar .byte x)))) = ws') (hdg : decode cc pc = .ok (.bastore, 1))
    (kk : ∀ (H1 : Heap) (locs1 : List Loc), rn_W D A s ws' H1 locs1 → W p l e R s m args below meth c H1 locs1 cells slots Q (F0 m (pc + 1) ls rest)) : W p l e R s m args below meth c H locs cells slots Q (F0 m pc ls (.int x :: .int i :: .ref a :: rest)) := by
  subst hws
  exact va_bast X.1.1 X.1.2.1 X.2.1 hW.1 hW.2.1 hW.2.2 q0 2 ha rfl hin hdg (fun H1 l1 a1 a2 a3 => kk H1 l1 ⟨a1, a2, a3⟩)
theorem rr_last (X : rn_X p m c cc nL s args own D k z A) (hW : rn_W D A s ws H locs) (q0 : Nat) {a n : Nat} {f : Nat → Int64} {i : Int32} {x : Int64} (ha : ws[q0]? = some (a, .inl (k 1, n, .inr (.inl f)))) (hin : vp_in i n) (hws : ws.set q0 (a, .inl (k 1, n, .inr (.inl (vp_updL f i.toNatClampNeg x)))) = ws') (hdg : decode cc pc = .ok (.lastore, 1))
    (kk : ∀ (H1 : Heap) (locs1 : List Loc), rn_W D A s ws' H1 locs1 → W p l e R s m args below meth c H1 locs1 cells slots Q (F0 m (pc + 1) ls rest)) : W p l e R s m args below meth c H locs cells slots Q (F0 m pc ls (.long x :: .int i :: .ref a :: rest)) := by
  subst hws
  exact va_last X.1.1 X.1.2.1 X.2.1 hW.1 hW.2.1 hW.2.2 q0 1 ha rfl hin hdg (fun H1 l1 a1 a2 a3 => kk H1 l1 ⟨a1, a2, a3⟩)
theorem rr_alen (X : rn_X p m c cc nL s args own D k z A) (hW : rn_W D A s ws H locs) (q0 t0 : Nat) {a : Nat} {cA : ClassId} {x : vp_A} {ty : FieldType} (ha : ws[q0]? = some (a, .inl (cA, x))) (ht : (rn_ty k)[t0]? = some (cA, ty)) (hdg : decode cc pc = .ok (.arraylength, 1))
    (kk : W p l e R s m args below meth c H locs cells slots Q (F0 m (pc + 1) ls (.int (Int32.ofNat x.1) :: rest))) : W p l e R s m args below meth c H locs cells slots Q (F0 m pc ls (.ref a :: rest)) :=
  va_alen X.1.1 X.1.2.1 X.2.1 hW.1 q0 t0 ha ht rfl hdg kk
theorem rr_ldc (X : rn_X p m c cc nL s args own D k z A) {idx : Nat} {v : Int32} (h : Jvm.Cond.constant own idx v ∈ rn_G) (hdg : decode cc pc = .ok (.ldc idx, 2)) (kk : W p l e R s m args below meth c H locs cells slots Q (F0 m (pc + 2) ls (.int v :: rest))) : W p l e R s m args below meth c H locs cells slots Q (F0 m pc ls rest) :=
  lv_ldc X.1.1 X.1.2.1 X.1.2.2.2.1 (X.1.2.2.2.2 _ h) hdg kk
theorem rr_ldcw (X : rn_X p m c cc nL s args own D k z A) {idx : Nat} {v : Int32} (h : Jvm.Cond.constant own idx v ∈ rn_G) (hdg : decode cc pc = .ok (.ldc_w idx, 3)) (kk : W p l e R s m args below meth c H locs cells slots Q (F0 m (pc + 3) ls (.int v :: rest))) : W p l e R s m args below meth c H locs cells slots Q (F0 m pc ls rest) :=
  lv_ldcw X.1.1 X.1.2.1 X.1.2.2.2.1 (X.1.2.2.2.2 _ h) hdg kk
theorem rr_ldc2 (X : rn_X p m c cc nL s args own D k z A) {idx : Nat} {v : Int64} (h : Jvm.Cond.constantLong own idx v ∈ rn_G) (hdg : decode cc pc = .ok (.ldc2_w idx, 3)) (kk : W p l e R s m args below meth c H locs cells slots Q (F0 m (pc + 3) ls (.long v :: rest))) : W p l e R s m args below meth c H locs cells slots Q (F0 m pc ls rest) :=
  lv_ldc2 X.1.1 X.1.2.1 X.1.2.2.2.1 (X.1.2.2.2.2 _ h) hdg kk
/-- the world behind a call -/
theorem rn_back {wc wc' : va_W} {isC isR : List Nat} {H1 : Heap} {locs1 : List Loc} (hW : rn_W D A s ws H locs) (hC : isC.map (fun i => ws[i]?) = wc.map some) (hB : rn_B ws isC isR wc' ws') (hP1 : va_P D vwCl wc' H1) (hk : ∀ q : Nat, q < H.size → ¬ va_A wc H.size q → H1[q]? = H[q]?) (hS1 : va_S A s.heap H1 locs1) : rn_W D A s ws' H1 locs1 := by
  obtain ⟨hP, hD, hS⟩ := hW
  obtain ⟨b1, b2, b3, b4, b5⟩ := hB
  have fstat : ∀ (i : Nat), (ws'[i]?).map Prod.fst = (ws[i]?).map Prod.fst := fun i => by
    rw [← List.getElem?_map, ← List.getElem?_map, b1]
  have len : ws'.length = ws.length := by
    have h := congrArg List.length b1
    simpa using h
  refine ⟨fun i q hq => ?_, ⟨fun i j x y hi hj hxy => ?_, fun i q hq => ?_⟩, hS1⟩
  · have hi : i < ws.length := by rw [← len]; exact (List.getElem?_eq_some_iff.mp hq).1
    have h4 := List.all_eq_true.mp b4 i (List.mem_range.mpr hi)
    have h4' : i ∈ isC ∨ i ∈ isR := by simpa using h4
    rcases h4' with h | h
    · obtain ⟨j, hj⟩ := List.getElem?_of_mem h
      have h1 : (isC.map (fun i => ws'[i]?))[j]? = some (ws'[i]?) := by rw [List.getElem?_map, hj]; rfl
      rw [b2, List.getElem?_map, hq] at h1
      cases hw : wc'[j]? with
      | none => rw [hw] at h1; cases h1
      | some z =>
        rw [hw] at h1
        have : z = q := Option.some.inj (Option.some.inj h1)
        subst this
        exact hP1 j z hw
    · obtain ⟨j, hj⟩ := List.getElem?_of_mem h
      have h1 : (isR.map (fun i => ws'[i]?))[j]? = some (ws'[i]?) := by rw [List.getElem?_map, hj]; rfl
      rw [b3, List.getElem?_map, hj] at h1
      have hq0 : ws[i]? = some q := by rw [← hq]; exact Option.some.inj h1
      have hl := (hP i q hq0).lt
      refine (hP i q hq0).kept (hk q.1 hl (fun ha => ?_))
      rcases ha with ⟨k2, e2, h2⟩ | h2
      · have h3 : (isC.map (fun i => ws[i]?))[k2]? = some (some (q.1, e2)) := by rw [hC, List.getElem?_map, h2]; rfl
        rw [List.getElem?_map] at h3
        cases hi2 : isC[k2]? with
        | none => rw [hi2] at h3; cases h3
        | some i2 =>
          rw [hi2] at h3
          have h5 : ws[i2]? = some (q.1, e2) := Option.some.inj h3
          have h6 := hD.1 i i2 q (q.1, e2) hq0 h5 rfl
          subst h6
          have h7 := List.all_eq_true.mp b5 i h
          have h8 : i ∉ isC := by simpa using h7
          exact h8 (List.mem_of_getElem? hi2)
      · omega
  · have e1 := fstat i
    have e2 := fstat j
    rw [hi] at e1
    rw [hj] at e2
    cases h1 : ws[i]? with
    | none => rw [h1] at e1; cases e1
    | some x0 =>
      cases h2 : ws[j]? with
      | none => rw [h2] at e2; cases e2
      | some y0 =>
        rw [h1] at e1
        rw [h2] at e2
        have g1 : x.1 = x0.1 := Option.some.inj e1
        have g2 : y.1 = y0.1 := Option.some.inj e2
        exact hD.1 i j x0 y0 h1 h2 (by rw [← g1, ← g2]; exact hxy)
  · have e1 := fstat i
    rw [hq] at e1
    cases h1 : ws[i]? with
    | none => rw [h1] at e1; cases e1
    | some x0 =>
      rw [h1] at e1
      have g1 : q.1 = x0.1 := Option.some.inj e1
      rw [g1]
      exact hD.2 i x0 h1
/-- the callee's start out of the caller's world -/
theorem rn_pre {wc : va_W} {isC : List Nat} {av : List Value} (hF : ∀ q, va_A wc H.size q → A q) (X : rn_X p m c cc nL s args own D k z A) (hW : rn_W D A s ws H locs) (hC : isC.map (fun i => ws[i]?) = wc.map some) (hn : va_nd isC = true) {U : State} (hU : U.heap = H) (hw : s.WarmedH U.vm) : rn_Pc D k z av wc H.size av.toArray U := by
  have hs : isC.filterMap (fun i => ws[i]?) = wc := by
    have h1 : (isC.map (fun i => ws[i]?)).filterMap id = (wc.map some).filterMap id := by rw [hC]
    simpa [List.filterMap_map, Function.comp_def] using h1
  exact ⟨rfl, by rw [hU], by rw [hU]; exact hW.1.sub isC hs, va_K.moved hw.alike X.2.1, (hW.2.1.sub isC hn hC).weaken (fun _ _ _ _ => trivial), by rw [hU]; exact rn_S.warm hw ((X.2.2.2.kept hW.2.2.2.1).narrow hF)⟩
theorem rr_callI (X : rn_X p m c cc nL s args own D k z A) (hW : rn_W D A s ws H locs) {y : MethodName} {b : ByteArray} {n : Nat} {ty : FieldType} {fr lo : Nat} {b0 : Nat} {As st : List Value} {wc wc' : va_W} {r : Int32} {idx ci : Nat} {fs : List Value}
    (hM : rn_KI l D k z y b n ty fr lo (.ref b0 :: As) wc wc' r) (lk : rn_M y b n (some ty) As.length) (hl : Cond.methodLink own idx y ∈ rn_G) (isC isR : List Nat) (ws' : va_W) (hC : isC.map (fun i => ws[i]?) = wc.map some) (hn : va_nd isC = true) (hq : wc[0]? = some (b0, .inr (ci, fs))) (hcl : (vwCl[ci]?).map (fun q => q.1) = some y.cls) (hB : rn_B ws isC isR wc' ws')
    (hR : fr + 1 ≤ R.frames ∧ 8 + (n + 11) + lo ≤ R.locals) (hcs : cells + 0 ≤ R.cells ∧ slots + 0 ≤ R.slots) (hls : ls.size = nL) (hst : st = As.reverse ++ .ref b0 :: rest) (hrm : (rest.map fun v => v.category).sum ≤ 8) (hdg : decode cc pc = .ok (.invokevirtual idx, 3))
    (kk : narrow ty (.int r) = .int r → ∀ (H1 : Heap) (locs1 : List Loc), rn_W D A s ws' H1 locs1 → W p l e R s m args below meth c H1 locs1 cells slots Q (F0 m (pc + 3) ls (.int r :: rest))) : W p l e R s m args below meth c H locs cells slots Q (F0 m pc ls st) := by
  subst hst
  have hF := va_free (wc := wc) hW.2.1 hW.2.2 X.2.2.1 isC hC
  obtain ⟨⟨l1, l2⟩, l3, l4, l5⟩ := lk
  have hs : isC.filterMap (fun i => ws[i]?) = wc := by
    have h1 : (isC.map (fun i => ws[i]?)).filterMap id = (wc.map some).filterMap id := by rw [hC]
    simpa [List.filterMap_map, Function.comp_def] using h1
  have hrecv : ∃ cell : Cell, H[b0]? = some cell ∧ cell.vm.isStatics = false ∧ s.vm.findClass y.cls = some cell.cls := by
    cases hv : vwCl[ci]? with
    | none => rw [hv] at hcl; cases hcl
    | some q =>
      rw [hv] at hcl
      have := va_recv X.2.1 (hW.1.sub isC hs) hv hq
      rw [show q.1 = y.cls from Option.some.inj hcl] at this
      exact this
  have hts := X.1.2.2.2.2
  have cb : CallW R s args own y.cls idx y b n (some ty) (.code y b n (some ty) :: rn_G) { frames := fr, cells := 0, slots := 0, locals := lo } 0 0 As.length := ⟨callB_of As.length hts (rn_Ggd l4) rfl rfl rfl (hts _ l3) (hts _ hl) l5 hR, hts _ l1, hts _ l2⟩
  refine va_calli (va_runV (As := As) (rest := rest) X.1 (hM H.size) cb ⟨rn_blind, hrecv, fun U hU hw => rn_pre hF X hW hC hn hU hw⟩ rfl rfl hls rfl (lv_room hrm) hdg hcs) hW.2.2 (fun q _ h => hF q h) hF (fun r' u t H1 locs1 ht hvm hp hb hz hk hS1 => ?_)
  obtain ⟨rfl, hnar⟩ := hp
  rw [ht] at hb
  exact kk hnar H1 locs1 (rn_back hW hC hB hb hk hS1)
theorem rr_callV (X : rn_X p m c cc nL s args own D k z A) (hW : rn_W D A s ws H locs) {y : MethodName} {b : ByteArray} {n : Nat} {fr lo : Nat} {b0 : Nat} {As st : List Value} {wc wc' : va_W} {idx ci : Nat} {fs : List Value}
    (hM : rn_KV l D k z y b n fr lo (.ref b0 :: As) wc wc') (lk : rn_M y b n none As.length) (hl : Cond.methodLink own idx y ∈ rn_G) (isC isR : List Nat) (ws' : va_W) (hC : isC.map (fun i => ws[i]?) = wc.map some) (hn : va_nd isC = true) (hq : wc[0]? = some (b0, .inr (ci, fs))) (hcl : (vwCl[ci]?).map (fun q => q.1) = some y.cls) (hB : rn_B ws isC isR wc' ws')
    (hR : fr + 1 ≤ R.frames ∧ 8 + (n + 11) + lo ≤ R.locals) (hcs : cells + 0 ≤ R.cells ∧ slots + 0 ≤ R.slots) (hls : ls.size = nL) (hst : st = As.reverse ++ .ref b0 :: rest) (hrm : (rest.map fun v => v.category).sum ≤ 8) (hdg : decode cc pc = .ok (.invokevirtual idx, 3))
    (kk : ∀ (H1 : Heap) (locs1 : List Loc), rn_W D A s ws' H1 locs1 → W p l e R s m args below meth c H1 locs1 cells slots Q (F0 m (pc + 3) ls rest)) : W p l e R s m args below meth c H locs cells slots Q (F0 m pc ls st) := by
  subst hst
  have hF := va_free (wc := wc) hW.2.1 hW.2.2 X.2.2.1 isC hC
  obtain ⟨⟨l1, l2⟩, l3, l4, l5⟩ := lk
  have hs : isC.filterMap (fun i => ws[i]?) = wc := by
    have h1 : (isC.map (fun i => ws[i]?)).filterMap id = (wc.map some).filterMap id := by rw [hC]
    simpa [List.filterMap_map, Function.comp_def] using h1
  have hrecv : ∃ cell : Cell, H[b0]? = some cell ∧ cell.vm.isStatics = false ∧ s.vm.findClass y.cls = some cell.cls := by
    cases hv : vwCl[ci]? with
    | none => rw [hv] at hcl; cases hcl
    | some q =>
      rw [hv] at hcl
      have := va_recv X.2.1 (hW.1.sub isC hs) hv hq
      rw [show q.1 = y.cls from Option.some.inj hcl] at this
      exact this
  have hts := X.1.2.2.2.2
  have cb : CallW R s args own y.cls idx y b n none (.code y b n none :: rn_G) { frames := fr, cells := 0, slots := 0, locals := lo } 0 0 As.length := ⟨callB_of As.length hts (rn_Ggd l4) rfl rfl rfl (hts _ l3) (hts _ hl) l5 hR, hts _ l1, hts _ l2⟩
  refine va_callv (va_runV (As := As) (rest := rest) X.1 (hM H.size) cb ⟨rn_blind, hrecv, fun U hU hw => rn_pre hF X hW hC hn hU hw⟩ rfl rfl hls rfl (lv_room hrm) hdg hcs) hW.2.2 (fun q _ h => hF q h) hF (fun u t H1 locs1 ht hvm hp hb hz hk hS1 => ?_)
  rw [ht] at hb
  exact kk H1 locs1 (rn_back hW hC hB hb hk hS1)
theorem rr_callL (X : rn_X p m c cc nL s args own D k z A) (hW : rn_W D A s ws H locs) {y : MethodName} {b : ByteArray} {n : Nat} {fr lo : Nat} {b0 : Nat} {As st : List Value} {wc wc' : va_W} {r : Int64} {idx ci : Nat} {fs : List Value}
    (hM : rn_KL l D k z y b n fr lo (.ref b0 :: As) wc wc' r) (lk : rn_M y b n (some .long) As.length) (hl : Cond.methodLink own idx y ∈ rn_G) (isC isR : List Nat) (ws' : va_W) (hC : isC.map (fun i => ws[i]?) = wc.map some) (hn : va_nd isC = true) (hq : wc[0]? = some (b0, .inr (ci, fs))) (hcl : (vwCl[ci]?).map (fun q => q.1) = some y.cls) (hB : rn_B ws isC isR wc' ws')
    (hR : fr + 1 ≤ R.frames ∧ 8 + (n + 11) + lo ≤ R.locals) (hcs : cells + 0 ≤ R.cells ∧ slots + 0 ≤ R.slots) (hls : ls.size = nL) (hst : st = As.reverse ++ .ref b0 :: rest) (hrm : (rest.map fun v => v.category).sum ≤ 8) (hdg : decode cc pc = .ok (.invokevirtual idx, 3))
    (kk : ∀ (H1 : Heap) (locs1 : List Loc), rn_W D A s ws' H1 locs1 → W p l e R s m args below meth c H1 locs1 cells slots Q (F0 m (pc + 3) ls (.long r :: rest))) : W p l e R s m args below meth c H locs cells slots Q (F0 m pc ls st) := by
  subst hst
  have hF := va_free (wc := wc) hW.2.1 hW.2.2 X.2.2.1 isC hC
  obtain ⟨⟨l1, l2⟩, l3, l4, l5⟩ := lk
  have hs : isC.filterMap (fun i => ws[i]?) = wc := by
    have h1 : (isC.map (fun i => ws[i]?)).filterMap id = (wc.map some).filterMap id := by rw [hC]
    simpa [List.filterMap_map, Function.comp_def] using h1
  have hrecv : ∃ cell : Cell, H[b0]? = some cell ∧ cell.vm.isStatics = false ∧ s.vm.findClass y.cls = some cell.cls := by
    cases hv : vwCl[ci]? with
    | none => rw [hv] at hcl; cases hcl
    | some q =>
      rw [hv] at hcl
      have := va_recv X.2.1 (hW.1.sub isC hs) hv hq
      rw [show q.1 = y.cls from Option.some.inj hcl] at this
      exact this
  have hts := X.1.2.2.2.2
  have cb : CallW R s args own y.cls idx y b n (some .long) (.code y b n (some .long) :: rn_G) { frames := fr, cells := 0, slots := 0, locals := lo } 0 0 As.length := ⟨callB_of As.length hts (rn_Ggd l4) rfl rfl rfl (hts _ l3) (hts _ hl) l5 hR, hts _ l1, hts _ l2⟩
  refine va_calll (va_runV (As := As) (rest := rest) X.1 (hM H.size) cb ⟨rn_blind, hrecv, fun U hU hw => rn_pre hF X hW hC hn hU hw⟩ rfl rfl hls rfl (lv_room hrm) hdg hcs) hW.2.2 (fun q _ h => hF q h) hF (fun r' u t H1 locs1 ht hvm hp hb hz hk hS1 => ?_)
  subst hp
  rw [ht] at hb
  exact kk H1 locs1 (rn_back hW hC hB hb hk hS1)
theorem rr_scalI (X : rn_X p m c cc nL s args own D k z A) (hW : rn_W D A s ws H locs) {y : MethodName} {b : ByteArray} {n : Nat} {ty : FieldType} {fr lo : Nat} {As st : List Value} {wc wc' : va_W} {r : Int32} {idx : Nat}
    (hM : rn_KI l D k z y b n ty fr lo As wc wc' r) (lk : rn_MS y b n (some ty) As.length) (hl : Cond.methodLink own idx y ∈ rn_G) (isC isR : List Nat) (ws' : va_W) (hC : isC.map (fun i => ws[i]?) = wc.map some) (hn : va_nd isC = true) (hB : rn_B ws isC isR wc' ws')
    (hR : fr + 1 ≤ R.frames ∧ 8 + (n + 11) + lo ≤ R.locals) (hcs : cells + 0 ≤ R.cells ∧ slots + 0 ≤ R.slots) (hls : ls.size = nL) (hst : st = As.reverse ++ rest) (hrm : (rest.map fun v => v.category).sum ≤ 8) (hdg : decode cc pc = .ok (.invokestatic idx, 3))
    (kk : narrow ty (.int r) = .int r → ∀ (H1 : Heap) (locs1 : List Loc), rn_W D A s ws' H1 locs1 → W p l e R s m args below meth c H1 locs1 cells slots Q (F0 m (pc + 3) ls (.int r :: rest))) : W p l e R s m args below meth c H locs cells slots Q (F0 m pc ls st) := by
  subst hst
  have hF := va_free (wc := wc) hW.2.1 hW.2.2 X.2.2.1 isC hC
  obtain ⟨l1, l3, l4, l5⟩ := lk
  have hts := X.1.2.2.2.2
  have cb : CallB R s args own idx y b n (some ty) (.code y b n (some ty) :: rn_G) { frames := fr, cells := 0, slots := 0, locals := lo } 0 0 As.length ∧ (Cond.static y).before args s = true := ⟨callB_of As.length hts (rn_Ggd l4) rfl rfl rfl (hts _ l3) (hts _ hl) l5 hR, hts _ l1⟩
  refine va_calli (va_runS (As := As) (rest := rest) X.1 (hM H.size) cb ⟨rn_blind, fun U hU hw => rn_pre hF X hW hC hn hU hw⟩ rfl rfl hls rfl (lv_room hrm) hdg hcs) hW.2.2 (fun q _ h => hF q h) hF (fun r' u t H1 locs1 ht hvm hp hb hz hk hS1 => ?_)
  obtain ⟨rfl, hnar⟩ := hp
  rw [ht] at hb
  exact kk hnar H1 locs1 (rn_back hW hC hB hb hk hS1)
theorem rr_scalV (X : rn_X p m c cc nL s args own D k z A) (hW : rn_W D A s ws H locs) {y : MethodName} {b : ByteArray} {n : Nat} {fr lo : Nat} {As st : List Value} {wc wc' : va_W} {idx : Nat}
    (hM : rn_KV l D k z y b n fr lo As wc wc') (lk : rn_MS y b n none As.length) (hl : Cond.methodLink own idx y ∈ rn_G) (isC isR : List Nat) (ws' : va_W) (hC : isC.map (fun i => ws[i]?) = wc.map some) (hn : va_nd isC = true) (hB : rn_B ws isC isR wc' ws')
    (hR : fr + 1 ≤ R.frames ∧ 8 + (n + 11) + lo ≤ R.locals) (hcs : cells + 0 ≤ R.cells ∧ slots + 0 ≤ R.slots) (hls : ls.size = nL) (hst : st = As.reverse ++ rest) (hrm : (rest.map fun v => v.category).sum ≤ 8) (hdg : decode cc pc = .ok (.invokestatic idx, 3))
    (kk : ∀ (H1 : Heap) (locs1 : List Loc), rn_W D A s ws' H1 locs1 → W p l e R s m args below meth c H1 locs1 cells slots Q (F0 m (pc + 3) ls rest)) : W p l e R s m args below meth c H locs cells slots Q (F0 m pc ls st) := by
  subst hst
  have hF := va_free (wc := wc) hW.2.1 hW.2.2 X.2.2.1 isC hC
  obtain ⟨l1, l3, l4, l5⟩ := lk
  have hts := X.1.2.2.2.2
  have cb : CallB R s args own idx y b n none (.code y b n none :: rn_G) { frames := fr, cells := 0, slots := 0, locals := lo } 0 0 As.length ∧ (Cond.static y).before args s = true := ⟨callB_of As.length hts (rn_Ggd l4) rfl rfl rfl (hts _ l3) (hts _ hl) l5 hR, hts _ l1⟩
  refine va_callv (va_runS (As := As) (rest := rest) X.1 (hM H.size) cb ⟨rn_blind, fun U hU hw => rn_pre hF X hW hC hn hU hw⟩ rfl rfl hls rfl (lv_room hrm) hdg hcs) hW.2.2 (fun q _ h => hF q h) hF (fun u t H1 locs1 ht hvm hp hb hz hk hS1 => ?_)
  rw [ht] at hb
  exact kk H1 locs1 (rn_back hW hC hB hb hk hS1)
end RN
/-- a body's start -/
theorem rn_KI.of {l : Launch} {D : va_G} {k : Nat → ClassId} {z : (Nat → Nat) × (Nat → Nat)} {y : MethodName} {b : ByteArray} {n : Nat} {ty : FieldType} {fr lo : Nat} {av : List Value} {ws ws' : va_W} {r : Int32} (hy : plainName y.cls = true) (hn : (lg_sl av).length ≤ n)
    (body : ∀ (p : Program) (e : Env) (s : State) (m : MethodId) (args : Array Value) (below : List Frame) (meth : Method) (c : Code) (A : Nat → Prop) (ls : Array Slot), rn_X p m c b n s args y.cls D k z A → (meth.sig.returnType = some ty ∧ meth.locks = false) → rn_W D A s ws s.heap [] → lv_has ls n (lv_args 0 av) →
      W p l e { frames := fr, cells := 0, slots := 0, locals := lo } s m args below meth c s.heap [] 0 0 (MQ below (rn_Qi D ty r ws' A) args s 0 0 A) (F0 m 0 ls [])) : rn_KI l D k z y b n ty fr lo av ws ws' r := by
  intro sz
  refine Met.ofW (cc := b) (maxL := n) (ret := some ty) hy rfl ?_
  intro p e s m args below meth c s₁ B hml hv
  obtain ⟨rfl, hsz, hP, hK, hD0, hS0⟩ := hv
  subst hsz
  have hts := atoms_spec (ws := .code y b n (some ty) :: rn_G) B.pre
  rw [lg_entry_eq]
  exact body p e s m _ below meth c _ _ ⟨⟨B.exec, B.bytes, hml, findClass_of_methodNamed B.named, fun w hw => hts w (List.mem_cons_of_mem _ hw)⟩, hK, fun q h => Or.inr h, hS0⟩ ⟨B.returns, B.notSynchronized⟩ ⟨hP, hD0.self, va_S.rf⟩ (lv_entry av hn)
theorem rn_KL.of {l : Launch} {D : va_G} {k : Nat → ClassId} {z : (Nat → Nat) × (Nat → Nat)} {y : MethodName} {b : ByteArray} {n : Nat} {fr lo : Nat} {av : List Value} {ws ws' : va_W} {r : Int64} (hy : plainName y.cls = true) (hn : (lg_sl av).length ≤ n)
    (body : ∀ (p : Program) (e : Env) (s : State) (m : MethodId) (args : Array Value) (below : List Frame) (meth : Method) (c : Code) (A : Nat → Prop) (ls : Array Slot), rn_X p m c b n s args y.cls D k z A → (meth.sig.returnType = some .long ∧ meth.locks = false) → rn_W D A s ws s.heap [] → lv_has ls n (lv_args 0 av) →
      W p l e { frames := fr, cells := 0, slots := 0, locals := lo } s m args below meth c s.heap [] 0 0 (MQ below (rn_Ql D r ws' A) args s 0 0 A) (F0 m 0 ls [])) : rn_KL l D k z y b n fr lo av ws ws' r := by
  intro sz
  refine Met.ofW (cc := b) (maxL := n) (ret := some .long) hy rfl ?_
  intro p e s m args below meth c s₁ B hml hv
  obtain ⟨rfl, hsz, hP, hK, hD0, hS0⟩ := hv
  subst hsz
  have hts := atoms_spec (ws := .code y b n (some .long) :: rn_G) B.pre
  rw [lg_entry_eq]
  exact body p e s m _ below meth c _ _ ⟨⟨B.exec, B.bytes, hml, findClass_of_methodNamed B.named, fun w hw => hts w (List.mem_cons_of_mem _ hw)⟩, hK, fun q h => Or.inr h, hS0⟩ ⟨B.returns, B.notSynchronized⟩ ⟨hP, hD0.self, va_S.rf⟩ (lv_entry av hn)
theorem rn_KV.of {l : Launch} {D : va_G} {k : Nat → ClassId} {z : (Nat → Nat) × (Nat → Nat)} {y : MethodName} {b : ByteArray} {n : Nat} {fr lo : Nat} {av : List Value} {ws ws' : va_W} (hy : plainName y.cls = true) (hn : (lg_sl av).length ≤ n)
    (body : ∀ (p : Program) (e : Env) (s : State) (m : MethodId) (args : Array Value) (below : List Frame) (meth : Method) (c : Code) (A : Nat → Prop) (ls : Array Slot), rn_X p m c b n s args y.cls D k z A → (meth.sig.returnType = none ∧ meth.locks = false) → rn_W D A s ws s.heap [] → lv_has ls n (lv_args 0 av) →
      W p l e { frames := fr, cells := 0, slots := 0, locals := lo } s m args below meth c s.heap [] 0 0 (MQ below (rn_Qv D ws' A) args s 0 0 A) (F0 m 0 ls [])) : rn_KV l D k z y b n fr lo av ws ws' := by
  intro sz
  refine Met.ofW (cc := b) (maxL := n) (ret := none) hy rfl ?_
  intro p e s m args below meth c s₁ B hml hv
  obtain ⟨rfl, hsz, hP, hK, hD0, hS0⟩ := hv
  subst hsz
  have hts := atoms_spec (ws := .code y b n none :: rn_G) B.pre
  rw [lg_entry_eq]
  exact body p e s m _ below meth c _ _ ⟨⟨B.exec, B.bytes, hml, findClass_of_methodNamed B.named, fun w hw => hts w (List.mem_cons_of_mem _ hw)⟩, hK, fun q h => Or.inr h, hS0⟩ ⟨B.returns, B.notSynchronized⟩ ⟨hP, hD0.self, va_S.rf⟩ (lv_entry av hn)
section RE
variable {p : Program} {l : Launch} {e : Env} {R : Room} {s : State} {m : MethodId} {args : Array Value} {below : List Frame} {meth : Method} {c : Code} {H : Heap} {locs : List Loc}
variable {cc : ByteArray} {nL : Nat} {own : String} {pc : Nat} {ls : Array Slot} {D : va_G} {k : Nat → ClassId} {z : (Nat → Nat) × (Nat → Nat)} {A : Nat → Prop} {ws : va_W}
theorem rr_iret (X : rn_X p m c cc nL s args own D k z A) {ty : FieldType} (hr : meth.sig.returnType = some ty ∧ meth.locks = false) (hW : rn_W D A s ws H locs) {r : Int32} (hn : narrow ty (.int r) = .int r) (hdg : decode cc pc = .ok (.ireturn, 1)) : W p l e R s m args below meth c H locs 0 0 (MQ below (rn_Qi D ty r ws A) args s 0 0 A) (F0 m pc ls [.int r]) :=
  W.zret X.1.1 X.1.2.1 hr.1 hn (fun t ht hW2 => ⟨⟨r, (), rfl, ⟨rfl, hn⟩, by show va_P D vwCl ws t.heap; rw [ht]; exact hW.1⟩, hW.2.2.F ht⟩) hW.2.2.2.2 hdg hr.2
theorem rr_lret (X : rn_X p m c cc nL s args own D k z A) (hr : meth.sig.returnType = some .long ∧ meth.locks = false) (hW : rn_W D A s ws H locs) {r : Int64} (hdg : decode cc pc = .ok (.lreturn, 1)) : W p l e R s m args below meth c H locs 0 0 (MQ below (rn_Ql D r ws A) args s 0 0 A) (F0 m pc ls [.long r]) :=
  W.lret X.1.1 X.1.2.1 hr.1 (fun t ht hW2 => ⟨⟨r, (), rfl, rfl, by show va_P D vwCl ws t.heap; rw [ht]; exact hW.1⟩, hW.2.2.F ht⟩) hW.2.2.2.2 hdg hr.2
theorem rr_vret (X : rn_X p m c cc nL s args own D k z A) (hr : meth.sig.returnType = none ∧ meth.locks = false) (hW : rn_W D A s ws H locs) (hdg : decode cc pc = .ok (.return_, 1)) : W p l e R s m args below meth c H locs 0 0 (MQ below (rn_Qv D ws A) args s 0 0 A) (F0 m pc ls []) :=
  W.vret X.1.1 X.1.2.1 hr.1 (fun t ht hW2 => ⟨⟨(), rfl, trivial, by show va_P D vwCl ws t.heap; rw [ht]; exact hW.1⟩, hW.2.2.F ht⟩) hW.2.2.2.2 hdg hr.2
end RE
/-- a guard of an index, and what it says -/
def rn_g {α : Type} (i : Int32) (n : Nat) (o : Option α) : Option α := if 0 ≤ i.toInt ∧ i.toInt < n then o else none
theorem rn_g_s {α : Type} {i : Int32} {n : Nat} {o : Option α} {u : α} (h : rn_g i n o = some u) : vp_in i n ∧ o = some u := by
  unfold rn_g at h
  split at h
  · next hc => exact ⟨vp_in_iff.mpr hc, h⟩
  · cases h
def rn_z {α : Type} (c : Prop) [Decidable c] (o : Option α) : Option α := if c then none else o
theorem rn_z_s {α : Type} {c : Prop} [Decidable c] {o : Option α} {u : α} (h : rn_z c o = some u) : ¬ c ∧ o = some u := by
  unfold rn_z at h
  split at h
  · cases h
  · next hc => exact ⟨hc, h⟩
theorem rn_bind {α β : Type} {o : Option α} {f : α → Option β} {u : β} (h : o.bind f = some u) : ∃ v, o = some v ∧ f v = some u := by
  cases o with
  | none => cases h
  | some v => exact ⟨v, rfl, h⟩
theorem rn_t {α : Type} {c : Prop} [Decidable c] {a b : Option α} {u : α} (h : (if c then a else b) = some u) (hc : c) : a = some u := by rw [if_pos hc] at h; exact h
theorem rn_f {α : Type} {c : Prop} [Decidable c] {a b : Option α} {u : α} (h : (if c then a else b) = some u) (hc : ¬ c) : b = some u := by rw [if_neg hc] at h; exact h
