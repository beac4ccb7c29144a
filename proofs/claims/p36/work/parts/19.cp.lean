/-! System.arraycopy between two rows of the world (own rows) -/
def rn_ag {α : Type} (sp dp n : Int32) (n0 n1 : Nat) (o : Option α) : Option α := if ¬ sp < 0 ∧ ¬ dp < 0 ∧ ¬ n < 0 ∧ sp.toNatClampNeg + n.toNatClampNeg ≤ n0 ∧ dp.toNatClampNeg + n.toNatClampNeg ≤ n1 then o else none
theorem rn_ag_s {α : Type} {sp dp n : Int32} {n0 n1 : Nat} {o : Option α} {u : α} (h : rn_ag sp dp n n0 n1 o = some u) : (¬ sp < 0 ∧ ¬ dp < 0 ∧ ¬ n < 0 ∧ sp.toNatClampNeg + n.toNatClampNeg ≤ n0 ∧ dp.toNatClampNeg + n.toNatClampNeg ≤ n1) ∧ o = some u := by
  unfold rn_ag at h
  split at h
  · next hc => exact ⟨hc, h⟩
  · cases h
theorem gq_X4_35 : Cond.methodLink RX4 35 arraycopyName ∈ rn_G := rn_Gix 850 (by decide +kernel) rfl
theorem gq_X5_31 : Cond.methodLink RX5 31 arraycopyName ∈ rn_G := rn_Gix 863 (by decide +kernel) rfl
theorem gq_cps : Cond.static arraycopyName ∈ rn_G := rn_Gix 851 (by decide +kernel) rfl
theorem gq_cpn : Cond.native arraycopyName ∈ rn_G := rn_Gix 852 (by decide +kernel) rfl
theorem gq_sys : Cond.initialized "java/lang/System" ∈ rn_G := rn_Gix 51 (by decide +kernel) rfl
theorem rn_rc {R : Room} {fr lo : Nat} (hR : R = { frames := fr, cells := 0, slots := 0, locals := lo }) (h : (Nat.ble 1 fr && Nat.ble 26 lo) = true) : 1 ≤ R.frames ∧ 26 ≤ R.locals := by
  subst hR
  simp only [Bool.and_eq_true] at h
  exact ⟨Nat.le_of_ble_eq_true h.1, Nat.le_of_ble_eq_true h.2⟩
theorem rn_nfw : nativeFrameWords "java/lang/System" "arraycopy" 5 + 11 = 18 := by decide
section CP
variable {p : Program} {l : Launch} {e : Env} {R : Room} {s : State} {m : MethodId} {args : Array Value} {below : List Frame} {meth : Method} {c : Code} {H : Heap} {locs : List Loc} {cells slots : Nat} {Q : State → Prop}
variable {cc : ByteArray} {nL : Nat} {own : String} {pc : Nat} {ls : Array Slot} {rest : List Value} {D : va_G} {k : Nat → ClassId} {z : (Nat → Nat) × (Nat → Nat)} {A : Nat → Prop} {ws ws' : va_W}
theorem rr_cpi (X : rn_X p m c cc nL s args own D k z A) (hW : rn_W D A s ws H locs) (q0 q1 : Nat) {a0 a1 n0 n1 idx : Nat} {f g w : Nat → Int32} {sp dp n : Int32} (ha0 : ws[q0]? = some (a0, .inl (k 0, n0, .inl f))) (ha1 : ws[q1]? = some (a1, .inl (k 0, n1, .inl g))) (hg : ¬ sp < 0 ∧ ¬ dp < 0 ∧ ¬ n < 0 ∧ sp.toNatClampNeg + n.toNatClampNeg ≤ n0 ∧ dp.toNatClampNeg + n.toNatClampNeg ≤ n1) (hw : va_cpy f g sp.toNatClampNeg dp.toNatClampNeg n.toNatClampNeg = w) (hws : ws.set q1 (a1, .inl (k 0, n1, .inl w)) = ws') (hlk : Cond.methodLink own idx arraycopyName ∈ rn_G) (hR : 1 ≤ R.frames ∧ 26 ≤ R.locals) (hls : ls.size = nL) (hrm : (rest.map fun v => v.category).sum ≤ 8) (hdg : decode cc pc = .ok (.invokestatic idx, 3))
    (kk : ∀ (H1 : Heap) (locs1 : List Loc), rn_W D A s ws' H1 locs1 → W p l e R s m args below meth c H1 locs1 cells slots Q (F0 m (pc + 3) ls rest)) : W p l e R s m args below meth c H locs cells slots Q (F0 m pc ls (.int n :: .int dp :: .ref a1 :: .int sp :: .ref a0 :: rest)) := by
  obtain ⟨⟨hx, hb, hml, hown, hts⟩, hK, -⟩ := X
  subst hw
  subst hws
  exact va_copyi hx hb (hml.trans hls.symm) hown (hts _ hlk) (hts _ gq_cpn) (hts _ gq_cps) (hts _ gq_sys) hK hW.1 hW.2.1 hW.2.2 q0 q1 0 0 (ty := .int) ha0 ha1 rfl rfl rfl hg.1 hg.2.1 hg.2.2.1 hg.2.2.2.1 hg.2.2.2.2 (fun _ _ => rfl) hR.1 (by rw [rn_nfw]; omega) hdg (fun H1 l1 b1 b2 b3 => kk H1 l1 ⟨b1, b2, b3⟩)
theorem rr_cpl (X : rn_X p m c cc nL s args own D k z A) (hW : rn_W D A s ws H locs) (q0 q1 : Nat) {a0 a1 n0 n1 idx : Nat} {f g w : Nat → Int64} {sp dp n : Int32} (ha0 : ws[q0]? = some (a0, .inl (k 1, n0, .inr (.inl f)))) (ha1 : ws[q1]? = some (a1, .inl (k 1, n1, .inr (.inl g)))) (hg : ¬ sp < 0 ∧ ¬ dp < 0 ∧ ¬ n < 0 ∧ sp.toNatClampNeg + n.toNatClampNeg ≤ n0 ∧ dp.toNatClampNeg + n.toNatClampNeg ≤ n1) (hw : va_cpy f g sp.toNatClampNeg dp.toNatClampNeg n.toNatClampNeg = w) (hws : ws.set q1 (a1, .inl (k 1, n1, .inr (.inl w))) = ws') (hlk : Cond.methodLink own idx arraycopyName ∈ rn_G) (hR : 1 ≤ R.frames ∧ 26 ≤ R.locals) (hls : ls.size = nL) (hrm : (rest.map fun v => v.category).sum ≤ 8) (hdg : decode cc pc = .ok (.invokestatic idx, 3))
    (kk : ∀ (H1 : Heap) (locs1 : List Loc), rn_W D A s ws' H1 locs1 → W p l e R s m args below meth c H1 locs1 cells slots Q (F0 m (pc + 3) ls rest)) : W p l e R s m args below meth c H locs cells slots Q (F0 m pc ls (.int n :: .int dp :: .ref a1 :: .int sp :: .ref a0 :: rest)) := by
  obtain ⟨⟨hx, hb, hml, hown, hts⟩, hK, -⟩ := X
  subst hw
  subst hws
  exact va_copyl hx hb (hml.trans hls.symm) hown (hts _ hlk) (hts _ gq_cpn) (hts _ gq_cps) (hts _ gq_sys) hK hW.1 hW.2.1 hW.2.2 q0 q1 1 1 (ty := .long) ha0 ha1 rfl rfl rfl hg.1 hg.2.1 hg.2.2.1 hg.2.2.2.1 hg.2.2.2.2 (fun _ _ => rfl) hR.1 (by rw [rn_nfw]; omega) hdg (fun H1 l1 b1 b2 b3 => kk H1 l1 ⟨b1, b2, b3⟩)
end CP
