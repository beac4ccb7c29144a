/-! what a station sends in an hour, on both sides -/
def frq (a b : Nat) (st : Nat → Int32) (s k : Nat) (v : Int32) : Prop := ∃ u, u < a ∧ v = nI u ∧ ¬ qC st k s 0 = 0 ∧ ¬ qM st k 1 = nI s ∧ (∀ i L, qC st k s 3 = nI L → L ≤ 8 → i < L → ¬ qC st k s (4 + i) = nI u) ∧ ∃ i, i < b ∧ ((qL st i 0 = nI s ∧ qL st i 1 = nI u) ∨ (qL st i 0 = nI u ∧ qL st i 1 = nI s))
theorem frq_k {a b s k k0 : Nat} {st st' : Nat → Int32} {v : Int32} (hb : b ≤ 16) (hk : k < 24) (hs : s < 8) (h : kp k0 st st') (hne : k ≠ k0) (f : frq a b st s k v) : frq a b st' s k v := by
  obtain ⟨u, f1, f2, f3, f4, f5, i, f6, f7⟩ := f
  refine ⟨u, f1, f2, ?_, ?_, fun i L h1 h2 h3 => ?_, i, f6, ?_⟩
  · rw [h.2.2.2.2 k s 0 hk hs (by decide) hne]; exact f3
  · rw [h.2.2.1 k 1 hk (by decide)]; exact f4
  · rw [h.2.2.2.2 k s 3 hk hs (by decide) hne] at h1
    rw [h.2.2.2.2 k s (4 + i) hk hs (by omega) hne]
    exact f5 i L h1 h2 h3
  · rw [h.2.1 i 0 (by omega) (by decide), h.2.1 i 1 (by omega) (by decide)]
    exact f7
section PW
variable {N t a b m e tt τ : Nat} {sc lc mc tm life tries x : Int32} {stations links messages copies : Nat → Int32} {first size : Int32} {events st : Nat → Int32} {heard : Nat → Int64}
def nvP (N a b tt : Nat) (messages copies st : Nat → Int32) (heard : Nat → Int64) (s k : Nat) (v : Int32) : Prop :=
  (∀ ar fe nx, ∃ y, fX2_nextOf N (nI tt) messages copies ar fe nx heard (nI k) (nI s) = some (v, y)) ∧ ((qC st k s 0 = 1 ∧ qC st k s 2 ≤ nI tt) → ∀ A K I, ∃ y, fX7_nextOf N st A K I (nI k) (nI s) = some (v, y)) ∧ (¬ (qC st k s 0 = 1 ∧ qC st k s 2 ≤ nI tt) → v = -1) ∧ (v = -1 ∨ frq a b st s k v)
theorem nvs {s : Nat} (hN : 6000 ≤ N) (h : rlA t a b m e tt τ sc lc mc tm life tries x stations links messages copies first size events st) (ht : t < 1000000) (eH : ev_H b heard st) (hs : s < a) : ∃ nv : Nat → Int32, ∀ k, k < m → nvP N a b tt messages copies st heard s k (nv k) := by
  obtain ⟨ha, hb, hm, he, htt⟩ := h.1.1.1
  have key : ∀ k, ∃ v, k < m → nvP N a b tt messages copies st heard s k v := fun k => by
    by_cases hk : k < m
    · have c0 : copies (5 * (8 * k + s) + 0) = qC st k s 0 := h.2.2.2.2.1.2.1 k s 0 (by omega) (by omega) (by omega)
      have c2 : copies (5 * (8 * k + s) + 2) = qC st k s 2 := h.2.2.2.2.1.2.1 k s 2 (by omega) (by omega) (by omega)
      by_cases c : qC st k s 0 = 1 ∧ qC st k s 2 ≤ nI tt
      · have hc := ((h.2.2.2.2.1.1 k s (by omega) (by omega)).resolve_left (fun q => by rw [q.1] at c; exact absurd c.1 (by decide))).2.2
        have nx := fun (A K I : Nat → Int32) (ar fe nx : Int32) => nx_eq (A := A) (K := K) (isA := I) (ar := ar) (fe := fe) (nx := nx) hN h.1.1 ht h.2.1.1 h.2.2.1.1 h.2.2.1.2.1 h.2.2.2.1.1 h.2.2.2.1.2 h.2.2.2.2.1.2.1 h.2.2.2.2.1.2.2 eH hk hs hc c.1 c.2
        obtain ⟨v, x0, y0, z0, A0, K0, I0, n1, n2, n3⟩ := nx (fun _ => 0) (fun _ => 0) (fun _ => 0) 0 0 0
        refine ⟨v, fun _ => ⟨fun ar fe nx' => ?_, fun _ A K I => ?_, fun q => absurd c q, ?_⟩⟩
        · obtain ⟨v', x', y', z', A', K', I', m1, m2, -⟩ := nx (fun _ => 0) (fun _ => 0) (fun _ => 0) ar fe nx'
          rw [n2] at m2
          have e1 := congrArg Prod.fst (Option.some.inj m2)
          have e1 : v = v' := e1
          subst e1
          exact ⟨_, m1⟩
        · obtain ⟨v', x', y', z', A', K', I', m1, m2, -⟩ := nx A K I 0 0 0
          rw [n1] at m1
          have e1 := congrArg Prod.fst (Option.some.inj m1)
          have e1 : v = v' := e1
          subst e1
          exact ⟨_, m2⟩
        · rcases n3 with q | ⟨u, u1, u2, ⟨l, l1, -, l2⟩, u4⟩
          · exact Or.inl q
          · refine Or.inr ⟨u, u1, u2, fun q => ?_, fun q => ?_, u4, l, l1, l2⟩
            · rw [q] at c
              exact absurd c.1 (by decide)
            · have := hc.2.1.mpr q
              rw [this] at c
              exact absurd c.1 (by decide)
      · refine ⟨-1, fun _ => ⟨fun ar fe nx' => ⟨(ar, fe, nx'), ?_⟩, fun q => absurd q c, fun _ => rfl, Or.inl rfl⟩⟩
        unfold fX2_nextOf
        rw [rw2, rn_bs, show fX4_get (192 : Int32) (5 : Int32) 960 copies (nI (8 * k + s)) (0 : Int32) = some (qC st k s 0) from (tC (q := 0) (by omega) (by omega)).trans (congrArg some c0), rn_bs]
        by_cases q : qC st k s 0 = 1
        · rw [if_pos q, show fX4_get (192 : Int32) (5 : Int32) 960 copies (nI (8 * k + s)) (2 : Int32) = some (qC st k s 2) from (tC (q := 2) (by omega) (by omega)).trans (congrArg some c2), rn_bs, if_neg (fun r => c ⟨q, r⟩)]
        · rw [if_neg q]
    · exact ⟨0, fun q => absurd q hk⟩
  exact ⟨fun k => Classical.choose (key k), fun k hk => Classical.choose_spec (key k) hk⟩
/-- the model's frames -/
theorem lf7 {s : Nat} {nv : Nat → Int32} {pr : Nat → Nat} (hN : 6000 ≤ N) (h2 : st 2 = nI m) (h3 : st 3 = nI tt) (hm : m ≤ 24) (hs : s < 8) (hp : ∀ k, k < m → pr k < 4 ∧ qM st k 2 = nI (pr k)) (hv : ∀ k, k < m → nvP N a b tt messages copies st heard s k (nv k)) (A K I T D : Nat → Int32) :
    ∃ A' K' I' T' D', lX7_layFrames_22 N st (nI s) N (0 : Int32) (0 : Int32) A K I T D = some (nI (msl nv pr m).length, A', K', I', T', D') ∧ lsT nv T' D' (msl nv pr m) := by
  have lp : ∀ (n k : Nat) (A K I T D : Nat → Int32), k ≤ m → m - k < n → lsT nv T D (msl nv pr k) → ∃ A' K' I' T' D', lX7_layFrames_22 N st (nI s) n (nI k) (nI (msl nv pr k).length) A K I T D = some (nI (msl nv pr m).length, A', K', I', T', D') ∧ lsT nv T' D' (msl nv pr m) := by
    intro n
    induction n with
    | zero => intro k A K I T D _ h; omega
    | succ n ih =>
      intro k A K I T D hk hn hl
      rw [lX7_layFrames_22, g2, cl2, h2]
      rcases Nat.lt_or_ge k m with c | c
      · rw [if_neg (nI_ge c (by omega)), show fX7_ofCopy st (nI k) (nI s) (0 : Int32) = some (qC st k s 0) from oC (q := 0) (by omega) hs (by decide), rn_bs]
        obtain ⟨-, w1, w2, -⟩ := hv k c
        -- the model's value
        have blk : ∃ y, (Option.bind (if qC st k s 0 = (1 : Int32) then (fX7_ofCopy st (nI k) (nI s) (2 : Int32)).bind fun t10 => rn_g (3 : Int32) 2888 <| if (st (3 : Int32).toNatClampNeg) < t10 then some (0 : Int32) else some (1 : Int32) else some (0 : Int32)) fun t8 => (if t8 = 0 then some ((-1 : Int32), A, K, I) else (fX7_nextOf N st A K I (nI k) (nI s)).bind fun t15 => some (t15.1, t15.2.1, t15.2.2.1, t15.2.2.2))) = some (nv k, y) := by
          by_cases c1 : qC st k s 0 = 1
          · rw [if_pos c1, show fX7_ofCopy st (nI k) (nI s) (2 : Int32) = some (qC st k s 2) from oC (q := 2) (by omega) hs (by decide), rn_bs, g3, cl3, h3]
            by_cases c2 : qC st k s 2 ≤ nI tt
            · rw [if_neg (Int32.not_lt.mpr c2), rn_bs, if_neg (show ¬ (1 : Int32) = 0 by decide)]
              obtain ⟨y, hy⟩ := w1 ⟨c1, c2⟩ A K I
              rw [hy, rn_bs]
              exact ⟨_, rfl⟩
            · rw [if_pos (Int32.not_le.mp c2), rn_bs, if_pos rfl, w2 (fun q => c2 q.2)]
              exact ⟨_, rfl⟩
          · rw [if_neg c1, rn_bs, if_pos rfl, w2 (fun q => c1 q.1)]
            exact ⟨_, rfl⟩
        obtain ⟨⟨A1, K1, I1⟩, hy⟩ := blk
        rw [show ∀ (X : Option Int32) (Y : Int32 → Option (Int32 × (Nat → Int32) × (Nat → Int32) × (Nat → Int32))) (Z : Int32 × (Nat → Int32) × (Nat → Int32) × (Nat → Int32) → Option (Int32 × (Nat → Int32) × (Nat → Int32) × (Nat → Int32) × (Nat → Int32) × (Nat → Int32))), (Option.bind X fun t8 => Option.bind (Y t8) Z) = Option.bind (Option.bind X Y) Z from fun X Y Z => by cases X <;> rfl, hy, rn_bs]
        by_cases c1 : nv k = -1
        · rw [if_pos c1, nI_1, ← msl_0 (pr := pr) c1]
          exact ih (k + 1) _ _ _ _ _ (by omega) (by omega) (by rw [msl_0 c1]; exact hl)
        · rw [if_neg c1]
          obtain ⟨B1, B2, e1, e2, e3, e4⟩ := msl_s (nv := nv) (pr := pr) c1 (hp k c).1
          rw [e1] at hl ⊢
          have lb := msl_l (nv := nv) (pr := pr) k
          rw [e1] at lb
          obtain ⟨T', D', i1, i2⟩ := ins7 (nv := nv) hN hp hm c e3 e4 (fun k' hk' => by have := (msl_m (by rw [e1]; exact hk')).1; omega) (by omega) hl
          rw [List.length_append] at lb
          rw [i1, rn_bs, rn_gI (by omega) (by decide), rn_lt, rn_gI (by omega) (by decide), rn_lt, nI_clamp (by omega), nI_1, nI_1, show (B1 ++ B2).length + 1 = (msl nv pr (k + 1)).length by rw [e2, List.length_append, List.length_append, List.length_cons]; omega]
          exact ih (k + 1) _ _ _ _ _ (by omega) (by omega) (by rw [e2]; exact i2)
      · have : k = m := by omega
        subst this
        rw [if_pos (nI_le (Nat.le_refl _) (by omega))]
        exact ⟨_, _, _, _, _, rfl, hl⟩
  exact lp N 0 A K I T D (by omega) (by omega) (fun i k q => by
    have : msl nv pr 0 = [] := rfl
    rw [this] at q
    simp at q)
/-- the class's frames of one priority -/
theorem in2F {s p r : Nat} {nv : Nat → Int32} {pr : Nat → Nat} {X : List Nat} (hm : m ≤ 24) (hp4 : p < 4) (hr : r ≤ 9) (hp : ∀ k, k < m → pr k < 4 ∧ messages (12 * k + 2) = nI (pr k)) (hv : ∀ k, k < m → nvP N a b tt messages copies st heard s k (nv k)) :
    ∀ (n k : Nat) (ar fe nx : Int32) (F : Nat → Int32), k ≤ m → m - k < n → lsF nv F ((X ++ rdy nv pr p k).take r) → ∃ ar' fe' nx' F', lX2_lineUp_37 N (nI m) (nI tt) messages copies heard (nI s) (nI r) (nI p) n (nI ((X ++ rdy nv pr p k).take r).length) (nI k) ar fe nx F = some (nI ((X ++ rdy nv pr p m).take r).length, ar', fe', nx', F') ∧ lsF nv F' ((X ++ rdy nv pr p m).take r) := by
  intro n
  induction n with
  | zero => intro k ar fe nx F _ h; omega
  | succ n ih =>
    intro k ar fe nx F hk hn hF
    have hlen : ((X ++ rdy nv pr p k).take r).length ≤ r := by rw [List.length_take]; omega
    rw [lX2_lineUp_37]
    rcases Nat.lt_or_ge k m with c | c
    · rw [if_neg (nI_ge c (by omega))]
      rcases Nat.lt_or_ge ((X ++ rdy nv pr p k).take r).length r with c1 | c1
      · have hfull : (X ++ rdy nv pr p k).take r = X ++ rdy nv pr p k := by
          apply List.take_of_length_le
          rw [List.length_take] at c1
          omega
        have hp := hp k c
        rw [if_neg (nI_ge c1 (by omega)), show fX4_get (24 : Int32) (12 : Int32) 288 messages (nI k) (2 : Int32) = some (nI (pr k)) from (tM (q := 2) (by omega) (by decide)).trans (congrArg some hp.2), rn_bs]
        by_cases c2 : pr k = p
        · obtain ⟨y, hy⟩ := (hv k c).1 ar fe nx
          rw [if_pos (by rw [c2]), hy, rn_bs, rn_bs]
          by_cases c3 : nv k = -1
          · rw [if_pos c3, nI_1]
            have e1 : rdy nv pr p (k + 1) = rdy nv pr p k := by rw [rdy_s, if_neg (fun q => q.1 c3), List.append_nil]
            rw [← e1]
            exact ih (k + 1) _ _ _ _ (by omega) (by omega) (by rw [e1]; exact hF)
          · have e1 : rdy nv pr p (k + 1) = rdy nv pr p k ++ [k] := by rw [rdy_s, if_pos ⟨c3, c2⟩]
            have e2 : (X ++ rdy nv pr p (k + 1)).take r = (X ++ rdy nv pr p k) ++ [k] := by
              rw [e1, ← List.append_assoc]
              apply List.take_of_length_le
              rw [hfull] at c1
              rw [List.length_append, List.length_singleton]
              omega
            have u9 : ∀ (cc : Nat → Int32) (q : Nat) (w : Int32), q < 2 → fX4_set (9 : Int32) (2 : Int32) 18 cc (nI ((X ++ rdy nv pr p k).take r).length) (nI q) w = some (upd cc (2 * ((X ++ rdy nv pr p k).take r).length + q) w) := fun cc q w hq => uF (by omega) hq
            rw [if_neg c3, show fX4_set (9 : Int32) (2 : Int32) 18 F (nI ((X ++ rdy nv pr p k).take r).length) (0 : Int32) (nI k) = _ from u9 F 0 _ (by decide), rn_bs, show ∀ cc, fX4_set (9 : Int32) (2 : Int32) 18 cc (nI ((X ++ rdy nv pr p k).take r).length) (1 : Int32) (nv k) = _ from fun cc => u9 cc 1 _ (by decide), rn_bs, nI_1, nI_1]
            have e3 : ((X ++ rdy nv pr p k).take r).length + 1 = ((X ++ rdy nv pr p (k + 1)).take r).length := by
              rw [e2, hfull, List.length_append (bs := [k]), List.length_singleton]
            rw [e3]
            refine ih (k + 1) _ _ _ _ (by omega) (by omega) ?_
            rw [e2]
            intro i k' hi
            rw [hfull] at hF ⊢
            by_cases c4 : i < (X ++ rdy nv pr p k).length
            · rw [List.getElem?_append_left c4] at hi
              rw [pk_un (by omega), pk_un (by omega), pk_un (by omega), pk_un (by omega)]
              exact hF i k' hi
            · rw [List.getElem?_append_right (by omega)] at hi
              have hi0 : i - (X ++ rdy nv pr p k).length = 0 := by
                have := (List.getElem?_eq_some_iff.mp hi).1
                rw [List.length_singleton] at this
                omega
              rw [hi0] at hi
              have hi : some k = some k' := hi
              have hi := Option.some.inj hi
              subst hi
              have hie : i = (X ++ rdy nv pr p k).length := by omega
              rw [hie]
              refine ⟨?_, pk_us⟩
              rw [pk_un (by omega)]
              exact pk_us
        · rw [if_neg (fun q => c2 ((nI_eq (by omega) (by omega)).mp q)), rn_bs, if_pos rfl, nI_1]
          have e1 : rdy nv pr p (k + 1) = rdy nv pr p k := by rw [rdy_s, if_neg (fun q => c2 q.2), List.append_nil]
          rw [← e1]
          exact ih (k + 1) _ _ _ _ (by omega) (by omega) (by rw [e1]; exact hF)
      · rw [if_pos (nI_le c1 (by omega))]
        obtain ⟨w, hw⟩ := rdy_x (nv := nv) (pr := pr) p k (m - k)
        rw [show k + (m - k) = m by omega] at hw
        have e1 : (X ++ rdy nv pr p m).take r = (X ++ rdy nv pr p k).take r := by
          rw [hw, ← List.append_assoc]
          apply List.take_append_of_le_length
          rw [List.length_take] at c1
          omega
        rw [e1]
        exact ⟨_, _, _, _, rfl, hF⟩
    · have : k = m := by omega
      subst this
      rw [if_pos (nI_le (Nat.le_refl _) (by omega))]
      exact ⟨_, _, _, _, rfl, hF⟩
end PW
