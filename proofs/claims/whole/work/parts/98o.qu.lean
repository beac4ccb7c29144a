/-! mean hours, the rate of losses: the same numbers on both sides; doubles, floats that are alike -/
theorem dn64 {n : Nat} (h : 0x7ff0000000000000 < n % 2 ^ 63) : Jvm.FP.Core.decode Jvm.FP.Core.b64 n = .nan := by
  have hE : Jvm.FP.Core.fieldE Jvm.FP.Core.b64 n = Jvm.FP.Core.b64.exps - 1 := by
    show n / 2 ^ 52 % 2 ^ 11 = 2 ^ 11 - 1
    omega
  have hT : ¬ Jvm.FP.Core.fieldT Jvm.FP.Core.b64 n = 0 := by
    show ¬ n % 2 ^ 52 = 0
    omega
  unfold Jvm.FP.Core.decode
  rw [if_pos hE, if_neg hT]
theorem dn32 {n : Nat} (h : 0x7f800000 < n % 2 ^ 31) : Jvm.FP.Core.decode Jvm.FP.Core.b32 n = .nan := by
  have hE : Jvm.FP.Core.fieldE Jvm.FP.Core.b32 n = Jvm.FP.Core.b32.exps - 1 := by
    show n / 2 ^ 23 % 2 ^ 8 = 2 ^ 8 - 1
    omega
  have hT : ¬ Jvm.FP.Core.fieldT Jvm.FP.Core.b32 n = 0 := by
    show ¬ n % 2 ^ 23 = 0
    omega
  unfold Jvm.FP.Core.decode
  rw [if_pos hE, if_neg hT]
theorem nan64 {r : UInt64} (h : isNaN64 r = true) : Jvm.FP.Core.decode Jvm.FP.Core.b64 r.toNat = .nan := by
  rw [isNaN64_iff, show (0x7fffffffffffffff : Nat) = 2 ^ 63 - 1 from rfl, Nat.and_two_pow_sub_one_eq_mod] at h
  exact dn64 h
theorem nan32 {r : UInt32} (h : isNaN32 r = true) : Jvm.FP.Core.decode Jvm.FP.Core.b32 r.toNat = .nan := by
  rw [isNaN32_iff, show (0x7fffffff : Nat) = 2 ^ 31 - 1 from rfl, Nat.and_two_pow_sub_one_eq_mod] at h
  exact dn32 h
theorem cmp_s (x : Int) : compare x x = Ordering.eq := by
  show compareOfLessAndEq x x = Ordering.eq
  unfold compareOfLessAndEq
  rw [if_neg (Int.lt_irrefl x), if_pos rfl]
theorem dc_n {x y : UInt64} (h : Jvm.FP.Core.decode Jvm.FP.Core.b64 x.toNat = .nan) : FP.dcmp x y = none := by
  show Jvm.FP.Core.order (Jvm.FP.Core.decode Jvm.FP.Core.b64 x.toNat) (Jvm.FP.Core.decode Jvm.FP.Core.b64 y.toNat) = none
  rw [h]
  rfl
theorem dc_s {x : UInt64} (h : ¬ Jvm.FP.Core.decode Jvm.FP.Core.b64 x.toNat = .nan) : FP.dcmp x x = some .eq := by
  show Jvm.FP.Core.order (Jvm.FP.Core.decode Jvm.FP.Core.b64 x.toNat) (Jvm.FP.Core.decode Jvm.FP.Core.b64 x.toNat) = some .eq
  generalize Jvm.FP.Core.decode Jvm.FP.Core.b64 x.toNat = d at h
  cases d with
  | nan => exact absurd rfl h
  | inf s => exact congrArg some (cmp_s _)
  | fin s c q => exact congrArg some (cmp_s _)
/-- what the law asks of two doubles -/
def okd (r1 r2 : UInt64) : Prop := Op.cmpValue (FP.dcmp r1 r2) CmpOp.l = 0 ∨ (¬ Op.cmpValue (FP.dcmp r1 r2) CmpOp.l = 0 ∧ ¬ Op.cmpValue (FP.dcmp r1 r1) CmpOp.l = 0 ∧ ¬ Op.cmpValue (FP.dcmp r2 r2) CmpOp.l = 0)
theorem okd_n {r1 r2 : UInt64} (h1 : Jvm.FP.Core.decode Jvm.FP.Core.b64 r1.toNat = .nan) (h2 : Jvm.FP.Core.decode Jvm.FP.Core.b64 r2.toNat = .nan) : okd r1 r2 := by
  have e : ∀ x y : UInt64, Jvm.FP.Core.decode Jvm.FP.Core.b64 x.toNat = .nan → FP.dcmp x y = none := fun x y h => dc_n h
  right
  rw [e _ _ h1, e _ _ h1, e _ _ h2]
  exact ⟨by decide, by decide, by decide⟩
theorem okd_s (r : UInt64) : okd r r := by
  by_cases h : Jvm.FP.Core.decode Jvm.FP.Core.b64 r.toNat = .nan
  · exact okd_n h h
  · left
    rw [dc_s h]
    rfl
theorem okd_a {r1 r2 x : UInt64} (h1 : alike64 r1 x = true) (h2 : alike64 r2 x = true) : okd r1 r2 := by
  unfold alike64 at h1 h2
  simp only [Bool.or_eq_true, decide_eq_true_eq, Bool.and_eq_true] at h1 h2
  rcases h1 with rfl | ⟨h1, hx⟩
  · rcases h2 with rfl | ⟨h2, hx⟩
    · exact okd_s _
    · exact okd_n (nan64 hx) (nan64 h2)
  · rcases h2 with rfl | ⟨h2, _⟩
    · exact okd_n (nan64 h1) (nan64 hx)
    · exact okd_n (nan64 h1) (nan64 h2)
theorem okd_m {s c : Int32} {r1 r2 : UInt64} (h1 : rn_mean s c r1) (h2 : rn_mean s c r2) : okd r1 r2 := by
  by_cases h : c = 0
  · rw [h1.1 h, h2.1 h]
    exact okd_s _
  · exact okd_a (h1.2 h) (h2.2 h)
/-- what the law asks of two floats, made doubles -/
theorem vf_n {r : UInt32} (h : Jvm.FP.Core.decode Jvm.FP.Core.b32 r.toNat = .nan) {d : UInt64} (hd : alike64 d (FP.f2d r) = true) : Jvm.FP.Core.decode Jvm.FP.Core.b64 d.toNat = .nan := by
  have h1 : Jvm.FP.Core.fIsNaN r = true := decide_eq_true h
  have e : FP.f2d r = FP.nanF2D r := if_pos h1
  have g : isNaN64 (FP.nanF2D r) = true := by
    unfold FP.nanF2D
    refine isNaN64_or_left ?_
    rw [UInt64.or_comm]
    exact isNaN64_or_left (by decide +kernel)
  rw [e] at hd
  unfold alike64 at hd
  simp only [Bool.or_eq_true, decide_eq_true_eq, Bool.and_eq_true] at hd
  rcases hd with rfl | ⟨hd, _⟩
  · exact nan64 g
  · exact nan64 hd
theorem okf_r {s c : Int32} {r1 r2 : UInt32} (h1 : rn_rate s c r1) (h2 : rn_rate s c r2) {d1 d2 : UInt64} (g1 : alike64 d1 (FP.f2d r1) = true) (g2 : alike64 d2 (FP.f2d r2) = true) : okd d1 d2 := by
  by_cases h : c = 0
  · rw [h1.1 h] at g1
    rw [h2.1 h] at g2
    exact okd_a g1 g2
  · have a1 := h1.2 h
    have a2 := h2.2 h
    unfold alike32 at a1 a2
    simp only [Bool.or_eq_true, decide_eq_true_eq, Bool.and_eq_true] at a1 a2
    rcases a1 with a1 | ⟨a1, b1⟩
    · rcases a2 with a2 | ⟨a2, b2⟩
      · rw [a1] at g1
        rw [a2] at g2
        exact okd_a g1 g2
      · rw [a1] at g1
        exact okd_n (vf_n (nan32 b2) g1) (vf_n (nan32 a2) g2)
    · rcases a2 with a2 | ⟨a2, b2⟩
      · rw [a2] at g2
        exact okd_n (vf_n (nan32 a1) g1) (vf_n (nan32 b1) g2)
      · exact okd_n (vf_n (nan32 a1) g1) (vf_n (nan32 a2) g2)
section QU
variable {N t : Nat} {sc lc mc tm life tries x : Int32} {stations links messages copies : Nat → Int32} {first size : Int32} {events st : Nat → Int32} {heard : Nat → Int64}
theorem mh_eq (hN : 6000 ≤ N) (ht : t + 1 < 1000000) (h : rl_net t sc lc mc tm life tries x stations links messages copies first size events heard st) (thr : Int32) :
    ∃ t1 t2, fX2_messagesInState N sc mc messages copies (1 : Int32) = some t1 ∧ fX2_hoursOfDelivered N sc mc messages copies = some t2 ∧ fX7_meanHours N thr st = some (t2, t1, 0) := by
  obtain ⟨a, b, m, e, tt, h0, eH⟩ := h
  obtain ⟨hA, hZ⟩ := rlA_iff.mp h0
  obtain ⟨ha, hb, hm, he, htt⟩ := hA.1.1.1
  have s0 := hA.1.1.2.1
  have s2' := hA.1.1.2.2.2.1
  have sce : sc = nI a := hA.1.2.1.trans s0
  have mce : mc = nI m := hA.1.2.2.2.1.trans s2'
  have gM := hA.2.2.2.1.1
  have eM := hA.2.2.2.1.2
  have gC := hA.2.2.2.2.1.1
  have eC := hA.2.2.2.2.1.2.1
  have eD := hA.2.2.2.2.2.1
  subst sce mce
  have lp : ∀ (f k : Nat) (s c : Int32), k ≤ m → m - k < f → ∃ s' c', lX2_messagesInState_4 N (nI a) (nI m) messages copies 1 f c (nI k) = some c' ∧ lX2_hoursOfDelivered_4 N (nI a) (nI m) messages copies f s (nI k) = some s' ∧ lX7_meanHours_11 N st f s c (nI k) = some (s', c') := by
    intro f
    induction f with
    | zero => intro k s c _ h; omega
    | succ f ih =>
      intro k s c hk hf
      rw [lX2_messagesInState_4, lX2_hoursOfDelivered_4, lX7_meanHours_11, g2, cl2, s2']
      rcases Nat.lt_or_ge k m with d | d
      · rw [if_neg (nI_ge d (by omega)), if_neg (nI_ge d (by omega)), if_neg (nI_ge d (by omega)), st2 hN ha hm d gM gC (by omega) eC eD, st7 hN s0 ha (by omega), rn_bs, rn_bs, rn_bs, nI_1]
        by_cases q : q_st st a k = 1
        · obtain ⟨g, hg, eg⟩ := (gM k d).2.1
          have q5 := (q_st1 gC ha (by omega) hg eg).mp q
          obtain ⟨v1, -⟩ := (eD k g d (by omega) eg).1 q5
          have v2 : messages (12 * k + 3) = qM st k 3 := eM k 3 (by omega) (by decide)
          have hd : fX7_deliveredField st (nI k) (2 : Int32) = some (qC st k g 2) := by
            unfold fX7_deliveredField
            rw [show fX7_ofMessage st (nI k) (1 : Int32) = _ from oM (q := 1) (by omega) (by decide), rn_bs, eg, show fX7_ofCopy st (nI k) (nI g) (0 : Int32) = _ from oC (q := 0) (by omega) (by omega) (by decide), rn_bs, if_pos q5, show fX7_ofCopy st (nI k) (nI g) (2 : Int32) = _ from oC (q := 2) (by omega) (by omega) (by decide), rn_bs]
          rw [if_pos q, if_pos q, if_pos q, show fX4_get (24 : Int32) (12 : Int32) 288 messages (nI k) (5 : Int32) = _ from tM (q := 5) (by omega) (by decide), rn_bs, show fX4_get (24 : Int32) (12 : Int32) 288 messages (nI k) (3 : Int32) = _ from tM (q := 3) (by omega) (by decide), rn_bs, hd, rn_bs, show fX7_ofMessage st (nI k) (3 : Int32) = _ from oM (q := 3) (by omega) (by decide), rn_bs, v1, v2]
          exact ih (k + 1) _ _ (by omega) (by omega)
        · rw [if_neg q, if_neg q, if_neg q]
          exact ih (k + 1) _ _ (by omega) (by omega)
      · have : k = m := by omega
        subst this
        rw [if_pos (nI_le (Nat.le_refl _) (by omega)), if_pos (nI_le (Nat.le_refl _) (by omega)), if_pos (nI_le (Nat.le_refl _) (by omega))]
        exact ⟨s, c, rfl, rfl, rfl⟩
  obtain ⟨s', c', p1, p2, p3⟩ := lp N 0 0 0 (by omega) (by omega)
  refine ⟨c', s', ?_, ?_, ?_⟩
  · unfold fX2_messagesInState
    rw [show lX2_messagesInState_4 N (nI a) (nI m) messages copies 1 N (0 : Int32) (0 : Int32) = _ from p1, rn_bs]
  · unfold fX2_hoursOfDelivered
    rw [show lX2_hoursOfDelivered_4 N (nI a) (nI m) messages copies N (0 : Int32) (0 : Int32) = _ from p2, rn_bs]
  · unfold fX7_meanHours
    rw [show lX7_meanHours_11 N st N (0 : Int32) (0 : Int32) (0 : Int32) = _ from p3, rn_bs]
theorem lr_eq (hN : 6000 ≤ N) (h : rl_net t sc lc mc tm life tries x stations links messages copies first size events heard st) (thr : Int32) :
    ∃ t1 t2, fX2_framesSent N links = some t1 ∧ fX2_framesOrAnswersLost N links = some t2 ∧ fX7_lossRate N thr st = some (t1, t2, 0) := by
  obtain ⟨a, b, m, e, tt, h0, eH⟩ := h
  obtain ⟨hA, hZ⟩ := rlA_iff.mp h0
  obtain ⟨ha, hb, hm, he, htt⟩ := hA.1.1.1
  have s1' := hA.1.1.2.2.1
  have gL := hA.2.2.1.1
  have eL := hA.2.2.1.2.2
  have sn : ∀ q k, sm (fun i => qL st i q) 0 (k + 1) = sm (fun i => qL st i q) 0 k + qL st k q := fun q k => by
    rw [sm_app, sm_1, Nat.zero_add]
  have lp : ∀ (f k : Nat), k ≤ b → b - k < f → lX7_lossRate_11 st f (sm (fun i => qL st i 5) 0 k) (sm (fun i => qL st i 6) 0 k + sm (fun i => qL st i 7) 0 k) (nI k) = some (sm (fun i => qL st i 5) 0 b, sm (fun i => qL st i 6) 0 b + sm (fun i => qL st i 7) 0 b) := by
    intro f
    induction f with
    | zero => intro k _ h; omega
    | succ f ih =>
      intro k hk hf
      rw [lX7_lossRate_11, g1, cl1, s1']
      rcases Nat.lt_or_ge k b with d | d
      · rw [if_neg (nI_ge d (by omega)), show fX7_ofLink st (nI k) (5 : Int32) = _ from oL (q := 5) (by omega) (by decide), rn_bs, show fX7_ofLink st (nI k) (6 : Int32) = _ from oL (q := 6) (by omega) (by decide), rn_bs, show fX7_ofLink st (nI k) (7 : Int32) = _ from oL (q := 7) (by omega) (by decide), rn_bs, nI_1]
        have := ih (k + 1) (by omega) (by omega)
        rw [sn, sn, sn] at this
        rw [← this]
        have e : ∀ p q r s : Int32, p + q + (r + s) = p + r + (q + s) := fun p q r s => by ac_rfl
        rw [e]
      · have : k = b := by omega
        subst this
        rw [if_pos (nI_le (Nat.le_refl _) (by omega))]
  have fz : ∀ q, q < 8 → sm (fun i => qL st i q) 0 16 = sm (fun i => qL st i q) 0 b := fun q hq => by
    rw [show 16 = b + (16 - b) by omega, sm_app, sm_0 (g := fun i => qL st i q) (k := 0 + b) (fun i h1 h2 => (gL i (by omega)).2 (by omega) q hq), Int32.add_zero]
  refine ⟨sm (fun i => qL st i 5) 0 b, sm (fun i => qL st i 6) 0 b + sm (fun i => qL st i 7) 0 b, ?_, ?_, ?_⟩
  · unfold fX2_framesSent
    rw [show fX4_sum N (16 : Int32) (9 : Int32) 144 links (6 : Int32) = _ from sumL (q := 5) hN eL (by decide), rn_bs, fz 5 (by decide)]
  · unfold fX2_framesOrAnswersLost
    rw [show fX4_sum N (16 : Int32) (9 : Int32) 144 links (7 : Int32) = _ from sumL (q := 6) hN eL (by decide), rn_bs, show fX4_sum N (16 : Int32) (9 : Int32) 144 links (8 : Int32) = _ from sumL (q := 7) hN eL (by decide), rn_bs, fz 6 (by decide), fz 7 (by decide)]
  · unfold fX7_lossRate
    rw [show lX7_lossRate_11 st N (0 : Int32) (0 : Int32) (0 : Int32) = _ from lp N 0 (by omega) (by omega), rn_bs]
end QU
