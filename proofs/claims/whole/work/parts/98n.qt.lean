/-! the load, on both sides -/
section QT
variable {N n t : Nat} {B : Nat → Nat} {text mt : Nat → Int32}
theorem lp_l (hN : 6000 ≤ N) (h : tx n B text mt) (ht : t < 1000000) (tm : Int32) : ∀ (f q xx : Nat) (k s en va e es sc lc mc life tries x : Int32) (stations links messages copies : Nat → Int32) (first size : Int32) (events : Nat → Int32) (po ts tk le nu : Int32) (wo : Int64) (st : Nat → Int32),
    (e = 0 → ∃ p0, q ≤ p0 ∧ p0 ≤ n ∧ tkR n B p0 k s en va po ts tk le nu wo) → (e = 0 → nt t sc lc mc tm life tries x stations links messages copies first size events st) → 2 * xx ≤ q → q ≤ n + 2 → n + 3 - q ≤ f →
    ∃ x' k' s' en' va' e' es' sc' lc' mc' life' tries' xs' stations' links' messages' copies' first' size' events' po' ts' tk' le' nu' wo' st', lX3_readInto_21 N (nI n) text tm f (nI xx) k s en va e es sc lc mc life tries x stations links messages copies first size events = some (x', k', s', en', va', e', es', sc', lc', mc', life', tries', xs', stations', links', messages', copies', first', size', events') ∧ lX7_load_43 N (nI n) mt f (nI xx) po ts tk le nu e es wo st = some (x', po', ts', tk', le', nu', e', es', wo', st') ∧ (e' = 0 → nt t sc' lc' mc' tm life' tries' xs' stations' links' messages' copies' first' size' events' st') := by
  have h1 := h.1
  intro f
  induction f with
  | zero => intro q xx k s en va e es sc lc mc life tries x stations links messages copies first size events po ts tk le nu wo st _ _ _ c1 c2; omega
  | succ f ih =>
    intro q xx k s en va e es sc lc mc life tries x stations links messages copies first size events po ts tk le nu wo st T hn hx hq hf
    rw [lX3_readInto_21, lX7_load_43]
    unfold fX7_isFine
    by_cases c : e = 0
    · subst c
      obtain ⟨p0, p1, p2, p3⟩ := T rfl
      have kt : k = 0 ↔ tk = 0 := by
        obtain ⟨s1, e1, -, -, -, -, -, -, -, r8⟩ := p3
        rcases r8 with ⟨a1, a2⟩ | ⟨a1, a2, -⟩ | ⟨a1, a2, -⟩ | ⟨a1, a2, -⟩ | ⟨a1, a2, -⟩
        · rw [a1, a2]
        · rw [a1, a2]; decide
        · rw [a1, a2]; decide
        · rw [a1, a2]; decide
        · rw [a1, a2]; decide
      rw [if_pos (show (0 : Int32) = 0 from rfl), if_pos (show (0 : Int32) = 0 from rfl), rn_bs, if_neg (show ¬ (1 : Int32) = 0 by decide)]
      by_cases d : k = 0
      · rw [if_pos d, if_pos (kt.mp d)]
        exact ⟨_, _, _, _, _, _, _, _, _, _, _, _, _, _, _, _, _, _, _, _, _, _, _, _, _, _, _, rfl, rfl, hn⟩
      · rw [if_neg d, if_neg (fun r => d (kt.mpr r)), if_neg (show ¬ (700 : Int32) < nI xx from nI_nlt (a := 700) (by omega) (by omega))]
        obtain ⟨k', s', en', va', e', es', sc', lc', mc', life', tries', x', stations', links', messages', copies', first', size', events', po', ts', tk', le', nu', wo', st', a1, a2, a3, a4⟩ := stm hN h ht (hn rfl) p3 p1 d (es := es)
        obtain ⟨p, q1, q2, q3⟩ := a3
        subst q2
        rw [a1, a2, rn_bs, rn_bs, nI_1]
        by_cases g : e' = 0
        · obtain ⟨q4, k2, s2, en2, va2, q5, q6⟩ := q3 g
          dsimp only
          rw [nt_u, q5, rn_bs]
          exact ih (q + 2) (xx + 1) k2 s2 en2 va2 e' es' sc' lc' mc' life' tries' x' stations' links' messages' copies' first' size' events' po' ts' tk' le' nu' wo' st' (fun _ => ⟨p, q4, q1, q6⟩) a4 (by omega) (by omega) (by omega)
        · obtain ⟨k2, s2, en2, va2, -, -, -, -, -, -, q5, -⟩ := tkn hN h q1 0 0 0 0 0 0 0 0
          dsimp only
          rw [nt_u, q5, rn_bs]
          exact ih (q + 2) (xx + 1) k2 s2 en2 va2 e' es' sc' lc' mc' life' tries' x' stations' links' messages' copies' first' size' events' po' ts' tk' le' nu' wo' st' (fun r => absurd r g) a4 (by omega) (by omega) (by omega)
    · rw [if_neg c, if_neg c, rn_bs, if_pos (show (0 : Int32) = 0 from rfl), ite_self]
      exact ⟨_, _, _, _, _, _, _, _, _, _, _, _, _, _, _, _, _, _, _, _, _, _, _, _, _, _, _, rfl, rfl, hn⟩
theorem clr4 (hN : 6000 ≤ N) {A C : Int32} {w : Nat} (hw : w ≤ 1000) (c : Nat → Int32) : ∃ c', fX4_clear N A C w c = some c' ∧ ∀ i, i < w → c' i = 0 := by
  have cl : ∀ (f k : Nat) (y : Nat → Int32), k ≤ w → w - k < f → (∀ i, i < k → y i = 0) → ∃ h', lX4_clear_2 w f (nI k) y = some h' ∧ ∀ i, i < w → h' i = 0 := by
    intro f
    induction f with
    | zero => intro k y _ h; omega
    | succ f ih =>
      intro k y hk hn h1
      rw [lX4_clear_2]
      rcases Nat.lt_or_ge k w with d | d
      · rw [if_neg (show ¬ Int32.ofNat w ≤ nI k from nI_ge (b := w) d (by omega)), rn_gI d (by omega), nI_clamp (by omega), rn_lt, nI_1]
        exact ih (k + 1) _ (by omega) (by omega) (fun i hi => by
          by_cases r : i = k
          · rw [r, pk_us]
          · rw [pk_un r]
            exact h1 i (by omega))
      · have : k = w := by omega
        subst this
        rw [if_pos (show Int32.ofNat k ≤ nI k from nI_le (a := k) (Nat.le_refl _) (by omega))]
        exact ⟨y, rfl, h1⟩
  obtain ⟨y, c1, c2⟩ := cl N 0 c (by omega) (by omega) (fun i hi => by omega)
  refine ⟨y, ?_, c2⟩
  unfold fX4_clear
  rw [show lX4_clear_2 w N (0 : Int32) c = _ from c1, rn_bs]
theorem clr5 (hN : 6000 ≤ N) (c : Nat → Int64) : ∃ c', fX5_clear N c = some c' := by
  have cl : ∀ (f k : Nat) (y : Nat → Int64), k ≤ 24 → 24 - k < f → ∃ h', lX5_clear_2 f (nI k) y = some h' := by
    intro f
    induction f with
    | zero => intro k y _ h; omega
    | succ f ih =>
      intro k y hk hn
      rw [lX5_clear_2]
      rcases Nat.lt_or_ge k 24 with d | d
      · rw [if_neg (show ¬ Int32.ofNat 24 ≤ nI k from nI_ge (b := 24) d (by omega)), rn_gI d (by omega), rn_lt, nI_1]
        exact ih (k + 1) _ (by omega) (by omega)
      · have : k = 24 := by omega
        subst this
        rw [if_pos (show Int32.ofNat 24 ≤ nI 24 from nI_le (a := 24) (Nat.le_refl _) (by omega))]
        exact ⟨y, rfl⟩
  obtain ⟨y, c1⟩ := cl N 0 c (by omega) (by omega)
  refine ⟨y, ?_⟩
  unfold fX5_clear
  rw [show lX5_clear_2 N (0 : Int32) c = _ from c1, rn_bs]
theorem clr7 (hN : 6000 ≤ N) (c : Nat → Int32) : ∃ c', fX7_clear N c = some c' ∧ c' 4 = 48 ∧ c' 5 = 3 ∧ c' 6 = 1 ∧ ∀ i, i < 2888 → ¬ i = 4 → ¬ i = 5 → ¬ i = 6 → c' i = 0 := by
  have cl : ∀ (f k : Nat) (y : Nat → Int32), k ≤ 2888 → 2888 - k < f → (∀ i, i < k → y i = 0) → ∃ h', lX7_clear_2 f (nI k) y = some h' ∧ ∀ i, i < 2888 → h' i = 0 := by
    intro f
    induction f with
    | zero => intro k y _ h; omega
    | succ f ih =>
      intro k y hk hn h1
      rw [lX7_clear_2]
      rcases Nat.lt_or_ge k 2888 with d | d
      · rw [if_neg (show ¬ (2888 : Int32) ≤ nI k from nI_ge (b := 2888) d (by omega)), rn_gI d (by omega), nI_clamp (by omega), rn_lt, nI_1]
        exact ih (k + 1) _ (by omega) (by omega) (fun i hi => by
          by_cases r : i = k
          · rw [r, pk_us]
          · rw [pk_un r]
            exact h1 i (by omega))
      · have : k = 2888 := by omega
        subst this
        rw [if_pos (show (2888 : Int32) ≤ nI 2888 from nI_le (a := 2888) (Nat.le_refl _) (by omega))]
        exact ⟨y, rfl, h1⟩
  obtain ⟨y, c1, c2⟩ := cl N 0 c (by omega) (by omega) (fun i hi => by omega)
  refine ⟨upd (upd (upd y 4 48) 5 3) 6 1, ?_, ?_, ?_, ?_, fun i hi h4 h5 h6 => ?_⟩
  · unfold fX7_clear
    rw [show lX7_clear_2 N (0 : Int32) c = _ from c1, rn_bs, qg4, rn_lt, qg5, rn_lt, qg6]
    rfl
  · rw [pk_un (by decide), pk_un (by decide), pk_us]
  · rw [pk_un (by decide), pk_us]
  · rw [pk_us]
  · rw [pk_un h6, pk_un h5, pk_un h4]
    exact c2 i hi
theorem nt_0 {stations links messages copies events st : Nat → Int32} (z1 : ∀ i, i < 80 → stations i = 0) (z2 : ∀ i, i < 144 → links i = 0) (z3 : ∀ i, i < 288 → messages i = 0) (z4 : ∀ i, i < 960 → copies i = 0) (s4 : st 4 = 48) (s5 : st 5 = 3) (s6 : st 6 = 1) (zs : ∀ i, i < 2888 → ¬ i = 4 → ¬ i = 5 → ¬ i = 6 → st i = 0) : nt t 0 0 0 0 48 3 1 stations links messages copies 0 0 events st := by
  have zS : ∀ i q, i < 8 → q < 7 → qS st i q = 0 := fun i q h1 h2 => zs _ (by omega) (by omega) (by omega) (by omega)
  have zL : ∀ i q, i < 16 → q < 8 → qL st i q = 0 := fun i q h1 h2 => zs _ (by omega) (by omega) (by omega) (by omega)
  have zM : ∀ i q, i < 24 → q < 8 → qM st i q = 0 := fun i q h1 h2 => zs _ (by omega) (by omega) (by omega) (by omega)
  have zC : ∀ k s q, k < 24 → s < 8 → q < 12 → qC st k s q = 0 := fun k s q h1 h2 h3 => zs _ (by omega) (by omega) (by omega) (by omega)
  refine ⟨0, 0, 0, 0, ⟨⟨⟨⟨by omega, by omega, by omega, by omega, by omega⟩, zs 0 (by decide) (by decide) (by decide) (by decide), zs 1 (by decide) (by decide) (by decide) (by decide), zs 2 (by decide) (by decide) (by decide) (by decide), zs 3 (by decide) (by decide) (by decide) (by decide), zs 7 (by decide) (by decide) (by decide) (by decide), 1, by decide, s6⟩, (zs 0 (by decide) (by decide) (by decide) (by decide)).symm, (zs 1 (by decide) (by decide) (by decide) (by decide)).symm, (zs 2 (by decide) (by decide) (by decide) (by decide)).symm, (zs 3 (by decide) (by decide) (by decide) (by decide)).symm, s4.symm, s5.symm, s6.symm, (zs 7 (by decide) (by decide) (by decide) (by decide)).symm⟩,
    ⟨fun i hi => ⟨fun r => absurd r (by omega), fun _ q hq => zS i q hi hq⟩, fun i q hi hq => ?_⟩,
    ⟨fun i hi => ⟨fun r => absurd r (by omega), fun _ q hq => zL i q hi hq⟩, fun i j hi => absurd hi (by omega), fun i q hi hq => ?_⟩,
    ⟨fun i hi => absurd hi (by omega), fun i q hi hq => ?_⟩,
    ⟨fun k s hk hs => Or.inl ⟨zC k s 0 hk hs (by decide), zC k s 1 hk hs (by decide)⟩, fun k s q hk hs hq => ?_, fun k s hk hs r => absurd (zC k s 0 hk hs (by decide)) r⟩,
    fun k g hk => absurd hk (by omega), fun j hj => absurd hj (by omega), 0, by decide, rfl, fun j q hj => absurd hj (by omega)⟩, ?_⟩
  · rw [zS i q hi hq]
    exact z1 _ (by unfold sC; split <;> omega)
  · rw [zL i q hi hq]
    exact z2 _ (by unfold lC; split <;> omega)
  · rw [zM i q hi hq]
    refine z3 _ ?_
    unfold mC
    split
    · omega
    · split <;> omega
  · rw [zC k s q hk hs (by omega)]
    exact z4 _ (by omega)
  · have e0 : ∀ w, isum (fun _ => 0) w = 0 := fun w => by
      induction w with
      | zero => rfl
      | succ w ih => show isum (fun _ => 0) w + 0 = 0; rw [ih]; rfl
    refine ⟨?_, ?_⟩
    · rw [isum_c (g := fun _ => 0) 8 (fun i hi => zS i 3 hi (by decide)), isum_c (g := fun _ => 0) 16 (fun i hi => zL i 5 hi (by decide)), e0, e0]
    · rw [isum_c (g := fun _ => 0) 8 (fun i hi => zS i 6 hi (by decide)), isum_c (f := fun k => if q_dl st k = true then 1 else 0) (g := fun _ => 0) 24 (fun k hk => ?_), e0, e0]
      rw [if_neg]
      intro r
      unfold q_dl at r
      rw [List.any_eq_true] at r
      obtain ⟨s, r1, r2⟩ := r
      rw [zC k s 0 hk (List.mem_range.mp r1) (by decide)] at r2
      exact absurd r2 (by decide)
set_option maxHeartbeats 4000000 in
set_option maxRecDepth 20000 in
theorem st_load (N : Nat) (hN : 6000 ≤ N) (t : Nat) (c_x_latestError : Int32) (c_x_latestErrorPosition : Int32) (c_x_setup_length : Int32) (c_x_setup_kind : Int32) (c_x_setup_start : Int32) (c_x_setup_end : Int32) (c_x_setup_value : Int32) (c_x_setup_error : Int32) (c_x_setup_errorStart : Int32) (c_x_setup_text : Nat → Int32) (c_x_net_stationCount : Int32) (c_x_net_linkCount : Int32) (c_x_net_messageCount : Int32) (c_x_net_time : Int32) (c_x_net_life : Int32) (c_x_net_tries : Int32) (c_x_net_x : Int32) (c_x_net_stations : Nat → Int32) (c_x_net_links : Nat → Int32) (c_x_net_messages : Nat → Int32) (c_x_net_copies : Nat → Int32) (c_x_net_log_first : Int32) (c_x_net_log_size : Int32) (c_x_net_log_events : Nat → Int32) (c_x_net_ways_heard : Nat → Int64) (c_x_trial_stationCount : Int32) (c_x_trial_linkCount : Int32) (c_x_trial_messageCount : Int32) (c_x_trial_time : Int32) (c_x_trial_life : Int32) (c_x_trial_tries : Int32) (c_x_trial_x : Int32) (c_x_trial_stations : Nat → Int32) (c_x_trial_links : Nat → Int32) (c_x_trial_messages : Nat → Int32) (c_x_trial_copies : Nat → Int32) (c_x_trial_log_first : Int32) (c_x_trial_log_size : Int32) (c_x_trial_log_events : Nat → Int32) (c_x_trial_ways_heard : Nat → Int64) (c_x_line_length : Int32) (c_x_line_bytes : Nat → Int32) (c_m_thrown : Int32) (c_m_textLength : Int32) (c_m_position : Int32) (c_m_tokenStart : Int32) (c_m_token : Int32) (c_m_letters : Int32) (c_m_number : Int32) (c_m_errorCode : Int32) (c_m_errorPosition : Int32) (c_m_word : Int64) (c_m_outputLength : Int32) (c_m_state : Nat → Int32) (c_m_backup : Nat → Int32) (c_m_text : Nat → Int32) (c_m_output : Nat → Int32) (hI : qInv t c_x_latestError c_x_latestErrorPosition c_x_setup_length c_x_setup_text c_x_net_stationCount c_x_net_linkCount c_x_net_messageCount c_x_net_time c_x_net_life c_x_net_tries c_x_net_x c_x_net_stations c_x_net_links c_x_net_messages c_x_net_copies c_x_net_log_first c_x_net_log_size c_x_net_log_events c_x_net_ways_heard c_x_line_length c_x_line_bytes c_m_errorCode c_m_errorPosition c_m_textLength c_m_text c_m_outputLength c_m_output c_m_state) (ht : t ≤ 90000) : ∃ u v, fX6_load N c_x_latestError c_x_latestErrorPosition c_x_setup_length c_x_setup_kind c_x_setup_start c_x_setup_end c_x_setup_value c_x_setup_error c_x_setup_errorStart c_x_setup_text c_x_net_stationCount c_x_net_linkCount c_x_net_messageCount c_x_net_time c_x_net_life c_x_net_tries c_x_net_x c_x_net_stations c_x_net_links c_x_net_messages c_x_net_copies c_x_net_log_first c_x_net_log_size c_x_net_log_events c_x_net_ways_heard c_x_trial_stationCount c_x_trial_linkCount c_x_trial_messageCount c_x_trial_time c_x_trial_life c_x_trial_tries c_x_trial_x c_x_trial_stations c_x_trial_links c_x_trial_messages c_x_trial_copies c_x_trial_log_first c_x_trial_log_size c_x_trial_log_events c_x_trial_ways_heard = some u ∧ fX7_load N c_m_thrown c_m_textLength c_m_position c_m_tokenStart c_m_token c_m_letters c_m_number c_m_errorCode c_m_errorPosition c_m_word c_m_state c_m_backup c_m_text = some v ∧ u.1 = v.1 ∧ qInv (t + 73) u.2.1 u.2.2.1 u.2.2.2.1 c_x_setup_text u.2.2.2.2.2.2.2.2.2.2.1 u.2.2.2.2.2.2.2.2.2.2.2.1 u.2.2.2.2.2.2.2.2.2.2.2.2.1 u.2.2.2.2.2.2.2.2.2.2.2.2.2.1 u.2.2.2.2.2.2.2.2.2.2.2.2.2.2.1 u.2.2.2.2.2.2.2.2.2.2.2.2.2.2.2.1 u.2.2.2.2.2.2.2.2.2.2.2.2.2.2.2.2.1 u.2.2.2.2.2.2.2.2.2.2.2.2.2.2.2.2.2.1 u.2.2.2.2.2.2.2.2.2.2.2.2.2.2.2.2.2.2.1 u.2.2.2.2.2.2.2.2.2.2.2.2.2.2.2.2.2.2.2.1 u.2.2.2.2.2.2.2.2.2.2.2.2.2.2.2.2.2.2.2.2.1 u.2.2.2.2.2.2.2.2.2.2.2.2.2.2.2.2.2.2.2.2.2.1 u.2.2.2.2.2.2.2.2.2.2.2.2.2.2.2.2.2.2.2.2.2.2.1 u.2.2.2.2.2.2.2.2.2.2.2.2.2.2.2.2.2.2.2.2.2.2.2.1 u.2.2.2.2.2.2.2.2.2.2.2.2.2.2.2.2.2.2.2.2.2.2.2.2.1 c_x_line_length c_x_line_bytes v.2.2.2.2.2.2.2.2.1 v.2.2.2.2.2.2.2.2.2.1 v.2.2.1 c_m_text c_m_outputLength c_m_output v.2.2.2.2.2.2.2.2.2.2.2.1 := by
  obtain ⟨hI1, hI2, hI3, hI4, hI5, hI6⟩ := hI
  obtain ⟨n, B, e1, e2, htx⟩ := tx_ex hI4
  subst e1 e2
  have hn := htx.1
  obtain ⟨s', y1, y2⟩ := clr4 hN (A := 8) (C := 10) (w := 80) (by decide) c_x_trial_stations
  obtain ⟨l', y3, y4⟩ := clr4 hN (A := 16) (C := 9) (w := 144) (by decide) c_x_trial_links
  obtain ⟨m', y5, y6⟩ := clr4 hN (A := 24) (C := 12) (w := 288) (by decide) c_x_trial_messages
  obtain ⟨c', y7, y8⟩ := clr4 hN (A := 192) (C := 5) (w := 960) (by decide) c_x_trial_copies
  obtain ⟨ev', y9, -⟩ := clr4 hN (A := 40) (C := 5) (w := 200) (by decide) c_x_trial_log_events
  obtain ⟨h', y10⟩ := clr5 hN c_x_trial_ways_heard
  obtain ⟨bk, k1, k2, -⟩ := ca7 (n0 := 2888) (n2 := 2888) (i := 0) (j := 0) (g := c_m_backup) hN (by decide) (by decide) (by decide) (by decide) c_m_state
  obtain ⟨st0, g1, g2, g3, g4, g5⟩ := clr7 hN c_m_state
  have n0 : nt t 0 0 0 0 48 3 1 s' l' m' c' 0 0 ev' st0 := nt_0 y2 y4 y6 y8 g2 g3 g4 g5
  obtain ⟨k, s, en, va, po, ts, tk, le, nu, wo, a1, a2, a3⟩ := tkn hN htx (p := 0) (by omega) c_x_setup_kind c_x_setup_start c_x_setup_value c_m_tokenStart c_m_token c_m_letters c_m_number c_m_word
  obtain ⟨x', k', s2, en', va', e', es', sc', lc', mc', life', tries', xs', stations', links', messages', copies', first', size', events', po', ts', tk', le', nu', wo', st', b1, b2, b3⟩ := lp_l hN htx (show t < 1000000 by omega) 0 N 0 0 k s en va 0 (-1) 0 0 0 48 3 1 s' l' m' c' 0 0 ev' po ts tk le nu wo st0 (fun _ => ⟨0, by omega, by omega, a3⟩) (fun _ => n0) (by omega) (by omega) (by omega)
  have A7 : fX7_load N c_m_thrown (nI n) c_m_position c_m_tokenStart c_m_token c_m_letters c_m_number c_m_errorCode c_m_errorPosition c_m_word c_m_state c_m_backup c_m_text = if e' = 0 then some (x', (0 : Int32), (0 : Int32), po', ts', tk', le', nu', e', es', wo', st', bk) else (fX7_copyAll N 2888 2888 bk st' (0 : Int32) (0 : Int32)).bind fun t11 => some ((-1 : Int32), (0 : Int32), (0 : Int32), po', ts', tk', le', nu', e', es', wo', t11, bk) := by
    unfold fX7_load fX7_isFine
    rw [show fX7_copyAll N 2888 2888 c_m_state c_m_backup (0 : Int32) (0 : Int32) = some bk from k1, rn_bs, g1, rn_bs, show fX7_nextToken N (nI n) (0 : Int32) c_m_tokenStart c_m_token c_m_letters c_m_number c_m_word c_m_text = _ from a2, rn_bs]
    dsimp only
    rw [show lX7_load_43 N (nI n) c_m_text N (0 : Int32) po ts tk le nu (0 : Int32) (-1 : Int32) wo st0 = _ from b2, rn_bs]
    dsimp only
    by_cases c : e' = 0
    · rw [if_pos c, rn_bs, if_neg (by decide), if_pos c]
    · rw [if_neg c, rn_bs, if_pos rfl, if_neg c]
  have A2 : fX2_clear N c_x_trial_stationCount c_x_trial_linkCount c_x_trial_messageCount c_x_trial_time c_x_trial_life c_x_trial_tries c_x_trial_x c_x_trial_stations c_x_trial_links c_x_trial_messages c_x_trial_copies c_x_trial_log_first c_x_trial_log_size c_x_trial_log_events c_x_trial_ways_heard = some (0, 0, 0, 0, 48, 3, 1, s', l', m', c', 0, 0, ev', h') := by
    unfold fX2_clear fX0_clear
    rw [y1, rn_bs, y3, rn_bs, y5, rn_bs, y7, rn_bs, y9, rn_bs, rn_bs, y10, rn_bs]
  have A3 : fX3_readInto N (nI n) c_x_setup_kind c_x_setup_start c_x_setup_end c_x_setup_value c_x_setup_error c_x_setup_errorStart c_x_setup_text 0 0 0 0 48 3 1 s' l' m' c' 0 0 ev' = some (x', k', s2, en', va', e', es', sc', lc', mc', life', tries', xs', stations', links', messages', copies', first', size', events') := by
    unfold fX3_readInto
    rw [show fX3_nextToken N (nI n) c_x_setup_kind c_x_setup_start (0 : Int32) c_x_setup_value c_x_setup_text = _ from a1, rn_bs]
    dsimp only
    rw [show lX3_readInto_21 N (nI n) c_x_setup_text (0 : Int32) N (0 : Int32) k s en va (0 : Int32) (-1 : Int32) (0 : Int32) (0 : Int32) (0 : Int32) (48 : Int32) (3 : Int32) (1 : Int32) s' l' m' c' (0 : Int32) (0 : Int32) ev' = _ from b1, rn_bs]
  have tx0 : rl_text 0 c_x_setup_text 0 c_m_text := ⟨0, by decide, rfl, rfl, fun i hi => absurd hi (by omega)⟩
  unfold fX6_load
  rw [A2, rn_bs]
  dsimp only
  rw [A3, rn_bs, A7]
  unfold fX3_cutTo fX3_error fX3_errorStart
  rw [rn_bs, rn_bs, rn_bs]
  dsimp only
  by_cases c : e' = 0
  · obtain ⟨a, b, m, ee, hA, hZ⟩ := b3 c
    obtain ⟨hh, o1, o2⟩ := fo_eq hN hA h'
    have hR : rl_net t sc' lc' mc' 0 life' tries' xs' stations' links' messages' copies' first' size' events' hh st' := ⟨a, b, m, ee, 0, rlA_iff.mpr ⟨hA, hZ⟩, o2⟩
    obtain ⟨s3, l3, m3, c3, ev3, h3, q1, q2⟩ := tf_eq hR c_x_net_stationCount c_x_net_linkCount c_x_net_messageCount c_x_net_time c_x_net_life c_x_net_tries c_x_net_x c_x_net_stations c_x_net_links c_x_net_messages c_x_net_copies c_x_net_log_first c_x_net_log_size c_x_net_log_events c_x_net_ways_heard
    rw [if_pos c, if_pos c, o1, rn_bs, q1, rn_bs]
    refine ⟨_, _, rfl, rfl, rfl, ?_⟩
    exact ⟨by omega, rfl, rfl, tx0, hI5, rl_t (by omega) q2⟩
  · obtain ⟨st2, k3, k4, -⟩ := ca7 (n0 := 2888) (n2 := 2888) (i := 0) (j := 0) (g := st') hN (by decide) (by decide) (by decide) (by decide) bk
    rw [if_neg c, if_neg c, show fX7_copyAll N 2888 2888 bk st' (0 : Int32) (0 : Int32) = some st2 from k3, rn_bs]
    refine ⟨_, _, rfl, rfl, rfl, ?_⟩
    refine ⟨by omega, rfl, rfl, tx0, hI5, rl_t (by omega) (rl_m (fun i hi => ?_) hI6)⟩
    have u1 := k4 i hi
    have u2 := k2 i hi
    rw [Nat.zero_add] at u1 u2
    exact u1.trans u2
end QT
