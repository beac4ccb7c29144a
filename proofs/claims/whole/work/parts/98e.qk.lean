/-! the steps: what the class and the model answer to one call -/
theorem st_appendText (N : Nat) (hN : 6000 ≤ N) (t : Nat) (c_x_latestError : Int32) (c_x_latestErrorPosition : Int32) (c_x_setup_length : Int32) (c_x_setup_text : Nat → Int32) (c_x_net_stationCount : Int32) (c_x_net_linkCount : Int32) (c_x_net_messageCount : Int32) (c_x_net_time : Int32) (c_x_net_life : Int32) (c_x_net_tries : Int32) (c_x_net_x : Int32) (c_x_net_stations : Nat → Int32) (c_x_net_links : Nat → Int32) (c_x_net_messages : Nat → Int32) (c_x_net_copies : Nat → Int32) (c_x_net_log_first : Int32) (c_x_net_log_size : Int32) (c_x_net_log_events : Nat → Int32) (c_x_net_ways_heard : Nat → Int64) (c_x_line_length : Int32) (c_x_line_bytes : Nat → Int32) (c_m_thrown : Int32) (c_m_textLength : Int32) (c_m_errorCode : Int32) (c_m_errorPosition : Int32) (c_m_outputLength : Int32) (c_m_state : Nat → Int32) (c_m_text : Nat → Int32) (c_m_output : Nat → Int32) (c_o : Nat → Int64) (z1 : Int32) (hI : qInv t c_x_latestError c_x_latestErrorPosition c_x_setup_length c_x_setup_text c_x_net_stationCount c_x_net_linkCount c_x_net_messageCount c_x_net_time c_x_net_life c_x_net_tries c_x_net_x c_x_net_stations c_x_net_links c_x_net_messages c_x_net_copies c_x_net_log_first c_x_net_log_size c_x_net_log_events c_x_net_ways_heard c_x_line_length c_x_line_bytes c_m_errorCode c_m_errorPosition c_m_textLength c_m_text c_m_outputLength c_m_output c_m_state) (ht : t ≤ 90000) : ∃ u v, fL_appendText N c_x_setup_length c_x_setup_text c_o z1 = some u ∧ fX7_appendText N c_m_thrown c_m_textLength c_m_text z1 = some v ∧ v.2.1 = u.1 ∧ (u.1 = 0 → u.2.2.2 0 = v.1.toInt64) ∧ qInv (t + 73) c_x_latestError c_x_latestErrorPosition u.2.1 u.2.2.1 c_x_net_stationCount c_x_net_linkCount c_x_net_messageCount c_x_net_time c_x_net_life c_x_net_tries c_x_net_x c_x_net_stations c_x_net_links c_x_net_messages c_x_net_copies c_x_net_log_first c_x_net_log_size c_x_net_log_events c_x_net_ways_heard c_x_line_length c_x_line_bytes c_m_errorCode c_m_errorPosition v.2.2.1 v.2.2.2 c_m_outputLength c_m_output c_m_state := by
  obtain ⟨q0, q1, q2, q3, q4, q5⟩ := hI
  obtain ⟨k, kI, v, len', tl', text', mt', p1, p2, pk, pn⟩ := co_appendText hN q3 z1 c_m_thrown
  rcases pk with ⟨rfl, rfl⟩ | ⟨rfl, rfl⟩
  · apply Exists.intro
    apply Exists.intro
    apply And.intro
    · unfold fL_appendText
      rw [p1, rn_bs]
      exact if_pos rfl
    · exact ⟨p2, rfl, fun _ => rfl, by omega, q1, q2, pn, q4, rl_t (t := t) (by omega) q5⟩
  · apply Exists.intro
    apply Exists.intro
    apply And.intro
    · unfold fL_appendText
      rw [p1, rn_bs]
      exact (if_neg (show ¬ (2 : Nat) = 0 by decide)).trans (if_pos rfl)
    · exact ⟨p2, rfl, fun q => absurd q (show ¬ (1 : Int32) = 0 by decide), by omega, q1, q2, pn, q4, rl_t (t := t) (by omega) q5⟩
theorem st_truncateText (N : Nat) (hN : 6000 ≤ N) (t : Nat) (c_x_latestError : Int32) (c_x_latestErrorPosition : Int32) (c_x_setup_length : Int32) (c_x_setup_text : Nat → Int32) (c_x_net_stationCount : Int32) (c_x_net_linkCount : Int32) (c_x_net_messageCount : Int32) (c_x_net_time : Int32) (c_x_net_life : Int32) (c_x_net_tries : Int32) (c_x_net_x : Int32) (c_x_net_stations : Nat → Int32) (c_x_net_links : Nat → Int32) (c_x_net_messages : Nat → Int32) (c_x_net_copies : Nat → Int32) (c_x_net_log_first : Int32) (c_x_net_log_size : Int32) (c_x_net_log_events : Nat → Int32) (c_x_net_ways_heard : Nat → Int64) (c_x_line_length : Int32) (c_x_line_bytes : Nat → Int32) (c_m_thrown : Int32) (c_m_textLength : Int32) (c_m_errorCode : Int32) (c_m_errorPosition : Int32) (c_m_outputLength : Int32) (c_m_state : Nat → Int32) (c_m_text : Nat → Int32) (c_m_output : Nat → Int32) (c_o : Nat → Int64) (z1 : Int32) (hI : qInv t c_x_latestError c_x_latestErrorPosition c_x_setup_length c_x_setup_text c_x_net_stationCount c_x_net_linkCount c_x_net_messageCount c_x_net_time c_x_net_life c_x_net_tries c_x_net_x c_x_net_stations c_x_net_links c_x_net_messages c_x_net_copies c_x_net_log_first c_x_net_log_size c_x_net_log_events c_x_net_ways_heard c_x_line_length c_x_line_bytes c_m_errorCode c_m_errorPosition c_m_textLength c_m_text c_m_outputLength c_m_output c_m_state) (ht : t ≤ 90000) : ∃ u v, fL_truncateText c_x_setup_length c_o z1 = some u ∧ fX7_truncateText c_m_thrown c_m_textLength z1 = some v ∧ v.2.1 = u.1 ∧ (u.1 = 0 → u.2.2 0 = v.1.toInt64) ∧ qInv (t + 73) c_x_latestError c_x_latestErrorPosition u.2.1 c_x_setup_text c_x_net_stationCount c_x_net_linkCount c_x_net_messageCount c_x_net_time c_x_net_life c_x_net_tries c_x_net_x c_x_net_stations c_x_net_links c_x_net_messages c_x_net_copies c_x_net_log_first c_x_net_log_size c_x_net_log_events c_x_net_ways_heard c_x_line_length c_x_line_bytes c_m_errorCode c_m_errorPosition v.2.2 c_m_text c_m_outputLength c_m_output c_m_state := by
  obtain ⟨q0, q1, q2, q3, q4, q5⟩ := hI
  obtain ⟨k, kI, v, len', tl', p1, p2, pk, pn⟩ := co_truncateText q3 z1 c_m_thrown
  rcases pk with ⟨rfl, rfl⟩ | ⟨rfl, rfl⟩
  · apply Exists.intro
    apply Exists.intro
    apply And.intro
    · unfold fL_truncateText
      rw [p1, rn_bs]
      exact if_pos rfl
    · exact ⟨p2, rfl, fun _ => rfl, by omega, q1, q2, pn, q4, rl_t (t := t) (by omega) q5⟩
  · apply Exists.intro
    apply Exists.intro
    apply And.intro
    · unfold fL_truncateText
      rw [p1, rn_bs]
      exact (if_neg (show ¬ (1 : Nat) = 0 by decide)).trans (if_pos rfl)
    · exact ⟨p2, rfl, fun q => absurd q (show ¬ (1 : Int32) = 0 by decide), by omega, q1, q2, pn, q4, rl_t (t := t) (by omega) q5⟩
theorem st_errorCode (N : Nat) (hN : 6000 ≤ N) (t : Nat) (c_x_latestError : Int32) (c_x_latestErrorPosition : Int32) (c_x_setup_length : Int32) (c_x_setup_text : Nat → Int32) (c_x_net_stationCount : Int32) (c_x_net_linkCount : Int32) (c_x_net_messageCount : Int32) (c_x_net_time : Int32) (c_x_net_life : Int32) (c_x_net_tries : Int32) (c_x_net_x : Int32) (c_x_net_stations : Nat → Int32) (c_x_net_links : Nat → Int32) (c_x_net_messages : Nat → Int32) (c_x_net_copies : Nat → Int32) (c_x_net_log_first : Int32) (c_x_net_log_size : Int32) (c_x_net_log_events : Nat → Int32) (c_x_net_ways_heard : Nat → Int64) (c_x_line_length : Int32) (c_x_line_bytes : Nat → Int32) (c_m_thrown : Int32) (c_m_textLength : Int32) (c_m_errorCode : Int32) (c_m_errorPosition : Int32) (c_m_outputLength : Int32) (c_m_state : Nat → Int32) (c_m_text : Nat → Int32) (c_m_output : Nat → Int32) (hI : qInv t c_x_latestError c_x_latestErrorPosition c_x_setup_length c_x_setup_text c_x_net_stationCount c_x_net_linkCount c_x_net_messageCount c_x_net_time c_x_net_life c_x_net_tries c_x_net_x c_x_net_stations c_x_net_links c_x_net_messages c_x_net_copies c_x_net_log_first c_x_net_log_size c_x_net_log_events c_x_net_ways_heard c_x_line_length c_x_line_bytes c_m_errorCode c_m_errorPosition c_m_textLength c_m_text c_m_outputLength c_m_output c_m_state) (ht : t ≤ 90000) : ∃ u v, fX6_errorCode c_x_latestError = some u ∧ fX7_errorCode c_m_thrown c_m_errorCode = some v ∧ u = v.1 ∧ qInv (t + 73) c_x_latestError c_x_latestErrorPosition c_x_setup_length c_x_setup_text c_x_net_stationCount c_x_net_linkCount c_x_net_messageCount c_x_net_time c_x_net_life c_x_net_tries c_x_net_x c_x_net_stations c_x_net_links c_x_net_messages c_x_net_copies c_x_net_log_first c_x_net_log_size c_x_net_log_events c_x_net_ways_heard c_x_line_length c_x_line_bytes c_m_errorCode c_m_errorPosition c_m_textLength c_m_text c_m_outputLength c_m_output c_m_state := by
  obtain ⟨q0, q1, q2, q3, q4, q5⟩ := hI
  exact ⟨_, _, rfl, rfl, q1, by omega, q1, q2, q3, q4, rl_t (t := t) (by omega) q5⟩
theorem st_errorPosition (N : Nat) (hN : 6000 ≤ N) (t : Nat) (c_x_latestError : Int32) (c_x_latestErrorPosition : Int32) (c_x_setup_length : Int32) (c_x_setup_text : Nat → Int32) (c_x_net_stationCount : Int32) (c_x_net_linkCount : Int32) (c_x_net_messageCount : Int32) (c_x_net_time : Int32) (c_x_net_life : Int32) (c_x_net_tries : Int32) (c_x_net_x : Int32) (c_x_net_stations : Nat → Int32) (c_x_net_links : Nat → Int32) (c_x_net_messages : Nat → Int32) (c_x_net_copies : Nat → Int32) (c_x_net_log_first : Int32) (c_x_net_log_size : Int32) (c_x_net_log_events : Nat → Int32) (c_x_net_ways_heard : Nat → Int64) (c_x_line_length : Int32) (c_x_line_bytes : Nat → Int32) (c_m_thrown : Int32) (c_m_textLength : Int32) (c_m_errorCode : Int32) (c_m_errorPosition : Int32) (c_m_outputLength : Int32) (c_m_state : Nat → Int32) (c_m_text : Nat → Int32) (c_m_output : Nat → Int32) (hI : qInv t c_x_latestError c_x_latestErrorPosition c_x_setup_length c_x_setup_text c_x_net_stationCount c_x_net_linkCount c_x_net_messageCount c_x_net_time c_x_net_life c_x_net_tries c_x_net_x c_x_net_stations c_x_net_links c_x_net_messages c_x_net_copies c_x_net_log_first c_x_net_log_size c_x_net_log_events c_x_net_ways_heard c_x_line_length c_x_line_bytes c_m_errorCode c_m_errorPosition c_m_textLength c_m_text c_m_outputLength c_m_output c_m_state) (ht : t ≤ 90000) : ∃ u v, fX6_errorPosition c_x_latestErrorPosition = some u ∧ fX7_errorPosition c_m_thrown c_m_errorPosition = some v ∧ u = v.1 ∧ qInv (t + 73) c_x_latestError c_x_latestErrorPosition c_x_setup_length c_x_setup_text c_x_net_stationCount c_x_net_linkCount c_x_net_messageCount c_x_net_time c_x_net_life c_x_net_tries c_x_net_x c_x_net_stations c_x_net_links c_x_net_messages c_x_net_copies c_x_net_log_first c_x_net_log_size c_x_net_log_events c_x_net_ways_heard c_x_line_length c_x_line_bytes c_m_errorCode c_m_errorPosition c_m_textLength c_m_text c_m_outputLength c_m_output c_m_state := by
  obtain ⟨q0, q1, q2, q3, q4, q5⟩ := hI
  exact ⟨_, _, rfl, rfl, q2, by omega, q1, q2, q3, q4, rl_t (t := t) (by omega) q5⟩
theorem st_addStation (N : Nat) (hN : 6000 ≤ N) (t : Nat) (c_x_latestError : Int32) (c_x_latestErrorPosition : Int32) (c_x_setup_length : Int32) (c_x_setup_text : Nat → Int32) (c_x_net_stationCount : Int32) (c_x_net_linkCount : Int32) (c_x_net_messageCount : Int32) (c_x_net_time : Int32) (c_x_net_life : Int32) (c_x_net_tries : Int32) (c_x_net_x : Int32) (c_x_net_stations : Nat → Int32) (c_x_net_links : Nat → Int32) (c_x_net_messages : Nat → Int32) (c_x_net_copies : Nat → Int32) (c_x_net_log_first : Int32) (c_x_net_log_size : Int32) (c_x_net_log_events : Nat → Int32) (c_x_net_ways_heard : Nat → Int64) (c_x_line_length : Int32) (c_x_line_bytes : Nat → Int32) (c_m_thrown : Int32) (c_m_textLength : Int32) (c_m_errorCode : Int32) (c_m_errorPosition : Int32) (c_m_outputLength : Int32) (c_m_state : Nat → Int32) (c_m_text : Nat → Int32) (c_m_output : Nat → Int32) (c_o : Nat → Int64) (z1 z2 z3 : Int32) (hI : qInv t c_x_latestError c_x_latestErrorPosition c_x_setup_length c_x_setup_text c_x_net_stationCount c_x_net_linkCount c_x_net_messageCount c_x_net_time c_x_net_life c_x_net_tries c_x_net_x c_x_net_stations c_x_net_links c_x_net_messages c_x_net_copies c_x_net_log_first c_x_net_log_size c_x_net_log_events c_x_net_ways_heard c_x_line_length c_x_line_bytes c_m_errorCode c_m_errorPosition c_m_textLength c_m_text c_m_outputLength c_m_output c_m_state) (ht : t ≤ 90000) : ∃ u v, fL_addStation c_x_net_stationCount c_x_net_stations c_o z1 z2 z3 = some u ∧ fX7_addStation c_m_thrown c_m_state z1 z2 z3 = some v ∧ v.2.1 = u.1 ∧ (u.1 = 0 → u.2.2.2 0 = v.1.toInt64) ∧ qInv (t + 73) c_x_latestError c_x_latestErrorPosition c_x_setup_length c_x_setup_text u.2.1 c_x_net_linkCount c_x_net_messageCount c_x_net_time c_x_net_life c_x_net_tries c_x_net_x u.2.2.1 c_x_net_links c_x_net_messages c_x_net_copies c_x_net_log_first c_x_net_log_size c_x_net_log_events c_x_net_ways_heard c_x_line_length c_x_line_bytes c_m_errorCode c_m_errorPosition c_m_textLength c_m_text c_m_outputLength c_m_output v.2.2 := by
  obtain ⟨q0, q1, q2, q3, q4, q5⟩ := hI
  obtain ⟨k, kI, v, a1, a2, a3, p1, p2, pk, pn⟩ := co_addStation ht q5 z1 z2 z3 c_m_thrown
  rcases pk with ⟨rfl, rfl⟩ | ⟨rfl, rfl⟩ | ⟨rfl, rfl⟩
  · apply Exists.intro
    apply Exists.intro
    apply And.intro
    · unfold fL_addStation
      rw [p1, rn_bs]
      exact if_pos rfl
    · exact ⟨p2, rfl, fun _ => rfl, by omega, q1, q2, q3, q4, pn⟩
  · apply Exists.intro
    apply Exists.intro
    apply And.intro
    · unfold fL_addStation
      rw [p1, rn_bs]
      exact (if_neg (show ¬ (1 : Nat) = 0 by decide)).trans (if_pos rfl)
    · exact ⟨p2, rfl, fun q => absurd q (show ¬ (1 : Int32) = 0 by decide), by omega, q1, q2, q3, q4, pn⟩
  · apply Exists.intro
    apply Exists.intro
    apply And.intro
    · unfold fL_addStation
      rw [p1, rn_bs]
      exact (if_neg (show ¬ (2 : Nat) = 0 by decide)).trans ((if_neg (show ¬ (2 : Nat) = 1 by decide)).trans (if_pos rfl))
    · exact ⟨p2, rfl, fun q => absurd q (show ¬ (2 : Int32) = 0 by decide), by omega, q1, q2, q3, q4, pn⟩
theorem st_addLink (N : Nat) (hN : 6000 ≤ N) (t : Nat) (c_x_latestError : Int32) (c_x_latestErrorPosition : Int32) (c_x_setup_length : Int32) (c_x_setup_text : Nat → Int32) (c_x_net_stationCount : Int32) (c_x_net_linkCount : Int32) (c_x_net_messageCount : Int32) (c_x_net_time : Int32) (c_x_net_life : Int32) (c_x_net_tries : Int32) (c_x_net_x : Int32) (c_x_net_stations : Nat → Int32) (c_x_net_links : Nat → Int32) (c_x_net_messages : Nat → Int32) (c_x_net_copies : Nat → Int32) (c_x_net_log_first : Int32) (c_x_net_log_size : Int32) (c_x_net_log_events : Nat → Int32) (c_x_net_ways_heard : Nat → Int64) (c_x_line_length : Int32) (c_x_line_bytes : Nat → Int32) (c_m_thrown : Int32) (c_m_textLength : Int32) (c_m_errorCode : Int32) (c_m_errorPosition : Int32) (c_m_outputLength : Int32) (c_m_state : Nat → Int32) (c_m_text : Nat → Int32) (c_m_output : Nat → Int32) (c_o : Nat → Int64) (z1 z2 z3 z4 z5 : Int32) (hI : qInv t c_x_latestError c_x_latestErrorPosition c_x_setup_length c_x_setup_text c_x_net_stationCount c_x_net_linkCount c_x_net_messageCount c_x_net_time c_x_net_life c_x_net_tries c_x_net_x c_x_net_stations c_x_net_links c_x_net_messages c_x_net_copies c_x_net_log_first c_x_net_log_size c_x_net_log_events c_x_net_ways_heard c_x_line_length c_x_line_bytes c_m_errorCode c_m_errorPosition c_m_textLength c_m_text c_m_outputLength c_m_output c_m_state) (ht : t ≤ 90000) : ∃ u v, fL_addLink N c_x_net_stationCount c_x_net_linkCount c_x_net_stations c_x_net_links c_x_net_ways_heard c_o z1 z2 z3 z4 z5 = some u ∧ fX7_addLink N c_m_thrown c_m_state z1 z2 z3 z4 z5 = some v ∧ v.2.1 = u.1 ∧ (u.1 = 0 → u.2.2.2.2 0 = v.1.toInt64) ∧ qInv (t + 73) c_x_latestError c_x_latestErrorPosition c_x_setup_length c_x_setup_text c_x_net_stationCount u.2.1 c_x_net_messageCount c_x_net_time c_x_net_life c_x_net_tries c_x_net_x c_x_net_stations u.2.2.1 c_x_net_messages c_x_net_copies c_x_net_log_first c_x_net_log_size c_x_net_log_events u.2.2.2.1 c_x_line_length c_x_line_bytes c_m_errorCode c_m_errorPosition c_m_textLength c_m_text c_m_outputLength c_m_output v.2.2 := by
  obtain ⟨q0, q1, q2, q3, q4, q5⟩ := hI
  obtain ⟨k, kI, v, a1, a2, a3, a4, p1, p2, pk, pn⟩ := co_addLink hN ht q5 z1 z2 z3 z4 z5 c_m_thrown
  rcases pk with ⟨rfl, rfl⟩ | ⟨rfl, rfl⟩ | ⟨rfl, rfl⟩ | ⟨rfl, rfl⟩
  · apply Exists.intro
    apply Exists.intro
    apply And.intro
    · unfold fL_addLink
      rw [p1, rn_bs]
      exact if_pos rfl
    · exact ⟨p2, rfl, fun _ => rfl, by omega, q1, q2, q3, q4, pn⟩
  · apply Exists.intro
    apply Exists.intro
    apply And.intro
    · unfold fL_addLink
      rw [p1, rn_bs]
      exact (if_neg (show ¬ (3 : Nat) = 0 by decide)).trans (if_pos rfl)
    · exact ⟨p2, rfl, fun q => absurd q (show ¬ (1 : Int32) = 0 by decide), by omega, q1, q2, q3, q4, pn⟩
  · apply Exists.intro
    apply Exists.intro
    apply And.intro
    · unfold fL_addLink
      rw [p1, rn_bs]
      exact (if_neg (show ¬ (1 : Nat) = 0 by decide)).trans ((if_neg (show ¬ (1 : Nat) = 3 by decide)).trans (if_pos rfl))
    · exact ⟨p2, rfl, fun q => absurd q (show ¬ (2 : Int32) = 0 by decide), by omega, q1, q2, q3, q4, pn⟩
  · apply Exists.intro
    apply Exists.intro
    apply And.intro
    · unfold fL_addLink
      rw [p1, rn_bs]
      exact (if_neg (show ¬ (2 : Nat) = 0 by decide)).trans ((if_neg (show ¬ (2 : Nat) = 3 by decide)).trans ((if_neg (show ¬ (2 : Nat) = 1 by decide)).trans (if_pos rfl)))
    · exact ⟨p2, rfl, fun q => absurd q (show ¬ (3 : Int32) = 0 by decide), by omega, q1, q2, q3, q4, pn⟩
theorem st_setStation (N : Nat) (hN : 6000 ≤ N) (t : Nat) (c_x_latestError : Int32) (c_x_latestErrorPosition : Int32) (c_x_setup_length : Int32) (c_x_setup_text : Nat → Int32) (c_x_net_stationCount : Int32) (c_x_net_linkCount : Int32) (c_x_net_messageCount : Int32) (c_x_net_time : Int32) (c_x_net_life : Int32) (c_x_net_tries : Int32) (c_x_net_x : Int32) (c_x_net_stations : Nat → Int32) (c_x_net_links : Nat → Int32) (c_x_net_messages : Nat → Int32) (c_x_net_copies : Nat → Int32) (c_x_net_log_first : Int32) (c_x_net_log_size : Int32) (c_x_net_log_events : Nat → Int32) (c_x_net_ways_heard : Nat → Int64) (c_x_line_length : Int32) (c_x_line_bytes : Nat → Int32) (c_m_thrown : Int32) (c_m_textLength : Int32) (c_m_errorCode : Int32) (c_m_errorPosition : Int32) (c_m_outputLength : Int32) (c_m_state : Nat → Int32) (c_m_text : Nat → Int32) (c_m_output : Nat → Int32) (c_o : Nat → Int64) (z1 z2 z3 : Int32) (hI : qInv t c_x_latestError c_x_latestErrorPosition c_x_setup_length c_x_setup_text c_x_net_stationCount c_x_net_linkCount c_x_net_messageCount c_x_net_time c_x_net_life c_x_net_tries c_x_net_x c_x_net_stations c_x_net_links c_x_net_messages c_x_net_copies c_x_net_log_first c_x_net_log_size c_x_net_log_events c_x_net_ways_heard c_x_line_length c_x_line_bytes c_m_errorCode c_m_errorPosition c_m_textLength c_m_text c_m_outputLength c_m_output c_m_state) (ht : t ≤ 90000) : ∃ u v, fL_setStation N c_x_net_stationCount c_x_net_linkCount c_x_net_stations c_x_net_links c_x_net_ways_heard c_o z1 z2 z3 = some u ∧ fX7_setStation c_m_thrown c_m_state z1 z2 z3 = some v ∧ v.2.1 = u.1 ∧ (u.1 = 0 → u.2.2.2 0 = v.1.toInt64) ∧ qInv (t + 73) c_x_latestError c_x_latestErrorPosition c_x_setup_length c_x_setup_text c_x_net_stationCount c_x_net_linkCount c_x_net_messageCount c_x_net_time c_x_net_life c_x_net_tries c_x_net_x u.2.1 c_x_net_links c_x_net_messages c_x_net_copies c_x_net_log_first c_x_net_log_size c_x_net_log_events u.2.2.1 c_x_line_length c_x_line_bytes c_m_errorCode c_m_errorPosition c_m_textLength c_m_text c_m_outputLength c_m_output v.2.2 := by
  obtain ⟨q0, q1, q2, q3, q4, q5⟩ := hI
  obtain ⟨k, kI, v, a1, a2, a3, p1, p2, pk, pn⟩ := co_setStation hN ht q5 z1 z2 z3 c_m_thrown
  rcases pk with ⟨rfl, rfl⟩ | ⟨rfl, rfl⟩ | ⟨rfl, rfl⟩
  · apply Exists.intro
    apply Exists.intro
    apply And.intro
    · unfold fL_setStation
      rw [p1, rn_bs]
      exact if_pos rfl
    · exact ⟨p2, rfl, fun _ => rfl, by omega, q1, q2, q3, q4, pn⟩
  · apply Exists.intro
    apply Exists.intro
    apply And.intro
    · unfold fL_setStation
      rw [p1, rn_bs]
      exact (if_neg (show ¬ (3 : Nat) = 0 by decide)).trans (if_pos rfl)
    · exact ⟨p2, rfl, fun q => absurd q (show ¬ (1 : Int32) = 0 by decide), by omega, q1, q2, q3, q4, pn⟩
  · apply Exists.intro
    apply Exists.intro
    apply And.intro
    · unfold fL_setStation
      rw [p1, rn_bs]
      exact (if_neg (show ¬ (1 : Nat) = 0 by decide)).trans ((if_neg (show ¬ (1 : Nat) = 3 by decide)).trans (if_pos rfl))
    · exact ⟨p2, rfl, fun q => absurd q (show ¬ (2 : Int32) = 0 by decide), by omega, q1, q2, q3, q4, pn⟩
theorem st_setLink (N : Nat) (hN : 6000 ≤ N) (t : Nat) (c_x_latestError : Int32) (c_x_latestErrorPosition : Int32) (c_x_setup_length : Int32) (c_x_setup_text : Nat → Int32) (c_x_net_stationCount : Int32) (c_x_net_linkCount : Int32) (c_x_net_messageCount : Int32) (c_x_net_time : Int32) (c_x_net_life : Int32) (c_x_net_tries : Int32) (c_x_net_x : Int32) (c_x_net_stations : Nat → Int32) (c_x_net_links : Nat → Int32) (c_x_net_messages : Nat → Int32) (c_x_net_copies : Nat → Int32) (c_x_net_log_first : Int32) (c_x_net_log_size : Int32) (c_x_net_log_events : Nat → Int32) (c_x_net_ways_heard : Nat → Int64) (c_x_line_length : Int32) (c_x_line_bytes : Nat → Int32) (c_m_thrown : Int32) (c_m_textLength : Int32) (c_m_errorCode : Int32) (c_m_errorPosition : Int32) (c_m_outputLength : Int32) (c_m_state : Nat → Int32) (c_m_text : Nat → Int32) (c_m_output : Nat → Int32) (c_o : Nat → Int64) (z1 z2 z3 : Int32) (hI : qInv t c_x_latestError c_x_latestErrorPosition c_x_setup_length c_x_setup_text c_x_net_stationCount c_x_net_linkCount c_x_net_messageCount c_x_net_time c_x_net_life c_x_net_tries c_x_net_x c_x_net_stations c_x_net_links c_x_net_messages c_x_net_copies c_x_net_log_first c_x_net_log_size c_x_net_log_events c_x_net_ways_heard c_x_line_length c_x_line_bytes c_m_errorCode c_m_errorPosition c_m_textLength c_m_text c_m_outputLength c_m_output c_m_state) (ht : t ≤ 90000) : ∃ u v, fL_setLink N c_x_net_linkCount c_x_net_stations c_x_net_links c_x_net_ways_heard c_o z1 z2 z3 = some u ∧ fX7_setLink c_m_thrown c_m_state z1 z2 z3 = some v ∧ v.2.1 = u.1 ∧ (u.1 = 0 → u.2.2.2 0 = v.1.toInt64) ∧ qInv (t + 73) c_x_latestError c_x_latestErrorPosition c_x_setup_length c_x_setup_text c_x_net_stationCount c_x_net_linkCount c_x_net_messageCount c_x_net_time c_x_net_life c_x_net_tries c_x_net_x c_x_net_stations u.2.1 c_x_net_messages c_x_net_copies c_x_net_log_first c_x_net_log_size c_x_net_log_events u.2.2.1 c_x_line_length c_x_line_bytes c_m_errorCode c_m_errorPosition c_m_textLength c_m_text c_m_outputLength c_m_output v.2.2 := by
  obtain ⟨q0, q1, q2, q3, q4, q5⟩ := hI
  obtain ⟨k, kI, v, a1, a2, a3, p1, p2, pk, pn⟩ := co_setLink hN ht q5 z1 z2 z3 c_m_thrown
  rcases pk with ⟨rfl, rfl⟩ | ⟨rfl, rfl⟩ | ⟨rfl, rfl⟩
  · apply Exists.intro
    apply Exists.intro
    apply And.intro
    · unfold fL_setLink
      rw [p1, rn_bs]
      exact if_pos rfl
    · exact ⟨p2, rfl, fun _ => rfl, by omega, q1, q2, q3, q4, pn⟩
  · apply Exists.intro
    apply Exists.intro
    apply And.intro
    · unfold fL_setLink
      rw [p1, rn_bs]
      exact (if_neg (show ¬ (3 : Nat) = 0 by decide)).trans (if_pos rfl)
    · exact ⟨p2, rfl, fun q => absurd q (show ¬ (1 : Int32) = 0 by decide), by omega, q1, q2, q3, q4, pn⟩
  · apply Exists.intro
    apply Exists.intro
    apply And.intro
    · unfold fL_setLink
      rw [p1, rn_bs]
      exact (if_neg (show ¬ (1 : Nat) = 0 by decide)).trans ((if_neg (show ¬ (1 : Nat) = 3 by decide)).trans (if_pos rfl))
    · exact ⟨p2, rfl, fun q => absurd q (show ¬ (2 : Int32) = 0 by decide), by omega, q1, q2, q3, q4, pn⟩
theorem st_setRules (N : Nat) (hN : 6000 ≤ N) (t : Nat) (c_x_latestError : Int32) (c_x_latestErrorPosition : Int32) (c_x_setup_length : Int32) (c_x_setup_text : Nat → Int32) (c_x_net_stationCount : Int32) (c_x_net_linkCount : Int32) (c_x_net_messageCount : Int32) (c_x_net_time : Int32) (c_x_net_life : Int32) (c_x_net_tries : Int32) (c_x_net_x : Int32) (c_x_net_stations : Nat → Int32) (c_x_net_links : Nat → Int32) (c_x_net_messages : Nat → Int32) (c_x_net_copies : Nat → Int32) (c_x_net_log_first : Int32) (c_x_net_log_size : Int32) (c_x_net_log_events : Nat → Int32) (c_x_net_ways_heard : Nat → Int64) (c_x_line_length : Int32) (c_x_line_bytes : Nat → Int32) (c_m_thrown : Int32) (c_m_textLength : Int32) (c_m_errorCode : Int32) (c_m_errorPosition : Int32) (c_m_outputLength : Int32) (c_m_state : Nat → Int32) (c_m_text : Nat → Int32) (c_m_output : Nat → Int32) (z1 z2 z3 : Int32) (hI : qInv t c_x_latestError c_x_latestErrorPosition c_x_setup_length c_x_setup_text c_x_net_stationCount c_x_net_linkCount c_x_net_messageCount c_x_net_time c_x_net_life c_x_net_tries c_x_net_x c_x_net_stations c_x_net_links c_x_net_messages c_x_net_copies c_x_net_log_first c_x_net_log_size c_x_net_log_events c_x_net_ways_heard c_x_line_length c_x_line_bytes c_m_errorCode c_m_errorPosition c_m_textLength c_m_text c_m_outputLength c_m_output c_m_state) (ht : t ≤ 90000) : ∃ u v, fL_setRules c_x_net_life c_x_net_tries c_x_net_x z1 z2 z3 = some u ∧ fX7_setRules c_m_thrown c_m_state z1 z2 z3 = some v ∧ v.1 = u.1 ∧ qInv (t + 73) c_x_latestError c_x_latestErrorPosition c_x_setup_length c_x_setup_text c_x_net_stationCount c_x_net_linkCount c_x_net_messageCount c_x_net_time u.2.1 u.2.2.1 u.2.2.2 c_x_net_stations c_x_net_links c_x_net_messages c_x_net_copies c_x_net_log_first c_x_net_log_size c_x_net_log_events c_x_net_ways_heard c_x_line_length c_x_line_bytes c_m_errorCode c_m_errorPosition c_m_textLength c_m_text c_m_outputLength c_m_output v.2 := by
  obtain ⟨q0, q1, q2, q3, q4, q5⟩ := hI
  obtain ⟨k, kI, a1, a2, a3, a4, p1, p2, pk, pn⟩ := co_setRules ht q5 z1 z2 z3 c_m_thrown
  rcases pk with ⟨rfl, rfl⟩ | ⟨rfl, rfl⟩
  · apply Exists.intro
    apply Exists.intro
    apply And.intro
    · unfold fL_setRules
      rw [p1, rn_bs]
      exact if_pos rfl
    · exact ⟨p2, rfl, by omega, q1, q2, q3, q4, pn⟩
  · apply Exists.intro
    apply Exists.intro
    apply And.intro
    · unfold fL_setRules
      rw [p1, rn_bs]
      exact (if_neg (show ¬ (1 : Nat) = 0 by decide)).trans (if_pos rfl)
    · exact ⟨p2, rfl, by omega, q1, q2, q3, q4, pn⟩
theorem st_station (N : Nat) (hN : 6000 ≤ N) (t : Nat) (c_x_latestError : Int32) (c_x_latestErrorPosition : Int32) (c_x_setup_length : Int32) (c_x_setup_text : Nat → Int32) (c_x_net_stationCount : Int32) (c_x_net_linkCount : Int32) (c_x_net_messageCount : Int32) (c_x_net_time : Int32) (c_x_net_life : Int32) (c_x_net_tries : Int32) (c_x_net_x : Int32) (c_x_net_stations : Nat → Int32) (c_x_net_links : Nat → Int32) (c_x_net_messages : Nat → Int32) (c_x_net_copies : Nat → Int32) (c_x_net_log_first : Int32) (c_x_net_log_size : Int32) (c_x_net_log_events : Nat → Int32) (c_x_net_ways_heard : Nat → Int64) (c_x_line_length : Int32) (c_x_line_bytes : Nat → Int32) (c_m_thrown : Int32) (c_m_textLength : Int32) (c_m_errorCode : Int32) (c_m_errorPosition : Int32) (c_m_outputLength : Int32) (c_m_state : Nat → Int32) (c_m_text : Nat → Int32) (c_m_output : Nat → Int32) (c_o : Nat → Int64) (z1 z2 : Int32) (hI : qInv t c_x_latestError c_x_latestErrorPosition c_x_setup_length c_x_setup_text c_x_net_stationCount c_x_net_linkCount c_x_net_messageCount c_x_net_time c_x_net_life c_x_net_tries c_x_net_x c_x_net_stations c_x_net_links c_x_net_messages c_x_net_copies c_x_net_log_first c_x_net_log_size c_x_net_log_events c_x_net_ways_heard c_x_line_length c_x_line_bytes c_m_errorCode c_m_errorPosition c_m_textLength c_m_text c_m_outputLength c_m_output c_m_state) (ht : t ≤ 90000) : ∃ u v, fL_station N c_x_net_stationCount c_x_net_linkCount c_x_net_messageCount c_x_net_time c_x_net_stations c_x_net_links c_x_net_copies c_o z1 z2 = some u ∧ fX7_station N c_m_thrown c_m_state z1 z2 = some v ∧ v.2 = u.1 ∧ (u.1 = 0 → u.2 0 = v.1.toInt64) ∧ qInv (t + 73) c_x_latestError c_x_latestErrorPosition c_x_setup_length c_x_setup_text c_x_net_stationCount c_x_net_linkCount c_x_net_messageCount c_x_net_time c_x_net_life c_x_net_tries c_x_net_x c_x_net_stations c_x_net_links c_x_net_messages c_x_net_copies c_x_net_log_first c_x_net_log_size c_x_net_log_events c_x_net_ways_heard c_x_line_length c_x_line_bytes c_m_errorCode c_m_errorPosition c_m_textLength c_m_text c_m_outputLength c_m_output c_m_state := by
  obtain ⟨q0, q1, q2, q3, q4, q5⟩ := hI
  obtain ⟨k, kI, v, p1, p2, pk⟩ := co_station hN ht q5 z1 z2 c_m_thrown
  rcases pk with ⟨rfl, rfl⟩ | ⟨rfl, rfl⟩ | ⟨rfl, rfl⟩
  · apply Exists.intro
    apply Exists.intro
    apply And.intro
    · unfold fL_station
      rw [p1, rn_bs]
      exact if_pos rfl
    · exact ⟨p2, rfl, fun _ => rfl, by omega, q1, q2, q3, q4, rl_t (t := t) (by omega) q5⟩
  · apply Exists.intro
    apply Exists.intro
    apply And.intro
    · unfold fL_station
      rw [p1, rn_bs]
      exact (if_neg (show ¬ (3 : Nat) = 0 by decide)).trans (if_pos rfl)
    · exact ⟨p2, rfl, fun q => absurd q (show ¬ (1 : Int32) = 0 by decide), by omega, q1, q2, q3, q4, rl_t (t := t) (by omega) q5⟩
  · apply Exists.intro
    apply Exists.intro
    apply And.intro
    · unfold fL_station
      rw [p1, rn_bs]
      exact (if_neg (show ¬ (1 : Nat) = 0 by decide)).trans ((if_neg (show ¬ (1 : Nat) = 3 by decide)).trans (if_pos rfl))
    · exact ⟨p2, rfl, fun q => absurd q (show ¬ (2 : Int32) = 0 by decide), by omega, q1, q2, q3, q4, rl_t (t := t) (by omega) q5⟩
theorem st_link (N : Nat) (hN : 6000 ≤ N) (t : Nat) (c_x_latestError : Int32) (c_x_latestErrorPosition : Int32) (c_x_setup_length : Int32) (c_x_setup_text : Nat → Int32) (c_x_net_stationCount : Int32) (c_x_net_linkCount : Int32) (c_x_net_messageCount : Int32) (c_x_net_time : Int32) (c_x_net_life : Int32) (c_x_net_tries : Int32) (c_x_net_x : Int32) (c_x_net_stations : Nat → Int32) (c_x_net_links : Nat → Int32) (c_x_net_messages : Nat → Int32) (c_x_net_copies : Nat → Int32) (c_x_net_log_first : Int32) (c_x_net_log_size : Int32) (c_x_net_log_events : Nat → Int32) (c_x_net_ways_heard : Nat → Int64) (c_x_line_length : Int32) (c_x_line_bytes : Nat → Int32) (c_m_thrown : Int32) (c_m_textLength : Int32) (c_m_errorCode : Int32) (c_m_errorPosition : Int32) (c_m_outputLength : Int32) (c_m_state : Nat → Int32) (c_m_text : Nat → Int32) (c_m_output : Nat → Int32) (c_o : Nat → Int64) (z1 z2 : Int32) (hI : qInv t c_x_latestError c_x_latestErrorPosition c_x_setup_length c_x_setup_text c_x_net_stationCount c_x_net_linkCount c_x_net_messageCount c_x_net_time c_x_net_life c_x_net_tries c_x_net_x c_x_net_stations c_x_net_links c_x_net_messages c_x_net_copies c_x_net_log_first c_x_net_log_size c_x_net_log_events c_x_net_ways_heard c_x_line_length c_x_line_bytes c_m_errorCode c_m_errorPosition c_m_textLength c_m_text c_m_outputLength c_m_output c_m_state) (ht : t ≤ 90000) : ∃ u v, fL_link c_x_net_linkCount c_x_net_time c_x_net_stations c_x_net_links c_o z1 z2 = some u ∧ fX7_link c_m_thrown c_m_state z1 z2 = some v ∧ v.2 = u.1 ∧ (u.1 = 0 → u.2 0 = v.1.toInt64) ∧ qInv (t + 73) c_x_latestError c_x_latestErrorPosition c_x_setup_length c_x_setup_text c_x_net_stationCount c_x_net_linkCount c_x_net_messageCount c_x_net_time c_x_net_life c_x_net_tries c_x_net_x c_x_net_stations c_x_net_links c_x_net_messages c_x_net_copies c_x_net_log_first c_x_net_log_size c_x_net_log_events c_x_net_ways_heard c_x_line_length c_x_line_bytes c_m_errorCode c_m_errorPosition c_m_textLength c_m_text c_m_outputLength c_m_output c_m_state := by
  obtain ⟨q0, q1, q2, q3, q4, q5⟩ := hI
  obtain ⟨k, kI, v, p1, p2, pk⟩ := co_link ht q5 z1 z2 c_m_thrown
  rcases pk with ⟨rfl, rfl⟩ | ⟨rfl, rfl⟩ | ⟨rfl, rfl⟩
  · apply Exists.intro
    apply Exists.intro
    apply And.intro
    · unfold fL_link
      rw [p1, rn_bs]
      exact if_pos rfl
    · exact ⟨p2, rfl, fun _ => rfl, by omega, q1, q2, q3, q4, rl_t (t := t) (by omega) q5⟩
  · apply Exists.intro
    apply Exists.intro
    apply And.intro
    · unfold fL_link
      rw [p1, rn_bs]
      exact (if_neg (show ¬ (3 : Nat) = 0 by decide)).trans (if_pos rfl)
    · exact ⟨p2, rfl, fun q => absurd q (show ¬ (1 : Int32) = 0 by decide), by omega, q1, q2, q3, q4, rl_t (t := t) (by omega) q5⟩
  · apply Exists.intro
    apply Exists.intro
    apply And.intro
    · unfold fL_link
      rw [p1, rn_bs]
      exact (if_neg (show ¬ (1 : Nat) = 0 by decide)).trans ((if_neg (show ¬ (1 : Nat) = 3 by decide)).trans (if_pos rfl))
    · exact ⟨p2, rfl, fun q => absurd q (show ¬ (2 : Int32) = 0 by decide), by omega, q1, q2, q3, q4, rl_t (t := t) (by omega) q5⟩
theorem st_count (N : Nat) (hN : 6000 ≤ N) (t : Nat) (c_x_latestError : Int32) (c_x_latestErrorPosition : Int32) (c_x_setup_length : Int32) (c_x_setup_text : Nat → Int32) (c_x_net_stationCount : Int32) (c_x_net_linkCount : Int32) (c_x_net_messageCount : Int32) (c_x_net_time : Int32) (c_x_net_life : Int32) (c_x_net_tries : Int32) (c_x_net_x : Int32) (c_x_net_stations : Nat → Int32) (c_x_net_links : Nat → Int32) (c_x_net_messages : Nat → Int32) (c_x_net_copies : Nat → Int32) (c_x_net_log_first : Int32) (c_x_net_log_size : Int32) (c_x_net_log_events : Nat → Int32) (c_x_net_ways_heard : Nat → Int64) (c_x_line_length : Int32) (c_x_line_bytes : Nat → Int32) (c_m_thrown : Int32) (c_m_textLength : Int32) (c_m_errorCode : Int32) (c_m_errorPosition : Int32) (c_m_outputLength : Int32) (c_m_state : Nat → Int32) (c_m_text : Nat → Int32) (c_m_output : Nat → Int32) (c_o : Nat → Int64) (z1 : Int32) (hI : qInv t c_x_latestError c_x_latestErrorPosition c_x_setup_length c_x_setup_text c_x_net_stationCount c_x_net_linkCount c_x_net_messageCount c_x_net_time c_x_net_life c_x_net_tries c_x_net_x c_x_net_stations c_x_net_links c_x_net_messages c_x_net_copies c_x_net_log_first c_x_net_log_size c_x_net_log_events c_x_net_ways_heard c_x_line_length c_x_line_bytes c_m_errorCode c_m_errorPosition c_m_textLength c_m_text c_m_outputLength c_m_output c_m_state) (ht : t ≤ 90000) : ∃ u v, fL_count N c_x_net_stationCount c_x_net_linkCount c_x_net_messageCount c_x_net_time c_x_net_life c_x_net_tries c_x_net_x c_x_net_stations c_x_net_links c_x_net_messages c_x_net_copies c_x_net_log_size c_o z1 = some u ∧ fX7_count N c_m_thrown c_m_state z1 = some v ∧ v.2 = u.1 ∧ (u.1 = 0 → u.2 0 = v.1.toInt64) ∧ qInv (t + 73) c_x_latestError c_x_latestErrorPosition c_x_setup_length c_x_setup_text c_x_net_stationCount c_x_net_linkCount c_x_net_messageCount c_x_net_time c_x_net_life c_x_net_tries c_x_net_x c_x_net_stations c_x_net_links c_x_net_messages c_x_net_copies c_x_net_log_first c_x_net_log_size c_x_net_log_events c_x_net_ways_heard c_x_line_length c_x_line_bytes c_m_errorCode c_m_errorPosition c_m_textLength c_m_text c_m_outputLength c_m_output c_m_state := by
  obtain ⟨q0, q1, q2, q3, q4, q5⟩ := hI
  obtain ⟨k, kI, v, p1, p2, pk⟩ := co_count hN ht q5 z1 c_m_thrown
  rcases pk with ⟨rfl, rfl⟩ | ⟨rfl, rfl⟩
  · apply Exists.intro
    apply Exists.intro
    apply And.intro
    · unfold fL_count
      rw [p1, rn_bs]
      exact if_pos rfl
    · exact ⟨p2, rfl, fun _ => rfl, by omega, q1, q2, q3, q4, rl_t (t := t) (by omega) q5⟩
  · apply Exists.intro
    apply Exists.intro
    apply And.intro
    · unfold fL_count
      rw [p1, rn_bs]
      exact (if_neg (show ¬ (1 : Nat) = 0 by decide)).trans (if_pos rfl)
    · exact ⟨p2, rfl, fun q => absurd q (show ¬ (1 : Int32) = 0 by decide), by omega, q1, q2, q3, q4, rl_t (t := t) (by omega) q5⟩
theorem st_way (N : Nat) (hN : 6000 ≤ N) (t : Nat) (c_x_latestError : Int32) (c_x_latestErrorPosition : Int32) (c_x_setup_length : Int32) (c_x_setup_text : Nat → Int32) (c_x_net_stationCount : Int32) (c_x_net_linkCount : Int32) (c_x_net_messageCount : Int32) (c_x_net_time : Int32) (c_x_net_life : Int32) (c_x_net_tries : Int32) (c_x_net_x : Int32) (c_x_net_stations : Nat → Int32) (c_x_net_links : Nat → Int32) (c_x_net_messages : Nat → Int32) (c_x_net_copies : Nat → Int32) (c_x_net_log_first : Int32) (c_x_net_log_size : Int32) (c_x_net_log_events : Nat → Int32) (c_x_net_ways_arrival : Int32) (c_x_net_ways_fewest : Int32) (c_x_net_ways_next : Int32) (c_x_net_ways_heard : Nat → Int64) (c_x_line_length : Int32) (c_x_line_bytes : Nat → Int32) (c_m_thrown : Int32) (c_m_textLength : Int32) (c_m_errorCode : Int32) (c_m_errorPosition : Int32) (c_m_outputLength : Int32) (c_m_state : Nat → Int32) (c_m_text : Nat → Int32) (c_m_arrival : Nat → Int32) (c_m_links : Nat → Int32) (c_m_isAvoided : Nat → Int32) (c_m_output : Nat → Int32) (c_o : Nat → Int64) (z1 z2 z3 z4 : Int32) (hI : qInv t c_x_latestError c_x_latestErrorPosition c_x_setup_length c_x_setup_text c_x_net_stationCount c_x_net_linkCount c_x_net_messageCount c_x_net_time c_x_net_life c_x_net_tries c_x_net_x c_x_net_stations c_x_net_links c_x_net_messages c_x_net_copies c_x_net_log_first c_x_net_log_size c_x_net_log_events c_x_net_ways_heard c_x_line_length c_x_line_bytes c_m_errorCode c_m_errorPosition c_m_textLength c_m_text c_m_outputLength c_m_output c_m_state) (ht : t ≤ 90000) : ∃ u v, fL_way N c_x_net_stationCount c_x_net_ways_arrival c_x_net_ways_fewest c_x_net_ways_next c_x_net_ways_heard c_o z1 z2 z3 z4 = some u ∧ fX7_way N c_m_thrown c_m_state c_m_arrival c_m_links c_m_isAvoided z1 z2 z3 z4 = some v ∧ v.2.1 = u.1 ∧ (u.1 = 0 → u.2.2.2.2 0 = v.1.toInt64) ∧ qInv (t + 73) c_x_latestError c_x_latestErrorPosition c_x_setup_length c_x_setup_text c_x_net_stationCount c_x_net_linkCount c_x_net_messageCount c_x_net_time c_x_net_life c_x_net_tries c_x_net_x c_x_net_stations c_x_net_links c_x_net_messages c_x_net_copies c_x_net_log_first c_x_net_log_size c_x_net_log_events c_x_net_ways_heard c_x_line_length c_x_line_bytes c_m_errorCode c_m_errorPosition c_m_textLength c_m_text c_m_outputLength c_m_output c_m_state := by
  obtain ⟨q0, q1, q2, q3, q4, q5⟩ := hI
  obtain ⟨k, kI, v, w, w2, p1, p2, pk⟩ := co_way hN ht q5 z1 z2 z3 z4 c_m_thrown c_x_net_ways_arrival c_x_net_ways_fewest c_x_net_ways_next c_m_arrival c_m_links c_m_isAvoided
  rcases pk with ⟨rfl, rfl⟩ | ⟨rfl, rfl⟩ | ⟨rfl, rfl⟩
  · apply Exists.intro
    apply Exists.intro
    apply And.intro
    · unfold fL_way
      rw [p1, rn_bs]
      exact if_pos rfl
    · exact ⟨p2, rfl, fun _ => rfl, by omega, q1, q2, q3, q4, rl_t (t := t) (by omega) q5⟩
  · apply Exists.intro
    apply Exists.intro
    apply And.intro
    · unfold fL_way
      rw [p1, rn_bs]
      exact (if_neg (show ¬ (3 : Nat) = 0 by decide)).trans (if_pos rfl)
    · exact ⟨p2, rfl, fun q => absurd q (show ¬ (1 : Int32) = 0 by decide), by omega, q1, q2, q3, q4, rl_t (t := t) (by omega) q5⟩
  · apply Exists.intro
    apply Exists.intro
    apply And.intro
    · unfold fL_way
      rw [p1, rn_bs]
      exact (if_neg (show ¬ (1 : Nat) = 0 by decide)).trans ((if_neg (show ¬ (1 : Nat) = 3 by decide)).trans (if_pos rfl))
    · exact ⟨p2, rfl, fun q => absurd q (show ¬ (2 : Int32) = 0 by decide), by omega, q1, q2, q3, q4, rl_t (t := t) (by omega) q5⟩
theorem st_reachable (N : Nat) (hN : 6000 ≤ N) (t : Nat) (c_x_latestError : Int32) (c_x_latestErrorPosition : Int32) (c_x_setup_length : Int32) (c_x_setup_text : Nat → Int32) (c_x_net_stationCount : Int32) (c_x_net_linkCount : Int32) (c_x_net_messageCount : Int32) (c_x_net_time : Int32) (c_x_net_life : Int32) (c_x_net_tries : Int32) (c_x_net_x : Int32) (c_x_net_stations : Nat → Int32) (c_x_net_links : Nat → Int32) (c_x_net_messages : Nat → Int32) (c_x_net_copies : Nat → Int32) (c_x_net_log_first : Int32) (c_x_net_log_size : Int32) (c_x_net_log_events : Nat → Int32) (c_x_net_ways_heard : Nat → Int64) (c_x_line_length : Int32) (c_x_line_bytes : Nat → Int32) (c_m_thrown : Int32) (c_m_textLength : Int32) (c_m_errorCode : Int32) (c_m_errorPosition : Int32) (c_m_outputLength : Int32) (c_m_state : Nat → Int32) (c_m_text : Nat → Int32) (c_m_arrival : Nat → Int32) (c_m_links : Nat → Int32) (c_m_isAvoided : Nat → Int32) (c_m_output : Nat → Int32) (hI : qInv t c_x_latestError c_x_latestErrorPosition c_x_setup_length c_x_setup_text c_x_net_stationCount c_x_net_linkCount c_x_net_messageCount c_x_net_time c_x_net_life c_x_net_tries c_x_net_x c_x_net_stations c_x_net_links c_x_net_messages c_x_net_copies c_x_net_log_first c_x_net_log_size c_x_net_log_events c_x_net_ways_heard c_x_line_length c_x_line_bytes c_m_errorCode c_m_errorPosition c_m_textLength c_m_text c_m_outputLength c_m_output c_m_state) (ht : t ≤ 90000) : ∃ u v, fX6_reachable N c_x_net_stationCount c_x_net_time c_x_net_ways_heard = some u ∧ fX7_reachable N c_m_thrown c_m_state c_m_arrival c_m_links c_m_isAvoided = some v ∧ u = v.1 ∧ qInv (t + 73) c_x_latestError c_x_latestErrorPosition c_x_setup_length c_x_setup_text c_x_net_stationCount c_x_net_linkCount c_x_net_messageCount c_x_net_time c_x_net_life c_x_net_tries c_x_net_x c_x_net_stations c_x_net_links c_x_net_messages c_x_net_copies c_x_net_log_first c_x_net_log_size c_x_net_log_events c_x_net_ways_heard c_x_line_length c_x_line_bytes c_m_errorCode c_m_errorPosition c_m_textLength c_m_text c_m_outputLength c_m_output c_m_state := by
  obtain ⟨q0, q1, q2, q3, q4, q5⟩ := hI
  obtain ⟨v, w, p1, p2⟩ := co_reachable hN ht q5 c_m_thrown c_m_arrival c_m_links c_m_isAvoided
  exact ⟨_, _, p1, p2, rfl, by omega, q1, q2, q3, q4, rl_t (t := t) (by omega) q5⟩
theorem st_keyStation (N : Nat) (hN : 6000 ≤ N) (t : Nat) (c_x_latestError : Int32) (c_x_latestErrorPosition : Int32) (c_x_setup_length : Int32) (c_x_setup_text : Nat → Int32) (c_x_net_stationCount : Int32) (c_x_net_linkCount : Int32) (c_x_net_messageCount : Int32) (c_x_net_time : Int32) (c_x_net_life : Int32) (c_x_net_tries : Int32) (c_x_net_x : Int32) (c_x_net_stations : Nat → Int32) (c_x_net_links : Nat → Int32) (c_x_net_messages : Nat → Int32) (c_x_net_copies : Nat → Int32) (c_x_net_log_first : Int32) (c_x_net_log_size : Int32) (c_x_net_log_events : Nat → Int32) (c_x_net_ways_heard : Nat → Int64) (c_x_line_length : Int32) (c_x_line_bytes : Nat → Int32) (c_m_thrown : Int32) (c_m_textLength : Int32) (c_m_errorCode : Int32) (c_m_errorPosition : Int32) (c_m_outputLength : Int32) (c_m_state : Nat → Int32) (c_m_text : Nat → Int32) (c_m_arrival : Nat → Int32) (c_m_links : Nat → Int32) (c_m_isAvoided : Nat → Int32) (c_m_output : Nat → Int32) (hI : qInv t c_x_latestError c_x_latestErrorPosition c_x_setup_length c_x_setup_text c_x_net_stationCount c_x_net_linkCount c_x_net_messageCount c_x_net_time c_x_net_life c_x_net_tries c_x_net_x c_x_net_stations c_x_net_links c_x_net_messages c_x_net_copies c_x_net_log_first c_x_net_log_size c_x_net_log_events c_x_net_ways_heard c_x_line_length c_x_line_bytes c_m_errorCode c_m_errorPosition c_m_textLength c_m_text c_m_outputLength c_m_output c_m_state) (ht : t ≤ 90000) : ∃ u v, fX6_keyStation N c_x_net_stationCount c_x_net_time c_x_net_ways_heard = some u ∧ fX7_keyStation N c_m_thrown c_m_state c_m_arrival c_m_links c_m_isAvoided = some v ∧ u = v.1 ∧ qInv (t + 73) c_x_latestError c_x_latestErrorPosition c_x_setup_length c_x_setup_text c_x_net_stationCount c_x_net_linkCount c_x_net_messageCount c_x_net_time c_x_net_life c_x_net_tries c_x_net_x c_x_net_stations c_x_net_links c_x_net_messages c_x_net_copies c_x_net_log_first c_x_net_log_size c_x_net_log_events c_x_net_ways_heard c_x_line_length c_x_line_bytes c_m_errorCode c_m_errorPosition c_m_textLength c_m_text c_m_outputLength c_m_output c_m_state := by
  obtain ⟨q0, q1, q2, q3, q4, q5⟩ := hI
  obtain ⟨v, w, p1, p2⟩ := co_keyStation hN ht q5 c_m_thrown c_m_arrival c_m_links c_m_isAvoided
  exact ⟨_, _, p1, p2, rfl, by omega, q1, q2, q3, q4, rl_t (t := t) (by omega) q5⟩
theorem st_send (N : Nat) (hN : 6000 ≤ N) (t : Nat) (c_x_latestError : Int32) (c_x_latestErrorPosition : Int32) (c_x_setup_length : Int32) (c_x_setup_text : Nat → Int32) (c_x_net_stationCount : Int32) (c_x_net_linkCount : Int32) (c_x_net_messageCount : Int32) (c_x_net_time : Int32) (c_x_net_life : Int32) (c_x_net_tries : Int32) (c_x_net_x : Int32) (c_x_net_stations : Nat → Int32) (c_x_net_links : Nat → Int32) (c_x_net_messages : Nat → Int32) (c_x_net_copies : Nat → Int32) (c_x_net_log_first : Int32) (c_x_net_log_size : Int32) (c_x_net_log_events : Nat → Int32) (c_x_net_ways_heard : Nat → Int64) (c_x_line_length : Int32) (c_x_line_bytes : Nat → Int32) (c_m_thrown : Int32) (c_m_textLength : Int32) (c_m_errorCode : Int32) (c_m_errorPosition : Int32) (c_m_outputLength : Int32) (c_m_state : Nat → Int32) (c_m_text : Nat → Int32) (c_m_output : Nat → Int32) (c_o : Nat → Int64) (z1 z2 z3 : Int32) (hI : qInv t c_x_latestError c_x_latestErrorPosition c_x_setup_length c_x_setup_text c_x_net_stationCount c_x_net_linkCount c_x_net_messageCount c_x_net_time c_x_net_life c_x_net_tries c_x_net_x c_x_net_stations c_x_net_links c_x_net_messages c_x_net_copies c_x_net_log_first c_x_net_log_size c_x_net_log_events c_x_net_ways_heard c_x_line_length c_x_line_bytes c_m_errorCode c_m_errorPosition c_m_textLength c_m_text c_m_outputLength c_m_output c_m_state) (ht : t ≤ 90000) : ∃ u v, fL_send c_x_net_stationCount c_x_net_messageCount c_x_net_time c_x_net_messages c_x_net_copies c_x_net_log_first c_x_net_log_size c_x_net_log_events c_o z1 z2 z3 = some u ∧ fX7_send N c_m_thrown c_m_state z1 z2 z3 = some v ∧ v.2.1 = u.1 ∧ (u.1 = 0 → u.2.2.2.2.2.2.2 0 = v.1.toInt64) ∧ qInv (t + 73) c_x_latestError c_x_latestErrorPosition c_x_setup_length c_x_setup_text c_x_net_stationCount c_x_net_linkCount u.2.1 c_x_net_time c_x_net_life c_x_net_tries c_x_net_x c_x_net_stations c_x_net_links u.2.2.1 u.2.2.2.1 u.2.2.2.2.1 u.2.2.2.2.2.1 u.2.2.2.2.2.2.1 c_x_net_ways_heard c_x_line_length c_x_line_bytes c_m_errorCode c_m_errorPosition c_m_textLength c_m_text c_m_outputLength c_m_output v.2.2 := by
  obtain ⟨q0, q1, q2, q3, q4, q5⟩ := hI
  obtain ⟨k, kI, v, a1, a2, a3, a4, a5, a6, a7, p1, p2, pk, pn⟩ := co_send hN ht q5 z1 z2 z3 c_m_thrown
  rcases pk with ⟨rfl, rfl⟩ | ⟨rfl, rfl⟩ | ⟨rfl, rfl⟩ | ⟨rfl, rfl⟩
  · apply Exists.intro
    apply Exists.intro
    apply And.intro
    · unfold fL_send
      rw [p1, rn_bs]
      exact if_pos rfl
    · exact ⟨p2, rfl, fun _ => rfl, by omega, q1, q2, q3, q4, pn⟩
  · apply Exists.intro
    apply Exists.intro
    apply And.intro
    · unfold fL_send
      rw [p1, rn_bs]
      exact (if_neg (show ¬ (3 : Nat) = 0 by decide)).trans (if_pos rfl)
    · exact ⟨p2, rfl, fun q => absurd q (show ¬ (1 : Int32) = 0 by decide), by omega, q1, q2, q3, q4, pn⟩
  · apply Exists.intro
    apply Exists.intro
    apply And.intro
    · unfold fL_send
      rw [p1, rn_bs]
      exact (if_neg (show ¬ (1 : Nat) = 0 by decide)).trans ((if_neg (show ¬ (1 : Nat) = 3 by decide)).trans (if_pos rfl))
    · exact ⟨p2, rfl, fun q => absurd q (show ¬ (2 : Int32) = 0 by decide), by omega, q1, q2, q3, q4, pn⟩
  · apply Exists.intro
    apply Exists.intro
    apply And.intro
    · unfold fL_send
      rw [p1, rn_bs]
      exact (if_neg (show ¬ (2 : Nat) = 0 by decide)).trans ((if_neg (show ¬ (2 : Nat) = 3 by decide)).trans ((if_neg (show ¬ (2 : Nat) = 1 by decide)).trans (if_pos rfl)))
    · exact ⟨p2, rfl, fun q => absurd q (show ¬ (3 : Int32) = 0 by decide), by omega, q1, q2, q3, q4, pn⟩
theorem st_setPriority (N : Nat) (hN : 6000 ≤ N) (t : Nat) (c_x_latestError : Int32) (c_x_latestErrorPosition : Int32) (c_x_setup_length : Int32) (c_x_setup_text : Nat → Int32) (c_x_net_stationCount : Int32) (c_x_net_linkCount : Int32) (c_x_net_messageCount : Int32) (c_x_net_time : Int32) (c_x_net_life : Int32) (c_x_net_tries : Int32) (c_x_net_x : Int32) (c_x_net_stations : Nat → Int32) (c_x_net_links : Nat → Int32) (c_x_net_messages : Nat → Int32) (c_x_net_copies : Nat → Int32) (c_x_net_log_first : Int32) (c_x_net_log_size : Int32) (c_x_net_log_events : Nat → Int32) (c_x_net_ways_heard : Nat → Int64) (c_x_line_length : Int32) (c_x_line_bytes : Nat → Int32) (c_m_thrown : Int32) (c_m_textLength : Int32) (c_m_errorCode : Int32) (c_m_errorPosition : Int32) (c_m_outputLength : Int32) (c_m_state : Nat → Int32) (c_m_text : Nat → Int32) (c_m_output : Nat → Int32) (c_o : Nat → Int64) (z1 z2 : Int32) (hI : qInv t c_x_latestError c_x_latestErrorPosition c_x_setup_length c_x_setup_text c_x_net_stationCount c_x_net_linkCount c_x_net_messageCount c_x_net_time c_x_net_life c_x_net_tries c_x_net_x c_x_net_stations c_x_net_links c_x_net_messages c_x_net_copies c_x_net_log_first c_x_net_log_size c_x_net_log_events c_x_net_ways_heard c_x_line_length c_x_line_bytes c_m_errorCode c_m_errorPosition c_m_textLength c_m_text c_m_outputLength c_m_output c_m_state) (ht : t ≤ 90000) : ∃ u v, fL_setPriority c_x_net_messageCount c_x_net_messages c_o z1 z2 = some u ∧ fX7_setPriority c_m_thrown c_m_state z1 z2 = some v ∧ v.2.1 = u.1 ∧ (u.1 = 0 → u.2.2 0 = v.1.toInt64) ∧ qInv (t + 73) c_x_latestError c_x_latestErrorPosition c_x_setup_length c_x_setup_text c_x_net_stationCount c_x_net_linkCount c_x_net_messageCount c_x_net_time c_x_net_life c_x_net_tries c_x_net_x c_x_net_stations c_x_net_links u.2.1 c_x_net_copies c_x_net_log_first c_x_net_log_size c_x_net_log_events c_x_net_ways_heard c_x_line_length c_x_line_bytes c_m_errorCode c_m_errorPosition c_m_textLength c_m_text c_m_outputLength c_m_output v.2.2 := by
  obtain ⟨q0, q1, q2, q3, q4, q5⟩ := hI
  obtain ⟨k, kI, v, a1, a2, p1, p2, pk, pn⟩ := co_setPriority ht q5 z1 z2 c_m_thrown
  rcases pk with ⟨rfl, rfl⟩ | ⟨rfl, rfl⟩ | ⟨rfl, rfl⟩
  · apply Exists.intro
    apply Exists.intro
    apply And.intro
    · unfold fL_setPriority
      rw [p1, rn_bs]
      exact if_pos rfl
    · exact ⟨p2, rfl, fun _ => rfl, by omega, q1, q2, q3, q4, pn⟩
  · apply Exists.intro
    apply Exists.intro
    apply And.intro
    · unfold fL_setPriority
      rw [p1, rn_bs]
      exact (if_neg (show ¬ (3 : Nat) = 0 by decide)).trans (if_pos rfl)
    · exact ⟨p2, rfl, fun q => absurd q (show ¬ (1 : Int32) = 0 by decide), by omega, q1, q2, q3, q4, pn⟩
  · apply Exists.intro
    apply Exists.intro
    apply And.intro
    · unfold fL_setPriority
      rw [p1, rn_bs]
      exact (if_neg (show ¬ (1 : Nat) = 0 by decide)).trans ((if_neg (show ¬ (1 : Nat) = 3 by decide)).trans (if_pos rfl))
    · exact ⟨p2, rfl, fun q => absurd q (show ¬ (2 : Int32) = 0 by decide), by omega, q1, q2, q3, q4, pn⟩
theorem st_takeBack (N : Nat) (hN : 6000 ≤ N) (t : Nat) (c_x_latestError : Int32) (c_x_latestErrorPosition : Int32) (c_x_setup_length : Int32) (c_x_setup_text : Nat → Int32) (c_x_net_stationCount : Int32) (c_x_net_linkCount : Int32) (c_x_net_messageCount : Int32) (c_x_net_time : Int32) (c_x_net_life : Int32) (c_x_net_tries : Int32) (c_x_net_x : Int32) (c_x_net_stations : Nat → Int32) (c_x_net_links : Nat → Int32) (c_x_net_messages : Nat → Int32) (c_x_net_copies : Nat → Int32) (c_x_net_log_first : Int32) (c_x_net_log_size : Int32) (c_x_net_log_events : Nat → Int32) (c_x_net_ways_heard : Nat → Int64) (c_x_line_length : Int32) (c_x_line_bytes : Nat → Int32) (c_m_thrown : Int32) (c_m_textLength : Int32) (c_m_errorCode : Int32) (c_m_errorPosition : Int32) (c_m_outputLength : Int32) (c_m_state : Nat → Int32) (c_m_text : Nat → Int32) (c_m_output : Nat → Int32) (c_o : Nat → Int64) (z1 : Int32) (hI : qInv t c_x_latestError c_x_latestErrorPosition c_x_setup_length c_x_setup_text c_x_net_stationCount c_x_net_linkCount c_x_net_messageCount c_x_net_time c_x_net_life c_x_net_tries c_x_net_x c_x_net_stations c_x_net_links c_x_net_messages c_x_net_copies c_x_net_log_first c_x_net_log_size c_x_net_log_events c_x_net_ways_heard c_x_line_length c_x_line_bytes c_m_errorCode c_m_errorPosition c_m_textLength c_m_text c_m_outputLength c_m_output c_m_state) (ht : t ≤ 90000) : ∃ u v, fL_takeBack N c_x_net_stationCount c_x_net_messageCount c_x_net_time c_x_net_messages c_x_net_copies c_x_net_log_first c_x_net_log_size c_x_net_log_events c_o z1 = some u ∧ fX7_takeBack N c_m_thrown c_m_state z1 = some v ∧ v.2.1 = u.1 ∧ (u.1 = 0 → u.2.2.2.2.2.2 0 = v.1.toInt64) ∧ qInv (t + 73) c_x_latestError c_x_latestErrorPosition c_x_setup_length c_x_setup_text c_x_net_stationCount c_x_net_linkCount c_x_net_messageCount c_x_net_time c_x_net_life c_x_net_tries c_x_net_x c_x_net_stations c_x_net_links u.2.1 u.2.2.1 u.2.2.2.1 u.2.2.2.2.1 u.2.2.2.2.2.1 c_x_net_ways_heard c_x_line_length c_x_line_bytes c_m_errorCode c_m_errorPosition c_m_textLength c_m_text c_m_outputLength c_m_output v.2.2 := by
  obtain ⟨q0, q1, q2, q3, q4, q5⟩ := hI
  obtain ⟨k, kI, v, a1, a2, a3, a4, a5, a6, p1, p2, pk, pn⟩ := co_takeBack hN ht q5 z1 c_m_thrown
  rcases pk with ⟨rfl, rfl⟩ | ⟨rfl, rfl⟩
  · apply Exists.intro
    apply Exists.intro
    apply And.intro
    · unfold fL_takeBack
      rw [p1, rn_bs]
      exact if_pos rfl
    · exact ⟨p2, rfl, fun _ => rfl, by omega, q1, q2, q3, q4, pn⟩
  · apply Exists.intro
    apply Exists.intro
    apply And.intro
    · unfold fL_takeBack
      rw [p1, rn_bs]
      exact (if_neg (show ¬ (3 : Nat) = 0 by decide)).trans (if_pos rfl)
    · exact ⟨p2, rfl, fun q => absurd q (show ¬ (1 : Int32) = 0 by decide), by omega, q1, q2, q3, q4, pn⟩
theorem st_message (N : Nat) (hN : 6000 ≤ N) (t : Nat) (c_x_latestError : Int32) (c_x_latestErrorPosition : Int32) (c_x_setup_length : Int32) (c_x_setup_text : Nat → Int32) (c_x_net_stationCount : Int32) (c_x_net_linkCount : Int32) (c_x_net_messageCount : Int32) (c_x_net_time : Int32) (c_x_net_life : Int32) (c_x_net_tries : Int32) (c_x_net_x : Int32) (c_x_net_stations : Nat → Int32) (c_x_net_links : Nat → Int32) (c_x_net_messages : Nat → Int32) (c_x_net_copies : Nat → Int32) (c_x_net_log_first : Int32) (c_x_net_log_size : Int32) (c_x_net_log_events : Nat → Int32) (c_x_net_ways_heard : Nat → Int64) (c_x_line_length : Int32) (c_x_line_bytes : Nat → Int32) (c_m_thrown : Int32) (c_m_textLength : Int32) (c_m_errorCode : Int32) (c_m_errorPosition : Int32) (c_m_outputLength : Int32) (c_m_state : Nat → Int32) (c_m_text : Nat → Int32) (c_m_output : Nat → Int32) (c_o : Nat → Int64) (z1 z2 : Int32) (hI : qInv t c_x_latestError c_x_latestErrorPosition c_x_setup_length c_x_setup_text c_x_net_stationCount c_x_net_linkCount c_x_net_messageCount c_x_net_time c_x_net_life c_x_net_tries c_x_net_x c_x_net_stations c_x_net_links c_x_net_messages c_x_net_copies c_x_net_log_first c_x_net_log_size c_x_net_log_events c_x_net_ways_heard c_x_line_length c_x_line_bytes c_m_errorCode c_m_errorPosition c_m_textLength c_m_text c_m_outputLength c_m_output c_m_state) (ht : t ≤ 90000) : ∃ u v, fL_message N c_x_net_stationCount c_x_net_messageCount c_x_net_messages c_x_net_copies c_o z1 z2 = some u ∧ fX7_message N c_m_thrown c_m_state z1 z2 = some v ∧ v.2 = u.1 ∧ (u.1 = 0 → u.2 0 = v.1.toInt64) ∧ qInv (t + 73) c_x_latestError c_x_latestErrorPosition c_x_setup_length c_x_setup_text c_x_net_stationCount c_x_net_linkCount c_x_net_messageCount c_x_net_time c_x_net_life c_x_net_tries c_x_net_x c_x_net_stations c_x_net_links c_x_net_messages c_x_net_copies c_x_net_log_first c_x_net_log_size c_x_net_log_events c_x_net_ways_heard c_x_line_length c_x_line_bytes c_m_errorCode c_m_errorPosition c_m_textLength c_m_text c_m_outputLength c_m_output c_m_state := by
  obtain ⟨q0, q1, q2, q3, q4, q5⟩ := hI
  obtain ⟨k, kI, v, p1, p2, pk⟩ := co_message hN ht q5 z1 z2 c_m_thrown
  rcases pk with ⟨rfl, rfl⟩ | ⟨rfl, rfl⟩ | ⟨rfl, rfl⟩
  · apply Exists.intro
    apply Exists.intro
    apply And.intro
    · unfold fL_message
      rw [p1, rn_bs]
      exact if_pos rfl
    · exact ⟨p2, rfl, fun _ => rfl, by omega, q1, q2, q3, q4, rl_t (t := t) (by omega) q5⟩
  · apply Exists.intro
    apply Exists.intro
    apply And.intro
    · unfold fL_message
      rw [p1, rn_bs]
      exact (if_neg (show ¬ (3 : Nat) = 0 by decide)).trans (if_pos rfl)
    · exact ⟨p2, rfl, fun q => absurd q (show ¬ (1 : Int32) = 0 by decide), by omega, q1, q2, q3, q4, rl_t (t := t) (by omega) q5⟩
  · apply Exists.intro
    apply Exists.intro
    apply And.intro
    · unfold fL_message
      rw [p1, rn_bs]
      exact (if_neg (show ¬ (1 : Nat) = 0 by decide)).trans ((if_neg (show ¬ (1 : Nat) = 3 by decide)).trans (if_pos rfl))
    · exact ⟨p2, rfl, fun q => absurd q (show ¬ (2 : Int32) = 0 by decide), by omega, q1, q2, q3, q4, rl_t (t := t) (by omega) q5⟩
theorem st_copy (N : Nat) (hN : 6000 ≤ N) (t : Nat) (c_x_latestError : Int32) (c_x_latestErrorPosition : Int32) (c_x_setup_length : Int32) (c_x_setup_text : Nat → Int32) (c_x_net_stationCount : Int32) (c_x_net_linkCount : Int32) (c_x_net_messageCount : Int32) (c_x_net_time : Int32) (c_x_net_life : Int32) (c_x_net_tries : Int32) (c_x_net_x : Int32) (c_x_net_stations : Nat → Int32) (c_x_net_links : Nat → Int32) (c_x_net_messages : Nat → Int32) (c_x_net_copies : Nat → Int32) (c_x_net_log_first : Int32) (c_x_net_log_size : Int32) (c_x_net_log_events : Nat → Int32) (c_x_net_ways_arrival : Int32) (c_x_net_ways_fewest : Int32) (c_x_net_ways_next : Int32) (c_x_net_ways_heard : Nat → Int64) (c_x_line_length : Int32) (c_x_line_bytes : Nat → Int32) (c_m_thrown : Int32) (c_m_textLength : Int32) (c_m_errorCode : Int32) (c_m_errorPosition : Int32) (c_m_outputLength : Int32) (c_m_state : Nat → Int32) (c_m_text : Nat → Int32) (c_m_arrival : Nat → Int32) (c_m_links : Nat → Int32) (c_m_isAvoided : Nat → Int32) (c_m_output : Nat → Int32) (c_o : Nat → Int64) (z1 z2 z3 : Int32) (hI : qInv t c_x_latestError c_x_latestErrorPosition c_x_setup_length c_x_setup_text c_x_net_stationCount c_x_net_linkCount c_x_net_messageCount c_x_net_time c_x_net_life c_x_net_tries c_x_net_x c_x_net_stations c_x_net_links c_x_net_messages c_x_net_copies c_x_net_log_first c_x_net_log_size c_x_net_log_events c_x_net_ways_heard c_x_line_length c_x_line_bytes c_m_errorCode c_m_errorPosition c_m_textLength c_m_text c_m_outputLength c_m_output c_m_state) (ht : t ≤ 90000) : ∃ u v, fL_copy N c_x_net_stationCount c_x_net_messageCount c_x_net_time c_x_net_messages c_x_net_copies c_x_net_ways_arrival c_x_net_ways_fewest c_x_net_ways_next c_x_net_ways_heard c_o z1 z2 z3 = some u ∧ fX7_copy N c_m_thrown c_m_state c_m_arrival c_m_links c_m_isAvoided z1 z2 z3 = some v ∧ v.2.1 = u.1 ∧ (u.1 = 0 → u.2.2.2.2 0 = v.1.toInt64) ∧ qInv (t + 73) c_x_latestError c_x_latestErrorPosition c_x_setup_length c_x_setup_text c_x_net_stationCount c_x_net_linkCount c_x_net_messageCount c_x_net_time c_x_net_life c_x_net_tries c_x_net_x c_x_net_stations c_x_net_links c_x_net_messages c_x_net_copies c_x_net_log_first c_x_net_log_size c_x_net_log_events c_x_net_ways_heard c_x_line_length c_x_line_bytes c_m_errorCode c_m_errorPosition c_m_textLength c_m_text c_m_outputLength c_m_output c_m_state := by
  obtain ⟨q0, q1, q2, q3, q4, q5⟩ := hI
  obtain ⟨k, kI, v, w, w2, p1, p2, pk⟩ := co_copy hN ht q5 z1 z2 z3 c_m_thrown c_x_net_ways_arrival c_x_net_ways_fewest c_x_net_ways_next c_m_arrival c_m_links c_m_isAvoided
  rcases pk with ⟨rfl, rfl⟩ | ⟨rfl, rfl⟩ | ⟨rfl, rfl⟩
  · apply Exists.intro
    apply Exists.intro
    apply And.intro
    · unfold fL_copy
      rw [p1, rn_bs]
      exact if_pos rfl
    · exact ⟨p2, rfl, fun _ => rfl, by omega, q1, q2, q3, q4, rl_t (t := t) (by omega) q5⟩
  · apply Exists.intro
    apply Exists.intro
    apply And.intro
    · unfold fL_copy
      rw [p1, rn_bs]
      exact (if_neg (show ¬ (3 : Nat) = 0 by decide)).trans (if_pos rfl)
    · exact ⟨p2, rfl, fun q => absurd q (show ¬ (1 : Int32) = 0 by decide), by omega, q1, q2, q3, q4, rl_t (t := t) (by omega) q5⟩
  · apply Exists.intro
    apply Exists.intro
    apply And.intro
    · unfold fL_copy
      rw [p1, rn_bs]
      exact (if_neg (show ¬ (1 : Nat) = 0 by decide)).trans ((if_neg (show ¬ (1 : Nat) = 3 by decide)).trans (if_pos rfl))
    · exact ⟨p2, rfl, fun q => absurd q (show ¬ (2 : Int32) = 0 by decide), by omega, q1, q2, q3, q4, rl_t (t := t) (by omega) q5⟩
theorem st_path (N : Nat) (hN : 6000 ≤ N) (t : Nat) (c_x_latestError : Int32) (c_x_latestErrorPosition : Int32) (c_x_setup_length : Int32) (c_x_setup_text : Nat → Int32) (c_x_net_stationCount : Int32) (c_x_net_linkCount : Int32) (c_x_net_messageCount : Int32) (c_x_net_time : Int32) (c_x_net_life : Int32) (c_x_net_tries : Int32) (c_x_net_x : Int32) (c_x_net_stations : Nat → Int32) (c_x_net_links : Nat → Int32) (c_x_net_messages : Nat → Int32) (c_x_net_copies : Nat → Int32) (c_x_net_log_first : Int32) (c_x_net_log_size : Int32) (c_x_net_log_events : Nat → Int32) (c_x_net_ways_heard : Nat → Int64) (c_x_line_length : Int32) (c_x_line_bytes : Nat → Int32) (c_m_thrown : Int32) (c_m_textLength : Int32) (c_m_errorCode : Int32) (c_m_errorPosition : Int32) (c_m_outputLength : Int32) (c_m_state : Nat → Int32) (c_m_text : Nat → Int32) (c_m_output : Nat → Int32) (c_o : Nat → Int64) (z1 z2 z3 : Int32) (hI : qInv t c_x_latestError c_x_latestErrorPosition c_x_setup_length c_x_setup_text c_x_net_stationCount c_x_net_linkCount c_x_net_messageCount c_x_net_time c_x_net_life c_x_net_tries c_x_net_x c_x_net_stations c_x_net_links c_x_net_messages c_x_net_copies c_x_net_log_first c_x_net_log_size c_x_net_log_events c_x_net_ways_heard c_x_line_length c_x_line_bytes c_m_errorCode c_m_errorPosition c_m_textLength c_m_text c_m_outputLength c_m_output c_m_state) (ht : t ≤ 90000) : ∃ u v, fL_path c_x_net_stationCount c_x_net_messageCount c_x_net_copies c_o z1 z2 z3 = some u ∧ fX7_path c_m_thrown c_m_state z1 z2 z3 = some v ∧ v.2 = u.1 ∧ (u.1 = 0 → u.2 0 = v.1.toInt64) ∧ qInv (t + 73) c_x_latestError c_x_latestErrorPosition c_x_setup_length c_x_setup_text c_x_net_stationCount c_x_net_linkCount c_x_net_messageCount c_x_net_time c_x_net_life c_x_net_tries c_x_net_x c_x_net_stations c_x_net_links c_x_net_messages c_x_net_copies c_x_net_log_first c_x_net_log_size c_x_net_log_events c_x_net_ways_heard c_x_line_length c_x_line_bytes c_m_errorCode c_m_errorPosition c_m_textLength c_m_text c_m_outputLength c_m_output c_m_state := by
  obtain ⟨q0, q1, q2, q3, q4, q5⟩ := hI
  obtain ⟨k, kI, v, p1, p2, pk⟩ := co_path ht q5 z1 z2 z3 c_m_thrown
  rcases pk with ⟨rfl, rfl⟩ | ⟨rfl, rfl⟩
  · apply Exists.intro
    apply Exists.intro
    apply And.intro
    · unfold fL_path
      rw [p1, rn_bs]
      exact if_pos rfl
    · exact ⟨p2, rfl, fun _ => rfl, by omega, q1, q2, q3, q4, rl_t (t := t) (by omega) q5⟩
  · apply Exists.intro
    apply Exists.intro
    apply And.intro
    · unfold fL_path
      rw [p1, rn_bs]
      exact (if_neg (show ¬ (3 : Nat) = 0 by decide)).trans (if_pos rfl)
    · exact ⟨p2, rfl, fun q => absurd q (show ¬ (1 : Int32) = 0 by decide), by omega, q1, q2, q3, q4, rl_t (t := t) (by omega) q5⟩
theorem st_sends (N : Nat) (hN : 6000 ≤ N) (t : Nat) (c_x_latestError : Int32) (c_x_latestErrorPosition : Int32) (c_x_setup_length : Int32) (c_x_setup_text : Nat → Int32) (c_x_net_stationCount : Int32) (c_x_net_linkCount : Int32) (c_x_net_messageCount : Int32) (c_x_net_time : Int32) (c_x_net_life : Int32) (c_x_net_tries : Int32) (c_x_net_x : Int32) (c_x_net_stations : Nat → Int32) (c_x_net_links : Nat → Int32) (c_x_net_messages : Nat → Int32) (c_x_net_copies : Nat → Int32) (c_x_net_log_first : Int32) (c_x_net_log_size : Int32) (c_x_net_log_events : Nat → Int32) (c_x_net_ways_arrival : Int32) (c_x_net_ways_fewest : Int32) (c_x_net_ways_next : Int32) (c_x_net_ways_heard : Nat → Int64) (c_x_net_frames : Nat → Int32) (c_x_line_length : Int32) (c_x_line_bytes : Nat → Int32) (c_m_thrown : Int32) (c_m_textLength : Int32) (c_m_errorCode : Int32) (c_m_errorPosition : Int32) (c_m_outputLength : Int32) (c_m_sendCount : Int32) (c_m_state : Nat → Int32) (c_m_text : Nat → Int32) (c_m_arrival : Nat → Int32) (c_m_links : Nat → Int32) (c_m_isAvoided : Nat → Int32) (c_m_output : Nat → Int32) (c_m_toSend : Nat → Int32) (c_m_sendTo : Nat → Int32) (c_o : Nat → Int64) (z1 z2 : Int32) (hI : qInv t c_x_latestError c_x_latestErrorPosition c_x_setup_length c_x_setup_text c_x_net_stationCount c_x_net_linkCount c_x_net_messageCount c_x_net_time c_x_net_life c_x_net_tries c_x_net_x c_x_net_stations c_x_net_links c_x_net_messages c_x_net_copies c_x_net_log_first c_x_net_log_size c_x_net_log_events c_x_net_ways_heard c_x_line_length c_x_line_bytes c_m_errorCode c_m_errorPosition c_m_textLength c_m_text c_m_outputLength c_m_output c_m_state) (ht : t ≤ 90000) : ∃ u v, fL_sends N c_x_net_stationCount c_x_net_messageCount c_x_net_time c_x_net_stations c_x_net_messages c_x_net_copies c_x_net_ways_arrival c_x_net_ways_fewest c_x_net_ways_next c_x_net_ways_heard c_x_net_frames c_o z1 z2 = some u ∧ fX7_sends N c_m_thrown c_m_sendCount c_m_state c_m_arrival c_m_links c_m_isAvoided c_m_toSend c_m_sendTo z1 z2 = some v ∧ v.2.1 = u.1 ∧ (u.1 = 0 → u.2.2.2.2.2 0 = v.1.toInt64) ∧ qInv (t + 73) c_x_latestError c_x_latestErrorPosition c_x_setup_length c_x_setup_text c_x_net_stationCount c_x_net_linkCount c_x_net_messageCount c_x_net_time c_x_net_life c_x_net_tries c_x_net_x c_x_net_stations c_x_net_links c_x_net_messages c_x_net_copies c_x_net_log_first c_x_net_log_size c_x_net_log_events c_x_net_ways_heard c_x_line_length c_x_line_bytes c_m_errorCode c_m_errorPosition c_m_textLength c_m_text c_m_outputLength c_m_output c_m_state := by
  obtain ⟨q0, q1, q2, q3, q4, q5⟩ := hI
  obtain ⟨k, kI, v, w, w2, p1, p2, pk⟩ := co_sends hN ht q5 z1 z2 c_m_thrown c_m_sendCount c_x_net_ways_arrival c_x_net_ways_fewest c_x_net_ways_next c_x_net_frames c_m_arrival c_m_links c_m_isAvoided c_m_toSend c_m_sendTo
  rcases pk with ⟨rfl, rfl⟩ | ⟨rfl, rfl⟩
  · apply Exists.intro
    apply Exists.intro
    apply And.intro
    · unfold fL_sends
      rw [p1, rn_bs]
      exact if_pos rfl
    · exact ⟨p2, rfl, fun _ => rfl, by omega, q1, q2, q3, q4, rl_t (t := t) (by omega) q5⟩
  · apply Exists.intro
    apply Exists.intro
    apply And.intro
    · unfold fL_sends
      rw [p1, rn_bs]
      exact (if_neg (show ¬ (3 : Nat) = 0 by decide)).trans (if_pos rfl)
    · exact ⟨p2, rfl, fun q => absurd q (show ¬ (1 : Int32) = 0 by decide), by omega, q1, q2, q3, q4, rl_t (t := t) (by omega) q5⟩
theorem st_run (N : Nat) (hN : 6000 ≤ N) (t : Nat) (c_x_latestError : Int32) (c_x_latestErrorPosition : Int32) (c_x_setup_length : Int32) (c_x_setup_text : Nat → Int32) (c_x_net_stationCount : Int32) (c_x_net_linkCount : Int32) (c_x_net_messageCount : Int32) (c_x_net_time : Int32) (c_x_net_life : Int32) (c_x_net_tries : Int32) (c_x_net_x : Int32) (c_x_net_stations : Nat → Int32) (c_x_net_links : Nat → Int32) (c_x_net_messages : Nat → Int32) (c_x_net_copies : Nat → Int32) (c_x_net_log_first : Int32) (c_x_net_log_size : Int32) (c_x_net_log_events : Nat → Int32) (c_x_net_ways_arrival : Int32) (c_x_net_ways_fewest : Int32) (c_x_net_ways_next : Int32) (c_x_net_ways_heard : Nat → Int64) (c_x_net_frames : Nat → Int32) (c_x_line_length : Int32) (c_x_line_bytes : Nat → Int32) (c_m_thrown : Int32) (c_m_textLength : Int32) (c_m_errorCode : Int32) (c_m_errorPosition : Int32) (c_m_outputLength : Int32) (c_m_sendCount : Int32) (c_m_state : Nat → Int32) (c_m_text : Nat → Int32) (c_m_arrival : Nat → Int32) (c_m_links : Nat → Int32) (c_m_isAvoided : Nat → Int32) (c_m_output : Nat → Int32) (c_m_toSend : Nat → Int32) (c_m_sendTo : Nat → Int32) (c_o : Nat → Int64) (z1 : Int32) (hI : qInv t c_x_latestError c_x_latestErrorPosition c_x_setup_length c_x_setup_text c_x_net_stationCount c_x_net_linkCount c_x_net_messageCount c_x_net_time c_x_net_life c_x_net_tries c_x_net_x c_x_net_stations c_x_net_links c_x_net_messages c_x_net_copies c_x_net_log_first c_x_net_log_size c_x_net_log_events c_x_net_ways_heard c_x_line_length c_x_line_bytes c_m_errorCode c_m_errorPosition c_m_textLength c_m_text c_m_outputLength c_m_output c_m_state) (ht : t ≤ 90000) : ∃ u v, fL_run N c_x_net_stationCount c_x_net_linkCount c_x_net_messageCount c_x_net_time c_x_net_life c_x_net_tries c_x_net_x c_x_net_stations c_x_net_links c_x_net_messages c_x_net_copies c_x_net_log_first c_x_net_log_size c_x_net_log_events c_x_net_ways_arrival c_x_net_ways_fewest c_x_net_ways_next c_x_net_ways_heard c_x_net_frames c_o z1 = some u ∧ fX7_run N c_m_thrown c_m_sendCount c_m_state c_m_arrival c_m_links c_m_isAvoided c_m_toSend c_m_sendTo z1 = some v ∧ v.2.1 = u.1 ∧ (u.1 = 0 → u.2.2.2.2.2.2.2.2.2.2.2.2.2.2 0 = v.1.toInt64) ∧ qInv (t + 73) c_x_latestError c_x_latestErrorPosition c_x_setup_length c_x_setup_text c_x_net_stationCount c_x_net_linkCount c_x_net_messageCount u.2.1 c_x_net_life c_x_net_tries u.2.2.1 u.2.2.2.1 u.2.2.2.2.1 u.2.2.2.2.2.1 u.2.2.2.2.2.2.1 u.2.2.2.2.2.2.2.1 u.2.2.2.2.2.2.2.2.1 u.2.2.2.2.2.2.2.2.2.1 c_x_net_ways_heard c_x_line_length c_x_line_bytes c_m_errorCode c_m_errorPosition c_m_textLength c_m_text c_m_outputLength c_m_output v.2.2.2.1 := by
  obtain ⟨q0, q1, q2, q3, q4, q5⟩ := hI
  obtain ⟨k, kI, v, a1, a2, a3, a4, a5, a6, a7, a8, a9, w, y, st', zz, p1, p2, pk, pn⟩ := co_run hN ht q5 z1 c_m_thrown c_m_sendCount c_x_net_ways_arrival c_x_net_ways_fewest c_x_net_ways_next c_x_net_frames c_m_arrival c_m_links c_m_isAvoided c_m_toSend c_m_sendTo
  rcases pk with ⟨rfl, rfl⟩ | ⟨rfl, rfl⟩
  · apply Exists.intro
    apply Exists.intro
    apply And.intro
    · unfold fL_run
      rw [p1, rn_bs]
      exact if_pos rfl
    · exact ⟨p2, rfl, fun _ => rfl, by omega, q1, q2, q3, q4, pn⟩
  · apply Exists.intro
    apply Exists.intro
    apply And.intro
    · unfold fL_run
      rw [p1, rn_bs]
      exact (if_neg (show ¬ (1 : Nat) = 0 by decide)).trans (if_pos rfl)
    · exact ⟨p2, rfl, fun q => absurd q (show ¬ (1 : Int32) = 0 by decide), by omega, q1, q2, q3, q4, pn⟩
theorem st_stateAfter (N : Nat) (hN : 6000 ≤ N) (t : Nat) (c_x_latestError : Int32) (c_x_latestErrorPosition : Int32) (c_x_setup_length : Int32) (c_x_setup_text : Nat → Int32) (c_x_net_stationCount : Int32) (c_x_net_linkCount : Int32) (c_x_net_messageCount : Int32) (c_x_net_time : Int32) (c_x_net_life : Int32) (c_x_net_tries : Int32) (c_x_net_x : Int32) (c_x_net_stations : Nat → Int32) (c_x_net_links : Nat → Int32) (c_x_net_messages : Nat → Int32) (c_x_net_copies : Nat → Int32) (c_x_net_log_first : Int32) (c_x_net_log_size : Int32) (c_x_net_log_events : Nat → Int32) (c_x_net_ways_heard : Nat → Int64) (c_x_trial_stationCount : Int32) (c_x_trial_linkCount : Int32) (c_x_trial_messageCount : Int32) (c_x_trial_time : Int32) (c_x_trial_life : Int32) (c_x_trial_tries : Int32) (c_x_trial_x : Int32) (c_x_trial_stations : Nat → Int32) (c_x_trial_links : Nat → Int32) (c_x_trial_messages : Nat → Int32) (c_x_trial_copies : Nat → Int32) (c_x_trial_log_first : Int32) (c_x_trial_log_size : Int32) (c_x_trial_log_events : Nat → Int32) (c_x_trial_ways_arrival : Int32) (c_x_trial_ways_fewest : Int32) (c_x_trial_ways_next : Int32) (c_x_trial_ways_heard : Nat → Int64) (c_x_trial_frames : Nat → Int32) (c_x_line_length : Int32) (c_x_line_bytes : Nat → Int32) (c_m_thrown : Int32) (c_m_textLength : Int32) (c_m_errorCode : Int32) (c_m_errorPosition : Int32) (c_m_outputLength : Int32) (c_m_sendCount : Int32) (c_m_state : Nat → Int32) (c_m_aside : Nat → Int32) (c_m_text : Nat → Int32) (c_m_arrival : Nat → Int32) (c_m_links : Nat → Int32) (c_m_isAvoided : Nat → Int32) (c_m_output : Nat → Int32) (c_m_toSend : Nat → Int32) (c_m_sendTo : Nat → Int32) (c_o : Nat → Int64) (z1 z2 : Int32) (hI : qInv t c_x_latestError c_x_latestErrorPosition c_x_setup_length c_x_setup_text c_x_net_stationCount c_x_net_linkCount c_x_net_messageCount c_x_net_time c_x_net_life c_x_net_tries c_x_net_x c_x_net_stations c_x_net_links c_x_net_messages c_x_net_copies c_x_net_log_first c_x_net_log_size c_x_net_log_events c_x_net_ways_heard c_x_line_length c_x_line_bytes c_m_errorCode c_m_errorPosition c_m_textLength c_m_text c_m_outputLength c_m_output c_m_state) (ht : t ≤ 90000) : ∃ u v, fL_stateAfter N c_x_net_stationCount c_x_net_linkCount c_x_net_messageCount c_x_net_time c_x_net_life c_x_net_tries c_x_net_x c_x_net_stations c_x_net_links c_x_net_messages c_x_net_copies c_x_net_log_first c_x_net_log_size c_x_net_log_events c_x_net_ways_heard c_x_trial_stationCount c_x_trial_linkCount c_x_trial_messageCount c_x_trial_time c_x_trial_life c_x_trial_tries c_x_trial_x c_x_trial_stations c_x_trial_links c_x_trial_messages c_x_trial_copies c_x_trial_log_first c_x_trial_log_size c_x_trial_log_events c_x_trial_ways_arrival c_x_trial_ways_fewest c_x_trial_ways_next c_x_trial_ways_heard c_x_trial_frames c_o z1 z2 = some u ∧ fX7_stateAfter N c_m_thrown c_m_sendCount c_m_state c_m_aside c_m_arrival c_m_links c_m_isAvoided c_m_toSend c_m_sendTo z1 z2 = some v ∧ v.2.1 = u.1 ∧ (u.1 = 0 → u.2.2.2.2.2.2.2.2.2.2.2.2.2.2.2.2.2.2.2.2 0 = v.1.toInt64) ∧ qInv (t + 73) c_x_latestError c_x_latestErrorPosition c_x_setup_length c_x_setup_text c_x_net_stationCount c_x_net_linkCount c_x_net_messageCount c_x_net_time c_x_net_life c_x_net_tries c_x_net_x c_x_net_stations c_x_net_links c_x_net_messages c_x_net_copies c_x_net_log_first c_x_net_log_size c_x_net_log_events c_x_net_ways_heard c_x_line_length c_x_line_bytes c_m_errorCode c_m_errorPosition c_m_textLength c_m_text c_m_outputLength c_m_output v.2.2.2.1 := by
  obtain ⟨q0, q1, q2, q3, q4, q5⟩ := hI
  obtain ⟨k, kI, v, w, y, st', zz, p1, p2, pk, pn⟩ := co_stateAfter hN ht q5 z1 z2 c_m_thrown c_m_sendCount c_m_aside c_m_arrival c_m_links c_m_isAvoided c_m_toSend c_m_sendTo c_x_trial_stationCount c_x_trial_linkCount c_x_trial_messageCount c_x_trial_time c_x_trial_life c_x_trial_tries c_x_trial_x c_x_trial_stations c_x_trial_links c_x_trial_messages c_x_trial_copies c_x_trial_log_first c_x_trial_log_size c_x_trial_log_events c_x_trial_ways_arrival c_x_trial_ways_fewest c_x_trial_ways_next c_x_trial_ways_heard c_x_trial_frames
  rcases pk with ⟨rfl, rfl⟩ | ⟨rfl, rfl⟩ | ⟨rfl, rfl⟩
  · apply Exists.intro
    apply Exists.intro
    apply And.intro
    · unfold fL_stateAfter
      rw [p1, rn_bs]
      exact if_pos rfl
    · exact ⟨p2, rfl, fun _ => rfl, by omega, q1, q2, q3, q4, pn⟩
  · apply Exists.intro
    apply Exists.intro
    apply And.intro
    · unfold fL_stateAfter
      rw [p1, rn_bs]
      exact (if_neg (show ¬ (3 : Nat) = 0 by decide)).trans (if_pos rfl)
    · exact ⟨p2, rfl, fun q => absurd q (show ¬ (1 : Int32) = 0 by decide), by omega, q1, q2, q3, q4, pn⟩
  · apply Exists.intro
    apply Exists.intro
    apply And.intro
    · unfold fL_stateAfter
      rw [p1, rn_bs]
      exact (if_neg (show ¬ (1 : Nat) = 0 by decide)).trans ((if_neg (show ¬ (1 : Nat) = 3 by decide)).trans (if_pos rfl))
    · exact ⟨p2, rfl, fun q => absurd q (show ¬ (2 : Int32) = 0 by decide), by omega, q1, q2, q3, q4, pn⟩
theorem st_hoursTo (N : Nat) (hN : 6000 ≤ N) (t : Nat) (c_x_latestError : Int32) (c_x_latestErrorPosition : Int32) (c_x_setup_length : Int32) (c_x_setup_text : Nat → Int32) (c_x_net_stationCount : Int32) (c_x_net_linkCount : Int32) (c_x_net_messageCount : Int32) (c_x_net_time : Int32) (c_x_net_life : Int32) (c_x_net_tries : Int32) (c_x_net_x : Int32) (c_x_net_stations : Nat → Int32) (c_x_net_links : Nat → Int32) (c_x_net_messages : Nat → Int32) (c_x_net_copies : Nat → Int32) (c_x_net_log_first : Int32) (c_x_net_log_size : Int32) (c_x_net_log_events : Nat → Int32) (c_x_net_ways_heard : Nat → Int64) (c_x_trial_stationCount : Int32) (c_x_trial_linkCount : Int32) (c_x_trial_messageCount : Int32) (c_x_trial_time : Int32) (c_x_trial_life : Int32) (c_x_trial_tries : Int32) (c_x_trial_x : Int32) (c_x_trial_stations : Nat → Int32) (c_x_trial_links : Nat → Int32) (c_x_trial_messages : Nat → Int32) (c_x_trial_copies : Nat → Int32) (c_x_trial_log_first : Int32) (c_x_trial_log_size : Int32) (c_x_trial_log_events : Nat → Int32) (c_x_trial_ways_arrival : Int32) (c_x_trial_ways_fewest : Int32) (c_x_trial_ways_next : Int32) (c_x_trial_ways_heard : Nat → Int64) (c_x_trial_frames : Nat → Int32) (c_x_line_length : Int32) (c_x_line_bytes : Nat → Int32) (c_m_thrown : Int32) (c_m_textLength : Int32) (c_m_errorCode : Int32) (c_m_errorPosition : Int32) (c_m_outputLength : Int32) (c_m_sendCount : Int32) (c_m_state : Nat → Int32) (c_m_aside : Nat → Int32) (c_m_text : Nat → Int32) (c_m_arrival : Nat → Int32) (c_m_links : Nat → Int32) (c_m_isAvoided : Nat → Int32) (c_m_output : Nat → Int32) (c_m_toSend : Nat → Int32) (c_m_sendTo : Nat → Int32) (c_o : Nat → Int64) (z1 : Int32) (hI : qInv t c_x_latestError c_x_latestErrorPosition c_x_setup_length c_x_setup_text c_x_net_stationCount c_x_net_linkCount c_x_net_messageCount c_x_net_time c_x_net_life c_x_net_tries c_x_net_x c_x_net_stations c_x_net_links c_x_net_messages c_x_net_copies c_x_net_log_first c_x_net_log_size c_x_net_log_events c_x_net_ways_heard c_x_line_length c_x_line_bytes c_m_errorCode c_m_errorPosition c_m_textLength c_m_text c_m_outputLength c_m_output c_m_state) (ht : t ≤ 90000) : ∃ u v, fL_hoursTo N c_x_net_stationCount c_x_net_linkCount c_x_net_messageCount c_x_net_time c_x_net_life c_x_net_tries c_x_net_x c_x_net_stations c_x_net_links c_x_net_messages c_x_net_copies c_x_net_log_first c_x_net_log_size c_x_net_log_events c_x_net_ways_heard c_x_trial_stationCount c_x_trial_linkCount c_x_trial_messageCount c_x_trial_time c_x_trial_life c_x_trial_tries c_x_trial_x c_x_trial_stations c_x_trial_links c_x_trial_messages c_x_trial_copies c_x_trial_log_first c_x_trial_log_size c_x_trial_log_events c_x_trial_ways_arrival c_x_trial_ways_fewest c_x_trial_ways_next c_x_trial_ways_heard c_x_trial_frames c_o z1 = some u ∧ fX7_hoursTo N c_m_thrown c_m_sendCount c_m_state c_m_aside c_m_arrival c_m_links c_m_isAvoided c_m_toSend c_m_sendTo z1 = some v ∧ v.2.1 = u.1 ∧ (u.1 = 0 → u.2.2.2.2.2.2.2.2.2.2.2.2.2.2.2.2.2.2.2.2 0 = v.1.toInt64) ∧ qInv (t + 73) c_x_latestError c_x_latestErrorPosition c_x_setup_length c_x_setup_text c_x_net_stationCount c_x_net_linkCount c_x_net_messageCount c_x_net_time c_x_net_life c_x_net_tries c_x_net_x c_x_net_stations c_x_net_links c_x_net_messages c_x_net_copies c_x_net_log_first c_x_net_log_size c_x_net_log_events c_x_net_ways_heard c_x_line_length c_x_line_bytes c_m_errorCode c_m_errorPosition c_m_textLength c_m_text c_m_outputLength c_m_output v.2.2.2.1 := by
  obtain ⟨q0, q1, q2, q3, q4, q5⟩ := hI
  obtain ⟨k, kI, v, w, y, st', zz, p1, p2, pk, pn⟩ := co_hoursTo hN ht q5 z1 c_m_thrown c_m_sendCount c_m_aside c_m_arrival c_m_links c_m_isAvoided c_m_toSend c_m_sendTo c_x_trial_stationCount c_x_trial_linkCount c_x_trial_messageCount c_x_trial_time c_x_trial_life c_x_trial_tries c_x_trial_x c_x_trial_stations c_x_trial_links c_x_trial_messages c_x_trial_copies c_x_trial_log_first c_x_trial_log_size c_x_trial_log_events c_x_trial_ways_arrival c_x_trial_ways_fewest c_x_trial_ways_next c_x_trial_ways_heard c_x_trial_frames
  rcases pk with ⟨rfl, rfl⟩ | ⟨rfl, rfl⟩
  · apply Exists.intro
    apply Exists.intro
    apply And.intro
    · unfold fL_hoursTo
      rw [p1, rn_bs]
      exact if_pos rfl
    · exact ⟨p2, rfl, fun _ => rfl, by omega, q1, q2, q3, q4, pn⟩
  · apply Exists.intro
    apply Exists.intro
    apply And.intro
    · unfold fL_hoursTo
      rw [p1, rn_bs]
      exact (if_neg (show ¬ (1 : Nat) = 0 by decide)).trans (if_pos rfl)
    · exact ⟨p2, rfl, fun q => absurd q (show ¬ (1 : Int32) = 0 by decide), by omega, q1, q2, q3, q4, pn⟩
theorem st_event (N : Nat) (hN : 6000 ≤ N) (t : Nat) (c_x_latestError : Int32) (c_x_latestErrorPosition : Int32) (c_x_setup_length : Int32) (c_x_setup_text : Nat → Int32) (c_x_net_stationCount : Int32) (c_x_net_linkCount : Int32) (c_x_net_messageCount : Int32) (c_x_net_time : Int32) (c_x_net_life : Int32) (c_x_net_tries : Int32) (c_x_net_x : Int32) (c_x_net_stations : Nat → Int32) (c_x_net_links : Nat → Int32) (c_x_net_messages : Nat → Int32) (c_x_net_copies : Nat → Int32) (c_x_net_log_first : Int32) (c_x_net_log_size : Int32) (c_x_net_log_events : Nat → Int32) (c_x_net_ways_heard : Nat → Int64) (c_x_line_length : Int32) (c_x_line_bytes : Nat → Int32) (c_m_thrown : Int32) (c_m_textLength : Int32) (c_m_errorCode : Int32) (c_m_errorPosition : Int32) (c_m_outputLength : Int32) (c_m_state : Nat → Int32) (c_m_text : Nat → Int32) (c_m_output : Nat → Int32) (c_o : Nat → Int64) (z1 z2 : Int32) (hI : qInv t c_x_latestError c_x_latestErrorPosition c_x_setup_length c_x_setup_text c_x_net_stationCount c_x_net_linkCount c_x_net_messageCount c_x_net_time c_x_net_life c_x_net_tries c_x_net_x c_x_net_stations c_x_net_links c_x_net_messages c_x_net_copies c_x_net_log_first c_x_net_log_size c_x_net_log_events c_x_net_ways_heard c_x_line_length c_x_line_bytes c_m_errorCode c_m_errorPosition c_m_textLength c_m_text c_m_outputLength c_m_output c_m_state) (ht : t ≤ 90000) : ∃ u v, fL_event c_x_net_log_first c_x_net_log_size c_x_net_log_events c_o z1 z2 = some u ∧ fX7_event c_m_thrown c_m_state z1 z2 = some v ∧ v.2 = u.1 ∧ (u.1 = 0 → u.2 0 = v.1.toInt64) ∧ qInv (t + 73) c_x_latestError c_x_latestErrorPosition c_x_setup_length c_x_setup_text c_x_net_stationCount c_x_net_linkCount c_x_net_messageCount c_x_net_time c_x_net_life c_x_net_tries c_x_net_x c_x_net_stations c_x_net_links c_x_net_messages c_x_net_copies c_x_net_log_first c_x_net_log_size c_x_net_log_events c_x_net_ways_heard c_x_line_length c_x_line_bytes c_m_errorCode c_m_errorPosition c_m_textLength c_m_text c_m_outputLength c_m_output c_m_state := by
  obtain ⟨q0, q1, q2, q3, q4, q5⟩ := hI
  obtain ⟨k, kI, v, p1, p2, pk⟩ := co_event ht q5 z1 z2 c_m_thrown
  rcases pk with ⟨rfl, rfl⟩ | ⟨rfl, rfl⟩ | ⟨rfl, rfl⟩
  · apply Exists.intro
    apply Exists.intro
    apply And.intro
    · unfold fL_event
      rw [p1, rn_bs]
      exact if_pos rfl
    · exact ⟨p2, rfl, fun _ => rfl, by omega, q1, q2, q3, q4, rl_t (t := t) (by omega) q5⟩
  · apply Exists.intro
    apply Exists.intro
    apply And.intro
    · unfold fL_event
      rw [p1, rn_bs]
      exact (if_neg (show ¬ (3 : Nat) = 0 by decide)).trans (if_pos rfl)
    · exact ⟨p2, rfl, fun q => absurd q (show ¬ (1 : Int32) = 0 by decide), by omega, q1, q2, q3, q4, rl_t (t := t) (by omega) q5⟩
  · apply Exists.intro
    apply Exists.intro
    apply And.intro
    · unfold fL_event
      rw [p1, rn_bs]
      exact (if_neg (show ¬ (1 : Nat) = 0 by decide)).trans ((if_neg (show ¬ (1 : Nat) = 3 by decide)).trans (if_pos rfl))
    · exact ⟨p2, rfl, fun q => absurd q (show ¬ (2 : Int32) = 0 by decide), by omega, q1, q2, q3, q4, rl_t (t := t) (by omega) q5⟩
theorem st_write (N : Nat) (hN : 6000 ≤ N) (t : Nat) (c_x_latestError : Int32) (c_x_latestErrorPosition : Int32) (c_x_setup_length : Int32) (c_x_setup_text : Nat → Int32) (c_x_net_stationCount : Int32) (c_x_net_linkCount : Int32) (c_x_net_messageCount : Int32) (c_x_net_time : Int32) (c_x_net_life : Int32) (c_x_net_tries : Int32) (c_x_net_x : Int32) (c_x_net_stations : Nat → Int32) (c_x_net_links : Nat → Int32) (c_x_net_messages : Nat → Int32) (c_x_net_copies : Nat → Int32) (c_x_net_log_first : Int32) (c_x_net_log_size : Int32) (c_x_net_log_events : Nat → Int32) (c_x_net_ways_heard : Nat → Int64) (c_x_line_length : Int32) (c_x_line_bytes : Nat → Int32) (c_m_thrown : Int32) (c_m_textLength : Int32) (c_m_errorCode : Int32) (c_m_errorPosition : Int32) (c_m_outputLength : Int32) (c_m_state : Nat → Int32) (c_m_text : Nat → Int32) (c_m_output : Nat → Int32) (c_o : Nat → Int64) (z1 : Int32) (hI : qInv t c_x_latestError c_x_latestErrorPosition c_x_setup_length c_x_setup_text c_x_net_stationCount c_x_net_linkCount c_x_net_messageCount c_x_net_time c_x_net_life c_x_net_tries c_x_net_x c_x_net_stations c_x_net_links c_x_net_messages c_x_net_copies c_x_net_log_first c_x_net_log_size c_x_net_log_events c_x_net_ways_heard c_x_line_length c_x_line_bytes c_m_errorCode c_m_errorPosition c_m_textLength c_m_text c_m_outputLength c_m_output c_m_state) (ht : t ≤ 90000) : ∃ u v, fL_write N c_x_net_log_first c_x_net_log_size c_x_net_log_events c_x_line_length c_x_line_bytes c_o z1 = some u ∧ fX7_write N c_m_thrown c_m_outputLength c_m_state c_m_output z1 = some v ∧ v.2.1 = u.1 ∧ (u.1 = 0 → u.2.2.2 0 = v.1.toInt64) ∧ qInv (t + 73) c_x_latestError c_x_latestErrorPosition c_x_setup_length c_x_setup_text c_x_net_stationCount c_x_net_linkCount c_x_net_messageCount c_x_net_time c_x_net_life c_x_net_tries c_x_net_x c_x_net_stations c_x_net_links c_x_net_messages c_x_net_copies c_x_net_log_first c_x_net_log_size c_x_net_log_events c_x_net_ways_heard u.2.1 u.2.2.1 c_m_errorCode c_m_errorPosition c_m_textLength c_m_text v.2.2.1 v.2.2.2 c_m_state := by
  obtain ⟨q0, q1, q2, q3, q4, q5⟩ := hI
  obtain ⟨k, kI, v, a1, a2, a3, a4, p1, p2, pk, pn⟩ := co_write hN ht q5 q4 z1 c_m_thrown
  rcases pk with ⟨rfl, rfl⟩ | ⟨rfl, rfl⟩
  · apply Exists.intro
    apply Exists.intro
    apply And.intro
    · unfold fL_write
      rw [p1, rn_bs]
      exact if_pos rfl
    · exact ⟨p2, rfl, fun _ => rfl, by omega, q1, q2, q3, pn, rl_t (t := t) (by omega) q5⟩
  · apply Exists.intro
    apply Exists.intro
    apply And.intro
    · unfold fL_write
      rw [p1, rn_bs]
      exact (if_neg (show ¬ (3 : Nat) = 0 by decide)).trans (if_pos rfl)
    · exact ⟨p2, rfl, fun q => absurd q (show ¬ (1 : Int32) = 0 by decide), by omega, q1, q2, q3, pn, rl_t (t := t) (by omega) q5⟩
theorem st_output (N : Nat) (hN : 6000 ≤ N) (t : Nat) (c_x_latestError : Int32) (c_x_latestErrorPosition : Int32) (c_x_setup_length : Int32) (c_x_setup_text : Nat → Int32) (c_x_net_stationCount : Int32) (c_x_net_linkCount : Int32) (c_x_net_messageCount : Int32) (c_x_net_time : Int32) (c_x_net_life : Int32) (c_x_net_tries : Int32) (c_x_net_x : Int32) (c_x_net_stations : Nat → Int32) (c_x_net_links : Nat → Int32) (c_x_net_messages : Nat → Int32) (c_x_net_copies : Nat → Int32) (c_x_net_log_first : Int32) (c_x_net_log_size : Int32) (c_x_net_log_events : Nat → Int32) (c_x_net_ways_heard : Nat → Int64) (c_x_line_length : Int32) (c_x_line_bytes : Nat → Int32) (c_m_thrown : Int32) (c_m_textLength : Int32) (c_m_errorCode : Int32) (c_m_errorPosition : Int32) (c_m_outputLength : Int32) (c_m_state : Nat → Int32) (c_m_text : Nat → Int32) (c_m_output : Nat → Int32) (z1 : Int32) (hI : qInv t c_x_latestError c_x_latestErrorPosition c_x_setup_length c_x_setup_text c_x_net_stationCount c_x_net_linkCount c_x_net_messageCount c_x_net_time c_x_net_life c_x_net_tries c_x_net_x c_x_net_stations c_x_net_links c_x_net_messages c_x_net_copies c_x_net_log_first c_x_net_log_size c_x_net_log_events c_x_net_ways_heard c_x_line_length c_x_line_bytes c_m_errorCode c_m_errorPosition c_m_textLength c_m_text c_m_outputLength c_m_output c_m_state) (ht : t ≤ 90000) : ∃ u v, fX6_output c_x_line_length c_x_line_bytes z1 = some u ∧ fX7_output c_m_thrown c_m_outputLength c_m_output z1 = some v ∧ u = v.1 ∧ qInv (t + 73) c_x_latestError c_x_latestErrorPosition c_x_setup_length c_x_setup_text c_x_net_stationCount c_x_net_linkCount c_x_net_messageCount c_x_net_time c_x_net_life c_x_net_tries c_x_net_x c_x_net_stations c_x_net_links c_x_net_messages c_x_net_copies c_x_net_log_first c_x_net_log_size c_x_net_log_events c_x_net_ways_heard c_x_line_length c_x_line_bytes c_m_errorCode c_m_errorPosition c_m_textLength c_m_text c_m_outputLength c_m_output c_m_state := by
  obtain ⟨q0, q1, q2, q3, q4, q5⟩ := hI
  obtain ⟨v, p1, p2⟩ := co_output q4 z1 c_m_thrown
  exact ⟨_, _, p1, p2, rfl, by omega, q1, q2, q3, q4, rl_t (t := t) (by omega) q5⟩
