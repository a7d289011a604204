set_option maxHeartbeats 2000000 in
theorem st_turned : Step_turned Inv := by
  intro g1_text_size g1_text_place g1_text_items g1_text_letters g2_links g2_undos g2_length g2_seenMany g2_trace g2_at g2_behind g2_number g2_readLinks g2_readFolded g2_readStiff g2_wayMany g2_text g1_told_links g1_told_folded g1_told_stiff g1_told_lengths g1_strip_links g1_strip_folded g1_strip_stiff g1_strip_lengths g1_history_slot g1_history_size g1_sightings_size g1_kept g2_readLong g2_row g2_isKept g1_lay_links g1_lay_low g1_lay_high g1_lay_places g2_marks g1_folds_measured g1_folds_lay_links g1_folds_lay_low g1_folds_lay_high g1_folds_lay_places g2_isMeasured g1_history_steps_E_links g1_history_steps_E_folded g1_history_steps_E_stiff g1_history_steps_E_lengths g1_sightings_seenFolds g1_sightings_seenSpans g2_seenFold g2_seenSpan g1_sightings_lay_links g1_sightings_lay_low g1_sightings_lay_high g1_sightings_lay_places g1_sightings_isWay g2_waysAre g1_sightings_tally g2_haveSpan g1_rater_traced g1_images_E_links g1_images_E_folded g1_images_E_stiff g1_images_E_lengths  hI
  obtain ⟨n, hn, hL, hT, hS, hH, hM, hE, hR, hp, hf⟩ := id hI
  obtain ⟨s1, s2, s3, s4, s5⟩ := id hS
  subst s1
  subst hL
  have e9 : g2_row ((9 : Int32)).toNatClampNeg = g1_strip_folded := s3.symm
  have e10 : g2_row ((10 : Int32)).toNatClampNeg = g1_strip_stiff := s4.symm
  obtain ⟨sv, ⟨F, hF, eF⟩, ⟨T, hTT, eT⟩⟩ := id s5
  subst eF; subst eT
  have hpw := pw hn
  obtain ⟨k, s, k1, k2, k3, k4, k5, k6⟩ := id hH
  subst k3; subst k4; subst k5
  unfold wp_X7_turned
  refine ⟨fun c => ?_, fun c => ?_⟩
  · have h1 : 1 ≤ n := by
      rcases Nat.eq_zero_or_pos n with q | q
      · exact absurd (by rw [q]; rfl) c
      · exact q
    refine p_remember k2 k1 (fun l2 hl2 => ?_)
    refine p_turnAbout hn h1 (by omega) (by omega) (fun l3 hl3 => ?_)
    unfold wp_X8_turned
    refine ⟨fun _ => ?_, fun q => absurd q c⟩
    refine p_keepPast k1 (fun r2 g1 g2 g3 g4 => ?_)
    rintro y ey
    have fy : y = nI (n - 1) := by rw [ey]; exact pk_sub (a := n) (b := 1) h1
    subst fy
    refine p_turn8 hn h1 (by omega) (by omega) (F := F) (T := T) ((g1 9 (by omega)).trans e9) ((g1 10 (by omega)).trans e10) (fun r3 f1 f2 f3 f4 => ?_)
    have hS3 : SR n (nI n) l3 (nI (rv F (n - 1))) (nI (rv T (n - 1))) r3 0 := by
      refine ⟨rfl, fun j hj => ?_, f2.symm, f3.symm, fun j hj => ?_, ⟨_, rv_lt F (n - 1), rfl⟩, ⟨_, rv_lt T (n - 1), rfl⟩⟩
      · rw [Nat.zero_add, hl3 j hj, f1 j hj, g1 _ (by omega)]
        have := s2 (n - 1 - j) (by omega)
        rw [Nat.zero_add] at this
        exact this
      · rw [hl3 j hj]; exact sv _ (by omega)
    exact ⟨rfl, n, hn, rfl, hT, hS3, (RHist.push hn k2 k1 k6 hS hl2 g3 g4).keepRow hn (fun i a b => f4 i a), hM.keepRow hn (fun i a b => (f4 i (by omega)).trans (g2 i a)), hE, hR, hp, hf⟩
  · unfold wp_X8_turned
    exact ⟨fun q => absurd c q, fun _ => ⟨rfl, hI⟩⟩
