set_option maxHeartbeats 2000000 in
theorem st_ways : Step_ways Inv := by
  intro g1_text_size g1_text_place g1_text_items g1_text_letters g2_links g2_undos g2_length g2_seenMany g2_trace g2_at g2_behind g2_number g2_readLinks g2_readFolded g2_readStiff g2_wayMany g2_text g1_told_links g1_told_folded g1_told_stiff g1_told_lengths g1_strip_links g1_strip_folded g1_strip_stiff g1_strip_lengths g1_history_slot g1_history_size g1_sightings_size g1_kept g2_readLong g2_row g2_isKept g1_lay_links g1_lay_low g1_lay_high g1_lay_places g2_marks g1_folds_measured g1_folds_lay_links g1_folds_lay_low g1_folds_lay_high g1_folds_lay_places g2_isMeasured g1_history_steps_E_links g1_history_steps_E_folded g1_history_steps_E_stiff g1_history_steps_E_lengths g1_sightings_seenFolds g1_sightings_seenSpans g2_seenFold g2_seenSpan g1_sightings_lay_links g1_sightings_lay_low g1_sightings_lay_high g1_sightings_lay_places g1_sightings_isWay g2_waysAre g1_sightings_tally g2_haveSpan g1_rater_traced g1_images_E_links g1_images_E_folded g1_images_E_stiff g1_images_E_lengths x1 hI
  obtain ⟨n, hn, hL, hT, hS, hH, hM, hE, hR, hp, hf⟩ := id hI
  obtain ⟨s1, s2, s3, s4, s5⟩ := id hS
  subst s1
  subst hL
  have e9 : g2_row ((9 : Int32)).toNatClampNeg = g1_strip_folded := s3.symm
  have e10 : g2_row ((10 : Int32)).toNatClampNeg = g1_strip_stiff := s4.symm
  obtain ⟨m, hm, h3, h4, he⟩ := id hE
  subst h3
  subst h4
  have er : ∀ j, j < n → g2_row j = g1_strip_lengths j := by
    intro j hj
    have := s2 j hj
    rw [Nat.zero_add] at this
    exact this.symm
  unfold wp_X7_ways
  refine ⟨fun c => ?_, fun c => ?_, fun c0 c1 => ?_⟩
  · subst c
    refine p_findWays hn hm s5 hR.2 (fun a b c pl iw hi hw => ?_)
    unfold wp_X8_ways
    refine p_in8 (fun _ _ => bn1 ?_) (fun q => absurd q (by rw [t_0, t_1]; omega))
    exact p_layWays hn hm s5 er he (fun ms wa hwa => ⟨fun q => absurd rfl q, fun _ => ⟨rfl, n, hn, rfl, hT, hS, hH, hM, hE, ⟨hR.1, hw⟩, hp, hf⟩⟩)
  · subst c
    unfold wp_X4_firstWay
    refine p_findWays hn hm s5 hR.2 (fun a b c pl iw hi hw => p_first hi (fun hc => ?_) (fun j hj hJ hc => ?_))
    · unfold wp_X8_ways
      refine p_in8 (fun _ _ => bn1 ?_) (fun q => absurd q (by rw [t_0, t_1]; omega))
      refine p_layWays hn hm s5 er he (fun ms wa hwa => ⟨fun _ => ⟨fun q => absurd (by rw [hc]; rfl) q, fun _ => ⟨rfl, n, hn, rfl, hT, hS, hH, hM, hE, ⟨hR.1, hw⟩, hp, hf⟩⟩, fun q => absurd q (by decide)⟩)
    · unfold wp_X8_ways
      refine p_in8 (fun _ _ => bn1 ?_) (fun q => absurd q (by rw [t_0, t_1]; omega))
      have c1 := cnt_le (ok := wJ n g1_strip_lengths g1_sightings_seenFolds g1_sightings_seenSpans m) (a := j + 1) (90 - (j + 1))
      rw [show j + 1 + (90 - (j + 1)) = 90 by omega, cnt_y hJ] at c1
      have c2 := cntF_le (wJ n g1_strip_lengths g1_sightings_seenFolds g1_sightings_seenSpans m) 90
      refine p_layWays hn hm s5 er he (fun ms wa hwa => ⟨fun _ => ⟨fun _ => ⟨by unfold vp_in; decide, ?_, n, hn, rfl, hT, hS, hH, hM, hE, ⟨hR.1, hw⟩, hp, hf⟩, fun q => absurd q (nI_ne0 (by omega) (by omega))⟩, fun q => absurd q (by decide)⟩)
      have := hwa j hj hJ
      rw [hc] at this
      exact this.symm
  · unfold wp_X8_ways
    refine p_in8 (fun a b => ?_) (fun _ => bn0 ⟨rfl, hI⟩)
    rw [t_0] at a
    rw [t_1] at b
    obtain ⟨i, hi, rfl⟩ := ix (x := x1) (N := 2) a (by push_cast; omega)
    have : i = 0 ∨ i = 1 := by omega
    rcases this with rfl | rfl
    · exact absurd rfl c0
    · exact absurd rfl c1
set_option maxHeartbeats 2000000 in
theorem st_next : Step_next Inv := by
  intro g1_text_size g1_text_place g1_text_items g1_text_letters g2_links g2_undos g2_length g2_seenMany g2_trace g2_at g2_behind g2_number g2_readLinks g2_readFolded g2_readStiff g2_wayMany g2_text g1_told_links g1_told_folded g1_told_stiff g1_told_lengths g1_strip_links g1_strip_folded g1_strip_stiff g1_strip_lengths g1_history_slot g1_history_size g1_sightings_size g1_kept g2_readLong g2_row g2_isKept g1_lay_links g1_lay_low g1_lay_high g1_lay_places g2_marks g1_folds_measured g1_folds_lay_links g1_folds_lay_low g1_folds_lay_high g1_folds_lay_places g2_isMeasured g1_history_steps_E_links g1_history_steps_E_folded g1_history_steps_E_stiff g1_history_steps_E_lengths g1_sightings_seenFolds g1_sightings_seenSpans g2_seenFold g2_seenSpan g1_sightings_lay_links g1_sightings_lay_low g1_sightings_lay_high g1_sightings_lay_places g1_sightings_isWay g2_waysAre g1_sightings_tally g2_haveSpan g1_rater_traced g1_images_E_links g1_images_E_folded g1_images_E_stiff g1_images_E_lengths  hI
  obtain ⟨n, hn, hL, hT, hS, hH, hM, hE, hR, hp, hf⟩ := id hI
  obtain ⟨s1, s2, s3, s4, s5⟩ := id hS
  subst s1
  subst hL
  have e9 : g2_row ((9 : Int32)).toNatClampNeg = g1_strip_folded := s3.symm
  have e10 : g2_row ((10 : Int32)).toNatClampNeg = g1_strip_stiff := s4.symm
  obtain ⟨m, hm, h3, h4, he⟩ := id hE
  subst h3
  subst h4
  have er : ∀ j, j < n → g2_row j = g1_strip_lengths j := by
    intro j hj
    have := s2 j hj
    rw [Nat.zero_add] at this
    exact this.symm
  obtain ⟨sv, ⟨F, hF, eF⟩, ⟨T, hTT, eT⟩⟩ := id s5
  subst eF; subst eT
  have hpw := pw hn
  have c90 := cntF_le (wJ n g1_strip_lengths g1_sightings_seenFolds g1_sightings_seenSpans m) 90
  unfold wp_X7_next
  refine p_bestTry hn hm hTT s5 hR.2 (fun a b c pl iw ta q hw => ?_) (fun a b c pl iw ta q hw => ?_)
  · refine p_next8 hn hm hTT s5 er he e9 e10 (fun _ M ms wa hs => ⟨?_, n, hn, rfl, hT, hS, hH, hM, hE, ⟨hR.1, hw⟩, hp, hf⟩) (fun q2 => absurd q2 (by omega))
    rw [bst_1 (b := 99999) (fun f _ _ => ?_)]
    have := alk_b (n := n) (m := m) (f := f) (ln := g1_strip_lengths) (fs := g1_sightings_seenFolds) (ss := g1_sightings_seenSpans)
    omega
  · exact p_next8 hn hm hTT s5 er he e9 e10 (fun q2 => absurd q2 (by omega)) (fun _ M ms wa hs => ⟨rfl, n, hn, rfl, hT, hS, hH, hM, hE, ⟨hR.1, hw⟩, hp, hf⟩)
