set_option maxHeartbeats 2000000 in
theorem st_measures : Step_measures Inv := by
  intro g1_text_size g1_text_place g1_text_items g1_text_letters g2_links g2_undos g2_length g2_seenMany g2_trace g2_at g2_behind g2_number g2_readLinks g2_readFolded g2_readStiff g2_wayMany g2_text g1_told_links g1_told_folded g1_told_stiff g1_told_lengths g1_strip_links g1_strip_folded g1_strip_stiff g1_strip_lengths g1_history_slot g1_history_size g1_sightings_size g1_kept g2_readLong g2_row g2_isKept g1_lay_links g1_lay_low g1_lay_high g1_lay_places g2_marks g1_folds_measured g1_folds_lay_links g1_folds_lay_low g1_folds_lay_high g1_folds_lay_places g2_isMeasured g1_history_steps_E_links g1_history_steps_E_folded g1_history_steps_E_stiff g1_history_steps_E_lengths g1_sightings_seenFolds g1_sightings_seenSpans g2_seenFold g2_seenSpan g1_sightings_lay_links g1_sightings_lay_low g1_sightings_lay_high g1_sightings_lay_places g1_sightings_isWay g2_waysAre g1_sightings_tally g2_haveSpan g1_rater_traced g1_images_E_links g1_images_E_folded g1_images_E_stiff g1_images_E_lengths x1 hI
  obtain ⟨n, hn, hL, hT, hS, hH, hM, hE, hR, hp, hf⟩ := id hI
  obtain ⟨s1, s2, s3, s4, s5⟩ := id hS
  subst s1
  subst hL
  have e9 : g2_row ((9 : Int32)).toNatClampNeg = g1_strip_folded := s3.symm
  have e10 : g2_row ((10 : Int32)).toNatClampNeg = g1_strip_stiff := s4.symm
  obtain ⟨sv, ⟨F, hF, eF⟩, ⟨T, hTT, eT⟩⟩ := id s5
  subst eF; subst eT
  have hpw := pw hn
  have t180 : (180 : Int32).toInt = 180 := rfl
  have hd7 := SR.D7 hn hS
  have hd8 := SR.D8 hn hS
  unfold wp_X7_measures
  refine p_in7 (fun a b => bn1 ?_) (fun c => bn0 ?_)
  · rw [t_1] at a
    rw [t180] at b
    obtain ⟨N, hN, rfl⟩ := ix (x := x1) (N := 181) (by omega) (by omega)
    rw [t_nI (by omega)] at a b
    unfold wp_X0_canMeasure
    refine p_meas7 hn hTT hf hd7 (fun m1 aa bb cc pl h0 h => ?_)
    have hcl : (nI N).toNatClampNeg = N := nI_clamp (by omega)
    refine ⟨fun q => absurd q (nI_nlt (a := N) (b := 1) (by omega) (by omega)), fun _ => ⟨fun q => absurd q (nI_nlt (a := 180) (b := N) (by omega) (by omega)), fun _ => ⟨vp_in_nI (by omega) (by omega), fun q => be0 ?_, fun q => be1 ?_⟩⟩⟩
    all_goals
      rw [hcl] at q
      unfold wp_X8_measures
      refine p_in8 (fun _ _ => bn1 ?_) (fun c => absurd c (by rw [t_1, t180, t_nI (by omega)]; omega))
      refine p_meas8 hn hTT e9 e10 hd8 (fun m2 ms h2 => ⟨vp_in_nI (by omega) (by omega), ?_⟩)
      rw [hcl]
    · exact ⟨fun _ => ⟨rfl, n, hn, rfl, hT, hS, hH, hM, hE, hR, hp, h0⟩, fun z => absurd ((h2 N (by omega) (by omega)).mpr ((h N (by omega) (by omega)).mp q)) z⟩
    · exact ⟨fun z => absurd ((h N (by omega) (by omega)).mpr ((h2 N (by omega) (by omega)).mp z)) q, fun _ => ⟨rfl, n, hn, rfl, hT, hS, hH, hM, hE, hR, hp, h0⟩⟩
  · unfold wp_X8_measures
    exact p_in8 (fun a b => absurd c (by omega)) (fun _ => bn0 ⟨rfl, hI⟩)
