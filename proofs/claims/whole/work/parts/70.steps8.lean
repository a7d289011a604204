set_option maxHeartbeats 2000000 in
theorem st_odds : Step_odds Inv := by
  intro g1_text_size g1_text_place g1_text_items g1_text_letters g2_links g2_undos g2_length g2_seenMany g2_trace g2_at g2_behind g2_number g2_readLinks g2_readFolded g2_readStiff g2_wayMany g2_text g1_told_links g1_told_folded g1_told_stiff g1_told_lengths g1_strip_links g1_strip_folded g1_strip_stiff g1_strip_lengths g1_history_slot g1_history_size g1_sightings_size g1_kept g2_readLong g2_row g2_isKept g1_lay_links g1_lay_low g1_lay_high g1_lay_places g2_marks g1_folds_measured g1_folds_lay_links g1_folds_lay_low g1_folds_lay_high g1_folds_lay_places g2_isMeasured g1_history_steps_E_links g1_history_steps_E_folded g1_history_steps_E_stiff g1_history_steps_E_lengths g1_sightings_seenFolds g1_sightings_seenSpans g2_seenFold g2_seenSpan g1_sightings_lay_links g1_sightings_lay_low g1_sightings_lay_high g1_sightings_lay_places g1_sightings_isWay g2_waysAre g1_sightings_tally g2_haveSpan g1_rater_traced g1_images_E_links g1_images_E_folded g1_images_E_stiff g1_images_E_lengths x1 x2 x3 hI
  obtain ⟨n, hn, hL, hT, hS, hH, hM, hE, hR, hp, hf⟩ := id hI
  obtain ⟨s1, s2, s3, s4, s5⟩ := id hS
  subst s1
  subst hL
  have e9 : g2_row ((9 : Int32)).toNatClampNeg = g1_strip_folded := s3.symm
  have e10 : g2_row ((10 : Int32)).toNatClampNeg = g1_strip_stiff := s4.symm
  obtain ⟨sv, ⟨F, hF, eF⟩, ⟨T, hTT, eT⟩⟩ := id s5
  subst eF; subst eT
  have hpw := pw hn
  have t180 : (180 : Int32).toInt = 180 := rfl
  have t10 : (10 : Int32).toInt = 10 := rfl
  have hd7 := SR.D7 hn hS
  have hd8 := SR.D8 hn hS
  unfold wp_X7_odds
  refine p_in7 (fun a b => be1 ?_) (fun c => be0 ?_)
  · refine p_in7 (fun a2 b2 => be1 ?_) (fun c => be0 ?_)
    · refine p_in7 (fun a3 b3 => bn1 ?_) (fun c => bn0 ?_)
      · have A := a
        have B := b
        have A2 := a2
        have B2 := b2
        have A3 := a3
        have B3 := b3
        rw [t_0] at a
        rw [t10] at b
        rw [t_1] at a2
        rw [t180] at b2
        obtain ⟨x, hx, ex⟩ := ix (x := x1) (N := 11) a (by push_cast; omega)
        obtain ⟨N, hN, eN⟩ := ix (x := x2) (N := 181) (by omega) (by omega)
        have eNi : x2 = iI (N : Int) := by rw [eN, nI_i]
        have hNb : (0 : Int) ≤ (N : Int) ∧ (N : Int) ≤ 200 := by omega
        have hall := SM_all (x := x) (F := F) (T := T) (by omega) (n - 1)
        have hle := gA_tK (n := n) (F := F) (T := T) (x := x) hTT (d := dO g1_strip_lengths) (N := (N : Int))
        have hfr := pc_fr (T := T) (n - 1)
        have h10 : 10 ^ fr T (n - 1) ≤ 10 ^ 8 := Nat.pow_le_pow_right (by omega) (by omega)
        have h1 : 1 ≤ 10 ^ fr T (n - 1) := Nat.pow_pos (by omega)
        rw [hall] at hle
        have hGp : 1 ≤ Nat.gcd (SM (gA x F T (dO g1_strip_lengths) n (N : Int)) (2 ^ (n - 1))) (10 ^ fr T (n - 1)) := Nat.gcd_pos_of_pos_right _ h1
        have hGl : Nat.gcd (SM (gA x F T (dO g1_strip_lengths) n (N : Int)) (2 ^ (n - 1))) (10 ^ fr T (n - 1)) ≤ 10 ^ fr T (n - 1) := Nat.gcd_le_right _ h1
        have m8 : ∀ ms0 Q, (¬ x3 = 0 → ∀ ms, Q (nI (10 ^ fr T (n - 1) / Nat.gcd (SM (gA x F T (dO g1_strip_lengths) n (N : Int)) (2 ^ (n - 1))) (10 ^ fr T (n - 1)))) ms) → (x3 = 0 → ∀ ms, Q (nI (SM (gA x F T (dO g1_strip_lengths) n (N : Int)) (2 ^ (n - 1)) / Nat.gcd (SM (gA x F T (dO g1_strip_lengths) n (N : Int)) (2 ^ (n - 1))) (10 ^ fr T (n - 1)))) ms) → wp_X8_odds (nI n) g2_row ms0 x1 x2 x3 Q := by
          intro ms0 Q q1 q0
          unfold wp_X8_odds
          refine p_in8 (fun _ _ => be1 (p_in8 (fun _ _ => be1 (p_in8 (fun _ _ => bn1 ?_) (fun c => absurd c (by omega)))) (fun c => absurd c (by omega)))) (fun c => absurd c (by omega))
          rw [ex, eNi]
          refine p_odds8 hn (by omega) hTT e9 e10 hd8 hNb (by omega) (by rw [hall]; omega) hGp (by omega) (by rw [hall]) (fun q => ?_) (fun q => ?_)
          · rw [hall]; exact q1 q
          · exact q0 q
        rw [ex, eNi]
        refine p_weight hn (by omega) hTT hd7 hNb (fun aa bb cc pl h0 => ?_)
        refine p_free hn hTT ?_
        rw [show (10 : Int32) = nI 10 from rfl]
        refine p_power (by omega) ?_
        unfold wp_X7_commonDivisor
        refine ⟨_, p_gcd7 hGp ?_ 27 _ _ 0 (by omega) (by omega) (by omega) (by omega) rfl⟩
        rw [pk_div (by omega) hGp (by omega), pk_div (by omega) hGp (by omega), ← ex, ← eNi]
        refine ⟨fun q => ⟨nI_ne0 hGp (by omega), m8 _ _ (fun _ ms => ⟨rfl, n, hn, rfl, hT, hS, hH, hM, hE, hR, hp, h0.trans hf⟩) (fun z => absurd z q)⟩, fun q => ⟨nI_ne0 hGp (by omega), m8 _ _ (fun z => absurd q z) (fun _ ms => ⟨rfl, n, hn, rfl, hT, hS, hH, hM, hE, hR, hp, h0.trans hf⟩)⟩⟩
      · unfold wp_X8_odds
        exact p_in8 (fun _ _ => be1 (p_in8 (fun _ _ => be1 (p_in8 (fun a b => absurd c (by omega)) (fun _ => bn0 ⟨rfl, hI⟩))) (fun _ => be0 ⟨rfl, hI⟩))) (fun _ => be0 ⟨rfl, hI⟩)
    · unfold wp_X8_odds
      exact p_in8 (fun _ _ => be1 (p_in8 (fun a b => absurd c (by omega)) (fun _ => be0 ⟨rfl, hI⟩))) (fun _ => be0 ⟨rfl, hI⟩)
  · unfold wp_X8_odds
    exact p_in8 (fun a b => absurd c (by omega)) (fun _ => be0 ⟨rfl, hI⟩)
