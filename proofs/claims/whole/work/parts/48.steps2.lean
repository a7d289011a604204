set_option maxHeartbeats 2000000 in
theorem st_bends : Step_bends Inv := by
  intro g1_text_size g1_text_place g1_text_items g1_text_letters g2_links g2_undos g2_length g2_seenMany g2_trace g2_at g2_behind g2_number g2_readLinks g2_readFolded g2_readStiff g2_wayMany g2_text g1_told_links g1_told_folded g1_told_stiff g1_told_lengths g1_strip_links g1_strip_folded g1_strip_stiff g1_strip_lengths g1_history_slot g1_history_size g1_sightings_size g1_kept g2_readLong g2_row g2_isKept g1_lay_links g1_lay_low g1_lay_high g1_lay_places g2_marks g1_folds_measured g1_folds_lay_links g1_folds_lay_low g1_folds_lay_high g1_folds_lay_places g2_isMeasured g1_history_steps_E_links g1_history_steps_E_folded g1_history_steps_E_stiff g1_history_steps_E_lengths g1_sightings_seenFolds g1_sightings_seenSpans g2_seenFold g2_seenSpan g1_sightings_lay_links g1_sightings_lay_low g1_sightings_lay_high g1_sightings_lay_places g1_sightings_isWay g2_waysAre g1_sightings_tally g2_haveSpan g1_rater_traced g1_images_E_links g1_images_E_folded g1_images_E_stiff g1_images_E_lengths x1 hI
  obtain ⟨n, hn, hL, hT, hS, hH, hM, hE, hR, hp, hf⟩ := id hI
  obtain ⟨s1, s2, s3, s4, s5⟩ := id hS
  subst s1
  subst hL
  have e9 : g2_row ((9 : Int32)).toNatClampNeg = g1_strip_folded := s3.symm
  have e10 : g2_row ((10 : Int32)).toNatClampNeg = g1_strip_stiff := s4.symm
  obtain ⟨sv, ⟨F, hF, eF⟩, ⟨T, hTT, eT⟩⟩ := id s5
  subst eF; subst eT
  have hpw := pw hn
  obtain ⟨k, s, k1, k2, k3, k4, k5, k6⟩ := id hH
  subst k3; subst k4; subst k5
  unfold wp_X7_bends
  refine p_joint7 hn (fun j hj ej => bn1 ?_) (fun c => bn0 ?_)
  · subst ej
    refine p_has7 (fun hb => be1 ?_) (fun hb => be0 ?_)
    · unfold wp_X8_bends
      refine p_joint8 hn (fun _ _ _ => bn1 ⟨by unfold vp_in; decide, ?_⟩) (fun c => absurd c (by rw [t_nI (by omega)]; omega))
      rw [e10]
      exact p_has8 (fun _ => be1 ⟨rfl, hI⟩) (fun q => absurd (hb.symm.trans q) (by decide))
    · refine p_remember k2 k1 (fun l2 hl2 => ?_)
      unfold wp_X5_bend
      rintro y ey
      have fy : y = nI (F ^^^ 2 ^ j) := by rw [ey, shl1 (by omega), nx_xor]
      subst fy
      have hF2 : F ^^^ 2 ^ j < 2 ^ (n - 1) := Nat.xor_lt_two_pow hF (Nat.pow_lt_pow_right (by omega) (by omega))
      refine p_spanNow7 hn (SR.D7 hn hS) (fun pl h0 h1 => ?_)
      unfold wp_X8_bends
      refine p_joint8 hn (fun _ _ _ => bn1 ⟨by unfold vp_in; decide, ?_⟩) (fun c => absurd c (by rw [t_nI (by omega)]; omega))
      rw [e10]
      refine p_has8 (fun q => absurd (hb.symm.trans q) (by decide)) (fun _ => be0 ?_)
      refine p_keepPast k1 (fun r2 g1 g2 g3 g4 => ⟨by unfold vp_in; decide, ?_⟩)
      have q9 : r2 ((9 : Int32)).toNatClampNeg = nI F := (g1 9 (by omega)).trans e9
      rintro y ey
      have fy : y = nI (F ^^^ 2 ^ j) := by rw [ey, q9, shl1 (by omega), nx_xor]
      subst fy
      refine ⟨by unfold vp_in; decide, by unfold vp_in; decide, ?_⟩
      have u : ∀ i, i ≠ 9 → upd r2 ((9 : Int32)).toNatClampNeg (nI (F ^^^ 2 ^ j)) i = r2 i := fun i hi => if_neg hi
      have u9 : upd r2 ((9 : Int32)).toNatClampNeg (nI (F ^^^ 2 ^ j)) ((9 : Int32)).toNatClampNeg = nI (F ^^^ 2 ^ j) := if_pos rfl
      rw [u9]
      generalize upd r2 ((9 : Int32)).toNatClampNeg (nI (F ^^^ 2 ^ j)) = r3 at u u9 ⊢
      have hS3 : SR n (nI n) g1_strip_lengths (nI (F ^^^ 2 ^ j)) (nI T) r3 0 := ⟨rfl, fun i hi => by rw [u _ (by omega), g1 _ (by omega)]; exact s2 i hi, u9.symm, by rw [u _ (by omega), g1 _ (by omega)]; exact s4, sv, ⟨_, hF2, rfl⟩, ⟨T, hTT, rfl⟩⟩
      exact p_spanBy hn (SR.D8 hn hS3) (fun ms hms => ⟨rfl, n, hn, rfl, hT, hS3, (RHist.push hn k2 k1 k6 hS hl2 g3 g4).keepRow hn (fun i a b => u i (by omega)), hM.keepRow hn (fun i a b => (u i (by omega)).trans (g2 i a)), hE, hR, h0.trans hp, hf⟩)
  · unfold wp_X8_bends
    exact p_joint8 hn (fun j hj ej => absurd c (by rw [ej, t_nI (by omega)]; omega)) (fun _ => bn0 ⟨rfl, hI⟩)
set_option maxHeartbeats 2000000 in
theorem st_files : Step_files Inv := by
  intro g1_text_size g1_text_place g1_text_items g1_text_letters g2_links g2_undos g2_length g2_seenMany g2_trace g2_at g2_behind g2_number g2_readLinks g2_readFolded g2_readStiff g2_wayMany g2_text g1_told_links g1_told_folded g1_told_stiff g1_told_lengths g1_strip_links g1_strip_folded g1_strip_stiff g1_strip_lengths g1_history_slot g1_history_size g1_sightings_size g1_kept g2_readLong g2_row g2_isKept g1_lay_links g1_lay_low g1_lay_high g1_lay_places g2_marks g1_folds_measured g1_folds_lay_links g1_folds_lay_low g1_folds_lay_high g1_folds_lay_places g2_isMeasured g1_history_steps_E_links g1_history_steps_E_folded g1_history_steps_E_stiff g1_history_steps_E_lengths g1_sightings_seenFolds g1_sightings_seenSpans g2_seenFold g2_seenSpan g1_sightings_lay_links g1_sightings_lay_low g1_sightings_lay_high g1_sightings_lay_places g1_sightings_isWay g2_waysAre g1_sightings_tally g2_haveSpan g1_rater_traced g1_images_E_links g1_images_E_folded g1_images_E_stiff g1_images_E_lengths x1 x2 hI
  obtain ⟨n, hn, hL, hT, hS, hH, hM, hE, hR, hp, hf⟩ := id hI
  obtain ⟨s1, s2, s3, s4, s5⟩ := id hS
  subst s1
  subst hL
  have e9 : g2_row ((9 : Int32)).toNatClampNeg = g1_strip_folded := s3.symm
  have e10 : g2_row ((10 : Int32)).toNatClampNeg = g1_strip_stiff := s4.symm
  obtain ⟨k, s, k1, k2, k3, k4, k5, k6⟩ := id hH
  subst k3; subst k4; subst k5
  have t19 : (19 : Int32).toInt = 19 := rfl
  unfold wp_X7_files
  refine p_link7 hn (fun i hi ei => be1 ?_) (fun c => be0 ?_)
  · subst ei
    have hcl : (nI i).toNatClampNeg = i := nI_clamp (by omega)
    have hz : (0 : Int32) + nI i = nI i := Int32.zero_add _
    have hri : g2_row i = g1_strip_lengths i := by have := s2 i hi; rw [Nat.zero_add] at this; exact this.symm
    obtain ⟨v, v1, v2, v3⟩ := s5.1 i hi
    refine p_in7 (fun a b => bn1 ?_) (fun c => bn0 ?_)
    · rw [t_1] at a
      rw [t19] at b
      obtain ⟨w, hw, rfl⟩ := ix (x := x2) (N := 20) (by omega) (by push_cast; omega)
      rw [t_nI (by omega)] at a
      have esub : (nI v - nI w).toInt = (v : Int) - w := pk_sub_toInt (by omega) (by omega)
      unfold wp_X5_canFile wp_X5_lengthOf
      refine p_link7 hn (fun _ _ _ => be1 ⟨vp_in_nI (by omega) (by omega), ?_⟩) (fun c => absurd c (by rw [t_nI (by omega)]; omega))
      rw [hcl, v3]
      refine ⟨fun c => bn0 ?_, fun c => bn1 ?_⟩
      · unfold wp_X8_files
        refine p_link8 hn (fun _ _ _ => be1 ?_) (fun c => absurd c (by rw [t_nI (by omega)]; omega))
        refine p_in8 (fun _ _ => bn1 ⟨by rw [Int32.zero_add]; exact vp_in_nI (by omega) (by omega), ?_⟩) (fun c => absurd c (by rw [t_1, t19, t_nI (by omega)]; omega))
        rw [hz, hcl, hri, v3]
        refine ⟨fun d => absurd d ?_, fun _ => ⟨rfl, hI⟩⟩
        rw [Int32.lt_iff_toInt_lt] at c
        rw [Int32.le_iff_toInt_le]
        omega
      · have hvw : w < v := by
          rw [Int32.lt_iff_toInt_lt, esub, t_1] at c
          omega
        refine p_remember k2 k1 (fun l2 hl2 => ?_)
        unfold wp_X5_file
        refine p_link7 hn (fun _ _ _ => be1 ⟨vp_in_nI (by omega) (by omega), ?_⟩) (fun c => absurd c (by rw [t_nI (by omega)]; omega))
        rintro y ey
        have fy : y = nI (v - w) := by rw [ey, hcl, v3]; exact pk_sub (by omega)
        subst fy
        refine ⟨vp_in_nI (by omega) (by omega), ?_⟩
        refine p_link7 hn (fun _ _ _ => be1 ⟨vp_in_nI (by omega) (by omega), ?_⟩) (fun c => absurd c (by rw [t_nI (by omega)]; omega))
        unfold wp_X8_files
        refine p_link8 hn (fun _ _ _ => be1 ?_) (fun c => absurd c (by rw [t_nI (by omega)]; omega))
        refine p_in8 (fun _ _ => bn1 ⟨by rw [Int32.zero_add]; exact vp_in_nI (by omega) (by omega), ?_⟩) (fun c => absurd c (by rw [t_1, t19, t_nI (by omega)]; omega))
        rw [hz, hcl, hri, v3]
        refine ⟨fun _ => ?_, fun d => absurd (by rw [Int32.le_iff_toInt_le, esub, t_1]; omega) d⟩
        refine p_keepPast k1 (fun r2 g1 g2 g3 g4 => ⟨vp_in_nI (by omega) (by omega), ?_⟩)
        rintro y ey
        have fy : y = nI (v - w) := by rw [ey, g1 i (by omega), hri, v3]; exact pk_sub (by omega)
        subst fy
        have u : ∀ q, q ≠ i → upd r2 i (nI (v - w)) q = r2 q := fun q hq => if_neg hq
        have ui : upd r2 i (nI (v - w)) i = nI (v - w) := if_pos rfl
        have w1 : ∀ q, q ≠ i → upd g1_strip_lengths i (nI (v - w)) q = g1_strip_lengths q := fun q hq => if_neg hq
        have wi : upd g1_strip_lengths i (nI (v - w)) i = nI (v - w) := if_pos rfl
        rw [ui, wi]
        generalize upd r2 i (nI (v - w)) = r3 at u ui ⊢
        generalize upd g1_strip_lengths i (nI (v - w)) = l3 at w1 wi ⊢
        have hS3 : SR n (nI n) l3 g1_strip_folded g1_strip_stiff r3 0 := by
          refine ⟨rfl, fun q hq => ?_, ?_, ?_, fun q hq => ?_, s5.2⟩
          · rw [Nat.zero_add]
            by_cases z : q = i
            · rw [z, ui, wi]
            · rw [w1 q z, u q z, g1 q (by omega)]
              have := s2 q hq
              rw [Nat.zero_add] at this
              exact this
          · rw [u _ (by omega), g1 _ (by omega)]; exact s3
          · rw [u _ (by omega), g1 _ (by omega)]; exact s4
          · by_cases z : q = i
            · exact ⟨v - w, by omega, by omega, by rw [z, wi]⟩
            · rw [w1 q z]; exact s5.1 q hq
        exact ⟨vp_in_nI (by omega) (by omega), vp_in_nI (by omega) (by omega), rfl, n, hn, rfl, hT, hS3, (RHist.push hn k2 k1 k6 hS hl2 g3 g4).keepRow hn (fun q a b => u q (by omega)), hM.keepRow hn (fun q a b => (u q (by omega)).trans (g2 q a)), hE, hR, hp, hf⟩
    · unfold wp_X8_files
      refine p_link8 hn (fun _ _ _ => be1 ?_) (fun c => absurd c (by rw [t_nI (by omega)]; omega))
      exact p_in8 (fun a b => absurd c (by omega)) (fun _ => bn0 ⟨rfl, hI⟩)
  · unfold wp_X8_files
    exact p_link8 hn (fun j hj ej => absurd c (by rw [ej, t_nI (by omega)]; omega)) (fun _ => be0 ⟨rfl, hI⟩)
set_option maxHeartbeats 2000000 in
theorem st_sees : Step_sees Inv := by
  intro g1_text_size g1_text_place g1_text_items g1_text_letters g2_links g2_undos g2_length g2_seenMany g2_trace g2_at g2_behind g2_number g2_readLinks g2_readFolded g2_readStiff g2_wayMany g2_text g1_told_links g1_told_folded g1_told_stiff g1_told_lengths g1_strip_links g1_strip_folded g1_strip_stiff g1_strip_lengths g1_history_slot g1_history_size g1_sightings_size g1_kept g2_readLong g2_row g2_isKept g1_lay_links g1_lay_low g1_lay_high g1_lay_places g2_marks g1_folds_measured g1_folds_lay_links g1_folds_lay_low g1_folds_lay_high g1_folds_lay_places g2_isMeasured g1_history_steps_E_links g1_history_steps_E_folded g1_history_steps_E_stiff g1_history_steps_E_lengths g1_sightings_seenFolds g1_sightings_seenSpans g2_seenFold g2_seenSpan g1_sightings_lay_links g1_sightings_lay_low g1_sightings_lay_high g1_sightings_lay_places g1_sightings_isWay g2_waysAre g1_sightings_tally g2_haveSpan g1_rater_traced g1_images_E_links g1_images_E_folded g1_images_E_stiff g1_images_E_lengths x1 x2 hI
  obtain ⟨n, hn, hL, hT, hS, hH, hM, hE, hR, hp, hf⟩ := id hI
  obtain ⟨s1, s2, s3, s4, s5⟩ := id hS
  subst s1
  subst hL
  have e9 : g2_row ((9 : Int32)).toNatClampNeg = g1_strip_folded := s3.symm
  have e10 : g2_row ((10 : Int32)).toNatClampNeg = g1_strip_stiff := s4.symm
  obtain ⟨sv, ⟨F, hF, eF⟩, ⟨T, hTT, eT⟩⟩ := id s5
  subst eF; subst eT
  have hpw := pw hn
  obtain ⟨k, j1, j2, j3, j4⟩ := id hE
  subst j2; subst j3
  have t180 : (180 : Int32).toInt = 180 := rfl
  unfold wp_X7_sees
  refine p_isFold7 hn hTT (fun f hfl ef hff => be1 ?_) (fun c => be0 ?_)
  · refine p_in7 (fun a b => bn1 ?_) (fun c => bn0 ?_)
    · unfold wp_X4_isFull
      refine ⟨fun c => be0 ?_, fun c => be1 ?_⟩
      · have hlt : k < 6 := (nI_ltI (b := 6) (by omega) (by omega)).mp c
        unfold wp_X4_note wp_X4_isFull
        refine ⟨fun _ => bn0 ⟨vp_in_nI hlt (by omega), vp_in_nI hlt (by omega), ?_⟩, fun d => absurd c d⟩
        rintro y rfl
        unfold wp_X8_sees
        refine p_isFold8 hn hTT e9 e10 (fun _ _ _ _ => be1 ?_) (fun c => absurd hff (c f hfl ef))
        refine p_in8 (fun _ _ => bn1 ⟨fun _ => ⟨vp_in_nI hlt (by omega), vp_in_nI hlt (by omega), ?_⟩, fun d => absurd ((nI_eq (a := k) (b := 6) (by omega) (by omega)).mp d) (by omega)⟩) (fun c => absurd c (by omega))
        rintro y rfl
        refine ⟨rfl, n, hn, rfl, hT, hS, hH, hM, ⟨k + 1, by omega, nI_1 k, nI_1 k, fun i hi => ?_⟩, hR, hp, hf⟩
        rw [nI_clamp (by omega), upd_eq, upd_eq, upd_eq, upd_eq]
        by_cases z : i = k
        · rw [if_pos z, if_pos z, if_pos z, if_pos z]; exact ⟨rfl, rfl⟩
        · rw [if_neg z, if_neg z, if_neg z, if_neg z]; exact j4 i (by omega)
      · have hge : k = 6 := by
          rcases Nat.lt_or_ge k 6 with q | q
          · exact absurd ((nI_ltI (a := k) (b := 6) (by omega) (by omega)).mpr q) c
          · omega
        subst hge
        unfold wp_X8_sees
        refine p_isFold8 hn hTT e9 e10 (fun _ _ _ _ => be1 ?_) (fun c => absurd hff (c f hfl ef))
        exact p_in8 (fun _ _ => bn1 ⟨fun d => absurd rfl d, fun _ => ⟨rfl, hI⟩⟩) (fun c => absurd c (by omega))
    · unfold wp_X8_sees
      refine p_isFold8 hn hTT e9 e10 (fun _ _ _ _ => be1 ?_) (fun d => absurd hff (d f hfl ef))
      exact p_in8 (fun a b => absurd c (by omega)) (fun _ => bn0 ⟨rfl, hI⟩)
  · unfold wp_X8_sees
    exact p_isFold8 hn hTT e9 e10 (fun f hfl ef hff => absurd hff (c f hfl ef)) (fun _ => be0 ⟨rfl, hI⟩)
