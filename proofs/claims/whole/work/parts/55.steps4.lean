set_option maxHeartbeats 2000000 in
theorem st_box : Step_box Inv := by
  intro g1_text_size g1_text_place g1_text_items g1_text_letters g2_links g2_undos g2_length g2_seenMany g2_trace g2_at g2_behind g2_number g2_readLinks g2_readFolded g2_readStiff g2_wayMany g2_text g1_told_links g1_told_folded g1_told_stiff g1_told_lengths g1_strip_links g1_strip_folded g1_strip_stiff g1_strip_lengths g1_history_slot g1_history_size g1_sightings_size g1_kept g2_readLong g2_row g2_isKept g1_lay_links g1_lay_low g1_lay_high g1_lay_places g2_marks g1_folds_measured g1_folds_lay_links g1_folds_lay_low g1_folds_lay_high g1_folds_lay_places g2_isMeasured g1_history_steps_E_links g1_history_steps_E_folded g1_history_steps_E_stiff g1_history_steps_E_lengths g1_sightings_seenFolds g1_sightings_seenSpans g2_seenFold g2_seenSpan g1_sightings_lay_links g1_sightings_lay_low g1_sightings_lay_high g1_sightings_lay_places g1_sightings_isWay g2_waysAre g1_sightings_tally g2_haveSpan g1_rater_traced g1_images_E_links g1_images_E_folded g1_images_E_stiff g1_images_E_lengths x1 x2 hI
  obtain ⟨n, hn, hL, hT, hS, hH, hM, hE, hR, hp, hf⟩ := id hI
  obtain ⟨s1, s2, s3, s4, s5⟩ := id hS
  subst s1
  subst hL
  have e9 : g2_row ((9 : Int32)).toNatClampNeg = g1_strip_folded := s3.symm
  have e10 : g2_row ((10 : Int32)).toNatClampNeg = g1_strip_stiff := s4.symm
  obtain ⟨sv, ⟨F, hF, eF⟩, ⟨T, hTT, eT⟩⟩ := id s5
  subst eF; subst eT
  have hpw := pw hn
  have t180 : (180 : Int32).toInt = 180 := rfl
  have hd7 := SR.D7 hn hS
  have hd8 := SR.D8 hn hS
  unfold wp_X7_box
  refine p_in7 (fun a b => bn1 ?_) (fun c => bn0 ?_)
  · rw [t_1] at a
    rw [t180] at b
    obtain ⟨N, n1, n2, rfl⟩ := iI_of x1
    rw [iI_t n1 n2] at a b
    have inB : ∀ {Q : Int32 → Prop}, Q 1 → wp_X8_in (iI N) 1 180 Q := fun h => p_in8 (fun _ _ => h) (fun c => absurd c (by rw [t_1, t180, iI_t n1 n2]; omega))
    have hb1 : (bst (spB F T (dO g1_strip_lengths) n N) (bnF F) 9 (2 ^ (n - 1))).1 = (bst (spB F T (dO g1_strip_lengths) n N) (bnF F) 99999 (2 ^ (n - 1))).1 := bst_1 (fun f hf h => ⟨bnF_b8 hn hF hf, by have := bnF_b8 hn hF hf; omega⟩)
    refine ⟨fun c => ?_, fun c => ?_, fun c => ?_, fun c0 c1 c2 => ?_⟩
    · subst c
      refine p_many7 hn hTT hd7 (by omega) (fun a b c pl h0 => ?_)
      unfold wp_X8_box
      refine inB (be1 (p_in8 (fun _ _ => bn1 ?_) (fun q => absurd q (by decide))))
      exact p_box8 hn hF hTT e9 e10 hd8 (by omega) (fun ms => ⟨fun _ => ⟨rfl, n, hn, rfl, hT, hS, hH, hM, hE, hR, hp, h0.trans hf⟩, fun q => absurd q (by decide), fun q => absurd rfl q⟩)
    · subst c
      refine p_near7 hn hF hTT hf hd7 (Or.inl ⟨rfl, by omega, by omega, rfl⟩) (fun a b c pl h0 => ?_)
      unfold wp_X8_box
      refine inB (be1 (p_in8 (fun _ _ => bn1 ?_) (fun q => absurd q (by decide))))
      exact p_box8 hn hF hTT e9 e10 hd8 (by omega) (fun ms => ⟨fun q => absurd q (by decide), fun _ => ⟨by rw [hb1], n, hn, rfl, hT, hS, hH, hM, hE, hR, hp, h0⟩, fun _ q => absurd rfl q⟩)
    · subst c
      refine p_near7 hn hF hTT hf hd7 (Or.inl ⟨rfl, by omega, by omega, rfl⟩) (fun a b c pl h0 => ?_)
      have fin : ∀ r : Int32, ((bst (spB F T (dO g1_strip_lengths) n N) (bnF F) 99999 (2 ^ (n - 1))).1 = -9 → r = iI (bst (spB F T (dO g1_strip_lengths) n N) (bnF F) 99999 (2 ^ (n - 1))).1) → (¬ (bst (spB F T (dO g1_strip_lengths) n N) (bnF F) 99999 (2 ^ (n - 1))).1 = -9 → r = iI (bst (spB F T (dO g1_strip_lengths) n N) (bnF F) 99999 (2 ^ (n - 1))).2) → wp_X8_box (nI n) g2_row g2_marks (iI N) (2 : Int32) (fun b9 n0 => r = b9 ∧ Inv g1_text_size g1_text_place g1_text_items g1_text_letters (nI n) g2_undos g2_length g2_seenMany g2_trace g2_at g2_behind g2_number g2_readLinks g2_readFolded g2_readStiff g2_wayMany g2_text g1_told_links g1_told_folded g1_told_stiff g1_told_lengths (nI n) (nI F) (nI T) g1_strip_lengths g1_history_slot g1_history_size g1_sightings_size g1_kept g2_readLong g2_row g2_isKept g1_lay_links g1_lay_low g1_lay_high g1_lay_places n0 g1_folds_measured a b c pl g2_isMeasured g1_history_steps_E_links g1_history_steps_E_folded g1_history_steps_E_stiff g1_history_steps_E_lengths g1_sightings_seenFolds g1_sightings_seenSpans g2_seenFold g2_seenSpan g1_sightings_lay_links g1_sightings_lay_low g1_sightings_lay_high g1_sightings_lay_places g1_sightings_isWay g2_waysAre g1_sightings_tally g2_haveSpan g1_rater_traced g1_images_E_links g1_images_E_folded g1_images_E_stiff g1_images_E_lengths) := by
        intro r h1 h2
        unfold wp_X8_box
        refine inB (be1 (p_in8 (fun _ _ => bn1 ?_) (fun q => absurd q (by decide))))
        exact p_box8 hn hF hTT e9 e10 hd8 (by omega) (fun ms => ⟨fun q => absurd q (by decide), fun q => absurd q (by decide), fun _ _ => ⟨fun z => ⟨h1 z, n, hn, rfl, hT, hS, hH, hM, hE, hR, hp, h0⟩, fun z => ⟨h2 z, n, hn, rfl, hT, hS, hH, hM, hE, hR, hp, h0⟩⟩⟩)
      unfold wp_X7_bentBy
      have b9 := bst_9 (ok := spB F T (dO g1_strip_lengths) n N) (key := bnF F) (a := 9) (2 ^ (n - 1))
      have bb := bst_b (ok := spB F T (dO g1_strip_lengths) n N) (key := bnF F) (a := 9) (L := 0) (by omega) (2 ^ (n - 1)) (fun g _ => (bnF_b F g).1)
      have hb := bst_eq (ok := spB F T (dO g1_strip_lengths) n N) (key := bnF F) (a := 9) (b := 99999) (2 ^ (n - 1)) (fun f hf h => ⟨bnF_b8 hn hF hf, by have := bnF_b8 hn hF hf; omega⟩)
      rw [show (-9 : Int32) = iI (-9) from rfl, iI_eq (by omega) (by omega) (by omega) (by omega)]
      refine ⟨fun q => ?_, fun q => ?_⟩
      · obtain ⟨f, hfl, ef⟩ := bst_key (ok := spB F T (dO g1_strip_lengths) n N) (key := bnF F) (a := 9) (2 ^ (n - 1)) (b9.resolve_right q)
        rw [ef]
        show wp_J6_bitCount_0f7a4 (iI (f : Int) ^^^ _) _
        rw [← nI_i, nx_xor]
        refine p_bitCount (xor_lt hn hfl hF) (fin _ ?_ ?_)
        · intro z
          exact absurd (hb1.trans z) q
        · intro z
          rcases hb with ⟨hb, -⟩ | ⟨hb, -⟩
          · rw [← hb, ef]; exact nI_i _
          · exact absurd (by rw [hb]) q
      · refine fin _ (fun z => ?_) (fun z => absurd (hb1.symm.trans q) z)
        rw [z]
    · unfold wp_X8_box
      refine inB (be1 (p_in8 (fun a b => ?_) (fun _ => bn0 ⟨rfl, hI⟩)))
      rw [t_0] at a
      rw [show (2 : Int32).toInt = 2 from rfl] at b
      obtain ⟨i, hi, rfl⟩ := ix (x := x2) (N := 3) a (by push_cast; omega)
      have : i = 0 ∨ i = 1 ∨ i = 2 := by omega
      rcases this with rfl | rfl | rfl
      · exact absurd rfl c0
      · exact absurd rfl c1
      · exact absurd rfl c2
  · unfold wp_X8_box
    exact p_in8 (fun a b => absurd c (by omega)) (fun _ => be0 ⟨rfl, hI⟩)
set_option maxHeartbeats 2000000 in
theorem st_end : Step_end Inv := by
  intro g1_text_size g1_text_place g1_text_items g1_text_letters g2_links g2_undos g2_length g2_seenMany g2_trace g2_at g2_behind g2_number g2_readLinks g2_readFolded g2_readStiff g2_wayMany g2_text g1_told_links g1_told_folded g1_told_stiff g1_told_lengths g1_strip_links g1_strip_folded g1_strip_stiff g1_strip_lengths g1_history_slot g1_history_size g1_sightings_size g1_kept g2_readLong g2_row g2_isKept g1_lay_links g1_lay_low g1_lay_high g1_lay_places g2_marks g1_folds_measured g1_folds_lay_links g1_folds_lay_low g1_folds_lay_high g1_folds_lay_places g2_isMeasured g1_history_steps_E_links g1_history_steps_E_folded g1_history_steps_E_stiff g1_history_steps_E_lengths g1_sightings_seenFolds g1_sightings_seenSpans g2_seenFold g2_seenSpan g1_sightings_lay_links g1_sightings_lay_low g1_sightings_lay_high g1_sightings_lay_places g1_sightings_isWay g2_waysAre g1_sightings_tally g2_haveSpan g1_rater_traced g1_images_E_links g1_images_E_folded g1_images_E_stiff g1_images_E_lengths x1 hI
  obtain ⟨n, hn, hL, hT, hS, hH, hM, hE, hR, hp, hf⟩ := id hI
  obtain ⟨s1, s2, s3, s4, s5⟩ := id hS
  subst s1
  subst hL
  have e9 : g2_row ((9 : Int32)).toNatClampNeg = g1_strip_folded := s3.symm
  have e10 : g2_row ((10 : Int32)).toNatClampNeg = g1_strip_stiff := s4.symm
  obtain ⟨sv, ⟨F, hF, eF⟩, ⟨T, hTT, eT⟩⟩ := id s5
  subst eF; subst eT
  have hpw := pw hn
  have t180 : (180 : Int32).toInt = 180 := rfl
  have tm : (-180 : Int32).toInt = -180 := rfl
  have hd7 := SR.D7 hn hS
  have hd8 := SR.D8 hn hS
  unfold wp_X7_end
  refine p_in7 (fun a b => bn1 ?_) (fun c => bn0 ?_)
  · rw [tm] at a
    rw [t180] at b
    obtain ⟨N, n1, n2, rfl⟩ := iI_of x1
    rw [iI_t n1 n2] at a b
    refine p_near7 hn hF hTT hf hd7 (Or.inr ⟨by decide, by omega, by omega, rfl⟩) (fun a b c pl h0 => ?_)
    unfold wp_X8_end
    refine p_in8 (fun _ _ => bn1 ?_) (fun c => absurd c (by rw [tm, t180, iI_t n1 n2]; omega))
    refine p_end8 hn hF hTT e9 e10 hd8 (by omega) (fun ms => ⟨?_, n, hn, rfl, hT, hS, hH, hM, hE, hR, hp, h0⟩)
    exact congrArg iI (bst_1 (fun f hf h => ⟨bnF_b8 hn hF hf, by have := bnF_b8 hn hF hf; omega⟩))
  · unfold wp_X8_end
    exact p_in8 (fun a b => absurd c (by omega)) (fun _ => bn0 ⟨rfl, hI⟩)
