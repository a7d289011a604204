set_option maxHeartbeats 2000000 in
theorem st_mark : Step_mark Inv := by
  intro g1_text_size g1_text_place g1_text_items g1_text_letters g2_links g2_undos g2_length g2_seenMany g2_trace g2_at g2_behind g2_number g2_readLinks g2_readFolded g2_readStiff g2_wayMany g2_text g1_told_links g1_told_folded g1_told_stiff g1_told_lengths g1_strip_links g1_strip_folded g1_strip_stiff g1_strip_lengths g1_history_slot g1_history_size g1_sightings_size g1_kept g2_readLong g2_row g2_isKept g1_lay_links g1_lay_low g1_lay_high g1_lay_places g2_marks g1_folds_measured g1_folds_lay_links g1_folds_lay_low g1_folds_lay_high g1_folds_lay_places g2_isMeasured g1_history_steps_E_links g1_history_steps_E_folded g1_history_steps_E_stiff g1_history_steps_E_lengths g1_sightings_seenFolds g1_sightings_seenSpans g2_seenFold g2_seenSpan g1_sightings_lay_links g1_sightings_lay_low g1_sightings_lay_high g1_sightings_lay_places g1_sightings_isWay g2_waysAre g1_sightings_tally g2_haveSpan g1_rater_traced g1_images_E_links g1_images_E_folded g1_images_E_stiff g1_images_E_lengths x1 hI
  obtain ⟨n, hn, hL, hT, hS, hH, hM, hE, hR, hp, hf⟩ := id hI
  obtain ⟨s1, s2, s3, s4, s5⟩ := id hS
  subst s1
  subst hL
  have e9 : g2_row ((9 : Int32)).toNatClampNeg = g1_strip_folded := s3.symm
  have e10 : g2_row ((10 : Int32)).toNatClampNeg = g1_strip_stiff := s4.symm
  unfold wp_X7_mark
  refine p_in7 (fun a b => bn1 ?_) (fun c => bn0 ?_)
  · refine p_layNow hn (SR.D7 hn hS) (fun pl h0 h1 => ?_)
    rw [t_0] at a
    rw [t_nI (by omega)] at b
    obtain ⟨i, hi, rfl⟩ := ix (x := x1) (N := n + 1) a (by push_cast; omega)
    unfold wp_X2_placeOf
    refine ⟨fun c => absurd c (nI_pos (by omega)), fun _ => ⟨fun c => absurd c (nI_nlt (by omega) (by omega)), fun _ => ⟨vp_in_nI (by omega) (by omega), ?_⟩⟩⟩
    unfold wp_X8_mark
    refine p_in8 (fun _ _ => bn1 ⟨by unfold vp_in; decide, ?_⟩) (fun c => absurd c (by rw [t_0, t_nI (by omega), t_nI (by omega)]; omega))
    rw [e9]
    refine p_lies hn (SR.D8 hn hS) (fun ms hms => ⟨vp_in_nI (by omega) (by omega), ?_, n, hn, rfl, hT, hS, hH, hM, hE, hR, h0.trans hp, hf⟩)
    rw [nI_clamp (by omega), hms i (by omega)]
    cases i with
    | zero => exact h0.trans hp
    | succ i => exact h1 (i + 1) (by omega) (by omega)
  · unfold wp_X8_mark
    exact p_in8 (fun a b => absurd c (by omega)) (fun _ => bn0 ⟨rfl, hI⟩)
set_option maxHeartbeats 2000000 in
theorem st_joint : Step_joint Inv := by
  intro g1_text_size g1_text_place g1_text_items g1_text_letters g2_links g2_undos g2_length g2_seenMany g2_trace g2_at g2_behind g2_number g2_readLinks g2_readFolded g2_readStiff g2_wayMany g2_text g1_told_links g1_told_folded g1_told_stiff g1_told_lengths g1_strip_links g1_strip_folded g1_strip_stiff g1_strip_lengths g1_history_slot g1_history_size g1_sightings_size g1_kept g2_readLong g2_row g2_isKept g1_lay_links g1_lay_low g1_lay_high g1_lay_places g2_marks g1_folds_measured g1_folds_lay_links g1_folds_lay_low g1_folds_lay_high g1_folds_lay_places g2_isMeasured g1_history_steps_E_links g1_history_steps_E_folded g1_history_steps_E_stiff g1_history_steps_E_lengths g1_sightings_seenFolds g1_sightings_seenSpans g2_seenFold g2_seenSpan g1_sightings_lay_links g1_sightings_lay_low g1_sightings_lay_high g1_sightings_lay_places g1_sightings_isWay g2_waysAre g1_sightings_tally g2_haveSpan g1_rater_traced g1_images_E_links g1_images_E_folded g1_images_E_stiff g1_images_E_lengths x1 x2 hI
  obtain ⟨n, hn, hL, hT, hS, hH, hM, hE, hR, hp, hf⟩ := id hI
  obtain ⟨s1, s2, s3, s4, s5⟩ := id hS
  subst s1
  subst hL
  have e9 : g2_row ((9 : Int32)).toNatClampNeg = g1_strip_folded := s3.symm
  have e10 : g2_row ((10 : Int32)).toNatClampNeg = g1_strip_stiff := s4.symm
  unfold wp_X7_joint
  refine p_joint7 hn (fun j hj ej => bn1 ?_) (fun c => bn0 ?_)
  · subst ej
    refine ⟨fun c => ?_, fun c => ?_, fun c0 c1 => ?_⟩
    · subst c
      refine p_has7 (fun hb => be1 ?_) (fun hb => be0 ?_)
      all_goals
        unfold wp_X8_joint
        refine p_joint8 hn (fun j2 hj2 ej2 => be1 ?_) (fun c => absurd c (by rw [t_nI (by omega)]; omega))
        refine p_in8 (fun _ _ => bn1 ⟨fun q => absurd rfl q, fun _ => ⟨by unfold vp_in; decide, ?_, hI⟩⟩) (fun q => absurd q (by rw [t_0, t_1]; omega))
        rw [e9]
        first | exact (bt_t hb).symm | exact (bt_f hb).symm
    · subst c
      refine p_has7 (fun hb => be1 ?_) (fun hb => be0 ?_)
      all_goals
        unfold wp_X8_joint
        refine p_joint8 hn (fun j2 hj2 ej2 => be1 ?_) (fun c => absurd c (by rw [t_nI (by omega)]; omega))
        refine p_in8 (fun _ _ => bn1 ⟨fun _ => ⟨by unfold vp_in; decide, ?_, hI⟩, fun q => absurd q (by decide)⟩) (fun q => absurd q (by rw [t_0, t_1]; omega))
        rw [e10]
        first | exact (bt_t hb).symm | exact (bt_f hb).symm
    · unfold wp_X8_joint
      refine p_joint8 hn (fun j2 hj2 ej2 => be1 ?_) (fun c => absurd c (by rw [t_nI (by omega)]; omega))
      refine p_in8 (fun a b => ?_) (fun _ => bn0 ⟨rfl, hI⟩)
      rw [t_0] at a
      rw [t_1] at b
      obtain ⟨i, hi, rfl⟩ := ix (x := x2) (N := 2) a (by push_cast; omega)
      have : i = 0 ∨ i = 1 := by omega
      rcases this with rfl | rfl
      · exact absurd rfl c0
      · exact absurd rfl c1
  · unfold wp_X8_joint
    exact p_joint8 hn (fun j hj ej => absurd c (by rw [ej, t_nI (by omega)]; omega)) (fun _ => be0 ⟨rfl, hI⟩)
set_option maxHeartbeats 2000000 in
theorem st_keep : Step_keep Inv := by
  intro g1_text_size g1_text_place g1_text_items g1_text_letters g2_links g2_undos g2_length g2_seenMany g2_trace g2_at g2_behind g2_number g2_readLinks g2_readFolded g2_readStiff g2_wayMany g2_text g1_told_links g1_told_folded g1_told_stiff g1_told_lengths g1_strip_links g1_strip_folded g1_strip_stiff g1_strip_lengths g1_history_slot g1_history_size g1_sightings_size g1_kept g2_readLong g2_row g2_isKept g1_lay_links g1_lay_low g1_lay_high g1_lay_places g2_marks g1_folds_measured g1_folds_lay_links g1_folds_lay_low g1_folds_lay_high g1_folds_lay_places g2_isMeasured g1_history_steps_E_links g1_history_steps_E_folded g1_history_steps_E_stiff g1_history_steps_E_lengths g1_sightings_seenFolds g1_sightings_seenSpans g2_seenFold g2_seenSpan g1_sightings_lay_links g1_sightings_lay_low g1_sightings_lay_high g1_sightings_lay_places g1_sightings_isWay g2_waysAre g1_sightings_tally g2_haveSpan g1_rater_traced g1_images_E_links g1_images_E_folded g1_images_E_stiff g1_images_E_lengths x1 hI
  obtain ⟨n, hn, hL, hT, hS, hH, hM, hE, hR, hp, hf⟩ := id hI
  obtain ⟨s1, s2, s3, s4, s5⟩ := id hS
  subst s1
  subst hL
  have e9 : g2_row ((9 : Int32)).toNatClampNeg = g1_strip_folded := s3.symm
  have e10 : g2_row ((10 : Int32)).toNatClampNeg = g1_strip_stiff := s4.symm
  unfold wp_X7_keep
  refine p_in7 (fun a b => bn1 ?_) (fun c => bn0 ?_)
  · rw [t_0] at a
    rw [t_1] at b
    obtain ⟨i, hi, rfl⟩ := ix (x := x1) (N := 2) a (by push_cast; omega)
    refine ⟨vp_in_nI hi (by omega), fun k2 ek => ?_⟩
    have fk : k2 = i := by rw [ek]; exact nI_clamp (by omega)
    subst fk
    refine p_copyFrom (fun l2 hl2 => ⟨vp_in_nI hi (by omega), ?_⟩)
    refine p_spanNow7 hn (SR.D7 hn hS) (fun pl h0 h1 => ?_)
    unfold wp_X8_keep
    refine p_in8 (fun _ _ => bn1 ?_) (fun c => absurd c (by rw [t_0, t_1, t_nI (by omega)]; omega))
    rw [n121, ← nI_0]
    refine p_copyRow 0 (121 + 11 * k2) (by omega) (by omega) (by omega) (fun r2 g1 g2 => ⟨vp_in_nI hi (by omega), by unfold vp_in; decide, ?_⟩)
    have q9 : r2 ((9 : Int32)).toNatClampNeg = g1_strip_folded := (g2 9 (by omega)).trans e9
    rw [q9]
    have hS2 : SR n (nI n) g1_strip_lengths g1_strip_folded g1_strip_stiff r2 0 := hS.congr hn (fun j hj => g2 _ (by omega))
    refine p_spanBy hn (SR.D8 hn hS2) (fun ms hms => ⟨rfl, n, hn, rfl, hT, hS2, hH.keepRow hn (fun j a b => g2 j (by omega)), ?_, hE, hR, h0.trans hp, hf⟩)
    intro j hj
    rw [nI_clamp (by omega), upd_eq, upd_eq, nar1]
    by_cases q : j = k2
    · subst q
      rw [if_pos rfl, if_pos rfl, va_up_self, va_up_self, va_up_self, va_up_self]
      exact ⟨rfl, Or.inr rfl, fun _ => hS.copy hn hl2 (fun j hj => by rw [g1 j hj])⟩
    · rw [if_neg q, if_neg q, va_up_ne _ _ q, va_up_ne _ _ q, va_up_ne _ _ q, va_up_ne _ _ q]
      obtain ⟨m1, m2, m3⟩ := hM j hj
      exact ⟨m1, m2, fun c => (m3 c).congr hn (fun t ht => g2 _ (by omega))⟩
  · unfold wp_X8_keep
    exact p_in8 (fun a b => absurd c (by omega)) (fun _ => bn0 ⟨rfl, hI⟩)
set_option maxHeartbeats 2000000 in
theorem st_back : Step_back Inv := by
  intro g1_text_size g1_text_place g1_text_items g1_text_letters g2_links g2_undos g2_length g2_seenMany g2_trace g2_at g2_behind g2_number g2_readLinks g2_readFolded g2_readStiff g2_wayMany g2_text g1_told_links g1_told_folded g1_told_stiff g1_told_lengths g1_strip_links g1_strip_folded g1_strip_stiff g1_strip_lengths g1_history_slot g1_history_size g1_sightings_size g1_kept g2_readLong g2_row g2_isKept g1_lay_links g1_lay_low g1_lay_high g1_lay_places g2_marks g1_folds_measured g1_folds_lay_links g1_folds_lay_low g1_folds_lay_high g1_folds_lay_places g2_isMeasured g1_history_steps_E_links g1_history_steps_E_folded g1_history_steps_E_stiff g1_history_steps_E_lengths g1_sightings_seenFolds g1_sightings_seenSpans g2_seenFold g2_seenSpan g1_sightings_lay_links g1_sightings_lay_low g1_sightings_lay_high g1_sightings_lay_places g1_sightings_isWay g2_waysAre g1_sightings_tally g2_haveSpan g1_rater_traced g1_images_E_links g1_images_E_folded g1_images_E_stiff g1_images_E_lengths x1 hI
  obtain ⟨n, hn, hL, hT, hS, hH, hM, hE, hR, hp, hf⟩ := id hI
  obtain ⟨s1, s2, s3, s4, s5⟩ := id hS
  subst s1
  subst hL
  have e9 : g2_row ((9 : Int32)).toNatClampNeg = g1_strip_folded := s3.symm
  have e10 : g2_row ((10 : Int32)).toNatClampNeg = g1_strip_stiff := s4.symm
  unfold wp_X7_back
  refine p_in7 (fun a b => bn1 ?_) (fun c => bn0 ?_)
  · rw [t_0] at a
    rw [t_1] at b
    obtain ⟨i, hi, rfl⟩ := ix (x := x1) (N := 2) a (by push_cast; omega)
    obtain ⟨m1, m2, m3⟩ := hM i hi
    have hcl : (nI i).toNatClampNeg = i := nI_clamp (by omega)
    refine ⟨vp_in_nI hi (by omega), ?_⟩
    rw [hcl]
    refine ⟨fun c => ⟨vp_in_nI hi (by omega), fun k2 ek => ?_⟩, fun c => ?_⟩
    · have ek2 := ek.symm
      subst ek2
      have h1k : g1_kept i = 1 := m2.resolve_left c
      have hSi := m3 h1k
      rw [hSi.1]
      refine p_copyFrom (fun l2 hl2 => ?_)
      unfold wp_X1_loseAll
      have hSl : SR n (nI n) l2 (g1_images_E_folded i) (g1_images_E_stiff i) g2_row (121 + 11 * i) := SR.copy hn (hSi.1 ▸ hSi) hl2 (fun _ _ => rfl)
      refine p_spanNow7 hn (SR.D7 hn hSl) (fun pl h0 h1 => ?_)
      unfold wp_X8_back
      refine p_in8 (fun _ _ => bn1 ⟨vp_in_nI hi (by omega), ?_⟩) (fun c => absurd c (by rw [t_0, t_1, t_nI (by omega)]; omega))
      rw [hcl, ← m1, h1k]
      refine ⟨fun _ => ?_, fun q => absurd q (by decide)⟩
      rw [n121, ← nI_0]
      refine p_copyRow (121 + 11 * i) 0 (by omega) (by omega) (by omega) (fun r2 g1 g2 => ⟨by unfold vp_in; decide, ?_⟩)
      have hS2 : SR n (nI n) l2 (g1_images_E_folded i) (g1_images_E_stiff i) r2 0 := hSl.copy hn (fun _ _ => rfl) g1
      have q9 : r2 ((9 : Int32)).toNatClampNeg = g1_images_E_folded i := hS2.2.2.1.symm
      rw [q9]
      exact p_spanBy hn (SR.D8 hn hS2) (fun ms hms => ⟨rfl, n, hn, rfl, hT, hS2, ⟨0, (hH.choose_spec.choose), by omega, hH.choose_spec.choose_spec.2.1, rfl, rfl, hH.choose_spec.choose_spec.2.2.2.2.1, fun j hj => absurd hj (Nat.not_lt_zero j)⟩, hM.keepRow hn (fun j a b => g2 j (by omega)), hE, hR, h0.trans hp, hf⟩)
    · unfold wp_X8_back
      refine p_in8 (fun _ _ => bn1 ⟨vp_in_nI hi (by omega), ?_⟩) (fun c => absurd c (by rw [t_0, t_1, t_nI (by omega)]; omega))
      rw [hcl, ← m1, c]
      exact ⟨fun q => absurd rfl q, fun _ => ⟨rfl, hI⟩⟩
  · unfold wp_X8_back
    exact p_in8 (fun a b => absurd c (by omega)) (fun _ => bn0 ⟨rfl, hI⟩)
set_option maxHeartbeats 2000000 in
theorem st_undo : Step_undo Inv := by
  intro g1_text_size g1_text_place g1_text_items g1_text_letters g2_links g2_undos g2_length g2_seenMany g2_trace g2_at g2_behind g2_number g2_readLinks g2_readFolded g2_readStiff g2_wayMany g2_text g1_told_links g1_told_folded g1_told_stiff g1_told_lengths g1_strip_links g1_strip_folded g1_strip_stiff g1_strip_lengths g1_history_slot g1_history_size g1_sightings_size g1_kept g2_readLong g2_row g2_isKept g1_lay_links g1_lay_low g1_lay_high g1_lay_places g2_marks g1_folds_measured g1_folds_lay_links g1_folds_lay_low g1_folds_lay_high g1_folds_lay_places g2_isMeasured g1_history_steps_E_links g1_history_steps_E_folded g1_history_steps_E_stiff g1_history_steps_E_lengths g1_sightings_seenFolds g1_sightings_seenSpans g2_seenFold g2_seenSpan g1_sightings_lay_links g1_sightings_lay_low g1_sightings_lay_high g1_sightings_lay_places g1_sightings_isWay g2_waysAre g1_sightings_tally g2_haveSpan g1_rater_traced g1_images_E_links g1_images_E_folded g1_images_E_stiff g1_images_E_lengths  hI
  obtain ⟨n, hn, hL, hT, hS, hH, hM, hE, hR, hp, hf⟩ := id hI
  obtain ⟨s1, s2, s3, s4, s5⟩ := id hS
  subst s1
  subst hL
  have e9 : g2_row ((9 : Int32)).toNatClampNeg = g1_strip_folded := s3.symm
  have e10 : g2_row ((10 : Int32)).toNatClampNeg = g1_strip_stiff := s4.symm
  obtain ⟨k, s, k1, k2, k3, k4, k5, k6⟩ := id hH
  subst k3; subst k4; subst k5
  unfold wp_X7_undo
  refine ⟨fun c => ?_, fun c => ?_⟩
  · have hk0 : 0 < k := by
      rcases Nat.eq_zero_or_pos k with q | q
      · exact absurd (by rw [q]; rfl) c
      · exact q
    unfold wp_X1_restore
    refine ⟨fun q => absurd q (nI_nle hk0 (by omega)), fun _ => ⟨by decide, fun y1 e1 y2 e2 => ?_⟩⟩
    have f1 : y1 = nI ((s + 9) % 10) := by
      rw [e1, show nI s + 10 = nI (s + 9 + 1) from nI_add s 10, nI_pred]
      exact pk_rem (a := s + 9) (d := 10) (by omega) (by omega) (by omega)
    have f2 : y2 = nI (k - 1) := by
      rw [e2, show nI k = nI (k - 1 + 1) by rw [Nat.sub_add_cancel hk0], nI_pred]
    subst f1; subst f2
    refine ⟨vp_in_nI (by omega) (by omega), fun k3 ek => ?_⟩
    rw [nI_clamp (by omega)] at ek
    subst ek
    have hSi := k6 (k - 1) (by omega)
    rw [show (s + 10 - k + (k - 1)) % 10 = (s + 9) % 10 by omega] at hSi
    rw [hSi.1]
    refine p_copyFrom (fun l2 hl2 => ?_)
    have hSl : SR n (nI n) l2 (g1_history_steps_E_folded ((s + 9) % 10)) (g1_history_steps_E_stiff ((s + 9) % 10)) g2_row (11 + 11 * (k - 1)) := SR.copy hn (hSi.1 ▸ hSi) hl2 (fun _ _ => rfl)
    unfold wp_X8_undo
    refine ⟨fun _ y1 e1 => ?_, fun q => absurd q c⟩
    have f1 : y1 = nI (k - 1) := by
      rw [e1, show nI k = nI (k - 1 + 1) by rw [Nat.sub_add_cancel hk0], nI_pred]
    subst f1
    rw [n11, ← nI_0]
    refine p_copyRow (11 + 11 * (k - 1)) 0 (by omega) (by omega) (by omega) (fun r2 g1 g2 => ⟨rfl, n, hn, rfl, hT, hSl.copy hn (fun _ _ => rfl) g1, ⟨k - 1, (s + 9) % 10, by omega, by omega, rfl, rfl, rfl, fun i hi => ?_⟩, hM.keepRow hn (fun j a b => g2 j (by omega)), hE, hR, hp, hf⟩)
    rw [show ((s + 9) % 10 + 10 - (k - 1) + i) % 10 = (s + 10 - k + i) % 10 by omega]
    exact (k6 i (by omega)).congr hn (fun j hj => g2 _ (by omega))
  · unfold wp_X8_undo
    exact ⟨fun q => absurd c q, fun _ => ⟨rfl, hI⟩⟩
