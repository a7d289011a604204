theorem p_kept7 {a1 a2 a3 a4 a5 a6 : Int32} {f1 : Nat → Int32} {b1 b2 b3 : Int32} {f2 : Nat → Int32} {c1 c2 : Int32} {Q : Int32 → Int32 → Int32 → Int32 → Int32 → Int32 → Int32 → (Nat → Int32) → Int32 → Int32 → Int32 → (Nat → Int32) → Int32 → Int32 → (Nat → Int32) → Prop} (kp0 : Nat → Int32)
    (h : ∀ kp, (∀ i, i < 2 → kp i = 0) → Q a6 a1 a2 a3 0 a5 a6 f1 b1 b2 b3 f2 c1 c2 kp) : ∃ q : Nat, itr2 (B_X7_rule_49 a1 a2 a3 a4 a5 a6 f1 b1 b2 b3 f2 c1 c2 Q) q (0 : Int32) kp0 := by
  have key : ∀ (r i : Nat) (kp : Nat → Int32), i + r = 2 → (∀ j, j < i → kp j = 0) → itr2 (B_X7_rule_49 a1 a2 a3 a4 a5 a6 f1 b1 b2 b3 f2 c1 c2 Q) (r + 1) (nI i) kp := by
    intro r
    induction r with
    | zero =>
      intro i kp hi hk
      have e : i = 2 := by omega
      subst e
      show B_X7_rule_49 _ _ _ _ _ _ _ _ _ _ _ _ _ _ _ _ _
      unfold B_X7_rule_49 wp_X6_makeEmpty
      exact ⟨fun _ => h kp hk, fun q => absurd (nI_le (a := 2) (b := 2) (by omega) (by omega)) q⟩
    | succ r ih =>
      intro i kp hi hk
      show B_X7_rule_49 _ _ _ _ _ _ _ _ _ _ _ _ _ _ _ _ _
      generalize itr2 (B_X7_rule_49 a1 a2 a3 a4 a5 a6 f1 b1 b2 b3 f2 c1 c2 Q) (r + 1) = K at ih ⊢
      unfold B_X7_rule_49
      refine ⟨fun q => absurd q (nI_ge (a := i) (b := 2) (by omega) (by omega)), fun _ => ⟨vp_in_nI (by omega) (by omega), fun y e => ?_⟩⟩
      rw [e, nI_1, nI_clamp (by omega)]
      refine ih (i + 1) _ (by omega) (fun j hj => ?_)
      rw [upd_eq]
      by_cases z : j = i
      · rw [if_pos z]; rfl
      · rw [if_neg z]; exact hk j (by omega)
  exact ⟨_, key 2 0 kp0 (by omega) (fun j hj => absurd hj (Nat.not_lt_zero j))⟩
theorem p_row8 {n : Nat} (hn : n ≤ 9) {gl ga gb gn rF rT x1 : Int32} {rL ik : Nat → Int32} {Q : Int32 → Int32 → Int32 → Int32 → Int32 → Int32 → Int32 → Int32 → Int32 → Int32 → Int32 → (Nat → Int32) → (Nat → Int32) → (Nat → Int32) → Prop} (row0 : Nat → Int32)
    (h : ∀ row, (∀ j, j < n → row j = rL j) → Q x1 (nI n) 0 gl 0 ga gb gn (nI n) rF rT rL (upd (upd row 9 rF) 10 rT) (upd (upd ik 0 0) 1 0)) : ∃ q : Nat, itr2 (B_X8_rule_34 (nI n) gl ga gb gn (nI n) rF rT rL ik x1 Q) q (0 : Int32) row0 := by
  have key : ∀ (r i : Nat) (row : Nat → Int32), i + r = 9 → (∀ j, j < i → j < n → row j = rL j) → itr2 (B_X8_rule_34 (nI n) gl ga gb gn (nI n) rF rT rL ik x1 Q) (r + 1) (nI i) row := by
    intro r
    induction r with
    | zero =>
      intro i row hi hk
      have e : i = 9 := by omega
      subst e
      show B_X8_rule_34 _ _ _ _ _ _ _ _ _ _ _ _ _ _ _
      unfold B_X8_rule_34
      exact ⟨fun _ => ⟨by unfold vp_in; decide, by unfold vp_in; decide, by unfold vp_in; decide, by unfold vp_in; decide, h row (fun j hj => hk j (by omega) hj)⟩, fun q => absurd (nI_le (a := 9) (b := 9) (by omega) (by omega)) q⟩
    | succ r ih =>
      intro i row hi hk
      show B_X8_rule_34 _ _ _ _ _ _ _ _ _ _ _ _ _ _ _
      generalize itr2 (B_X8_rule_34 (nI n) gl ga gb gn (nI n) rF rT rL ik x1 Q) (r + 1) = K at ih ⊢
      unfold B_X8_rule_34
      rw [nI_leI (by omega) (by omega), Int32.zero_add, nI_clamp (by omega), nI_1]
      have vi : vp_in (nI i) 143 := vp_in_nI (by omega) (by omega)
      refine ⟨fun q => absurd q (nI_ge (a := i) (b := 9) (by omega) (by omega)), fun _ => ⟨fun q => ⟨vi, fun y e => ?_⟩, fun q => ⟨vp_in_nI (by omega) (by omega), fun y e => ⟨vi, fun y2 e2 => ?_⟩⟩⟩⟩
      · rw [e]
        refine ih (i + 1) _ (by omega) (fun j hj hjn => ?_)
        rw [upd_eq, if_neg (by omega)]
        exact hk j (by omega) hjn
      · rw [e, e2]
        refine ih (i + 1) _ (by omega) (fun j hj hjn => ?_)
        rw [upd_eq]
        by_cases z : j = i
        · rw [if_pos z, z]
        · rw [if_neg z]; exact hk j (by omega) hjn
  exact ⟨_, key 9 0 row0 (by omega) (fun j hj => absurd hj (Nat.not_lt_zero j))⟩
set_option maxHeartbeats 2000000 in
theorem st_rule : Step_rule Inv := by
  intro g1_text_size g1_text_place g1_text_items g1_text_letters g2_links g2_undos g2_length g2_seenMany g2_trace g2_at g2_behind g2_number g2_readLinks g2_readFolded g2_readStiff g2_wayMany g2_text g1_told_links g1_told_folded g1_told_stiff g1_told_lengths g1_strip_links g1_strip_folded g1_strip_stiff g1_strip_lengths g1_history_slot g1_history_size g1_sightings_size g1_kept g2_readLong g2_row g2_isKept g1_lay_links g1_lay_low g1_lay_high g1_lay_places g2_marks g1_folds_measured g1_folds_lay_links g1_folds_lay_low g1_folds_lay_high g1_folds_lay_places g2_isMeasured g1_history_steps_E_links g1_history_steps_E_folded g1_history_steps_E_stiff g1_history_steps_E_lengths g1_sightings_seenFolds g1_sightings_seenSpans g2_seenFold g2_seenSpan g1_sightings_lay_links g1_sightings_lay_low g1_sightings_lay_high g1_sightings_lay_places g1_sightings_isWay g2_waysAre g1_sightings_tally g2_haveSpan g1_rater_traced g1_images_E_links g1_images_E_folded g1_images_E_stiff g1_images_E_lengths  hI
  obtain ⟨n, hn, hL, hT, hS, hH, hM, hE, hR, hp, hf⟩ := id hI
  obtain ⟨k, hk, h1, h2, he⟩ := hT
  have eT : g1_text_letters = g2_text := funext he
  subst h1; subst h2; subst eT
  unfold wp_X7_rule
  refine p_read7 hk (fun f hfL hr a b c d e w => ⟨fun q => absurd q (m1 (by omega)), fun _ => ?_⟩) (fun it m F T v hit hok hr p ln hln => ⟨fun _ => ?_, fun q => absurd rfl q⟩)
  · unfold wp_X8_rule
    refine p_read8 hk (fun f2 hr2 b2 c2 d2 e2 w2 x2 => ⟨fun q => absurd rfl q, fun _ => ⟨?_, hI⟩⟩) (fun it m F T v hok hr2 => absurd (hr.symm.trans hr2) (fun z => by cases z))
    rw [Sum.inl.inj (hr.symm.trans hr2)]
  · obtain ⟨hm, hF, hTT, hv⟩ := id hok
    refine p_copyFrom (fun l2 hl2 => ?_)
    unfold wp_X1_loseAll wp_X4_loseAll
    refine p_kept7 _ (fun kp hkp => ?_)
    unfold wp_X8_rule
    refine p_read8 hk (fun f2 hr2 => absurd (hr2.symm.trans hr) (fun z => by cases z)) (fun it2 m2 F2 T2 v2 hok2 hr2 a2 b2 c2 rL hrL => ⟨fun _ => ?_, fun q => absurd q (ne9 ?_)⟩)
    · have hz := Sum.inr.inj (hr.symm.trans hr2)
      cases hz
      refine p_row8 hm _ (fun row hrow => ?_)
      obtain ⟨k0, s0, q1, q2, q3, q4, q5, q6⟩ := id hH
      refine ⟨rfl, m, hm, rfl, ⟨0, by omega, nI_0.symm, nI_0.symm, fun _ => rfl⟩, ⟨rfl, fun j hj => ?_, rfl, rfl, fun j hj => ⟨v j, (hv j hj).1, (hv j hj).2, ?_⟩, ⟨F, hF, rfl⟩, ⟨T, hTT, rfl⟩⟩, ⟨0, s0, by omega, q2, nI_0.symm, nI_0.symm, q5, fun i hi => absurd hi (Nat.not_lt_zero i)⟩, fun i hi => ?_, ⟨0, by omega, nI_0.symm, nI_0.symm, fun i hi => absurd hi (Nat.not_lt_zero i)⟩, hR, hp, hf⟩
      · rw [Nat.zero_add, upd_eq, if_neg (by omega), upd_eq, if_neg (by omega), hrow j hj, hrL j hj, hl2 j (by omega)]
        exact hln j hj
      · rw [hl2 j (by omega)]; exact hln j hj
      · have ki := hkp i hi
        rw [ki, upd_eq, upd_eq]
        refine ⟨?_, Or.inl rfl, fun z => absurd z (by decide)⟩
        have : i = 0 ∨ i = 1 := by omega
        rcases this with rfl | rfl <;> rfl
    · have hz := Sum.inr.inj (hr.symm.trans hr2)
      cases hz
      omega
