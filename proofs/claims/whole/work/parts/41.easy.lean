/-- the text: as many letters, the same -/
def RText (sz : Int32) (le : Nat → Int32) (len : Int32) (tx : Nat → Int32) : Prop := ∃ k : Nat, k ≤ 90 ∧ sz = nI k ∧ len = nI k ∧ ∀ j, le j = tx j
/-- a rule as it may be: n links of 1 .. 20, bits of its joints -/
def SV (n : Nat) (ln : Nat → Int32) (fo st : Int32) : Prop := (∀ j, j < n → ∃ v : Nat, 1 ≤ v ∧ v ≤ 20 ∧ ln j = nI v) ∧ (∃ F : Nat, F < 2 ^ (n - 1) ∧ fo = nI F) ∧ (∃ T : Nat, T < 2 ^ (n - 1) ∧ st = nI T)
/-- a strip of the class is what the reference's row has from o on -/
def SR (n : Nat) (ks : Int32) (ln : Nat → Int32) (fo st : Int32) (row : Nat → Int32) (o : Nat) : Prop := ks = nI n ∧ (∀ j, j < n → ln j = row (o + j)) ∧ fo = row (o + 9) ∧ st = row (o + 10) ∧ SV n ln fo st
def RHist (n : Nat) (slot size : Int32) (ks fo st : Nat → Int32) (ln : Nat → Nat → Int32) (undos : Int32) (row : Nat → Int32) : Prop :=
  ∃ k s : Nat, k ≤ 10 ∧ s < 10 ∧ size = nI k ∧ undos = nI k ∧ slot = nI s ∧ ∀ i, i < k → SR n (ks ((s + 10 - k + i) % 10)) (ln ((s + 10 - k + i) % 10)) (fo ((s + 10 - k + i) % 10)) (st ((s + 10 - k + i) % 10)) row (11 + 11 * i)
def RImg (n : Nat) (kept isKept : Nat → Int32) (ks fo st : Nat → Int32) (ln : Nat → Nat → Int32) (row : Nat → Int32) : Prop :=
  ∀ i, i < 2 → kept i = isKept i ∧ (kept i = 0 ∨ kept i = 1) ∧ (kept i = 1 → SR n (ks i) (ln i) (fo i) (st i) row (121 + 11 * i))
def RSeen (sz : Int32) (fs ss : Nat → Int32) (many : Int32) (fs2 ss2 : Nat → Int32) : Prop := ∃ k : Nat, k ≤ 6 ∧ sz = nI k ∧ many = nI k ∧ ∀ i, i < k → fs i = fs2 i ∧ ss i = ss2 i
def Inv : InvT := fun g1_text_size g1_text_place g1_text_items g1_text_letters g2_links g2_undos g2_length g2_seenMany g2_trace g2_at g2_behind g2_number g2_readLinks g2_readFolded g2_readStiff g2_wayMany g2_text g1_told_links g1_told_folded g1_told_stiff g1_told_lengths g1_strip_links g1_strip_folded g1_strip_stiff g1_strip_lengths g1_history_slot g1_history_size g1_sightings_size g1_kept g2_readLong g2_row g2_isKept g1_lay_links g1_lay_low g1_lay_high g1_lay_places g2_marks g1_folds_measured g1_folds_lay_links g1_folds_lay_low g1_folds_lay_high g1_folds_lay_places g2_isMeasured g1_history_steps_E_links g1_history_steps_E_folded g1_history_steps_E_stiff g1_history_steps_E_lengths g1_sightings_seenFolds g1_sightings_seenSpans g2_seenFold g2_seenSpan g1_sightings_lay_links g1_sightings_lay_low g1_sightings_lay_high g1_sightings_lay_places g1_sightings_isWay g2_waysAre g1_sightings_tally g2_haveSpan g1_rater_traced g1_images_E_links g1_images_E_folded g1_images_E_stiff g1_images_E_lengths => ∃ n : Nat, n ≤ 9 ∧ g2_links = nI n ∧ RText g1_text_size g1_text_letters g2_length g2_text ∧ SR n g1_strip_links g1_strip_lengths g1_strip_folded g1_strip_stiff g2_row 0 ∧ RHist n g1_history_slot g1_history_size g1_history_steps_E_links g1_history_steps_E_folded g1_history_steps_E_stiff g1_history_steps_E_lengths g2_undos g2_row ∧ RImg n g1_kept g2_isKept g1_images_E_links g1_images_E_folded g1_images_E_stiff g1_images_E_lengths g2_row ∧ RSeen g1_sightings_size g1_sightings_seenFolds g1_sightings_seenSpans g2_seenMany g2_seenFold g2_seenSpan ∧ (g1_rater_traced = g2_trace ∧ ∀ l : Nat, l < 9 → g1_sightings_isWay (10 * l) = 0) ∧ g1_lay_places 0 = 0 ∧ g1_folds_lay_places 0 = 0
theorem Inv_0 : Inv 0 0 0 (fun _ => 0) 0 0 0 0 0 0 0 0 0 0 0 0 (fun _ => 0) 0 0 0 (fun _ => 0) 0 0 0 (fun _ => 0) 0 0 0 (fun _ => 0) (fun _ => 0) (fun _ => 0) (fun _ => 0) 0 0 0 (fun _ => 0) (fun _ => 0) (fun _ => 0) 0 0 0 (fun _ => 0) (fun _ => 0) (fun _ => 0) (fun _ => 0) (fun _ => 0) (fun _ _ => 0) (fun _ => 0) (fun _ => 0) (fun _ => 0) (fun _ => 0) 0 0 0 (fun _ => 0) (fun _ => 0) (fun _ => 0) (fun _ => 0) (fun _ => 0) 0 (fun _ => 0) (fun _ => 0) (fun _ => 0) (fun _ _ => 0) := by
  refine ⟨0, by omega, nI_0.symm, ⟨0, by omega, nI_0.symm, nI_0.symm, fun _ => rfl⟩, ⟨nI_0.symm, fun j h => absurd h (Nat.not_lt_zero j), rfl, rfl, fun j h => absurd h (Nat.not_lt_zero j), ⟨0, by decide, nI_0.symm⟩, ⟨0, by decide, nI_0.symm⟩⟩, ⟨0, 0, by omega, by omega, nI_0.symm, nI_0.symm, nI_0.symm, fun i h => absurd h (Nat.not_lt_zero i)⟩, fun i _ => ⟨rfl, Or.inl rfl, fun h => absurd (show (0 : Int32) = 1 from h) (by decide)⟩, ⟨0, by omega, nI_0.symm, nI_0.symm, fun i h => absurd h (Nat.not_lt_zero i)⟩, ⟨rfl, fun _ _ => rfl⟩, rfl, rfl⟩
theorem bn1 {A B : Prop} (a : A) : (¬ (1 : Int32) = 0 → A) ∧ ((1 : Int32) = 0 → B) := ⟨fun _ => a, fun h => absurd h (by decide)⟩
theorem bn0 {A B : Prop} (b : B) : (¬ (0 : Int32) = 0 → A) ∧ ((0 : Int32) = 0 → B) := ⟨fun h => absurd rfl h, fun _ => b⟩
theorem be1 {A B : Prop} (b : B) : ((1 : Int32) = 0 → A) ∧ (¬ (1 : Int32) = 0 → B) := ⟨fun h => absurd h (by decide), fun _ => b⟩
theorem be0 {A B : Prop} (a : A) : ((0 : Int32) = 0 → A) ∧ (¬ (0 : Int32) = 0 → B) := ⟨fun _ => a, fun h => absurd rfl h⟩
theorem SR.congr {n : Nat} {ks : Int32} {ln : Nat → Int32} {fo st : Int32} {row row' : Nat → Int32} {o : Nat} (hn : n ≤ 9) (h : SR n ks ln fo st row o) (e : ∀ j, j < 11 → row' (o + j) = row (o + j)) : SR n ks ln fo st row' o :=
  ⟨h.1, fun j hj => by rw [h.2.1 j hj, e j (by omega)], by rw [h.2.2.1, e 9 (by omega)], by rw [h.2.2.2.1, e 10 (by omega)], h.2.2.2.2⟩

theorem p_type {sz len : Int32} {le tx : Nat → Int32} (x : Int32) (hT : RText sz le len tx) {Q : Int32 → Int32 → (Nat → Int32) → Int32 → Int32 → (Nat → Int32) → Prop} (hQ : ∀ a sz' le' len' tx', RText sz' le' len' tx' → Q a sz' le' a len' tx') : wp_X7_type sz le x (fun a m0 m1 => wp_X8_type len tx x (fun b n0 n1 => Q a m0 m1 b n0 n1)) := by
  obtain ⟨k, hk, rfl, rfl, he⟩ := hT
  have hR : RText (nI k) le (nI k) tx := ⟨k, hk, rfl, rfl, he⟩
  unfold wp_X7_type
  refine p_in7 (fun a1 a2 => bn1 ?_) (fun a0 => bn0 ?_)
  · unfold wp_X6_isFull
    refine ⟨fun c => be0 ?_, fun c => be1 ?_⟩
    · have hlt : k < 90 := (nI_ltI (by omega) (by omega)).mp c
      unfold wp_X6_append wp_X6_isFull
      refine ⟨fun _ => bn0 ⟨vp_in_nI hlt (by omega), ?_⟩, fun d => absurd c d⟩
      rintro _ rfl
      unfold wp_X8_type
      refine p_in8 (fun _ _ => bn1 ⟨fun _ => ⟨vp_in_nI hlt (by omega), ?_⟩, fun d => absurd ((nI_eq (a := k) (b := 90) (by omega) (by omega)).mp d) (by omega)⟩) (fun h => absurd h (by omega))
      rintro _ rfl
      refine hQ _ _ _ _ _ ⟨k + 1, by omega, nI_1 k, nI_1 k, ?_⟩
      intro j
      rw [nI_clamp (by omega), upd_eq, upd_eq]
      by_cases hjk : j = k
      · rw [if_pos hjk, if_pos hjk]
      · rw [if_neg hjk, if_neg hjk]
        exact he j
    · have hge : k = 90 := by
        rcases Nat.lt_or_ge k 90 with q | q
        · exact absurd ((nI_ltI (a := k) (b := 90) (by omega) (by omega)).mpr q) c
        · omega
      subst hge
      unfold wp_X8_type
      exact p_in8 (fun _ _ => bn1 ⟨fun d => absurd rfl d, fun _ => hQ _ _ _ _ _ hR⟩) (fun h => absurd h (by omega))
  · unfold wp_X8_type
    exact p_in8 (fun h1 h2 => absurd a0 (by omega)) (fun _ => bn0 (hQ _ _ _ _ _ hR))
set_option maxHeartbeats 2000000 in
theorem st_type : Step_type Inv := by
  intro g1_text_size g1_text_place g1_text_items g1_text_letters g2_links g2_undos g2_length g2_seenMany g2_trace g2_at g2_behind g2_number g2_readLinks g2_readFolded g2_readStiff g2_wayMany g2_text g1_told_links g1_told_folded g1_told_stiff g1_told_lengths g1_strip_links g1_strip_folded g1_strip_stiff g1_strip_lengths g1_history_slot g1_history_size g1_sightings_size g1_kept g2_readLong g2_row g2_isKept g1_lay_links g1_lay_low g1_lay_high g1_lay_places g2_marks g1_folds_measured g1_folds_lay_links g1_folds_lay_low g1_folds_lay_high g1_folds_lay_places g2_isMeasured g1_history_steps_E_links g1_history_steps_E_folded g1_history_steps_E_stiff g1_history_steps_E_lengths g1_sightings_seenFolds g1_sightings_seenSpans g2_seenFold g2_seenSpan g1_sightings_lay_links g1_sightings_lay_low g1_sightings_lay_high g1_sightings_lay_places g1_sightings_isWay g2_waysAre g1_sightings_tally g2_haveSpan g1_rater_traced g1_images_E_links g1_images_E_folded g1_images_E_stiff g1_images_E_lengths x1 hI
  obtain ⟨n, hn, hL, hT, hS, hH, hM, hE, hR, hp, hf⟩ := id hI
  exact p_type x1 hT (fun a sz' le' len' tx' h => ⟨rfl, n, hn, hL, h, hS, hH, hM, hE, hR, hp, hf⟩)
set_option maxHeartbeats 2000000 in
theorem st_clear : Step_clear Inv := by
  intro g1_text_size g1_text_place g1_text_items g1_text_letters g2_links g2_undos g2_length g2_seenMany g2_trace g2_at g2_behind g2_number g2_readLinks g2_readFolded g2_readStiff g2_wayMany g2_text g1_told_links g1_told_folded g1_told_stiff g1_told_lengths g1_strip_links g1_strip_folded g1_strip_stiff g1_strip_lengths g1_history_slot g1_history_size g1_sightings_size g1_kept g2_readLong g2_row g2_isKept g1_lay_links g1_lay_low g1_lay_high g1_lay_places g2_marks g1_folds_measured g1_folds_lay_links g1_folds_lay_low g1_folds_lay_high g1_folds_lay_places g2_isMeasured g1_history_steps_E_links g1_history_steps_E_folded g1_history_steps_E_stiff g1_history_steps_E_lengths g1_sightings_seenFolds g1_sightings_seenSpans g2_seenFold g2_seenSpan g1_sightings_lay_links g1_sightings_lay_low g1_sightings_lay_high g1_sightings_lay_places g1_sightings_isWay g2_waysAre g1_sightings_tally g2_haveSpan g1_rater_traced g1_images_E_links g1_images_E_folded g1_images_E_stiff g1_images_E_lengths  hI
  obtain ⟨n, hn, hL, hT, hS, hH, hM, hE, hR, hp, hf⟩ := id hI
  obtain ⟨k, hk, h1, h2, he⟩ := hT
  unfold wp_X7_clear wp_X6_makeEmpty wp_X8_clear
  exact ⟨by rw [h1, h2], n, hn, hL, ⟨0, by omega, nI_0.symm, nI_0.symm, he⟩, hS, hH, hM, hE, hR, hp, hf⟩
set_option maxHeartbeats 2000000 in
theorem st_forget : Step_forget Inv := by
  intro g1_text_size g1_text_place g1_text_items g1_text_letters g2_links g2_undos g2_length g2_seenMany g2_trace g2_at g2_behind g2_number g2_readLinks g2_readFolded g2_readStiff g2_wayMany g2_text g1_told_links g1_told_folded g1_told_stiff g1_told_lengths g1_strip_links g1_strip_folded g1_strip_stiff g1_strip_lengths g1_history_slot g1_history_size g1_sightings_size g1_kept g2_readLong g2_row g2_isKept g1_lay_links g1_lay_low g1_lay_high g1_lay_places g2_marks g1_folds_measured g1_folds_lay_links g1_folds_lay_low g1_folds_lay_high g1_folds_lay_places g2_isMeasured g1_history_steps_E_links g1_history_steps_E_folded g1_history_steps_E_stiff g1_history_steps_E_lengths g1_sightings_seenFolds g1_sightings_seenSpans g2_seenFold g2_seenSpan g1_sightings_lay_links g1_sightings_lay_low g1_sightings_lay_high g1_sightings_lay_places g1_sightings_isWay g2_waysAre g1_sightings_tally g2_haveSpan g1_rater_traced g1_images_E_links g1_images_E_folded g1_images_E_stiff g1_images_E_lengths  hI
  obtain ⟨n, hn, hL, hT, hS, hH, hM, hE, hR, hp, hf⟩ := id hI
  obtain ⟨k, hk, h1, h2, he⟩ := hE
  unfold wp_X7_forget wp_X4_loseAll wp_X8_forget
  exact ⟨by rw [h1, h2], n, hn, hL, hT, hS, hH, hM, ⟨0, by omega, nI_0.symm, nI_0.symm, fun j h => absurd h (Nat.not_lt_zero j)⟩, hR, hp, hf⟩
set_option maxHeartbeats 2000000 in
theorem st_trace : Step_trace Inv := by
  intro g1_text_size g1_text_place g1_text_items g1_text_letters g2_links g2_undos g2_length g2_seenMany g2_trace g2_at g2_behind g2_number g2_readLinks g2_readFolded g2_readStiff g2_wayMany g2_text g1_told_links g1_told_folded g1_told_stiff g1_told_lengths g1_strip_links g1_strip_folded g1_strip_stiff g1_strip_lengths g1_history_slot g1_history_size g1_sightings_size g1_kept g2_readLong g2_row g2_isKept g1_lay_links g1_lay_low g1_lay_high g1_lay_places g2_marks g1_folds_measured g1_folds_lay_links g1_folds_lay_low g1_folds_lay_high g1_folds_lay_places g2_isMeasured g1_history_steps_E_links g1_history_steps_E_folded g1_history_steps_E_stiff g1_history_steps_E_lengths g1_sightings_seenFolds g1_sightings_seenSpans g2_seenFold g2_seenSpan g1_sightings_lay_links g1_sightings_lay_low g1_sightings_lay_high g1_sightings_lay_places g1_sightings_isWay g2_waysAre g1_sightings_tally g2_haveSpan g1_rater_traced g1_images_E_links g1_images_E_folded g1_images_E_stiff g1_images_E_lengths  hI
  obtain ⟨n, hn, hL, hT, hS, hH, hM, hE, hR, hp, hf⟩ := id hI
  unfold wp_X7_trace wp_X8_trace
  exact ⟨hR.1, hI⟩
set_option maxHeartbeats 2000000 in
theorem st_count : Step_count Inv := by
  intro g1_text_size g1_text_place g1_text_items g1_text_letters g2_links g2_undos g2_length g2_seenMany g2_trace g2_at g2_behind g2_number g2_readLinks g2_readFolded g2_readStiff g2_wayMany g2_text g1_told_links g1_told_folded g1_told_stiff g1_told_lengths g1_strip_links g1_strip_folded g1_strip_stiff g1_strip_lengths g1_history_slot g1_history_size g1_sightings_size g1_kept g2_readLong g2_row g2_isKept g1_lay_links g1_lay_low g1_lay_high g1_lay_places g2_marks g1_folds_measured g1_folds_lay_links g1_folds_lay_low g1_folds_lay_high g1_folds_lay_places g2_isMeasured g1_history_steps_E_links g1_history_steps_E_folded g1_history_steps_E_stiff g1_history_steps_E_lengths g1_sightings_seenFolds g1_sightings_seenSpans g2_seenFold g2_seenSpan g1_sightings_lay_links g1_sightings_lay_low g1_sightings_lay_high g1_sightings_lay_places g1_sightings_isWay g2_waysAre g1_sightings_tally g2_haveSpan g1_rater_traced g1_images_E_links g1_images_E_folded g1_images_E_stiff g1_images_E_lengths x1 hI
  obtain ⟨n, hn, hL, hT, hS, hH, hM, hE, hR, hp, hf⟩ := id hI
  obtain ⟨k, hk, h1, h2, he⟩ := id hT
  obtain ⟨k2, hk2, h3, h4, he2⟩ := id hE
  obtain ⟨s1, s2, s3, s4, s5⟩ := id hS
  unfold wp_X7_count
  refine ⟨fun c => ?_, fun c => ?_, fun c => ?_, fun c => ?_, fun c0 c1 c2 c3 => ?_⟩
  all_goals unfold wp_X8_count
  · exact ⟨fun _ => ⟨by rw [s1, hL], hI⟩, fun d => absurd (c.symm.trans d) (by decide), fun d => absurd (c.symm.trans d) (by decide), fun d => absurd (c.symm.trans d) (by decide), fun d => absurd c d⟩
  · exact ⟨fun d => absurd (c.symm.trans d) (by decide), fun _ => ⟨by unfold vp_in; decide, s4, hI⟩, fun d => absurd (c.symm.trans d) (by decide), fun d => absurd (c.symm.trans d) (by decide), fun _ d => absurd c d⟩
  · exact ⟨fun d => absurd (c.symm.trans d) (by decide), fun d => absurd (c.symm.trans d) (by decide), fun _ => ⟨by rw [h3, h4], hI⟩, fun d => absurd (c.symm.trans d) (by decide), fun _ _ d => absurd c d⟩
  · exact ⟨fun d => absurd (c.symm.trans d) (by decide), fun d => absurd (c.symm.trans d) (by decide), fun d => absurd (c.symm.trans d) (by decide), fun _ => ⟨by rw [h1, h2], hI⟩, fun _ _ _ d => absurd c d⟩
  · exact ⟨fun d => absurd d c0, fun d => absurd d c1, fun d => absurd d c2, fun d => absurd d c3, fun _ _ _ _ => ⟨rfl, hI⟩⟩
