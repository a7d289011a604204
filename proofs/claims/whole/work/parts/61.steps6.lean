theorem all_pl {n : Nat} {pl : Nat → Int32} {d : Nat → Int} {x : Int32} (h0 : pl 0 = 0) (h1 : ∀ j, 1 ≤ j → j ≤ n → pl j = iI (mk d x j)) : ∀ j, j ≤ n → pl j = iI (mk d x j)
  | 0, _ => h0
  | j + 1, h => h1 (j + 1) (by omega) h
theorem p_len7 {n l : Nat} (hn : n ≤ 9) (hl : l < n) {ln : Nat → Int32} {Q : Int32 → Prop} (h : Q (ln l)) : wp_X5_lengthOf (nI n) ln (nI l) Q := by
  unfold wp_X5_lengthOf
  refine p_link7 hn (fun j hj ej => be1 ⟨vp_in_nI (by omega) (by omega), ?_⟩) (fun c => absurd (no_ix hl (by omega) c) id)
  rw [nI_clamp (by omega)]
  exact h
theorem p_asLink {n l : Nat} (hn : n ≤ 9) (hl : l < n) {ln : Nat → Int32} {tr : Int64} {Q : Int32 → Int64 → Prop} (h : Q (ln l) (tr + 1)) : wp_X3_asLink tr (nI n) ln (nI l) Q := by
  unfold wp_X3_asLink
  rintro y rfl
  exact p_len7 hn hl h
theorem p_linkRate {n l : Nat} (hn : n ≤ 9) (hl : l < n) {row : Nat → Int32} {tr : Int64} {Q : Int32 → Int64 → Prop} (h : Q (row l) (tr + 1)) : wp_X8_linkRate tr row (nI l) Q := by
  unfold wp_X8_linkRate
  rintro y rfl
  rw [Int32.zero_add]
  refine ⟨vp_in_nI (by omega) (by omega), ?_⟩
  rw [nI_clamp (by omega)]
  exact h
theorem p_mark8 {n i : Nat} (hn : n ≤ 9) (hi : i ≤ n) {row ms0 : Nat → Int32} {d : Nat → Int} {x : Int32} (hd : DL n row (-9) 0 d) (hx : row 9 = x) {Q : Int32 → (Nat → Int32) → Prop} (h : ∀ ms, Q (iI (mk d x i)) ms) : wp_X8_mark (nI n) row ms0 (nI i) Q := by
  unfold wp_X8_mark
  refine p_in8 (fun _ _ => bn1 ⟨by unfold vp_in; decide, ?_⟩) (fun c => absurd c (by rw [t_0, t_nI (by omega), t_nI (by omega)]; omega))
  show wp_X8_lies (nI n) ms0 row (row 9) (-9) 0 _
  rw [hx]
  refine p_lies hn hd (fun ms hms => ⟨vp_in_nI (by omega) (by omega), ?_⟩)
  rw [nI_clamp (by omega), hms i (by omega)]
  exact h ms
theorem p_wood7 {n l : Nat} (hn : n ≤ 9) (hl : l < n) {ln pl : Nat → Int32} {tr : Int64} {d : Nat → Int} {x : Int32} (hpl : ∀ j, j ≤ n → pl j = iI (mk d x j)) {Q : Int32 → Int64 → Prop} (h : Q (ln l + iI (mk d x l)) (tr + 10 + 1)) : wp_X3_asWood tr (nI n) ln (nI n) pl (nI l) Q := by
  unfold wp_X3_asWood
  rintro y rfl
  exact p_asLink hn hl (p_place hn (by omega) (hpl l (by omega)) h)
theorem p_wood8 {n l : Nat} (hn : n ≤ 9) (hl : l < n) {row ms0 : Nat → Int32} {tr : Int64} {d : Nat → Int} {x : Int32} (hd : DL n row (-9) 0 d) (hx : row 9 = x) {Q : Int32 → Int64 → (Nat → Int32) → Prop} (h : ∀ ms, Q (row l + iI (mk d x l)) (tr + 10 + 1) ms) : wp_X8_woodRate (nI n) tr row ms0 (nI l) Q := by
  unfold wp_X8_woodRate
  rintro y rfl
  exact p_linkRate hn hl (p_mark8 hn (by omega) hd hx h)
theorem p_brass7 {n l : Nat} (hn : n ≤ 9) (hl : l < n) {ln : Nat → Int32} {tr : Int64} {d : Nat → Int} {x : Int32} {Q : Int32 → Int64 → Prop} (h : Q (ln l - iI (sp d x n)) (tr + 100 + 1)) : wp_X3_asBrass tr (nI n) ln (iI (lo d x n)) (iI (hi d x n)) (nI l) Q := by
  unfold wp_X3_asBrass wp_X2_span
  rintro y rfl
  refine p_asLink hn hl ?_
  rw [iI_sub]
  exact h
theorem p_brass8 {n l : Nat} (hn : n ≤ 9) (hl : l < n) {row ms0 : Nat → Int32} {tr : Int64} {d : Nat → Int} {x : Int32} (hd : DL n row (-9) 0 d) (hx : row 9 = x) {Q : Int32 → Int64 → (Nat → Int32) → Prop} (h : ∀ ms, Q (row l - iI (sp d x n)) (tr + 100 + 1) ms) : wp_X8_brassRate (nI n) tr row ms0 (nI l) Q := by
  unfold wp_X8_brassRate
  rintro y rfl
  refine p_linkRate hn hl ⟨by unfold vp_in; decide, ?_⟩
  show wp_X8_spanBy (nI n) ms0 row (row 9) _
  rw [hx]
  exact p_spanBy hn hd (fun ms _ => h ms)
theorem ex_gap {Z : Int → Prop} (hz : ¬ Z 181) : ∀ (r i : Nat), i + r = 181 → 1 ≤ i → (∀ j : Nat, 1 ≤ j → j < i → Z j) → ∃ g : Nat, 1 ≤ g ∧ g ≤ 181 ∧ ¬ Z g ∧ ∀ j : Nat, 1 ≤ j → j < g → Z j
  | 0, i, h, h1, hj => ⟨i, h1, by omega, by have e : i = 181 := by omega
                                            subst e; exact hz, hj⟩
  | r + 1, i, h, h1, hj => by
    by_cases q : Z i
    · refine ex_gap hz r (i + 1) (by omega) (by omega) (fun j a b => ?_)
      by_cases e : j = i
      · subst e; exact q
      · exact hj j a (by omega)
    · exact ⟨i, h1, by omega, q, hj⟩
theorem p_gap7 {m7 pl : Nat → Int32} {a b c : Int32} {Z : Int → Prop} (h7 : ∀ j : Nat, 1 ≤ j → j ≤ 180 → (m7 j = 0 ↔ ¬ Z j)) {g : Nat} (g2 : g ≤ 181) (g3 : ¬ Z g) (g4 : ∀ j : Nat, 1 ≤ j → j < g → Z j) {Q7 : Int32 → (Nat → Int32) → Int32 → Int32 → Int32 → (Nat → Int32) → Prop} (hQ : Q7 (nI g) m7 a b c pl) : ∀ (r i : Nat), i + r = g → 1 ≤ i → itr1 (B_X0_gap_7 m7 a b c pl Q7) (r + 1) (nI i) := by
  intro r
  induction r with
  | zero =>
    intro i hi h1
    have e : i = g := by omega
    subst e
    show B_X0_gap_7 _ _ _ _ _ _ _ _
    unfold B_X0_gap_7
    refine ⟨fun _ => hQ, fun q => ?_⟩
    have hi2 : i ≤ 180 := by
      rcases Nat.lt_or_ge 180 i with z | z
      · exact absurd (nI_lt (a := 180) (b := i) z (by omega)) q
      · exact z
    rw [nI_clamp (by omega)]
    exact ⟨vp_in_nI (by omega) (by omega), fun _ => hQ, fun z => absurd ((h7 i h1 hi2).mpr g3) z⟩
  | succ r ih =>
    intro i hi h1
    show B_X0_gap_7 _ _ _ _ _ _ _ _
    generalize itr1 (B_X0_gap_7 m7 a b c pl Q7) (r + 1) = K at ih ⊢
    have hih := ih (i + 1) (by omega) (by omega)
    unfold B_X0_gap_7
    rw [nI_clamp (by omega)]
    refine ⟨fun q => absurd q (nI_nlt (a := 180) (b := i) (by omega) (by omega)), fun _ => ⟨vp_in_nI (by omega) (by omega), fun z => absurd (g4 i h1 (by omega)) ((h7 i h1 (by omega)).mp z), fun _ y e => ?_⟩⟩
    rw [e, nI_1]; exact hih
theorem p_gap8 {m8 ms : Nat → Int32} {Z : Int → Prop} (h8 : ∀ j : Nat, 1 ≤ j → j ≤ 181 → (m8 j = 0 ↔ ¬ Z j)) {g : Nat} (g2 : g ≤ 181) (g3 : ¬ Z g) (g4 : ∀ j : Nat, 1 ≤ j → j < g → Z j) {Q8 : Int32 → (Nat → Int32) → (Nat → Int32) → Prop} (hQ : Q8 (nI g) m8 ms) : ∀ (r i : Nat), i + r = g → 1 ≤ i → itr1 (B_X8_gap_6 m8 ms Q8) (r + 1) (nI i) := by
  intro r
  induction r with
  | zero =>
    intro i hi h1
    have e : i = g := by omega
    subst e
    show B_X8_gap_6 _ _ _ _ _
    unfold B_X8_gap_6
    rw [nI_clamp (by omega)]
    exact ⟨vp_in_nI (by omega) (by omega), fun _ => hQ, fun z => absurd ((h8 i h1 g2).mpr g3) z⟩
  | succ r ih =>
    intro i hi h1
    show B_X8_gap_6 _ _ _ _ _
    generalize itr1 (B_X8_gap_6 m8 ms Q8) (r + 1) = K at ih ⊢
    have hih := ih (i + 1) (by omega) (by omega)
    unfold B_X8_gap_6
    rw [nI_clamp (by omega)]
    refine ⟨vp_in_nI (by omega) (by omega), fun z => absurd (g4 i h1 (by omega)) ((h8 i h1 (by omega)).mp z), fun _ y e => ?_⟩
    rw [e, nI_1]; exact hih

set_option maxHeartbeats 2000000 in
theorem st_link : Step_link Inv := by
  intro g1_text_size g1_text_place g1_text_items g1_text_letters g2_links g2_undos g2_length g2_seenMany g2_trace g2_at g2_behind g2_number g2_readLinks g2_readFolded g2_readStiff g2_wayMany g2_text g1_told_links g1_told_folded g1_told_stiff g1_told_lengths g1_strip_links g1_strip_folded g1_strip_stiff g1_strip_lengths g1_history_slot g1_history_size g1_sightings_size g1_kept g2_readLong g2_row g2_isKept g1_lay_links g1_lay_low g1_lay_high g1_lay_places g2_marks g1_folds_measured g1_folds_lay_links g1_folds_lay_low g1_folds_lay_high g1_folds_lay_places g2_isMeasured g1_history_steps_E_links g1_history_steps_E_folded g1_history_steps_E_stiff g1_history_steps_E_lengths g1_sightings_seenFolds g1_sightings_seenSpans g2_seenFold g2_seenSpan g1_sightings_lay_links g1_sightings_lay_low g1_sightings_lay_high g1_sightings_lay_places g1_sightings_isWay g2_waysAre g1_sightings_tally g2_haveSpan g1_rater_traced g1_images_E_links g1_images_E_folded g1_images_E_stiff g1_images_E_lengths x1 x2 hI
  obtain ⟨n, hn, hL, hT, hS, hH, hM, hE, hR, hp, hf⟩ := id hI
  obtain ⟨s1, s2, s3, s4, s5⟩ := id hS
  subst s1
  subst hL
  have e9 : g2_row ((9 : Int32)).toNatClampNeg = g1_strip_folded := s3.symm
  have e10 : g2_row ((10 : Int32)).toNatClampNeg = g1_strip_stiff := s4.symm
  have hd7 := SR.D7 hn hS
  have hd8 := SR.D8 hn hS
  have hd1 : ∀ l, l < n → 1 ≤ dO g1_strip_lengths l := fun l hl => (s5.d l hl).1
  have hb := hd7.b (Nat.le_refl n)
  have h9 : g2_row 9 = g1_strip_folded := s3.symm
  unfold wp_X7_link
  refine p_link7 hn (fun l hl el => bn1 ?_) (fun c => bn0 ?_)
  · subst el
    have no8 : ¬ ((nI l).toInt < 0 ∨ (n : Int) ≤ (nI l).toInt) := fun c => no_ix hl (by omega) c
    refine ⟨fun c => ?_, fun c => ?_, fun c0 c1 => ?_⟩
    · subst c
      refine p_len7 hn hl ?_
      unfold wp_X8_link
      refine p_link8 hn (fun _ _ _ => be1 ?_) (fun c => absurd c no8)
      refine p_in8 (fun _ _ => bn1 ⟨fun q => absurd rfl q, fun _ => ?_⟩) (fun q => absurd q (by rw [t_0, t_1]; omega))
      rw [Int32.zero_add, nI_clamp (by omega)]
      refine ⟨vp_in_nI (by omega) (by omega), ?_, hI⟩
      have := s2 l hl
      rw [Nat.zero_add] at this
      exact this
    · subst c
      refine p_layNow hn hd7 (fun pl h0 h1 => p_others7 hn hl hb (all_pl (h0.trans hp) h1) ?_)
      unfold wp_X8_link
      refine p_link8 hn (fun _ _ _ => be1 ?_) (fun c => absurd c no8)
      refine p_in8 (fun _ _ => bn1 ⟨fun _ => ?_, fun q => absurd q (by decide)⟩) (fun q => absurd q (by rw [t_0, t_1]; omega))
      exact p_others8 hn hl hd8 hd1 h9 (fun ms => ⟨rfl, n, hn, rfl, hT, hS, hH, hM, hE, hR, h0.trans hp, hf⟩)
    · unfold wp_X8_link
      refine p_link8 hn (fun _ _ _ => be1 ?_) (fun c => absurd c no8)
      refine p_in8 (fun a b => ?_) (fun _ => bn0 ⟨rfl, hI⟩)
      rw [t_0] at a
      rw [t_1] at b
      obtain ⟨i, hi, rfl⟩ := ix (x := x2) (N := 2) a (by push_cast; omega)
      have : i = 0 ∨ i = 1 := by omega
      rcases this with rfl | rfl
      · exact absurd rfl c0
      · exact absurd rfl c1
  · unfold wp_X8_link
    exact p_link8 hn (fun j hj ej => absurd c (by rw [ej]; exact fun c => no_ix hj (by omega) c)) (fun _ => be0 ⟨rfl, hI⟩)
set_option maxHeartbeats 2000000 in
theorem st_rate : Step_rate Inv := by
  intro g1_text_size g1_text_place g1_text_items g1_text_letters g2_links g2_undos g2_length g2_seenMany g2_trace g2_at g2_behind g2_number g2_readLinks g2_readFolded g2_readStiff g2_wayMany g2_text g1_told_links g1_told_folded g1_told_stiff g1_told_lengths g1_strip_links g1_strip_folded g1_strip_stiff g1_strip_lengths g1_history_slot g1_history_size g1_sightings_size g1_kept g2_readLong g2_row g2_isKept g1_lay_links g1_lay_low g1_lay_high g1_lay_places g2_marks g1_folds_measured g1_folds_lay_links g1_folds_lay_low g1_folds_lay_high g1_folds_lay_places g2_isMeasured g1_history_steps_E_links g1_history_steps_E_folded g1_history_steps_E_stiff g1_history_steps_E_lengths g1_sightings_seenFolds g1_sightings_seenSpans g2_seenFold g2_seenSpan g1_sightings_lay_links g1_sightings_lay_low g1_sightings_lay_high g1_sightings_lay_places g1_sightings_isWay g2_waysAre g1_sightings_tally g2_haveSpan g1_rater_traced g1_images_E_links g1_images_E_folded g1_images_E_stiff g1_images_E_lengths x1 x2 hI
  obtain ⟨n, hn, hL, hT, hS, hH, hM, hE, hR, hp, hf⟩ := id hI
  obtain ⟨s1, s2, s3, s4, s5⟩ := id hS
  subst s1
  subst hL
  have e9 : g2_row ((9 : Int32)).toNatClampNeg = g1_strip_folded := s3.symm
  have e10 : g2_row ((10 : Int32)).toNatClampNeg = g1_strip_stiff := s4.symm
  have hd7 := SR.D7 hn hS
  have hd8 := SR.D8 hn hS
  have hd1 : ∀ l, l < n → 1 ≤ dO g1_strip_lengths l := fun l hl => (s5.d l hl).1
  have hb := hd7.b (Nat.le_refl n)
  have h9 : g2_row 9 = g1_strip_folded := s3.symm
  obtain ⟨hR, hW⟩ := hR
  subst hR
  have t5 : (5 : Int32).toInt = 5 := rfl
  unfold wp_X7_rate
  refine p_in7 (fun a b => be1 ?_) (fun c => be0 ?_)
  · have h6 : x1 = (0 : Int32) ∨ x1 = (1 : Int32) ∨ x1 = (2 : Int32) ∨ x1 = (3 : Int32) ∨ x1 = (4 : Int32) ∨ x1 = (5 : Int32) := by
      rw [t_0] at a
      rw [t5] at b
      obtain ⟨i, hi, e⟩ := ix (x := x1) (N := 6) a (by push_cast; omega)
      have : i = 0 ∨ i = 1 ∨ i = 2 ∨ i = 3 ∨ i = 4 ∨ i = 5 := by omega
      rcases this with rfl | rfl | rfl | rfl | rfl | rfl
      · exact Or.inl e
      · exact Or.inr (Or.inl e)
      · exact Or.inr (Or.inr (Or.inl e))
      · exact Or.inr (Or.inr (Or.inr (Or.inl e)))
      · exact Or.inr (Or.inr (Or.inr (Or.inr (Or.inl e))))
      · exact Or.inr (Or.inr (Or.inr (Or.inr (Or.inr (e)))))
    refine p_link7 hn (fun l hl el => bn1 ?_) (fun c => bn0 ?_)
    · subst el
      have no8 : ¬ ((nI l).toInt < 0 ∨ (n : Int) ≤ (nI l).toInt) := fun c => no_ix hl (by omega) c
      have er : g1_strip_lengths l = g2_row l := by
        have := s2 l hl
        rw [Nat.zero_add] at this
        exact this
      refine p_layNow hn hd7 (fun pl h0 h1 => ?_)
      have hpl := all_pl (h0.trans hp) h1
      have fin : ∀ a : Int32, ∀ t : Int64, ∀ x, a = x → True := fun _ _ _ _ => trivial
      unfold wp_X3_rateAs
      rcases h6 with rfl | rfl | rfl | rfl | rfl | rfl
      · refine ⟨fun _ => ?_, fun d => absurd d (by decide), fun d => absurd d (by decide), fun d => absurd d (by decide), fun d => absurd d (by decide), fun d => absurd d (by decide), fun d0 d1 d2 d3 d4 d5 => absurd rfl d0⟩
        refine p_asLink hn hl ?_
        unfold wp_X8_rate
        refine p_in8 (fun _ _ => be1 (p_link8 hn (fun _ _ _ => bn1 ?_) (fun c => absurd c no8))) (fun c => absurd c (by decide))
        refine ⟨fun d => absurd d (by decide), fun d => absurd d (by decide), fun d => absurd d (by decide), fun d => absurd d (by decide), fun d => absurd d (by decide), fun d1 d2 d3 d4 d5 => ?_⟩
        exact p_linkRate hn hl ⟨er, n, hn, rfl, hT, hS, hH, hM, hE, ⟨rfl, hW⟩, h0.trans hp, hf⟩
      · refine ⟨fun d => absurd d (by decide), fun _ => ?_, fun d => absurd d (by decide), fun d => absurd d (by decide), fun d => absurd d (by decide), fun d => absurd d (by decide), fun d0 d1 d2 d3 d4 d5 => absurd rfl d1⟩
        refine p_wood7 hn hl hpl ?_
        unfold wp_X8_rate
        refine p_in8 (fun _ _ => be1 (p_link8 hn (fun _ _ _ => bn1 ?_) (fun c => absurd c no8))) (fun c => absurd c (by decide))
        refine ⟨fun _ => ?_, fun d => absurd d (by decide), fun d => absurd d (by decide), fun d => absurd d (by decide), fun d => absurd d (by decide), fun d1 d2 d3 d4 d5 => absurd rfl d1⟩
        exact p_wood8 hn hl hd8 h9 (fun ms => ⟨by rw [er], n, hn, rfl, hT, hS, hH, hM, hE, ⟨rfl, hW⟩, h0.trans hp, hf⟩)
      · refine ⟨fun d => absurd d (by decide), fun d => absurd d (by decide), fun _ => ?_, fun d => absurd d (by decide), fun d => absurd d (by decide), fun d => absurd d (by decide), fun d0 d1 d2 d3 d4 d5 => absurd rfl d2⟩
        refine p_brass7 hn hl ?_
        unfold wp_X8_rate
        refine p_in8 (fun _ _ => be1 (p_link8 hn (fun _ _ _ => bn1 ?_) (fun c => absurd c no8))) (fun c => absurd c (by decide))
        refine ⟨fun d => absurd d (by decide), fun _ => ?_, fun d => absurd d (by decide), fun d => absurd d (by decide), fun d => absurd d (by decide), fun d1 d2 d3 d4 d5 => absurd rfl d2⟩
        exact p_brass8 hn hl hd8 h9 (fun ms => ⟨by rw [er], n, hn, rfl, hT, hS, hH, hM, hE, ⟨rfl, hW⟩, h0.trans hp, hf⟩)
      · refine ⟨fun d => absurd d (by decide), fun d => absurd d (by decide), fun d => absurd d (by decide), fun _ => ?_, fun d => absurd d (by decide), fun d => absurd d (by decide), fun d0 d1 d2 d3 d4 d5 => absurd rfl d3⟩
        unfold wp_X3_asBeech
        rintro y rfl
        refine p_wood7 hn hl hpl ?_
        unfold wp_X8_rate
        refine p_in8 (fun _ _ => be1 (p_link8 hn (fun _ _ _ => bn1 ?_) (fun c => absurd c no8))) (fun c => absurd c (by decide))
        refine ⟨fun d => absurd d (by decide), fun d => absurd d (by decide), fun _ => ?_, fun d => absurd d (by decide), fun d => absurd d (by decide), fun d1 d2 d3 d4 d5 => absurd rfl d3⟩
        rintro y rfl
        exact p_wood8 hn hl hd8 h9 (fun ms => ⟨by rw [er], n, hn, rfl, hT, hS, hH, hM, hE, ⟨rfl, hW⟩, h0.trans hp, hf⟩)
      · refine ⟨fun d => absurd d (by decide), fun d => absurd d (by decide), fun d => absurd d (by decide), fun d => absurd d (by decide), fun _ => ?_, fun d => absurd d (by decide), fun d0 d1 d2 d3 d4 d5 => absurd rfl d4⟩
        unfold wp_X3_asTip
        rintro y rfl
        refine p_brass7 hn hl ?_
        unfold wp_X8_rate
        refine p_in8 (fun _ _ => be1 (p_link8 hn (fun _ _ _ => bn1 ?_) (fun c => absurd c no8))) (fun c => absurd c (by decide))
        refine ⟨fun d => absurd d (by decide), fun d => absurd d (by decide), fun d => absurd d (by decide), fun _ => ?_, fun d => absurd d (by decide), fun d1 d2 d3 d4 d5 => absurd rfl d4⟩
        rintro y rfl
        exact p_brass8 hn hl hd8 h9 (fun ms => ⟨by rw [er], n, hn, rfl, hT, hS, hH, hM, hE, ⟨rfl, hW⟩, h0.trans hp, hf⟩)
      · refine ⟨fun d => absurd d (by decide), fun d => absurd d (by decide), fun d => absurd d (by decide), fun d => absurd d (by decide), fun d => absurd d (by decide), fun _ => ?_, fun d0 d1 d2 d3 d4 d5 => absurd rfl d5⟩
        unfold wp_X3_asIvory
        rintro y rfl
        refine p_asLink hn hl (p_stack7 hn hb hpl ?_)
        unfold wp_X8_rate
        refine p_in8 (fun _ _ => be1 (p_link8 hn (fun _ _ _ => bn1 ?_) (fun c => absurd c no8))) (fun c => absurd c (by decide))
        refine ⟨fun d => absurd d (by decide), fun d => absurd d (by decide), fun d => absurd d (by decide), fun d => absurd d (by decide), fun _ => ?_, fun d1 d2 d3 d4 d5 => absurd rfl d5⟩
        rintro y rfl
        exact p_linkRate hn hl (p_stack8 hn hd8 hd1 h9 (fun ms => ⟨by rw [er], n, hn, rfl, hT, hS, hH, hM, hE, ⟨rfl, hW⟩, h0.trans hp, hf⟩))
    · unfold wp_X8_rate
      exact p_in8 (fun _ _ => be1 (p_link8 hn (fun j hj ej => absurd c (by rw [ej]; exact fun c => no_ix hj (by omega) c)) (fun _ => bn0 ⟨rfl, hI⟩))) (fun _ => be0 ⟨rfl, hI⟩)
  · unfold wp_X8_rate
    exact p_in8 (fun a b => absurd c (by omega)) (fun _ => be0 ⟨rfl, hI⟩)
set_option maxHeartbeats 2000000 in
theorem st_now : Step_now Inv := by
  intro g1_text_size g1_text_place g1_text_items g1_text_letters g2_links g2_undos g2_length g2_seenMany g2_trace g2_at g2_behind g2_number g2_readLinks g2_readFolded g2_readStiff g2_wayMany g2_text g1_told_links g1_told_folded g1_told_stiff g1_told_lengths g1_strip_links g1_strip_folded g1_strip_stiff g1_strip_lengths g1_history_slot g1_history_size g1_sightings_size g1_kept g2_readLong g2_row g2_isKept g1_lay_links g1_lay_low g1_lay_high g1_lay_places g2_marks g1_folds_measured g1_folds_lay_links g1_folds_lay_low g1_folds_lay_high g1_folds_lay_places g2_isMeasured g1_history_steps_E_links g1_history_steps_E_folded g1_history_steps_E_stiff g1_history_steps_E_lengths g1_sightings_seenFolds g1_sightings_seenSpans g2_seenFold g2_seenSpan g1_sightings_lay_links g1_sightings_lay_low g1_sightings_lay_high g1_sightings_lay_places g1_sightings_isWay g2_waysAre g1_sightings_tally g2_haveSpan g1_rater_traced g1_images_E_links g1_images_E_folded g1_images_E_stiff g1_images_E_lengths x1 hI
  obtain ⟨n, hn, hL, hT, hS, hH, hM, hE, hR, hp, hf⟩ := id hI
  obtain ⟨s1, s2, s3, s4, s5⟩ := id hS
  subst s1
  subst hL
  have e9 : g2_row ((9 : Int32)).toNatClampNeg = g1_strip_folded := s3.symm
  have e10 : g2_row ((10 : Int32)).toNatClampNeg = g1_strip_stiff := s4.symm
  have hd7 := SR.D7 hn hS
  have hd8 := SR.D8 hn hS
  have hd1 : ∀ l, l < n → 1 ≤ dO g1_strip_lengths l := fun l hl => (s5.d l hl).1
  have hb := hd7.b (Nat.le_refl n)
  have h9 : g2_row 9 = g1_strip_folded := s3.symm
  obtain ⟨sv, ⟨F, hF, eF⟩, ⟨T, hTT, eT⟩⟩ := id s5
  subst eF; subst eT
  have hpw := pw hn
  have hsp : ∀ f, f < 2 ^ (n - 1) → fB F T f = true → spF (dO g1_strip_lengths) n f < 181 ∧ spF (dO g1_strip_lengths) n f < 99999 := fun f _ _ => by have := spF_b hn hb f; omega
  have hen : ∀ f, f < 2 ^ (n - 1) → (-180 : Int) ≤ enF (dO g1_strip_lengths) n f ∧ (-99999 : Int) ≤ enF (dO g1_strip_lengths) n f := fun f _ => by have := enF_b hn hb f; omega
  unfold wp_X7_now
  refine ⟨fun c => ?_, fun c => ?_, fun c => ?_, fun c => ?_, fun c => ?_, fun c => ?_, fun c => ?_, fun c => ?_, fun c0 c1 c2 c3 c4 c5 c6 c7 => ?_⟩
  · subst c
    refine p_spanNow7 hn hd7 (fun pl h0 h1 => ?_)
    unfold wp_X8_now
    refine ⟨fun _ => ?_, fun d => absurd d (by decide), fun d => absurd d (by decide), fun d => absurd d (by decide), fun d => absurd d (by decide), fun d => absurd d (by decide), fun d => absurd d (by decide), fun d => absurd d (by decide), fun d0 d1 d2 d3 d4 d5 d6 d7 => absurd rfl d0⟩
    refine ⟨by unfold vp_in; decide, ?_⟩
    rw [e9]
    exact p_spanBy hn hd8 (fun ms hms => ⟨rfl, n, hn, rfl, hT, hS, hH, hM, hE, hR, h0.trans hp, hf⟩)
  · subst c
    refine p_layNow hn hd7 (fun pl h0 h1 => p_stack7 hn hb (all_pl (h0.trans hp) h1) ?_)
    unfold wp_X8_now
    refine ⟨fun d => absurd d (by decide), fun _ => ?_, fun d => absurd d (by decide), fun d => absurd d (by decide), fun d => absurd d (by decide), fun d => absurd d (by decide), fun d => absurd d (by decide), fun d => absurd d (by decide), fun d0 d1 d2 d3 d4 d5 d6 d7 => absurd rfl d1⟩
    exact p_stack8 hn hd8 hd1 h9 (fun ms => ⟨rfl, n, hn, rfl, hT, hS, hH, hM, hE, hR, h0.trans hp, hf⟩)
  · subst c
    unfold wp_X8_now
    refine ⟨fun d => absurd d (by decide), fun d => absurd d (by decide), fun _ => ?_, fun d => absurd d (by decide), fun d => absurd d (by decide), fun d => absurd d (by decide), fun d => absurd d (by decide), fun d => absurd d (by decide), fun d0 d1 d2 d3 d4 d5 d6 d7 => absurd rfl d2⟩
    exact ⟨by unfold vp_in; decide, e9.symm, hI⟩
  · subst c
    unfold wp_X0_leastSpan wp_X2_layOut wp_X2_span
    refine p_least7 hn hTT hd7 (fun a b c pl0 h00 => p_lay hn hd7 (fun pl h0 h1 => ?_))
    have h0 := h0.trans h00
    unfold wp_X8_now
    refine ⟨fun d => absurd d (by decide), fun d => absurd d (by decide), fun d => absurd d (by decide), fun _ => ?_, fun d => absurd d (by decide), fun d => absurd d (by decide), fun d => absurd d (by decide), fun d => absurd d (by decide), fun d0 d1 d2 d3 d4 d5 d6 d7 => absurd rfl d3⟩
    refine p_least8 hn hTT e9 e10 hd8 (fun ms0 => p_spanBy hn hd8 (fun ms hms => ⟨?_, n, hn, rfl, hT, hS, hH, hM, hE, hR, hp, h0.trans hf⟩))
    rw [iI_sub, bst_1 hsp]
    rfl
  · subst c
    refine p_least7 hn hTT hd7 (fun a b c pl h0 => ?_)
    unfold wp_X8_now
    refine ⟨fun d => absurd d (by decide), fun d => absurd d (by decide), fun d => absurd d (by decide), fun d => absurd d (by decide), fun _ => ?_, fun d => absurd d (by decide), fun d => absurd d (by decide), fun d => absurd d (by decide), fun d0 d1 d2 d3 d4 d5 d6 d7 => absurd rfl d4⟩
    exact p_least8 hn hTT e9 e10 hd8 (fun ms0 => ⟨by rw [bst_1 hsp], n, hn, rfl, hT, hS, hH, hM, hE, hR, hp, h0.trans hf⟩)
  · subst c
    refine p_most7 hn hTT hf hd7 (fun a b c pl h0 => ?_)
    unfold wp_X8_now
    refine ⟨fun d => absurd d (by decide), fun d => absurd d (by decide), fun d => absurd d (by decide), fun d => absurd d (by decide), fun d => absurd d (by decide), fun _ => ?_, fun d => absurd d (by decide), fun d => absurd d (by decide), fun d0 d1 d2 d3 d4 d5 d6 d7 => absurd rfl d5⟩
    refine p_most8 hn hTT e9 e10 hd8 (fun ms0 => ⟨?_, n, hn, rfl, hT, hS, hH, hM, hE, hR, hp, h0⟩)
    rcases mst_eq (ok := fB F T) (2 ^ (n - 1)) hen with q | ⟨-, -, q⟩
    · rw [q]
    · exact absurd (q F hF) (by rw [show fB F T F = true from decide_eq_true rfl]; decide)
  · subst c
    obtain ⟨g, g1, g2, g3, g4⟩ := ex_gap (Z := MA F T (dO g1_strip_lengths) n (2 ^ (n - 1))) (MA_181 hn hb) 180 1 (by omega) (by omega) (fun j a b => absurd a (by omega))
    unfold wp_X0_gap
    refine p_meas7 hn hTT hf hd7 (fun m1 a b c pl h0 h7 => ⟨_, p_gap7 h7 g2 g3 g4 ?_ (g - 1) 1 (by omega) (by omega)⟩)
    unfold wp_X8_now
    refine ⟨fun d => absurd d (by decide), fun d => absurd d (by decide), fun d => absurd d (by decide), fun d => absurd d (by decide), fun d => absurd d (by decide), fun d => absurd d (by decide), fun _ => ?_, fun d => absurd d (by decide), fun d0 d1 d2 d3 d4 d5 d6 d7 => absurd rfl d6⟩
    unfold wp_X8_gap
    exact p_meas8 hn hTT e9 e10 hd8 (fun m2 ms h8 => ⟨_, p_gap8 h8 g2 g3 g4 ⟨rfl, n, hn, rfl, hT, hS, hH, hM, hE, hR, hp, h0⟩ (g - 1) 1 (by omega) (by omega)⟩)
  · subst c
    unfold wp_X8_now
    refine ⟨fun d => absurd d (by decide), fun d => absurd d (by decide), fun d => absurd d (by decide), fun d => absurd d (by decide), fun d => absurd d (by decide), fun d => absurd d (by decide), fun d => absurd d (by decide), fun _ => ?_, fun d0 d1 d2 d3 d4 d5 d6 d7 => absurd rfl d7⟩
    obtain ⟨k, s, k1, k2, k3, k4, k5, k6⟩ := id hH
    exact ⟨k3.trans k4.symm, hI⟩
  · unfold wp_X8_now
    exact ⟨fun d => absurd d c0, fun d => absurd d c1, fun d => absurd d c2, fun d => absurd d c3, fun d => absurd d c4, fun d => absurd d c5, fun d => absurd d c6, fun d => absurd d c7, fun _ _ _ _ _ _ _ _ => ⟨rfl, hI⟩⟩
