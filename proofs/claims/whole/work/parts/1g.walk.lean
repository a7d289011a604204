abbrev rm_X7_next : Room := { frames := 5, cells := 0, slots := 0, locals := 123 }
theorem in_X7_next_X7 : ∀ w ∈ wsX70, w ∈ wsX7_next := fun _ h => List.mem_cons_of_mem _ (List.mem_append_left _ (List.mem_append_left _ (List.mem_append_left _ (List.mem_append_right _ h))))
theorem k_X7_next_f58 {s : State} {args : Array Value} (hts : ∀ w ∈ wsX7_next, w.before args s = true) : (Cond.fieldLink RX7 58 "FoldRule" "sightings" "LFoldRule$Sightings;").before args s = true := hts _ (by decide +kernel)
theorem k_X7_next_f19 {s : State} {args : Array Value} (hts : ∀ w ∈ wsX7_next, w.before args s = true) : (Cond.fieldLink RX7 19 "FoldRule" "strip" "LFoldRule$Strip;").before args s = true := hts _ (by decide +kernel)
set_option maxHeartbeats 4000000 in
set_option maxRecDepth 100000 in
theorem c_X7_next {l : Launch} {D : va_G} {Y : ClassId × ClassId × ClassId} {q q_text q_strip q_told q_images q_kept q_history q_lay q_folds q_sightings q_rater q_strip_lengths q_sightings_seenFolds q_sightings_seenSpans q_sightings_isWay q_sightings_tally q_sightings_lay q_sightings_lay_places : Nat} {g_strip_links g_strip_folded g_strip_stiff : Int32} {g_strip_lengths : Nat → Int32} {g_sightings_size : Int32} {g_sightings_seenFolds : Nat → Int32} {g_sightings_lay_links g_sightings_lay_low g_sightings_lay_high : Int32} {g_sightings_lay_places g_sightings_seenSpans g_sightings_isWay g_sightings_tally : Nat → Int32} {Q : Int32 → Int32 → Int32 → Int32 → (Nat → Int32) → (Nat → Int32) → (Nat → Int32) → Prop} (h : wp_X7_next g_strip_links g_strip_folded g_strip_stiff g_strip_lengths g_sightings_size g_sightings_seenFolds g_sightings_lay_links g_sightings_lay_low g_sightings_lay_high g_sightings_lay_places g_sightings_seenSpans g_sightings_isWay g_sightings_tally Q) (sz : Nat) : MtI l yX7_next wsX7_next rm_X7_next [.ref q] D Y (w_X7_next Y q q_text q_strip q_told q_images q_kept q_history q_lay q_folds q_sightings q_rater q_strip_lengths q_sightings_seenFolds q_sightings_seenSpans q_sightings_isWay q_sightings_tally q_sightings_lay q_sightings_lay_places g_strip_links g_strip_folded g_strip_stiff g_strip_lengths g_sightings_size g_sightings_seenFolds g_sightings_lay_links g_sightings_lay_low g_sightings_lay_high g_sightings_lay_places g_sightings_seenSpans g_sightings_isWay g_sightings_tally) (fun r (u : Int32 × Int32 × Int32 × (Nat → Int32) × (Nat → Int32) × (Nat → Int32)) => Q r u.1 u.2.1 u.2.2.1 u.2.2.2.1 u.2.2.2.2.1 u.2.2.2.2.2) (fun u : Int32 × Int32 × Int32 × (Nat → Int32) × (Nat → Int32) × (Nat → Int32) => (w_X7_next Y q q_text q_strip q_told q_images q_kept q_history q_lay q_folds q_sightings q_rater q_strip_lengths q_sightings_seenFolds q_sightings_seenSpans q_sightings_isWay q_sightings_tally q_sightings_lay q_sightings_lay_places g_strip_links g_strip_folded g_strip_stiff g_strip_lengths g_sightings_size g_sightings_seenFolds u.1 u.2.1 u.2.2.1 u.2.2.2.1 g_sightings_seenSpans u.2.2.2.2.1 u.2.2.2.2.2)) sz := by
  refine ct_i (cc := cX7_next) (nL := 1) (ret := (some .int)) (by decide) rfl (Nat.le_of_ble_eq_true rfl) ?_ sz
  intro p e s m below meth c A ls C hK hA hP hD hS hl
  obtain ⟨⟨hx, hb, hml, hown, hts⟩, hr, hlocks, hN⟩ := id C
  have hown : s.vm.findClass RX7 = some m.cls := hown
  have hl : lv_has ls 1 [(0, .ref q)] := hl
  unfold wp_X7_next at h
  refine lv_aload_n hx hb dX7_next_0 rfl (lv_at hl 0 rfl) ?_
  refine va_get (D := D) (ci := 7) (v := .ref q_sightings) (C := RX7) (T := TX7) (N := 10) hx hb hts in_X7_next_X7 hown hK hP 0 rfl rfl 8 (by decide) (k_X7_next_f58 hts) (fun _ h9 => h9) rfl dX7_next_1 ?_
  refine lv_aload_n hx hb dX7_next_4 rfl (lv_at hl 0 rfl) ?_
  refine va_get (D := D) (ci := 7) (v := .ref q_strip) (C := RX7) (T := TX7) (N := 10) hx hb hts in_X7_next_X7 hown hK hP 0 rfl rfl 1 (by decide) (k_X7_next_f19 hts) (fun _ h9 => h9) rfl dX7_next_5 ?_
  have hp : Pt (w_X7_next Y q q_text q_strip q_told q_images q_kept q_history q_lay q_folds q_sightings q_rater q_strip_lengths q_sightings_seenFolds q_sightings_seenSpans q_sightings_isWay q_sightings_tally q_sightings_lay q_sightings_lay_places g_strip_links g_strip_folded g_strip_stiff g_strip_lengths g_sightings_size g_sightings_seenFolds g_sightings_lay_links g_sightings_lay_low g_sightings_lay_high g_sightings_lay_places g_sightings_seenSpans g_sightings_isWay g_sightings_tally) (w_X4_bestTry Y q_strip q_strip_lengths q_sightings q_sightings_seenFolds q_sightings_seenSpans q_sightings_isWay q_sightings_tally q_sightings_lay q_sightings_lay_places g_strip_links g_strip_folded g_strip_stiff g_strip_lengths g_sightings_size g_sightings_seenFolds g_sightings_lay_links g_sightings_lay_low g_sightings_lay_high g_sightings_lay_places g_sightings_seenSpans g_sightings_isWay g_sightings_tally) [1, 2, 3, 4, 5, 6, 7, 8, 9] := ⟨rfl, by decide +kernel⟩
  refine go_i hp hP hD hS hA (fun _ => rfl) (va_runV (As := [.ref q_strip]) (rest := []) ⟨hx, hb, hml, hown, hts⟩ (c_X4_bestTry h _) (cwV 1 hts gX7_next_X4_bestTry rfl rfl rfl (by decide +kernel) ⟨Nat.le_of_ble_eq_true rfl, Nat.le_of_ble_eq_true rfl⟩) (pre_V (b := q_sightings) (q0 := 2) (ci := 4) (q := (RX4, TX4, 6)) hp hK hN hP hD rfl rfl) rfl rfl hl.1 rfl (lv_room (Nat.le_of_ble_eq_true rfl)) dX7_next_8 ⟨Nat.le_of_ble_eq_true rfl, Nat.le_of_ble_eq_true rfl⟩) (fun r8 u H locs h hP hD hS => ?_)
  obtain ⟨u9, u10, u11, u12, u13, u14⟩ := u
  try dsimp only at h
  have hP : va_P D vwCl (w_X7_next Y q q_text q_strip q_told q_images q_kept q_history q_lay q_folds q_sightings q_rater q_strip_lengths q_sightings_seenFolds q_sightings_seenSpans q_sightings_isWay q_sightings_tally q_sightings_lay q_sightings_lay_places g_strip_links g_strip_folded g_strip_stiff g_strip_lengths g_sightings_size g_sightings_seenFolds u9 u10 u11 u12 g_sightings_seenSpans u13 u14) H := hP
  have hD : va_D A (w_X7_next Y q q_text q_strip q_told q_images q_kept q_history q_lay q_folds q_sightings q_rater q_strip_lengths q_sightings_seenFolds q_sightings_seenSpans q_sightings_isWay q_sightings_tally q_sightings_lay q_sightings_lay_places g_strip_links g_strip_folded g_strip_stiff g_strip_lengths g_sightings_size g_sightings_seenFolds u9 u10 u11 u12 g_sightings_seenSpans u13 u14) := hD
  exact ret_i (u9, u10, u11, u12, u13, u14) hx hb hr hlocks hK hP hD hS h dX7_next_11
abbrev rm_X7_rate : Room := { frames := 6, cells := 0, slots := 0, locals := 134 }
theorem in_X7_rate_X7 : ∀ w ∈ wsX70, w ∈ wsX7_rate := fun _ h => List.mem_cons_of_mem _ (List.mem_append_left _ (List.mem_append_left _ (List.mem_append_left _ (List.mem_append_right _ h))))
theorem k_X7_rate_c134 {s : State} {args : Array Value} (hts : ∀ w ∈ wsX7_rate, w.before args s = true) : (Cond.constant RX7 134 (-1000000)).before args s = true := hts _ (by decide +kernel)
theorem k_X7_rate_f19 {s : State} {args : Array Value} (hts : ∀ w ∈ wsX7_rate, w.before args s = true) : (Cond.fieldLink RX7 19 "FoldRule" "strip" "LFoldRule$Strip;").before args s = true := hts _ (by decide +kernel)
theorem k_X7_rate_f65 {s : State} {args : Array Value} (hts : ∀ w ∈ wsX7_rate, w.before args s = true) : (Cond.fieldLink RX7 65 "FoldRule" "rater" "LFoldRule$Rater;").before args s = true := hts _ (by decide +kernel)
set_option maxHeartbeats 4000000 in
set_option maxRecDepth 100000 in
theorem c_X7_rate {l : Launch} {D : va_G} {Y : ClassId × ClassId × ClassId} {q q_text q_strip q_told q_images q_kept q_history q_lay q_folds q_sightings q_rater q_strip_lengths q_lay_places : Nat} {g_strip_links g_strip_folded g_strip_stiff g_lay_links g_lay_low g_lay_high : Int32} {g_strip_lengths g_lay_places : Nat → Int32} {g_rater_traced : Int64} {x1 x2 : Int32} {Q : Int32 → Int32 → Int32 → Int32 → (Nat → Int32) → Int64 → Prop} (h : wp_X7_rate g_strip_links g_strip_folded g_lay_links g_lay_low g_lay_high g_strip_lengths g_lay_places g_rater_traced x1 x2 Q) (sz : Nat) : MtI l yX7_rate wsX7_rate rm_X7_rate [.ref q, .int x1, .int x2] D Y (w_X7_rate Y q q_text q_strip q_told q_images q_kept q_history q_lay q_folds q_sightings q_rater q_strip_lengths q_lay_places g_strip_links g_strip_folded g_strip_stiff g_lay_links g_lay_low g_lay_high g_strip_lengths g_lay_places g_rater_traced) (fun r (u : Int32 × Int32 × Int32 × (Nat → Int32) × Int64) => Q r u.1 u.2.1 u.2.2.1 u.2.2.2.1 u.2.2.2.2) (fun u : Int32 × Int32 × Int32 × (Nat → Int32) × Int64 => (w_X7_rate Y q q_text q_strip q_told q_images q_kept q_history q_lay q_folds q_sightings q_rater q_strip_lengths q_lay_places g_strip_links g_strip_folded g_strip_stiff u.1 u.2.1 u.2.2.1 g_strip_lengths u.2.2.2.1 u.2.2.2.2)) sz := by
  refine ct_i (cc := cX7_rate) (nL := 3) (ret := (some .int)) (by decide) rfl (Nat.le_of_ble_eq_true rfl) ?_ sz
  intro p e s m below meth c A ls C hK hA hP hD hS hl
  obtain ⟨⟨hx, hb, hml, hown, hts⟩, hr, hlocks, hN⟩ := id C
  have hown : s.vm.findClass RX7 = some m.cls := hown
  have hl : lv_has ls 3 [(0, .ref q), (1, .int x1), (2, .int x2)] := hl
  unfold wp_X7_rate at h
  refine lv_iload_n hx hb dX7_rate_0 rfl (lv_at hl 1 rfl) ?_
  refine lv_iconst (v := 0) hx hb dX7_rate_1 (by decide) ?_
  refine lv_iconst (v := 5) hx hb dX7_rate_2 (by decide) ?_
  have hp : Pt (w_X7_rate Y q q_text q_strip q_told q_images q_kept q_history q_lay q_folds q_sightings q_rater q_strip_lengths q_lay_places g_strip_links g_strip_folded g_strip_stiff g_lay_links g_lay_low g_lay_high g_strip_lengths g_lay_places g_rater_traced) (w_X7_isWithin Y ) [] := ⟨rfl, by decide +kernel⟩
  refine go_i hp hP hD hS hA (fun _ => rfl) (va_runS (As := [.int x1, .int (0 : Int32), .int (5 : Int32)]) (rest := []) ⟨hx, hb, hml, hown, hts⟩ (c_X7_isWithin h _) (va_cwS 3 hts gX7_rate_X7_isWithin rfl rfl rfl (by decide +kernel) ⟨Nat.le_of_ble_eq_true rfl, Nat.le_of_ble_eq_true rfl⟩) (pre_S hp hK hN hP hD) rfl rfl hl.1 rfl (lv_room (Nat.le_of_ble_eq_true rfl)) dX7_rate_3 ⟨Nat.le_of_ble_eq_true rfl, Nat.le_of_ble_eq_true rfl⟩) (fun r9 u H locs h hP hD hS => ?_)
  try dsimp only at h
  have hP : va_P D vwCl (w_X7_rate Y q q_text q_strip q_told q_images q_kept q_history q_lay q_folds q_sightings q_rater q_strip_lengths q_lay_places g_strip_links g_strip_folded g_strip_stiff g_lay_links g_lay_low g_lay_high g_strip_lengths g_lay_places g_rater_traced) H := hP
  have hD : va_D A (w_X7_rate Y q q_text q_strip q_told q_images q_kept q_history q_lay q_folds q_sightings q_rater q_strip_lengths q_lay_places g_strip_links g_strip_folded g_strip_stiff g_lay_links g_lay_low g_lay_high g_strip_lengths g_lay_places g_rater_traced) := hD
  refine lv_if_eq (tgt := 20) hx hb dX7_rate_6 (by decide) (fun c10 => ?_) (fun c10 => ?_)
  · have h := h.1 c10
    refine lv_ldc hx hb hown (k_X7_rate_c134 hts) dX7_rate_20 ?_
    exact ret_i (g_lay_links, g_lay_low, g_lay_high, g_lay_places, g_rater_traced) hx hb hr hlocks hK hP hD hS h dX7_rate_22
  · have h := h.2 c10
    refine lv_aload_n hx hb dX7_rate_9 rfl (lv_at hl 0 rfl) ?_
    refine va_get (D := D) (ci := 7) (v := .ref q_strip) (C := RX7) (T := TX7) (N := 10) hx hb hts in_X7_rate_X7 hown hK hP 0 rfl rfl 1 (by decide) (k_X7_rate_f19 hts) (fun _ h9 => h9) rfl dX7_rate_10 ?_
    refine lv_iload_n hx hb dX7_rate_13 rfl (lv_at hl 2 rfl) ?_
    have hp : Pt (w_X7_rate Y q q_text q_strip q_told q_images q_kept q_history q_lay q_folds q_sightings q_rater q_strip_lengths q_lay_places g_strip_links g_strip_folded g_strip_stiff g_lay_links g_lay_low g_lay_high g_strip_lengths g_lay_places g_rater_traced) (w_X5_hasLink Y q_strip q_strip_lengths g_strip_links g_strip_folded g_strip_stiff) [1] := ⟨rfl, by decide +kernel⟩
    refine go_i hp hP hD hS hA (fun _ => rfl) (va_runV (As := [.int x2]) (rest := []) ⟨hx, hb, hml, hown, hts⟩ (c_X5_hasLink h _) (cwV 1 hts gX7_rate_X5_hasLink rfl rfl rfl (by decide +kernel) ⟨Nat.le_of_ble_eq_true rfl, Nat.le_of_ble_eq_true rfl⟩) (pre_V (b := q_strip) (q0 := 0) (ci := 5) (q := (RX5, TX5, 4)) hp hK hN hP hD rfl rfl) rfl rfl hl.1 rfl (lv_room (Nat.le_of_ble_eq_true rfl)) dX7_rate_14 ⟨Nat.le_of_ble_eq_true rfl, Nat.le_of_ble_eq_true rfl⟩) (fun r11 u H locs h hP hD hS => ?_)
    try dsimp only at h
    have hP : va_P D vwCl (w_X7_rate Y q q_text q_strip q_told q_images q_kept q_history q_lay q_folds q_sightings q_rater q_strip_lengths q_lay_places g_strip_links g_strip_folded g_strip_stiff g_lay_links g_lay_low g_lay_high g_strip_lengths g_lay_places g_rater_traced) H := hP
    have hD : va_D A (w_X7_rate Y q q_text q_strip q_told q_images q_kept q_history q_lay q_folds q_sightings q_rater q_strip_lengths q_lay_places g_strip_links g_strip_folded g_strip_stiff g_lay_links g_lay_low g_lay_high g_strip_lengths g_lay_places g_rater_traced) := hD
    refine lv_if_ne (tgt := 23) hx hb dX7_rate_17 (by decide) (fun c12 => ?_) (fun c12 => ?_)
    · have h := h.1 c12
      refine lv_aload_n hx hb dX7_rate_23 rfl (lv_at hl 0 rfl) ?_
      refine va_get (D := D) (ci := 7) (v := .ref q_rater) (C := RX7) (T := TX7) (N := 10) hx hb hts in_X7_rate_X7 hown hK hP 0 rfl rfl 9 (by decide) (k_X7_rate_f65 hts) (fun _ h9 => h9) rfl dX7_rate_24 ?_
      refine lv_iload_n hx hb dX7_rate_27 rfl (lv_at hl 1 rfl) ?_
      refine lv_aload_n hx hb dX7_rate_28 rfl (lv_at hl 0 rfl) ?_
      refine va_get (D := D) (ci := 7) (v := .ref q_strip) (C := RX7) (T := TX7) (N := 10) hx hb hts in_X7_rate_X7 hown hK hP 0 rfl rfl 1 (by decide) (k_X7_rate_f19 hts) (fun _ h9 => h9) rfl dX7_rate_29 ?_
      refine lv_aload_n hx hb dX7_rate_32 rfl (lv_at hl 0 rfl) ?_
      have hp : Pt (w_X7_rate Y q q_text q_strip q_told q_images q_kept q_history q_lay q_folds q_sightings q_rater q_strip_lengths q_lay_places g_strip_links g_strip_folded g_strip_stiff g_lay_links g_lay_low g_lay_high g_strip_lengths g_lay_places g_rater_traced) (w_X7_layNow Y q q_text q_strip q_told q_images q_kept q_history q_lay q_folds q_sightings q_rater q_strip_lengths q_lay_places g_strip_links g_strip_folded g_strip_stiff g_lay_links g_lay_low g_lay_high g_strip_lengths g_lay_places) [0, 1, 2, 3, 4] := ⟨rfl, by decide +kernel⟩
      refine go_r hp hP hD hS hA (fun _ => rfl) (va_runV (As := []) (rest := [.ref q_strip, .int x1, .ref q_rater]) ⟨hx, hb, hml, hown, hts⟩ (c_X7_layNow h _) (cwV 0 hts gX7_rate_X7_layNow rfl rfl rfl (by decide +kernel) ⟨Nat.le_of_ble_eq_true rfl, Nat.le_of_ble_eq_true rfl⟩) (pre_V (b := q) (q0 := 0) (ci := 7) (q := (RX7, TX7, 10)) hp hK hN hP hD rfl rfl) rfl rfl hl.1 rfl (lv_room (Nat.le_of_ble_eq_true rfl)) dX7_rate_33 ⟨Nat.le_of_ble_eq_true rfl, Nat.le_of_ble_eq_true rfl⟩) (fun u H locs h hP hD hS => ?_)
      obtain ⟨u14, u15, u16, u17⟩ := u
      try dsimp only at h
      have hP : va_P D vwCl (w_X7_rate Y q q_text q_strip q_told q_images q_kept q_history q_lay q_folds q_sightings q_rater q_strip_lengths q_lay_places g_strip_links g_strip_folded g_strip_stiff u14 u15 u16 g_strip_lengths u17 g_rater_traced) H := hP
      have hD : va_D A (w_X7_rate Y q q_text q_strip q_told q_images q_kept q_history q_lay q_folds q_sightings q_rater q_strip_lengths q_lay_places g_strip_links g_strip_folded g_strip_stiff u14 u15 u16 g_strip_lengths u17 g_rater_traced) := hD
      refine lv_iload_n hx hb dX7_rate_36 rfl (lv_at hl 2 rfl) ?_
      have hp : Pt (w_X7_rate Y q q_text q_strip q_told q_images q_kept q_history q_lay q_folds q_sightings q_rater q_strip_lengths q_lay_places g_strip_links g_strip_folded g_strip_stiff u14 u15 u16 g_strip_lengths u17 g_rater_traced) (w_X3_rateAs Y q_rater q_strip q_strip_lengths q_lay q_lay_places g_rater_traced g_strip_links g_strip_folded g_strip_stiff g_strip_lengths u14 u15 u16 u17) [5, 1, 3, 2, 4] := ⟨rfl, by decide +kernel⟩
      refine go_i hp hP hD hS hA (fun _ => rfl) (va_runV (As := [.int x1, .ref q_strip, .ref q_lay, .int x2]) (rest := []) ⟨hx, hb, hml, hown, hts⟩ (c_X3_rateAs h _) (cwV 4 hts gX7_rate_X3_rateAs rfl rfl rfl (by decide +kernel) ⟨Nat.le_of_ble_eq_true rfl, Nat.le_of_ble_eq_true rfl⟩) (pre_V (b := q_rater) (q0 := 0) (ci := 3) (q := (RX3, TX3, 1)) hp hK hN hP hD rfl rfl) rfl rfl hl.1 rfl (lv_room (Nat.le_of_ble_eq_true rfl)) dX7_rate_37 ⟨Nat.le_of_ble_eq_true rfl, Nat.le_of_ble_eq_true rfl⟩) (fun r18 u H locs h hP hD hS => ?_)
      obtain ⟨u19, rfl⟩ : ∃ z, z = u := ⟨_, rfl⟩
      try dsimp only at h
      have hP : va_P D vwCl (w_X7_rate Y q q_text q_strip q_told q_images q_kept q_history q_lay q_folds q_sightings q_rater q_strip_lengths q_lay_places g_strip_links g_strip_folded g_strip_stiff u14 u15 u16 g_strip_lengths u17 u19) H := hP
      have hD : va_D A (w_X7_rate Y q q_text q_strip q_told q_images q_kept q_history q_lay q_folds q_sightings q_rater q_strip_lengths q_lay_places g_strip_links g_strip_folded g_strip_stiff u14 u15 u16 g_strip_lengths u17 u19) := hD
      exact ret_i (u14, u15, u16, u17, u19) hx hb hr hlocks hK hP hD hS h dX7_rate_40
    · have h := h.2 c12
      refine lv_ldc hx hb hown (k_X7_rate_c134 hts) dX7_rate_20 ?_
      exact ret_i (g_lay_links, g_lay_low, g_lay_high, g_lay_places, g_rater_traced) hx hb hr hlocks hK hP hD hS h dX7_rate_22
abbrev rm_X7_keep : Room := { frames := 5, cells := 0, slots := 0, locals := 111 }
theorem in_X7_keep_X7 : ∀ w ∈ wsX70, w ∈ wsX7_keep := fun _ h => List.mem_cons_of_mem _ (List.mem_append_left _ (List.mem_append_left _ (List.mem_append_right _ h)))
theorem k_X7_keep_f26 {s : State} {args : Array Value} (hts : ∀ w ∈ wsX7_keep, w.before args s = true) : (Cond.fieldLink RX7 26 "FoldRule" "images" "[LFoldRule$Strip;").before args s = true := hts _ (by decide +kernel)
theorem k_X7_keep_f19 {s : State} {args : Array Value} (hts : ∀ w ∈ wsX7_keep, w.before args s = true) : (Cond.fieldLink RX7 19 "FoldRule" "strip" "LFoldRule$Strip;").before args s = true := hts _ (by decide +kernel)
theorem k_X7_keep_f30 {s : State} {args : Array Value} (hts : ∀ w ∈ wsX7_keep, w.before args s = true) : (Cond.fieldLink RX7 30 "FoldRule" "kept" "[Z").before args s = true := hts _ (by decide +kernel)
set_option maxHeartbeats 4000000 in
set_option maxRecDepth 100000 in
theorem c_X7_keep {l : Launch} {D : va_G} {Y : ClassId × ClassId × ClassId} {q q_text q_strip q_told q_images q_kept q_history q_lay q_folds q_sightings q_rater : Nat} {q_images_E q_images_E_lengths : Nat → Nat} {q_strip_lengths q_lay_places : Nat} {g_images_E_links g_images_E_folded g_images_E_stiff : Nat → Int32} {g_strip_links g_strip_folded g_strip_stiff : Int32} {g_strip_lengths : Nat → Int32} {g_images_E_lengths : Nat → Nat → Int32} {g_kept : Nat → Int32} {g_lay_links g_lay_low g_lay_high : Int32} {g_lay_places : Nat → Int32} {x1 : Int32} {Q : Int32 → (Nat → Int32) → (Nat → Int32) → (Nat → Int32) → (Nat → Nat → Int32) → (Nat → Int32) → Int32 → Int32 → Int32 → (Nat → Int32) → Prop} (h : wp_X7_keep g_images_E_links g_images_E_folded g_images_E_stiff g_strip_links g_strip_folded g_strip_stiff g_strip_lengths g_images_E_lengths g_kept g_lay_links g_lay_low g_lay_high g_lay_places x1 Q) (sz : Nat) : MtI l yX7_keep wsX7_keep rm_X7_keep [.ref q, .int x1] D Y (w_X7_keep Y q q_text q_strip q_told q_images q_kept q_history q_lay q_folds q_sightings q_rater q_images_E q_images_E_lengths q_strip_lengths q_lay_places g_images_E_links g_images_E_folded g_images_E_stiff g_strip_links g_strip_folded g_strip_stiff g_strip_lengths g_images_E_lengths g_kept g_lay_links g_lay_low g_lay_high g_lay_places) (fun r (u : (Nat → Int32) × (Nat → Int32) × (Nat → Int32) × (Nat → Nat → Int32) × (Nat → Int32) × Int32 × Int32 × Int32 × (Nat → Int32)) => Q r u.1 u.2.1 u.2.2.1 u.2.2.2.1 u.2.2.2.2.1 u.2.2.2.2.2.1 u.2.2.2.2.2.2.1 u.2.2.2.2.2.2.2.1 u.2.2.2.2.2.2.2.2) (fun u : (Nat → Int32) × (Nat → Int32) × (Nat → Int32) × (Nat → Nat → Int32) × (Nat → Int32) × Int32 × Int32 × Int32 × (Nat → Int32) => (w_X7_keep Y q q_text q_strip q_told q_images q_kept q_history q_lay q_folds q_sightings q_rater q_images_E q_images_E_lengths q_strip_lengths q_lay_places u.1 u.2.1 u.2.2.1 g_strip_links g_strip_folded g_strip_stiff g_strip_lengths u.2.2.2.1 u.2.2.2.2.1 u.2.2.2.2.2.1 u.2.2.2.2.2.2.1 u.2.2.2.2.2.2.2.1 u.2.2.2.2.2.2.2.2)) sz := by
  refine ct_i (cc := cX7_keep) (nL := 2) (ret := (some .int)) (by decide) rfl (Nat.le_of_ble_eq_true rfl) ?_ sz
  intro p e s m below meth c A ls C hK hA hP hD hS hl
  obtain ⟨⟨hx, hb, hml, hown, hts⟩, hr, hlocks, hN⟩ := id C
  have hown : s.vm.findClass RX7 = some m.cls := hown
  have hl : lv_has ls 2 [(0, .ref q), (1, .int x1)] := hl
  unfold wp_X7_keep at h
  refine lv_iload_n hx hb dX7_keep_0 rfl (lv_at hl 1 rfl) ?_
  refine lv_iconst (v := 0) hx hb dX7_keep_1 (by decide) ?_
  refine lv_iconst (v := 1) hx hb dX7_keep_2 (by decide) ?_
  have hp : Pt (w_X7_keep Y q q_text q_strip q_told q_images q_kept q_history q_lay q_folds q_sightings q_rater q_images_E q_images_E_lengths q_strip_lengths q_lay_places g_images_E_links g_images_E_folded g_images_E_stiff g_strip_links g_strip_folded g_strip_stiff g_strip_lengths g_images_E_lengths g_kept g_lay_links g_lay_low g_lay_high g_lay_places) (w_X7_isWithin Y ) [] := ⟨rfl, by decide +kernel⟩
  refine go_i hp hP hD hS hA (fun _ => rfl) (va_runS (As := [.int x1, .int (0 : Int32), .int (1 : Int32)]) (rest := []) ⟨hx, hb, hml, hown, hts⟩ (c_X7_isWithin h _) (va_cwS 3 hts gX7_keep_X7_isWithin rfl rfl rfl (by decide +kernel) ⟨Nat.le_of_ble_eq_true rfl, Nat.le_of_ble_eq_true rfl⟩) (pre_S hp hK hN hP hD) rfl rfl hl.1 rfl (lv_room (Nat.le_of_ble_eq_true rfl)) dX7_keep_3 ⟨Nat.le_of_ble_eq_true rfl, Nat.le_of_ble_eq_true rfl⟩) (fun r12 u H locs h hP hD hS => ?_)
  try dsimp only at h
  have hP : va_P D vwCl (w_X7_keep Y q q_text q_strip q_told q_images q_kept q_history q_lay q_folds q_sightings q_rater q_images_E q_images_E_lengths q_strip_lengths q_lay_places g_images_E_links g_images_E_folded g_images_E_stiff g_strip_links g_strip_folded g_strip_stiff g_strip_lengths g_images_E_lengths g_kept g_lay_links g_lay_low g_lay_high g_lay_places) H := hP
  have hD : va_D A (w_X7_keep Y q q_text q_strip q_told q_images q_kept q_history q_lay q_folds q_sightings q_rater q_images_E q_images_E_lengths q_strip_lengths q_lay_places g_images_E_links g_images_E_folded g_images_E_stiff g_strip_links g_strip_folded g_strip_stiff g_strip_lengths g_images_E_lengths g_kept g_lay_links g_lay_low g_lay_high g_lay_places) := hD
  refine lv_if_ne (tgt := 11) hx hb dX7_keep_6 (by decide) (fun c13 => ?_) (fun c13 => ?_)
  · have h := h.1 c13
    refine lv_aload_n hx hb dX7_keep_11 rfl (lv_at hl 0 rfl) ?_
    refine va_get (D := D) (ci := 7) (v := .ref q_images) (C := RX7) (T := TX7) (N := 10) hx hb hts in_X7_keep_X7 hown hK hP 0 rfl rfl 3 (by decide) (k_X7_keep_f26 hts) (fun _ h9 => h9) rfl dX7_keep_12 ?_
    refine lv_iload_n hx hb dX7_keep_15 rfl (lv_at hl 1 rfl) ?_
    obtain ⟨hin, h⟩ := h
    refine va_aldq (n := 2) (f := fun j => some (q_images_E j)) (C := "FoldRule$Strip") hx hb hK hP 1 2 rfl rfl hin dX7_keep_16 ?_
    obtain ⟨k14, ek14⟩ : ∃ k : Nat, k = (x1).toNatClampNeg := ⟨_, rfl⟩
    have h := h k14 ek14
    have lk14 : k14 < 2 := by rw [ek14]; exact Nat.not_le.mp (fun q => hin (Or.inr q))
    rcases (show k14 = 0 ∨ k14 = 1 by omega) with rfl | rfl
    · refine W.eq (g2 := F0 m 17 ls [.ref (q_images_E 0)]) (by rw [← ek14]; rfl) ?_
      refine lv_aload_n hx hb dX7_keep_17 rfl (lv_at hl 0 rfl) ?_
      refine va_get (D := D) (ci := 7) (v := .ref q_strip) (C := RX7) (T := TX7) (N := 10) hx hb hts in_X7_keep_X7 hown hK hP 0 rfl rfl 1 (by decide) (k_X7_keep_f19 hts) (fun _ h9 => h9) rfl dX7_keep_18 ?_
      have hp : Pt (w_X7_keep Y q q_text q_strip q_told q_images q_kept q_history q_lay q_folds q_sightings q_rater q_images_E q_images_E_lengths q_strip_lengths q_lay_places g_images_E_links g_images_E_folded g_images_E_stiff g_strip_links g_strip_folded g_strip_stiff g_strip_lengths g_images_E_lengths g_kept g_lay_links g_lay_low g_lay_high g_lay_places) (w_X5_copyFrom Y (q_images_E 0) (q_images_E_lengths 0) q_strip q_strip_lengths (g_images_E_links 0) (g_images_E_folded 0) (g_images_E_stiff 0) g_strip_links g_strip_folded g_strip_stiff g_strip_lengths (g_images_E_lengths 0)) [2, 4, 5, 6] := ⟨rfl, by decide +kernel⟩
      refine go_v hp hP hD hS hA (fun _ => rfl) (va_runV (As := [.ref q_strip]) (rest := []) ⟨hx, hb, hml, hown, hts⟩ (c_X5_copyFrom h _) (cwV 1 hts gX7_keep_X5_copyFrom rfl rfl rfl (by decide +kernel) ⟨Nat.le_of_ble_eq_true rfl, Nat.le_of_ble_eq_true rfl⟩) (pre_V (b := (q_images_E 0)) (q0 := 0) (ci := 5) (q := (RX5, TX5, 4)) hp hK hN hP hD rfl rfl) rfl rfl hl.1 rfl (lv_room (Nat.le_of_ble_eq_true rfl)) dX7_keep_21 ⟨Nat.le_of_ble_eq_true rfl, Nat.le_of_ble_eq_true rfl⟩) (fun u H locs h hP hD hS => ?_)
      obtain ⟨u16, u17, u18, u19⟩ := u
      try dsimp only at h
      have hP : va_P D vwCl (w_X7_keep Y q q_text q_strip q_told q_images q_kept q_history q_lay q_folds q_sightings q_rater q_images_E q_images_E_lengths q_strip_lengths q_lay_places (va_up g_images_E_links 0 u16) (va_up g_images_E_folded 0 u17) (va_up g_images_E_stiff 0 u18) g_strip_links g_strip_folded g_strip_stiff g_strip_lengths (va_up g_images_E_lengths 0 u19) g_kept g_lay_links g_lay_low g_lay_high g_lay_places) H := hP
      have hD : va_D A (w_X7_keep Y q q_text q_strip q_told q_images q_kept q_history q_lay q_folds q_sightings q_rater q_images_E q_images_E_lengths q_strip_lengths q_lay_places (va_up g_images_E_links 0 u16) (va_up g_images_E_folded 0 u17) (va_up g_images_E_stiff 0 u18) g_strip_links g_strip_folded g_strip_stiff g_strip_lengths (va_up g_images_E_lengths 0 u19) g_kept g_lay_links g_lay_low g_lay_high g_lay_places) := hD
      refine lv_aload_n hx hb dX7_keep_24 rfl (lv_at hl 0 rfl) ?_
      refine va_get (D := D) (ci := 7) (v := .ref q_kept) (C := RX7) (T := TX7) (N := 10) hx hb hts in_X7_keep_X7 hown hK hP 0 rfl rfl 4 (by decide) (k_X7_keep_f30 hts) (fun _ h9 => h9) rfl dX7_keep_25 ?_
      refine lv_iload_n hx hb dX7_keep_28 rfl (lv_at hl 1 rfl) ?_
      refine lv_iconst (v := 1) hx hb dX7_keep_29 (by decide) ?_
      obtain ⟨hin, h⟩ := h
      refine va_zast hx hb hK hP hD hS 8 1 rfl rfl hin dX7_keep_30 (fun H locs hP hD hS => ?_)
      have hP : va_P D vwCl (w_X7_keep Y q q_text q_strip q_told q_images q_kept q_history q_lay q_folds q_sightings q_rater q_images_E q_images_E_lengths q_strip_lengths q_lay_places (va_up g_images_E_links 0 u16) (va_up g_images_E_folded 0 u17) (va_up g_images_E_stiff 0 u18) g_strip_links g_strip_folded g_strip_stiff g_strip_lengths (va_up g_images_E_lengths 0 u19) (upd g_kept (x1).toNatClampNeg (vp_nar .boolean (1 : Int32))) g_lay_links g_lay_low g_lay_high g_lay_places) H := hP
      have hD : va_D A (w_X7_keep Y q q_text q_strip q_told q_images q_kept q_history q_lay q_folds q_sightings q_rater q_images_E q_images_E_lengths q_strip_lengths q_lay_places (va_up g_images_E_links 0 u16) (va_up g_images_E_folded 0 u17) (va_up g_images_E_stiff 0 u18) g_strip_links g_strip_folded g_strip_stiff g_strip_lengths (va_up g_images_E_lengths 0 u19) (upd g_kept (x1).toNatClampNeg (vp_nar .boolean (1 : Int32))) g_lay_links g_lay_low g_lay_high g_lay_places) := hD
      refine lv_aload_n hx hb dX7_keep_31 rfl (lv_at hl 0 rfl) ?_
      have hp : Pt (w_X7_keep Y q q_text q_strip q_told q_images q_kept q_history q_lay q_folds q_sightings q_rater q_images_E q_images_E_lengths q_strip_lengths q_lay_places (va_up g_images_E_links 0 u16) (va_up g_images_E_folded 0 u17) (va_up g_images_E_stiff 0 u18) g_strip_links g_strip_folded g_strip_stiff g_strip_lengths (va_up g_images_E_lengths 0 u19) (upd g_kept (x1).toNatClampNeg (vp_nar .boolean (1 : Int32))) g_lay_links g_lay_low g_lay_high g_lay_places) (w_X7_spanNow Y q q_text q_strip q_told q_images q_kept q_history q_lay q_folds q_sightings q_rater q_strip_lengths q_lay_places g_strip_links g_strip_folded g_strip_stiff g_lay_links g_lay_low g_lay_high g_strip_lengths g_lay_places) [0, 4, 9, 5, 10] := ⟨rfl, by decide +kernel⟩
      refine go_i hp hP hD hS hA (fun _ => rfl) (va_runV (As := []) (rest := []) ⟨hx, hb, hml, hown, hts⟩ (c_X7_spanNow h _) (cwV 0 hts gX7_keep_X7_spanNow rfl rfl rfl (by decide +kernel) ⟨Nat.le_of_ble_eq_true rfl, Nat.le_of_ble_eq_true rfl⟩) (pre_V (b := q) (q0 := 0) (ci := 7) (q := (RX7, TX7, 10)) hp hK hN hP hD rfl rfl) rfl rfl hl.1 rfl (lv_room (Nat.le_of_ble_eq_true rfl)) dX7_keep_32 ⟨Nat.le_of_ble_eq_true rfl, Nat.le_of_ble_eq_true rfl⟩) (fun r20 u H locs h hP hD hS => ?_)
      obtain ⟨u21, u22, u23, u24⟩ := u
      try dsimp only at h
      have hP : va_P D vwCl (w_X7_keep Y q q_text q_strip q_told q_images q_kept q_history q_lay q_folds q_sightings q_rater q_images_E q_images_E_lengths q_strip_lengths q_lay_places (va_up g_images_E_links 0 u16) (va_up g_images_E_folded 0 u17) (va_up g_images_E_stiff 0 u18) g_strip_links g_strip_folded g_strip_stiff g_strip_lengths (va_up g_images_E_lengths 0 u19) (upd g_kept (x1).toNatClampNeg (vp_nar .boolean (1 : Int32))) u21 u22 u23 u24) H := hP
      have hD : va_D A (w_X7_keep Y q q_text q_strip q_told q_images q_kept q_history q_lay q_folds q_sightings q_rater q_images_E q_images_E_lengths q_strip_lengths q_lay_places (va_up g_images_E_links 0 u16) (va_up g_images_E_folded 0 u17) (va_up g_images_E_stiff 0 u18) g_strip_links g_strip_folded g_strip_stiff g_strip_lengths (va_up g_images_E_lengths 0 u19) (upd g_kept (x1).toNatClampNeg (vp_nar .boolean (1 : Int32))) u21 u22 u23 u24) := hD
      exact ret_i ((va_up g_images_E_links 0 u16), (va_up g_images_E_folded 0 u17), (va_up g_images_E_stiff 0 u18), (va_up g_images_E_lengths 0 u19), (upd g_kept (x1).toNatClampNeg (vp_nar .boolean (1 : Int32))), u21, u22, u23, u24) hx hb hr hlocks hK hP hD hS h dX7_keep_35
    · refine W.eq (g2 := F0 m 17 ls [.ref (q_images_E 1)]) (by rw [← ek14]; rfl) ?_
      refine lv_aload_n hx hb dX7_keep_17 rfl (lv_at hl 0 rfl) ?_
      refine va_get (D := D) (ci := 7) (v := .ref q_strip) (C := RX7) (T := TX7) (N := 10) hx hb hts in_X7_keep_X7 hown hK hP 0 rfl rfl 1 (by decide) (k_X7_keep_f19 hts) (fun _ h9 => h9) rfl dX7_keep_18 ?_
      have hp : Pt (w_X7_keep Y q q_text q_strip q_told q_images q_kept q_history q_lay q_folds q_sightings q_rater q_images_E q_images_E_lengths q_strip_lengths q_lay_places g_images_E_links g_images_E_folded g_images_E_stiff g_strip_links g_strip_folded g_strip_stiff g_strip_lengths g_images_E_lengths g_kept g_lay_links g_lay_low g_lay_high g_lay_places) (w_X5_copyFrom Y (q_images_E 1) (q_images_E_lengths 1) q_strip q_strip_lengths (g_images_E_links 1) (g_images_E_folded 1) (g_images_E_stiff 1) g_strip_links g_strip_folded g_strip_stiff g_strip_lengths (g_images_E_lengths 1)) [3, 4, 5, 7] := ⟨rfl, by decide +kernel⟩
      refine go_v hp hP hD hS hA (fun _ => rfl) (va_runV (As := [.ref q_strip]) (rest := []) ⟨hx, hb, hml, hown, hts⟩ (c_X5_copyFrom h _) (cwV 1 hts gX7_keep_X5_copyFrom rfl rfl rfl (by decide +kernel) ⟨Nat.le_of_ble_eq_true rfl, Nat.le_of_ble_eq_true rfl⟩) (pre_V (b := (q_images_E 1)) (q0 := 0) (ci := 5) (q := (RX5, TX5, 4)) hp hK hN hP hD rfl rfl) rfl rfl hl.1 rfl (lv_room (Nat.le_of_ble_eq_true rfl)) dX7_keep_21 ⟨Nat.le_of_ble_eq_true rfl, Nat.le_of_ble_eq_true rfl⟩) (fun u H locs h hP hD hS => ?_)
      obtain ⟨u26, u27, u28, u29⟩ := u
      try dsimp only at h
      have hP : va_P D vwCl (w_X7_keep Y q q_text q_strip q_told q_images q_kept q_history q_lay q_folds q_sightings q_rater q_images_E q_images_E_lengths q_strip_lengths q_lay_places (va_up g_images_E_links 1 u26) (va_up g_images_E_folded 1 u27) (va_up g_images_E_stiff 1 u28) g_strip_links g_strip_folded g_strip_stiff g_strip_lengths (va_up g_images_E_lengths 1 u29) g_kept g_lay_links g_lay_low g_lay_high g_lay_places) H := hP
      have hD : va_D A (w_X7_keep Y q q_text q_strip q_told q_images q_kept q_history q_lay q_folds q_sightings q_rater q_images_E q_images_E_lengths q_strip_lengths q_lay_places (va_up g_images_E_links 1 u26) (va_up g_images_E_folded 1 u27) (va_up g_images_E_stiff 1 u28) g_strip_links g_strip_folded g_strip_stiff g_strip_lengths (va_up g_images_E_lengths 1 u29) g_kept g_lay_links g_lay_low g_lay_high g_lay_places) := hD
      refine lv_aload_n hx hb dX7_keep_24 rfl (lv_at hl 0 rfl) ?_
      refine va_get (D := D) (ci := 7) (v := .ref q_kept) (C := RX7) (T := TX7) (N := 10) hx hb hts in_X7_keep_X7 hown hK hP 0 rfl rfl 4 (by decide) (k_X7_keep_f30 hts) (fun _ h9 => h9) rfl dX7_keep_25 ?_
      refine lv_iload_n hx hb dX7_keep_28 rfl (lv_at hl 1 rfl) ?_
      refine lv_iconst (v := 1) hx hb dX7_keep_29 (by decide) ?_
      obtain ⟨hin, h⟩ := h
      refine va_zast hx hb hK hP hD hS 8 1 rfl rfl hin dX7_keep_30 (fun H locs hP hD hS => ?_)
      have hP : va_P D vwCl (w_X7_keep Y q q_text q_strip q_told q_images q_kept q_history q_lay q_folds q_sightings q_rater q_images_E q_images_E_lengths q_strip_lengths q_lay_places (va_up g_images_E_links 1 u26) (va_up g_images_E_folded 1 u27) (va_up g_images_E_stiff 1 u28) g_strip_links g_strip_folded g_strip_stiff g_strip_lengths (va_up g_images_E_lengths 1 u29) (upd g_kept (x1).toNatClampNeg (vp_nar .boolean (1 : Int32))) g_lay_links g_lay_low g_lay_high g_lay_places) H := hP
      have hD : va_D A (w_X7_keep Y q q_text q_strip q_told q_images q_kept q_history q_lay q_folds q_sightings q_rater q_images_E q_images_E_lengths q_strip_lengths q_lay_places (va_up g_images_E_links 1 u26) (va_up g_images_E_folded 1 u27) (va_up g_images_E_stiff 1 u28) g_strip_links g_strip_folded g_strip_stiff g_strip_lengths (va_up g_images_E_lengths 1 u29) (upd g_kept (x1).toNatClampNeg (vp_nar .boolean (1 : Int32))) g_lay_links g_lay_low g_lay_high g_lay_places) := hD
      refine lv_aload_n hx hb dX7_keep_31 rfl (lv_at hl 0 rfl) ?_
      have hp : Pt (w_X7_keep Y q q_text q_strip q_told q_images q_kept q_history q_lay q_folds q_sightings q_rater q_images_E q_images_E_lengths q_strip_lengths q_lay_places (va_up g_images_E_links 1 u26) (va_up g_images_E_folded 1 u27) (va_up g_images_E_stiff 1 u28) g_strip_links g_strip_folded g_strip_stiff g_strip_lengths (va_up g_images_E_lengths 1 u29) (upd g_kept (x1).toNatClampNeg (vp_nar .boolean (1 : Int32))) g_lay_links g_lay_low g_lay_high g_lay_places) (w_X7_spanNow Y q q_text q_strip q_told q_images q_kept q_history q_lay q_folds q_sightings q_rater q_strip_lengths q_lay_places g_strip_links g_strip_folded g_strip_stiff g_lay_links g_lay_low g_lay_high g_strip_lengths g_lay_places) [0, 4, 9, 5, 10] := ⟨rfl, by decide +kernel⟩
      refine go_i hp hP hD hS hA (fun _ => rfl) (va_runV (As := []) (rest := []) ⟨hx, hb, hml, hown, hts⟩ (c_X7_spanNow h _) (cwV 0 hts gX7_keep_X7_spanNow rfl rfl rfl (by decide +kernel) ⟨Nat.le_of_ble_eq_true rfl, Nat.le_of_ble_eq_true rfl⟩) (pre_V (b := q) (q0 := 0) (ci := 7) (q := (RX7, TX7, 10)) hp hK hN hP hD rfl rfl) rfl rfl hl.1 rfl (lv_room (Nat.le_of_ble_eq_true rfl)) dX7_keep_32 ⟨Nat.le_of_ble_eq_true rfl, Nat.le_of_ble_eq_true rfl⟩) (fun r30 u H locs h hP hD hS => ?_)
      obtain ⟨u31, u32, u33, u34⟩ := u
      try dsimp only at h
      have hP : va_P D vwCl (w_X7_keep Y q q_text q_strip q_told q_images q_kept q_history q_lay q_folds q_sightings q_rater q_images_E q_images_E_lengths q_strip_lengths q_lay_places (va_up g_images_E_links 1 u26) (va_up g_images_E_folded 1 u27) (va_up g_images_E_stiff 1 u28) g_strip_links g_strip_folded g_strip_stiff g_strip_lengths (va_up g_images_E_lengths 1 u29) (upd g_kept (x1).toNatClampNeg (vp_nar .boolean (1 : Int32))) u31 u32 u33 u34) H := hP
      have hD : va_D A (w_X7_keep Y q q_text q_strip q_told q_images q_kept q_history q_lay q_folds q_sightings q_rater q_images_E q_images_E_lengths q_strip_lengths q_lay_places (va_up g_images_E_links 1 u26) (va_up g_images_E_folded 1 u27) (va_up g_images_E_stiff 1 u28) g_strip_links g_strip_folded g_strip_stiff g_strip_lengths (va_up g_images_E_lengths 1 u29) (upd g_kept (x1).toNatClampNeg (vp_nar .boolean (1 : Int32))) u31 u32 u33 u34) := hD
      exact ret_i ((va_up g_images_E_links 1 u26), (va_up g_images_E_folded 1 u27), (va_up g_images_E_stiff 1 u28), (va_up g_images_E_lengths 1 u29), (upd g_kept (x1).toNatClampNeg (vp_nar .boolean (1 : Int32))), u31, u32, u33, u34) hx hb hr hlocks hK hP hD hS h dX7_keep_35
  · have h := h.2 c13
    refine lv_iconst (v := (-1)) hx hb dX7_keep_9 (by decide) ?_
    exact ret_i (g_images_E_links, g_images_E_folded, g_images_E_stiff, g_images_E_lengths, g_kept, g_lay_links, g_lay_low, g_lay_high, g_lay_places) hx hb hr hlocks hK hP hD hS h dX7_keep_10
abbrev rm_X7_back : Room := { frames := 5, cells := 0, slots := 0, locals := 111 }
theorem in_X7_back_X7 : ∀ w ∈ wsX70, w ∈ wsX7_back := fun _ h => List.mem_cons_of_mem _ (List.mem_append_left _ (List.mem_append_left _ (List.mem_append_left _ (List.mem_append_right _ h))))
theorem k_X7_back_f30 {s : State} {args : Array Value} (hts : ∀ w ∈ wsX7_back, w.before args s = true) : (Cond.fieldLink RX7 30 "FoldRule" "kept" "[Z").before args s = true := hts _ (by decide +kernel)
theorem k_X7_back_f19 {s : State} {args : Array Value} (hts : ∀ w ∈ wsX7_back, w.before args s = true) : (Cond.fieldLink RX7 19 "FoldRule" "strip" "LFoldRule$Strip;").before args s = true := hts _ (by decide +kernel)
theorem k_X7_back_f26 {s : State} {args : Array Value} (hts : ∀ w ∈ wsX7_back, w.before args s = true) : (Cond.fieldLink RX7 26 "FoldRule" "images" "[LFoldRule$Strip;").before args s = true := hts _ (by decide +kernel)
theorem k_X7_back_f37 {s : State} {args : Array Value} (hts : ∀ w ∈ wsX7_back, w.before args s = true) : (Cond.fieldLink RX7 37 "FoldRule" "history" "LFoldRule$History;").before args s = true := hts _ (by decide +kernel)
set_option maxHeartbeats 4000000 in
set_option maxRecDepth 100000 in
theorem c_X7_back {l : Launch} {D : va_G} {Y : ClassId × ClassId × ClassId} {q q_text q_strip q_told q_images q_kept q_history q_lay q_folds q_sightings q_rater : Nat} {q_images_E : Nat → Nat} {q_strip_lengths : Nat} {q_images_E_lengths : Nat → Nat} {q_history_steps q_lay_places : Nat} {g_kept : Nat → Int32} {g_strip_links g_strip_folded g_strip_stiff : Int32} {g_images_E_links g_images_E_folded g_images_E_stiff : Nat → Int32} {g_images_E_lengths : Nat → Nat → Int32} {g_strip_lengths : Nat → Int32} {g_history_slot g_history_size g_lay_links g_lay_low g_lay_high : Int32} {g_lay_places : Nat → Int32} {x1 : Int32} {Q : Int32 → Int32 → Int32 → Int32 → (Nat → Int32) → Int32 → Int32 → Int32 → Int32 → (Nat → Int32) → Prop} (h : wp_X7_back g_kept g_strip_links g_strip_folded g_strip_stiff g_images_E_links g_images_E_folded g_images_E_stiff g_images_E_lengths g_strip_lengths g_history_size g_lay_links g_lay_low g_lay_high g_lay_places x1 Q) (sz : Nat) : MtI l yX7_back wsX7_back rm_X7_back [.ref q, .int x1] D Y (w_X7_back Y q q_text q_strip q_told q_images q_kept q_history q_lay q_folds q_sightings q_rater q_images_E q_strip_lengths q_images_E_lengths q_history_steps q_lay_places g_kept g_strip_links g_strip_folded g_strip_stiff g_images_E_links g_images_E_folded g_images_E_stiff g_images_E_lengths g_strip_lengths g_history_slot g_history_size g_lay_links g_lay_low g_lay_high g_lay_places) (fun r (u : Int32 × Int32 × Int32 × (Nat → Int32) × Int32 × Int32 × Int32 × Int32 × (Nat → Int32)) => Q r u.1 u.2.1 u.2.2.1 u.2.2.2.1 u.2.2.2.2.1 u.2.2.2.2.2.1 u.2.2.2.2.2.2.1 u.2.2.2.2.2.2.2.1 u.2.2.2.2.2.2.2.2) (fun u : Int32 × Int32 × Int32 × (Nat → Int32) × Int32 × Int32 × Int32 × Int32 × (Nat → Int32) => (w_X7_back Y q q_text q_strip q_told q_images q_kept q_history q_lay q_folds q_sightings q_rater q_images_E q_strip_lengths q_images_E_lengths q_history_steps q_lay_places g_kept u.1 u.2.1 u.2.2.1 g_images_E_links g_images_E_folded g_images_E_stiff g_images_E_lengths u.2.2.2.1 g_history_slot u.2.2.2.2.1 u.2.2.2.2.2.1 u.2.2.2.2.2.2.1 u.2.2.2.2.2.2.2.1 u.2.2.2.2.2.2.2.2)) sz := by
  refine ct_i (cc := cX7_back) (nL := 2) (ret := (some .int)) (by decide) rfl (Nat.le_of_ble_eq_true rfl) ?_ sz
  intro p e s m below meth c A ls C hK hA hP hD hS hl
  obtain ⟨⟨hx, hb, hml, hown, hts⟩, hr, hlocks, hN⟩ := id C
  have hown : s.vm.findClass RX7 = some m.cls := hown
  have hl : lv_has ls 2 [(0, .ref q), (1, .int x1)] := hl
  unfold wp_X7_back at h
  refine lv_iload_n hx hb dX7_back_0 rfl (lv_at hl 1 rfl) ?_
  refine lv_iconst (v := 0) hx hb dX7_back_1 (by decide) ?_
  refine lv_iconst (v := 1) hx hb dX7_back_2 (by decide) ?_
  have hp : Pt (w_X7_back Y q q_text q_strip q_told q_images q_kept q_history q_lay q_folds q_sightings q_rater q_images_E q_strip_lengths q_images_E_lengths q_history_steps q_lay_places g_kept g_strip_links g_strip_folded g_strip_stiff g_images_E_links g_images_E_folded g_images_E_stiff g_images_E_lengths g_strip_lengths g_history_slot g_history_size g_lay_links g_lay_low g_lay_high g_lay_places) (w_X7_isWithin Y ) [] := ⟨rfl, by decide +kernel⟩
  refine go_i hp hP hD hS hA (fun _ => rfl) (va_runS (As := [.int x1, .int (0 : Int32), .int (1 : Int32)]) (rest := []) ⟨hx, hb, hml, hown, hts⟩ (c_X7_isWithin h _) (va_cwS 3 hts gX7_back_X7_isWithin rfl rfl rfl (by decide +kernel) ⟨Nat.le_of_ble_eq_true rfl, Nat.le_of_ble_eq_true rfl⟩) (pre_S hp hK hN hP hD) rfl rfl hl.1 rfl (lv_room (Nat.le_of_ble_eq_true rfl)) dX7_back_3 ⟨Nat.le_of_ble_eq_true rfl, Nat.le_of_ble_eq_true rfl⟩) (fun r13 u H locs h hP hD hS => ?_)
  try dsimp only at h
  have hP : va_P D vwCl (w_X7_back Y q q_text q_strip q_told q_images q_kept q_history q_lay q_folds q_sightings q_rater q_images_E q_strip_lengths q_images_E_lengths q_history_steps q_lay_places g_kept g_strip_links g_strip_folded g_strip_stiff g_images_E_links g_images_E_folded g_images_E_stiff g_images_E_lengths g_strip_lengths g_history_slot g_history_size g_lay_links g_lay_low g_lay_high g_lay_places) H := hP
  have hD : va_D A (w_X7_back Y q q_text q_strip q_told q_images q_kept q_history q_lay q_folds q_sightings q_rater q_images_E q_strip_lengths q_images_E_lengths q_history_steps q_lay_places g_kept g_strip_links g_strip_folded g_strip_stiff g_images_E_links g_images_E_folded g_images_E_stiff g_images_E_lengths g_strip_lengths g_history_slot g_history_size g_lay_links g_lay_low g_lay_high g_lay_places) := hD
  refine lv_if_ne (tgt := 11) hx hb dX7_back_6 (by decide) (fun c14 => ?_) (fun c14 => ?_)
  · have h := h.1 c14
    refine lv_aload_n hx hb dX7_back_11 rfl (lv_at hl 0 rfl) ?_
    refine va_get (D := D) (ci := 7) (v := .ref q_kept) (C := RX7) (T := TX7) (N := 10) hx hb hts in_X7_back_X7 hown hK hP 0 rfl rfl 4 (by decide) (k_X7_back_f30 hts) (fun _ h9 => h9) rfl dX7_back_12 ?_
    refine lv_iload_n hx hb dX7_back_15 rfl (lv_at hl 1 rfl) ?_
    obtain ⟨hin, h⟩ := h
    refine va_zald hx hb hK hP 1 1 rfl rfl hin dX7_back_16 ?_
    refine lv_if_ne (tgt := 23) hx hb dX7_back_17 (by decide) (fun c15 => ?_) (fun c15 => ?_)
    · have h := h.1 c15
      refine lv_aload_n hx hb dX7_back_23 rfl (lv_at hl 0 rfl) ?_
      refine va_get (D := D) (ci := 7) (v := .ref q_strip) (C := RX7) (T := TX7) (N := 10) hx hb hts in_X7_back_X7 hown hK hP 0 rfl rfl 1 (by decide) (k_X7_back_f19 hts) (fun _ h9 => h9) rfl dX7_back_24 ?_
      refine lv_aload_n hx hb dX7_back_27 rfl (lv_at hl 0 rfl) ?_
      refine va_get (D := D) (ci := 7) (v := .ref q_images) (C := RX7) (T := TX7) (N := 10) hx hb hts in_X7_back_X7 hown hK hP 0 rfl rfl 3 (by decide) (k_X7_back_f26 hts) (fun _ h9 => h9) rfl dX7_back_28 ?_
      refine lv_iload_n hx hb dX7_back_31 rfl (lv_at hl 1 rfl) ?_
      obtain ⟨hin, h⟩ := h
      refine va_aldq (n := 2) (f := fun j => some (q_images_E j)) (C := "FoldRule$Strip") hx hb hK hP 2 2 rfl rfl hin dX7_back_32 ?_
      obtain ⟨k16, ek16⟩ : ∃ k : Nat, k = (x1).toNatClampNeg := ⟨_, rfl⟩
      have h := h k16 ek16
      have lk16 : k16 < 2 := by rw [ek16]; exact Nat.not_le.mp (fun q => hin (Or.inr q))
      rcases (show k16 = 0 ∨ k16 = 1 by omega) with rfl | rfl
      · refine W.eq (g2 := F0 m 33 ls [.ref (q_images_E 0), .ref q_strip]) (by rw [← ek16]; rfl) ?_
        have hp : Pt (w_X7_back Y q q_text q_strip q_told q_images q_kept q_history q_lay q_folds q_sightings q_rater q_images_E q_strip_lengths q_images_E_lengths q_history_steps q_lay_places g_kept g_strip_links g_strip_folded g_strip_stiff g_images_E_links g_images_E_folded g_images_E_stiff g_images_E_lengths g_strip_lengths g_history_slot g_history_size g_lay_links g_lay_low g_lay_high g_lay_places) (w_X5_copyFrom Y q_strip q_strip_lengths (q_images_E 0) (q_images_E_lengths 0) g_strip_links g_strip_folded g_strip_stiff (g_images_E_links 0) (g_images_E_folded 0) (g_images_E_stiff 0) (g_images_E_lengths 0) g_strip_lengths) [3, 4, 6, 8] := ⟨rfl, by decide +kernel⟩
        refine go_v hp hP hD hS hA (fun _ => rfl) (va_runV (As := [.ref (q_images_E 0)]) (rest := []) ⟨hx, hb, hml, hown, hts⟩ (c_X5_copyFrom h _) (cwV 1 hts gX7_back_X5_copyFrom rfl rfl rfl (by decide +kernel) ⟨Nat.le_of_ble_eq_true rfl, Nat.le_of_ble_eq_true rfl⟩) (pre_V (b := q_strip) (q0 := 0) (ci := 5) (q := (RX5, TX5, 4)) hp hK hN hP hD rfl rfl) rfl rfl hl.1 rfl (lv_room (Nat.le_of_ble_eq_true rfl)) dX7_back_33 ⟨Nat.le_of_ble_eq_true rfl, Nat.le_of_ble_eq_true rfl⟩) (fun u H locs h hP hD hS => ?_)
        obtain ⟨u18, u19, u20, u21⟩ := u
        try dsimp only at h
        have hP : va_P D vwCl (w_X7_back Y q q_text q_strip q_told q_images q_kept q_history q_lay q_folds q_sightings q_rater q_images_E q_strip_lengths q_images_E_lengths q_history_steps q_lay_places g_kept u18 u19 u20 g_images_E_links g_images_E_folded g_images_E_stiff g_images_E_lengths u21 g_history_slot g_history_size g_lay_links g_lay_low g_lay_high g_lay_places) H := hP
        have hD : va_D A (w_X7_back Y q q_text q_strip q_told q_images q_kept q_history q_lay q_folds q_sightings q_rater q_images_E q_strip_lengths q_images_E_lengths q_history_steps q_lay_places g_kept u18 u19 u20 g_images_E_links g_images_E_folded g_images_E_stiff g_images_E_lengths u21 g_history_slot g_history_size g_lay_links g_lay_low g_lay_high g_lay_places) := hD
        refine lv_aload_n hx hb dX7_back_36 rfl (lv_at hl 0 rfl) ?_
        refine va_get (D := D) (ci := 7) (v := .ref q_history) (C := RX7) (T := TX7) (N := 10) hx hb hts in_X7_back_X7 hown hK hP 0 rfl rfl 5 (by decide) (k_X7_back_f37 hts) (fun _ h9 => h9) rfl dX7_back_37 ?_
        have hp : Pt (w_X7_back Y q q_text q_strip q_told q_images q_kept q_history q_lay q_folds q_sightings q_rater q_images_E q_strip_lengths q_images_E_lengths q_history_steps q_lay_places g_kept u18 u19 u20 g_images_E_links g_images_E_folded g_images_E_stiff g_images_E_lengths u21 g_history_slot g_history_size g_lay_links g_lay_low g_lay_high g_lay_places) (w_X1_loseAll Y q_history q_history_steps g_history_slot g_history_size) [9] := ⟨rfl, by decide +kernel⟩
        refine go_v hp hP hD hS hA (fun _ => rfl) (va_runV (As := []) (rest := []) ⟨hx, hb, hml, hown, hts⟩ (c_X1_loseAll h _) (cwV 0 hts gX7_back_X1_loseAll rfl rfl rfl (by decide +kernel) ⟨Nat.le_of_ble_eq_true rfl, Nat.le_of_ble_eq_true rfl⟩) (pre_V (b := q_history) (q0 := 0) (ci := 1) (q := (RX1, TX1, 3)) hp hK hN hP hD rfl rfl) rfl rfl hl.1 rfl (lv_room (Nat.le_of_ble_eq_true rfl)) dX7_back_40 ⟨Nat.le_of_ble_eq_true rfl, Nat.le_of_ble_eq_true rfl⟩) (fun u H locs h hP hD hS => ?_)
        obtain ⟨u23, rfl⟩ : ∃ z, z = u := ⟨_, rfl⟩
        try dsimp only at h
        have hP : va_P D vwCl (w_X7_back Y q q_text q_strip q_told q_images q_kept q_history q_lay q_folds q_sightings q_rater q_images_E q_strip_lengths q_images_E_lengths q_history_steps q_lay_places g_kept u18 u19 u20 g_images_E_links g_images_E_folded g_images_E_stiff g_images_E_lengths u21 g_history_slot u23 g_lay_links g_lay_low g_lay_high g_lay_places) H := hP
        have hD : va_D A (w_X7_back Y q q_text q_strip q_told q_images q_kept q_history q_lay q_folds q_sightings q_rater q_images_E q_strip_lengths q_images_E_lengths q_history_steps q_lay_places g_kept u18 u19 u20 g_images_E_links g_images_E_folded g_images_E_stiff g_images_E_lengths u21 g_history_slot u23 g_lay_links g_lay_low g_lay_high g_lay_places) := hD
        refine lv_aload_n hx hb dX7_back_43 rfl (lv_at hl 0 rfl) ?_
        have hp : Pt (w_X7_back Y q q_text q_strip q_told q_images q_kept q_history q_lay q_folds q_sightings q_rater q_images_E q_strip_lengths q_images_E_lengths q_history_steps q_lay_places g_kept u18 u19 u20 g_images_E_links g_images_E_folded g_images_E_stiff g_images_E_lengths u21 g_history_slot u23 g_lay_links g_lay_low g_lay_high g_lay_places) (w_X7_spanNow Y q q_text q_strip q_told q_images q_kept q_history q_lay q_folds q_sightings q_rater q_strip_lengths q_lay_places u18 u19 u20 g_lay_links g_lay_low g_lay_high u21 g_lay_places) [0, 3, 10, 8, 11] := ⟨rfl, by decide +kernel⟩
        refine go_i hp hP hD hS hA (fun _ => rfl) (va_runV (As := []) (rest := []) ⟨hx, hb, hml, hown, hts⟩ (c_X7_spanNow h _) (cwV 0 hts gX7_back_X7_spanNow rfl rfl rfl (by decide +kernel) ⟨Nat.le_of_ble_eq_true rfl, Nat.le_of_ble_eq_true rfl⟩) (pre_V (b := q) (q0 := 0) (ci := 7) (q := (RX7, TX7, 10)) hp hK hN hP hD rfl rfl) rfl rfl hl.1 rfl (lv_room (Nat.le_of_ble_eq_true rfl)) dX7_back_44 ⟨Nat.le_of_ble_eq_true rfl, Nat.le_of_ble_eq_true rfl⟩) (fun r24 u H locs h hP hD hS => ?_)
        obtain ⟨u25, u26, u27, u28⟩ := u
        try dsimp only at h
        have hP : va_P D vwCl (w_X7_back Y q q_text q_strip q_told q_images q_kept q_history q_lay q_folds q_sightings q_rater q_images_E q_strip_lengths q_images_E_lengths q_history_steps q_lay_places g_kept u18 u19 u20 g_images_E_links g_images_E_folded g_images_E_stiff g_images_E_lengths u21 g_history_slot u23 u25 u26 u27 u28) H := hP
        have hD : va_D A (w_X7_back Y q q_text q_strip q_told q_images q_kept q_history q_lay q_folds q_sightings q_rater q_images_E q_strip_lengths q_images_E_lengths q_history_steps q_lay_places g_kept u18 u19 u20 g_images_E_links g_images_E_folded g_images_E_stiff g_images_E_lengths u21 g_history_slot u23 u25 u26 u27 u28) := hD
        exact ret_i (u18, u19, u20, u21, u23, u25, u26, u27, u28) hx hb hr hlocks hK hP hD hS h dX7_back_47
      · refine W.eq (g2 := F0 m 33 ls [.ref (q_images_E 1), .ref q_strip]) (by rw [← ek16]; rfl) ?_
        have hp : Pt (w_X7_back Y q q_text q_strip q_told q_images q_kept q_history q_lay q_folds q_sightings q_rater q_images_E q_strip_lengths q_images_E_lengths q_history_steps q_lay_places g_kept g_strip_links g_strip_folded g_strip_stiff g_images_E_links g_images_E_folded g_images_E_stiff g_images_E_lengths g_strip_lengths g_history_slot g_history_size g_lay_links g_lay_low g_lay_high g_lay_places) (w_X5_copyFrom Y q_strip q_strip_lengths (q_images_E 1) (q_images_E_lengths 1) g_strip_links g_strip_folded g_strip_stiff (g_images_E_links 1) (g_images_E_folded 1) (g_images_E_stiff 1) (g_images_E_lengths 1) g_strip_lengths) [3, 5, 7, 8] := ⟨rfl, by decide +kernel⟩
        refine go_v hp hP hD hS hA (fun _ => rfl) (va_runV (As := [.ref (q_images_E 1)]) (rest := []) ⟨hx, hb, hml, hown, hts⟩ (c_X5_copyFrom h _) (cwV 1 hts gX7_back_X5_copyFrom rfl rfl rfl (by decide +kernel) ⟨Nat.le_of_ble_eq_true rfl, Nat.le_of_ble_eq_true rfl⟩) (pre_V (b := q_strip) (q0 := 0) (ci := 5) (q := (RX5, TX5, 4)) hp hK hN hP hD rfl rfl) rfl rfl hl.1 rfl (lv_room (Nat.le_of_ble_eq_true rfl)) dX7_back_33 ⟨Nat.le_of_ble_eq_true rfl, Nat.le_of_ble_eq_true rfl⟩) (fun u H locs h hP hD hS => ?_)
        obtain ⟨u30, u31, u32, u33⟩ := u
        try dsimp only at h
        have hP : va_P D vwCl (w_X7_back Y q q_text q_strip q_told q_images q_kept q_history q_lay q_folds q_sightings q_rater q_images_E q_strip_lengths q_images_E_lengths q_history_steps q_lay_places g_kept u30 u31 u32 g_images_E_links g_images_E_folded g_images_E_stiff g_images_E_lengths u33 g_history_slot g_history_size g_lay_links g_lay_low g_lay_high g_lay_places) H := hP
        have hD : va_D A (w_X7_back Y q q_text q_strip q_told q_images q_kept q_history q_lay q_folds q_sightings q_rater q_images_E q_strip_lengths q_images_E_lengths q_history_steps q_lay_places g_kept u30 u31 u32 g_images_E_links g_images_E_folded g_images_E_stiff g_images_E_lengths u33 g_history_slot g_history_size g_lay_links g_lay_low g_lay_high g_lay_places) := hD
        refine lv_aload_n hx hb dX7_back_36 rfl (lv_at hl 0 rfl) ?_
        refine va_get (D := D) (ci := 7) (v := .ref q_history) (C := RX7) (T := TX7) (N := 10) hx hb hts in_X7_back_X7 hown hK hP 0 rfl rfl 5 (by decide) (k_X7_back_f37 hts) (fun _ h9 => h9) rfl dX7_back_37 ?_
        have hp : Pt (w_X7_back Y q q_text q_strip q_told q_images q_kept q_history q_lay q_folds q_sightings q_rater q_images_E q_strip_lengths q_images_E_lengths q_history_steps q_lay_places g_kept u30 u31 u32 g_images_E_links g_images_E_folded g_images_E_stiff g_images_E_lengths u33 g_history_slot g_history_size g_lay_links g_lay_low g_lay_high g_lay_places) (w_X1_loseAll Y q_history q_history_steps g_history_slot g_history_size) [9] := ⟨rfl, by decide +kernel⟩
        refine go_v hp hP hD hS hA (fun _ => rfl) (va_runV (As := []) (rest := []) ⟨hx, hb, hml, hown, hts⟩ (c_X1_loseAll h _) (cwV 0 hts gX7_back_X1_loseAll rfl rfl rfl (by decide +kernel) ⟨Nat.le_of_ble_eq_true rfl, Nat.le_of_ble_eq_true rfl⟩) (pre_V (b := q_history) (q0 := 0) (ci := 1) (q := (RX1, TX1, 3)) hp hK hN hP hD rfl rfl) rfl rfl hl.1 rfl (lv_room (Nat.le_of_ble_eq_true rfl)) dX7_back_40 ⟨Nat.le_of_ble_eq_true rfl, Nat.le_of_ble_eq_true rfl⟩) (fun u H locs h hP hD hS => ?_)
        obtain ⟨u35, rfl⟩ : ∃ z, z = u := ⟨_, rfl⟩
        try dsimp only at h
        have hP : va_P D vwCl (w_X7_back Y q q_text q_strip q_told q_images q_kept q_history q_lay q_folds q_sightings q_rater q_images_E q_strip_lengths q_images_E_lengths q_history_steps q_lay_places g_kept u30 u31 u32 g_images_E_links g_images_E_folded g_images_E_stiff g_images_E_lengths u33 g_history_slot u35 g_lay_links g_lay_low g_lay_high g_lay_places) H := hP
        have hD : va_D A (w_X7_back Y q q_text q_strip q_told q_images q_kept q_history q_lay q_folds q_sightings q_rater q_images_E q_strip_lengths q_images_E_lengths q_history_steps q_lay_places g_kept u30 u31 u32 g_images_E_links g_images_E_folded g_images_E_stiff g_images_E_lengths u33 g_history_slot u35 g_lay_links g_lay_low g_lay_high g_lay_places) := hD
        refine lv_aload_n hx hb dX7_back_43 rfl (lv_at hl 0 rfl) ?_
        have hp : Pt (w_X7_back Y q q_text q_strip q_told q_images q_kept q_history q_lay q_folds q_sightings q_rater q_images_E q_strip_lengths q_images_E_lengths q_history_steps q_lay_places g_kept u30 u31 u32 g_images_E_links g_images_E_folded g_images_E_stiff g_images_E_lengths u33 g_history_slot u35 g_lay_links g_lay_low g_lay_high g_lay_places) (w_X7_spanNow Y q q_text q_strip q_told q_images q_kept q_history q_lay q_folds q_sightings q_rater q_strip_lengths q_lay_places u30 u31 u32 g_lay_links g_lay_low g_lay_high u33 g_lay_places) [0, 3, 10, 8, 11] := ⟨rfl, by decide +kernel⟩
        refine go_i hp hP hD hS hA (fun _ => rfl) (va_runV (As := []) (rest := []) ⟨hx, hb, hml, hown, hts⟩ (c_X7_spanNow h _) (cwV 0 hts gX7_back_X7_spanNow rfl rfl rfl (by decide +kernel) ⟨Nat.le_of_ble_eq_true rfl, Nat.le_of_ble_eq_true rfl⟩) (pre_V (b := q) (q0 := 0) (ci := 7) (q := (RX7, TX7, 10)) hp hK hN hP hD rfl rfl) rfl rfl hl.1 rfl (lv_room (Nat.le_of_ble_eq_true rfl)) dX7_back_44 ⟨Nat.le_of_ble_eq_true rfl, Nat.le_of_ble_eq_true rfl⟩) (fun r36 u H locs h hP hD hS => ?_)
        obtain ⟨u37, u38, u39, u40⟩ := u
        try dsimp only at h
        have hP : va_P D vwCl (w_X7_back Y q q_text q_strip q_told q_images q_kept q_history q_lay q_folds q_sightings q_rater q_images_E q_strip_lengths q_images_E_lengths q_history_steps q_lay_places g_kept u30 u31 u32 g_images_E_links g_images_E_folded g_images_E_stiff g_images_E_lengths u33 g_history_slot u35 u37 u38 u39 u40) H := hP
        have hD : va_D A (w_X7_back Y q q_text q_strip q_told q_images q_kept q_history q_lay q_folds q_sightings q_rater q_images_E q_strip_lengths q_images_E_lengths q_history_steps q_lay_places g_kept u30 u31 u32 g_images_E_links g_images_E_folded g_images_E_stiff g_images_E_lengths u33 g_history_slot u35 u37 u38 u39 u40) := hD
        exact ret_i (u30, u31, u32, u33, u35, u37, u38, u39, u40) hx hb hr hlocks hK hP hD hS h dX7_back_47
    · have h := h.2 c15
      refine lv_bipush (v := (-2)) hx hb dX7_back_20 (by decide) ?_
      exact ret_i (g_strip_links, g_strip_folded, g_strip_stiff, g_strip_lengths, g_history_size, g_lay_links, g_lay_low, g_lay_high, g_lay_places) hx hb hr hlocks hK hP hD hS h dX7_back_22
  · have h := h.2 c14
    refine lv_iconst (v := (-1)) hx hb dX7_back_9 (by decide) ?_
    exact ret_i (g_strip_links, g_strip_folded, g_strip_stiff, g_strip_lengths, g_history_size, g_lay_links, g_lay_low, g_lay_high, g_lay_places) hx hb hr hlocks hK hP hD hS h dX7_back_10
abbrev rm_X7_count : Room := { frames := 0, cells := 0, slots := 0, locals := 0 }
theorem in_X7_count_X4 : ∀ w ∈ wsX40, w ∈ wsX7_count := fun _ h => List.mem_cons_of_mem _ (List.mem_append_left _ (List.mem_append_right _ h))
theorem in_X7_count_X5 : ∀ w ∈ wsX50, w ∈ wsX7_count := fun _ h => List.mem_cons_of_mem _ (List.mem_append_left _ (List.mem_append_left _ (List.mem_append_right _ h)))
theorem in_X7_count_X6 : ∀ w ∈ wsX60, w ∈ wsX7_count := fun _ h => List.mem_cons_of_mem _ (List.mem_append_right _ h)
theorem in_X7_count_X7 : ∀ w ∈ wsX70, w ∈ wsX7_count := fun _ h => List.mem_cons_of_mem _ (List.mem_append_left _ (List.mem_append_left _ (List.mem_append_left _ (List.mem_append_right _ h))))
theorem k_X7_count_f19 {s : State} {args : Array Value} (hts : ∀ w ∈ wsX7_count, w.before args s = true) : (Cond.fieldLink RX7 19 "FoldRule" "strip" "LFoldRule$Strip;").before args s = true := hts _ (by decide +kernel)
theorem k_X7_count_f58 {s : State} {args : Array Value} (hts : ∀ w ∈ wsX7_count, w.before args s = true) : (Cond.fieldLink RX7 58 "FoldRule" "sightings" "LFoldRule$Sightings;").before args s = true := hts _ (by decide +kernel)
theorem k_X7_count_f10 {s : State} {args : Array Value} (hts : ∀ w ∈ wsX7_count, w.before args s = true) : (Cond.fieldLink RX7 10 "FoldRule" "text" "LFoldRule$Text;").before args s = true := hts _ (by decide +kernel)
set_option maxHeartbeats 4000000 in
set_option maxRecDepth 100000 in
theorem c_X7_count {l : Launch} {D : va_G} {Y : ClassId × ClassId × ClassId} {q q_text q_strip q_told q_images q_kept q_history q_lay q_folds q_sightings q_rater q_text_letters q_sightings_seenFolds q_sightings_seenSpans q_sightings_isWay q_sightings_tally q_sightings_lay q_strip_lengths : Nat} {g_text_size g_text_place g_text_items g_sightings_size g_strip_links g_strip_folded g_strip_stiff x1 : Int32} {Q : Int32 → Prop} (h : wp_X7_count g_text_size g_sightings_size g_strip_links g_strip_stiff x1 Q) (sz : Nat) : MtI l yX7_count wsX7_count rm_X7_count [.ref q, .int x1] D Y (w_X7_count Y q q_text q_strip q_told q_images q_kept q_history q_lay q_folds q_sightings q_rater q_text_letters q_sightings_seenFolds q_sightings_seenSpans q_sightings_isWay q_sightings_tally q_sightings_lay q_strip_lengths g_text_size g_text_place g_text_items g_sightings_size g_strip_links g_strip_folded g_strip_stiff) (fun r (_ : Unit) => Q r) (fun _ : Unit => (w_X7_count Y q q_text q_strip q_told q_images q_kept q_history q_lay q_folds q_sightings q_rater q_text_letters q_sightings_seenFolds q_sightings_seenSpans q_sightings_isWay q_sightings_tally q_sightings_lay q_strip_lengths g_text_size g_text_place g_text_items g_sightings_size g_strip_links g_strip_folded g_strip_stiff)) sz := by
  refine ct_i (cc := cX7_count) (nL := 2) (ret := (some .int)) (by decide) rfl (Nat.le_of_ble_eq_true rfl) ?_ sz
  intro p e s m below meth c A ls C hK hA hP hD hS hl
  obtain ⟨⟨hx, hb, hml, hown, hts⟩, hr, hlocks, hN⟩ := id C
  have hown : s.vm.findClass RX7 = some m.cls := hown
  have hl : lv_has ls 2 [(0, .ref q), (1, .int x1)] := hl
  unfold wp_X7_count at h
  refine lv_iload_n hx hb dX7_count_0 rfl (lv_at hl 1 rfl) ?_
  by_cases c1_0 : x1 = (0 : Int32)
  · have h := h.1 c1_0
    refine lv_tableIn (off := (31)) (tgt := 32) hx hb dX7_count_1 (by rw [c1_0]; decide) (by rw [c1_0]; decide) (by rw [c1_0]; rfl) (by decide) ?_
    refine lv_aload_n hx hb dX7_count_32 rfl (lv_at hl 0 rfl) ?_
    refine va_get (D := D) (ci := 7) (v := .ref q_strip) (C := RX7) (T := TX7) (N := 10) hx hb hts in_X7_count_X7 hown hK hP 0 rfl rfl 1 (by decide) (k_X7_count_f19 hts) (fun _ h9 => h9) rfl dX7_count_33 ?_
    refine va_getN (D := D) (ci := 5) (v := .int g_strip_links) (C := RX5) (T := TX5) (N := 4) hx hb hts in_X7_count_X5 hown hK hP 3 rfl rfl 1 (by decide) (va_Nw.use rfl (nwX7_131 hN)) (fun _ h9 => h9) rfl dX7_count_36 ?_
    exact ret_i () hx hb hr hlocks hK hP hD hS h dX7_count_39
  by_cases c1_1 : x1 = (1 : Int32)
  · have h := h.2.1 c1_1
    refine lv_tableIn (off := (39)) (tgt := 40) hx hb dX7_count_1 (by rw [c1_1]; decide) (by rw [c1_1]; decide) (by rw [c1_1]; rfl) (by decide) ?_
    refine lv_aload_n hx hb dX7_count_40 rfl (lv_at hl 0 rfl) ?_
    refine va_get (D := D) (ci := 7) (v := .ref q_strip) (C := RX7) (T := TX7) (N := 10) hx hb hts in_X7_count_X7 hown hK hP 0 rfl rfl 1 (by decide) (k_X7_count_f19 hts) (fun _ h9 => h9) rfl dX7_count_41 ?_
    refine va_getN (D := D) (ci := 5) (v := .int g_strip_stiff) (C := RX5) (T := TX5) (N := 4) hx hb hts in_X7_count_X5 hown hK hP 3 rfl rfl 3 (by decide) (va_Nw.use rfl (nwX7_128 hN)) (fun _ h9 => h9) rfl dX7_count_44 ?_
    exact ret_i () hx hb hr hlocks hK hP hD hS h dX7_count_47
  by_cases c1_2 : x1 = (2 : Int32)
  · have h := h.2.2.1 c1_2
    refine lv_tableIn (off := (47)) (tgt := 48) hx hb dX7_count_1 (by rw [c1_2]; decide) (by rw [c1_2]; decide) (by rw [c1_2]; rfl) (by decide) ?_
    refine lv_aload_n hx hb dX7_count_48 rfl (lv_at hl 0 rfl) ?_
    refine va_get (D := D) (ci := 7) (v := .ref q_sightings) (C := RX7) (T := TX7) (N := 10) hx hb hts in_X7_count_X7 hown hK hP 0 rfl rfl 8 (by decide) (k_X7_count_f58 hts) (fun _ h9 => h9) rfl dX7_count_49 ?_
    refine va_getN (D := D) (ci := 4) (v := .int g_sightings_size) (C := RX4) (T := TX4) (N := 6) hx hb hts in_X7_count_X4 hown hK hP 2 rfl rfl 2 (by decide) (va_Nw.use rfl (nwX7_213 hN)) (fun _ h9 => h9) rfl dX7_count_52 ?_
    exact ret_i () hx hb hr hlocks hK hP hD hS h dX7_count_55
  by_cases c1_3 : x1 = (3 : Int32)
  · have h := h.2.2.2.1 c1_3
    refine lv_tableIn (off := (55)) (tgt := 56) hx hb dX7_count_1 (by rw [c1_3]; decide) (by rw [c1_3]; decide) (by rw [c1_3]; rfl) (by decide) ?_
    refine lv_aload_n hx hb dX7_count_56 rfl (lv_at hl 0 rfl) ?_
    refine va_get (D := D) (ci := 7) (v := .ref q_text) (C := RX7) (T := TX7) (N := 10) hx hb hts in_X7_count_X7 hown hK hP 0 rfl rfl 0 (by decide) (k_X7_count_f10 hts) (fun _ h9 => h9) rfl dX7_count_57 ?_
    refine va_getN (D := D) (ci := 6) (v := .int g_text_size) (C := RX6) (T := TX6) (N := 4) hx hb hts in_X7_count_X6 hown hK hP 1 rfl rfl 1 (by decide) (va_Nw.use rfl (nwX7_81 hN)) (fun _ h9 => h9) rfl dX7_count_60 ?_
    exact ret_i () hx hb hr hlocks hK hP hD hS h dX7_count_63
  have h := h.2.2.2.2 c1_0 c1_1 c1_2 c1_3
  refine lv_tableOut (tgt := 64) hx hb dX7_count_1 (by have := lv_neT (a := 0) c1_0 (by decide); have := lv_neT (a := 1) c1_1 (by decide); have := lv_neT (a := 2) c1_2 (by decide); have := lv_neT (a := 3) c1_3 (by decide); omega) (by decide) ?_
  refine lv_iconst (v := (-1)) hx hb dX7_count_64 (by decide) ?_
  exact ret_i () hx hb hr hlocks hK hP hD hS h dX7_count_65
abbrev rm_X7_trace : Room := { frames := 0, cells := 0, slots := 0, locals := 0 }
theorem in_X7_trace_X3 : ∀ w ∈ wsX30, w ∈ wsX7_trace := fun _ h => List.mem_cons_of_mem _ (List.mem_append_right _ h)
theorem in_X7_trace_X7 : ∀ w ∈ wsX70, w ∈ wsX7_trace := fun _ h => List.mem_cons_of_mem _ (List.mem_append_left _ (List.mem_append_right _ h))
theorem k_X7_trace_f65 {s : State} {args : Array Value} (hts : ∀ w ∈ wsX7_trace, w.before args s = true) : (Cond.fieldLink RX7 65 "FoldRule" "rater" "LFoldRule$Rater;").before args s = true := hts _ (by decide +kernel)
set_option maxHeartbeats 4000000 in
set_option maxRecDepth 100000 in
theorem c_X7_trace {l : Launch} {D : va_G} {Y : ClassId × ClassId × ClassId} {q q_text q_strip q_told q_images q_kept q_history q_lay q_folds q_sightings q_rater : Nat} {g_rater_traced : Int64} {Q : Int64 → Prop} (h : wp_X7_trace g_rater_traced Q) (sz : Nat) : MtL l yX7_trace wsX7_trace rm_X7_trace [.ref q] D Y (w_X7_trace Y q q_text q_strip q_told q_images q_kept q_history q_lay q_folds q_sightings q_rater g_rater_traced) (fun r (_ : Unit) => Q r) (fun _ : Unit => (w_X7_trace Y q q_text q_strip q_told q_images q_kept q_history q_lay q_folds q_sightings q_rater g_rater_traced)) sz := by
  refine ct_l (cc := cX7_trace) (nL := 1) (ret := (some .long)) (by decide) rfl (Nat.le_of_ble_eq_true rfl) ?_ sz
  intro p e s m below meth c A ls C hK hA hP hD hS hl
  obtain ⟨⟨hx, hb, hml, hown, hts⟩, hr, hlocks, hN⟩ := id C
  have hown : s.vm.findClass RX7 = some m.cls := hown
  have hl : lv_has ls 1 [(0, .ref q)] := hl
  unfold wp_X7_trace at h
  refine lv_aload_n hx hb dX7_trace_0 rfl (lv_at hl 0 rfl) ?_
  refine va_get (D := D) (ci := 7) (v := .ref q_rater) (C := RX7) (T := TX7) (N := 10) hx hb hts in_X7_trace_X7 hown hK hP 0 rfl rfl 9 (by decide) (k_X7_trace_f65 hts) (fun _ h9 => h9) rfl dX7_trace_1 ?_
  refine va_getN (D := D) (ci := 3) (v := .long g_rater_traced) (C := RX3) (T := TX3) (N := 1) hx hb hts in_X7_trace_X3 hown hK hP 1 rfl rfl 0 (by decide) (va_Nw.use rfl (nwX7_227 hN)) (fun _ h9 => h9) rfl dX7_trace_4 ?_
  exact ret_l () hx hb hr hlocks hK hP hD hS h dX7_trace_7
abbrev rm_X8_in : Room := { frames := 0, cells := 0, slots := 0, locals := 0 }
set_option maxHeartbeats 4000000 in
set_option maxRecDepth 100000 in
theorem c_X8_in {l : Launch} {D : va_G} {Y : ClassId × ClassId × ClassId} {x0 x1 x2 : Int32} {Q : Int32 → Prop} (h : wp_X8_in x0 x1 x2 Q) (sz : Nat) : MtI l yX8_in wsX8_in rm_X8_in [.int x0, .int x1, .int x2] D Y (w_X8_in Y ) (fun r (_ : Unit) => Q r) (fun _ : Unit => (w_X8_in Y )) sz := by
  refine ct_i (cc := cX8_in) (nL := 3) (ret := (some .boolean)) (by decide) rfl (Nat.le_of_ble_eq_true rfl) ?_ sz
  intro p e s m below meth c A ls C hK hA hP hD hS hl
  obtain ⟨⟨hx, hb, hml, hown, hts⟩, hr, hlocks, hN⟩ := id C
  have hown : s.vm.findClass RX8 = some m.cls := hown
  have hl : lv_has ls 3 [(0, .int x0), (1, .int x1), (2, .int x2)] := hl
  unfold wp_X8_in at h
  refine lv_iload_n hx hb dX8_in_0 rfl (lv_at hl 0 rfl) ?_
  refine lv_iload_n hx hb dX8_in_1 rfl (lv_at hl 1 rfl) ?_
  refine lv_icmp_lt (tgt := 14) hx hb dX8_in_2 (by decide) (fun c1 => ?_) (fun c1 => ?_)
  · have h := h.1 c1
    refine lv_iconst (v := 0) hx hb dX8_in_14 (by decide) ?_
    exact ret_z () hx hb hr hlocks hK hP hD hS (Or.inl rfl) h dX8_in_15
  · have h := h.2 c1
    refine lv_iload_n hx hb dX8_in_5 rfl (lv_at hl 0 rfl) ?_
    refine lv_iload_n hx hb dX8_in_6 rfl (lv_at hl 2 rfl) ?_
    refine lv_icmp_gt (tgt := 14) hx hb dX8_in_7 (by decide) (fun c2 => ?_) (fun c2 => ?_)
    · have h := h.1 c2
      refine lv_iconst (v := 0) hx hb dX8_in_14 (by decide) ?_
      exact ret_z () hx hb hr hlocks hK hP hD hS (Or.inl rfl) h dX8_in_15
    · have h := h.2 c2
      refine lv_iconst (v := 1) hx hb dX8_in_10 (by decide) ?_
      refine lv_goto (tgt := 15) hx hb dX8_in_11 (by decide) ?_
      exact ret_z () hx hb hr hlocks hK hP hD hS (Or.inr rfl) h dX8_in_15
abbrev rm_X8_has : Room := { frames := 0, cells := 0, slots := 0, locals := 0 }
set_option maxHeartbeats 4000000 in
set_option maxRecDepth 100000 in
theorem c_X8_has {l : Launch} {D : va_G} {Y : ClassId × ClassId × ClassId} {x0 x1 : Int32} {Q : Int32 → Prop} (h : wp_X8_has x0 x1 Q) (sz : Nat) : MtI l yX8_has wsX8_has rm_X8_has [.int x0, .int x1] D Y (w_X8_has Y ) (fun r (_ : Unit) => Q r) (fun _ : Unit => (w_X8_has Y )) sz := by
  refine ct_i (cc := cX8_has) (nL := 2) (ret := (some .boolean)) (by decide) rfl (Nat.le_of_ble_eq_true rfl) ?_ sz
  intro p e s m below meth c A ls C hK hA hP hD hS hl
  obtain ⟨⟨hx, hb, hml, hown, hts⟩, hr, hlocks, hN⟩ := id C
  have hown : s.vm.findClass RX8 = some m.cls := hown
  have hl : lv_has ls 2 [(0, .int x0), (1, .int x1)] := hl
  unfold wp_X8_has at h
  refine lv_iload_n hx hb dX8_has_0 rfl (lv_at hl 0 rfl) ?_
  refine lv_iload_n hx hb dX8_has_1 rfl (lv_at hl 1 rfl) ?_
  refine lv_ishr hx hb dX8_has_2 ?_
  refine lv_iconst (v := 1) hx hb dX8_has_3 (by decide) ?_
  refine lv_iand hx hb dX8_has_4 ?_
  refine lv_iconst (v := 1) hx hb dX8_has_5 (by decide) ?_
  refine lv_icmp_ne (tgt := 13) hx hb dX8_has_6 (by decide) (fun c1 => ?_) (fun c1 => ?_)
  · have h := h.1 c1
    refine lv_iconst (v := 0) hx hb dX8_has_13 (by decide) ?_
    exact ret_z () hx hb hr hlocks hK hP hD hS (Or.inl rfl) h dX8_has_14
  · have h := h.2 c1
    refine lv_iconst (v := 1) hx hb dX8_has_9 (by decide) ?_
    refine lv_goto (tgt := 14) hx hb dX8_has_10 (by decide) ?_
    exact ret_z () hx hb hr hlocks hK hP hD hS (Or.inr rfl) h dX8_has_14
abbrev rm_X8_bits : Room := { frames := 0, cells := 0, slots := 0, locals := 0 }
set_option maxHeartbeats 4000000 in
set_option maxRecDepth 100000 in
theorem L_X8_bits_4 {p : Program} {l : Launch} {e : Env} {s : State} {m : MethodId} {args : Array Value} {below : List Frame} {meth : Method} {c : Code} {D : va_G} {Y : ClassId × ClassId × ClassId} {A : Nat → Prop} {x0 : Int32} {Q : Int32 → Prop} (C : Ctx p s m args meth c cX8_bits 3 (some .int) wsX8_bits RX8) (hK : va_K D vwCl (tyS Y) s) (hA : ∀ q, s.heap.size ≤ q → A q) : ∀ (n : Nat) (x1 x2 : Int32), itr2 (B_X8_bits_4 x0 Q) n x1 x2 → ∀ (H : Heap) (locs : List Loc) (ls : Array Slot), va_P D vwCl (w_X8_bits Y ) H → va_D A (w_X8_bits Y ) → va_S A s.heap H locs → lv_has ls 3 [(0, .int x0), (1, .int x1), (2, .int x2)] → W p l e rm_X8_bits s m args below meth c H locs 0 0 (QI below args s D Y A (fun r (_ : Unit) => Q r) (fun _ : Unit => (w_X8_bits Y ))) (F0 m 4 ls []) := by
  intro n
  induction n with
  | zero => intro x1 x2 h; exact False.elim h
  | succ n ih =>
    intro x1 x2 h H locs ls hP hD hS hl
    obtain ⟨⟨hx, hb, hml, hown, hts⟩, hr, hlocks, hN⟩ := id C
    have h : B_X8_bits_4 x0 Q (itr2 (B_X8_bits_4 x0 Q) n) x1 x2 := h
    unfold B_X8_bits_4 at h
    refine lv_iload_n hx hb dX8_bits_4 rfl (lv_at hl 2 rfl) ?_
    refine lv_bipush (v := 9) hx hb dX8_bits_5 (by decide) ?_
    refine lv_icmp_ge (tgt := 24) hx hb dX8_bits_7 (by decide) (fun c3 => ?_) (fun c3 => ?_)
    · have h := h.1 c3
      refine lv_iload_n hx hb dX8_bits_24 rfl (lv_at hl 1 rfl) ?_
      exact ret_i () hx hb hr hlocks hK hP hD hS h dX8_bits_25
    · have h := h.2 c3
      refine lv_iload_n hx hb dX8_bits_10 rfl (lv_at hl 1 rfl) ?_
      refine lv_iload_n hx hb dX8_bits_11 rfl (lv_at hl 0 rfl) ?_
      refine lv_iload_n hx hb dX8_bits_12 rfl (lv_at hl 2 rfl) ?_
      refine lv_ishr hx hb dX8_bits_13 ?_
      refine lv_iconst (v := 1) hx hb dX8_bits_14 (by decide) ?_
      refine lv_iand hx hb dX8_bits_15 ?_
      refine lv_iadd hx hb dX8_bits_16 ?_
      refine lv_topi (fun z4 ez4 => ?_)
      have h := h z4 ez4
      refine lv_istore_n (lv' := [(1, .int z4), (0, .int x0), (2, .int x2)]) hx hb dX8_bits_17 rfl hl (by decide) rfl (fun ls hl => ?_)
      obtain ⟨z5, ez5⟩ : ∃ y : Int32, y = (x2 + (1 : Int32)) := ⟨_, rfl⟩
      have h := h z5 ez5
      refine lv_iinc (v := z5) (lv' := [(2, .int z5), (1, .int z4), (0, .int x0)]) hx hb dX8_bits_18 hl (k := 2) rfl (by rw [ez5]; rfl) (by decide) rfl (fun ls hl => ?_)
      refine lv_goto (tgt := 4) hx hb dX8_bits_21 (by decide) ?_
      exact ih _ _ h _ _ _ hP hD hS (lv_sub hl [2, 1, 0] rfl)
set_option maxHeartbeats 4000000 in
set_option maxRecDepth 100000 in
theorem c_X8_bits {l : Launch} {D : va_G} {Y : ClassId × ClassId × ClassId} {x0 : Int32} {Q : Int32 → Prop} (h : wp_X8_bits x0 Q) (sz : Nat) : MtI l yX8_bits wsX8_bits rm_X8_bits [.int x0] D Y (w_X8_bits Y ) (fun r (_ : Unit) => Q r) (fun _ : Unit => (w_X8_bits Y )) sz := by
  refine ct_i (cc := cX8_bits) (nL := 3) (ret := (some .int)) (by decide) rfl (Nat.le_of_ble_eq_true rfl) ?_ sz
  intro p e s m below meth c A ls C hK hA hP hD hS hl
  obtain ⟨⟨hx, hb, hml, hown, hts⟩, hr, hlocks, hN⟩ := id C
  have hown : s.vm.findClass RX8 = some m.cls := hown
  have hl : lv_has ls 3 [(0, .int x0)] := hl
  unfold wp_X8_bits at h
  refine lv_iconst (v := 0) hx hb dX8_bits_0 (by decide) ?_
  refine lv_istore_n (lv' := [(1, .int (0 : Int32)), (0, .int x0)]) hx hb dX8_bits_1 rfl hl (by decide) rfl (fun ls hl => ?_)
  refine lv_iconst (v := 0) hx hb dX8_bits_2 (by decide) ?_
  refine lv_istore_n (lv' := [(2, .int (0 : Int32)), (1, .int (0 : Int32)), (0, .int x0)]) hx hb dX8_bits_3 rfl hl (by decide) rfl (fun ls hl => ?_)
  obtain ⟨n, h⟩ := h
  exact L_X8_bits_4 C hK hA  n _ _ h _ _ _ hP hD hS (lv_sub hl [2, 1, 0] rfl)
abbrev rm_X8_copyRow : Room := { frames := 0, cells := 0, slots := 0, locals := 0 }
theorem in_X8_copyRow_X8 : ∀ w ∈ wsX80, w ∈ wsX8_copyRow := fun _ h => List.mem_cons_of_mem _ (List.mem_append_right _ h)
theorem k_X8_copyRow_f7 {s : State} {args : Array Value} (hts : ∀ w ∈ wsX8_copyRow, w.before args s = true) : (Cond.fieldLink RX8 7 "FoldRuleModel" "row" "[I").before args s = true := hts _ (by decide +kernel)
set_option maxHeartbeats 4000000 in
set_option maxRecDepth 100000 in
theorem L_X8_copyRow_2 {p : Program} {l : Launch} {e : Env} {s : State} {m : MethodId} {args : Array Value} {below : List Frame} {meth : Method} {c : Code} {D : va_G} {Y : ClassId × ClassId × ClassId} {A : Nat → Prop} {q q_row q_isKept q_text q_seenFold q_seenSpan q_readLong q_marks q_isMeasured q_waysAre q_haveSpan : Nat} {g_links g_undos g_length g_seenMany : Int32} {g_trace : Int64} {g_at g_behind g_number g_readLinks g_readFolded g_readStiff g_wayMany x1 x2 : Int32} {Q : (Nat → Int32) → Prop} (C : Ctx p s m args meth c cX8_copyRow 4 none wsX8_copyRow RX8) (hK : va_K D vwCl (tyS Y) s) (hA : ∀ q, s.heap.size ≤ q → A q) : ∀ (n : Nat) (x3 : Int32) (g_row : Nat → Int32), itr2 (B_X8_copyRow_2 x1 x2 Q) n x3 g_row → ∀ (H : Heap) (locs : List Loc) (ls : Array Slot), va_P D vwCl (w_X8_copyRow Y q q_row q_isKept q_text q_seenFold q_seenSpan q_readLong q_marks q_isMeasured q_waysAre q_haveSpan g_links g_undos g_length g_seenMany g_trace g_at g_behind g_number g_readLinks g_readFolded g_readStiff g_wayMany g_row) H → va_D A (w_X8_copyRow Y q q_row q_isKept q_text q_seenFold q_seenSpan q_readLong q_marks q_isMeasured q_waysAre q_haveSpan g_links g_undos g_length g_seenMany g_trace g_at g_behind g_number g_readLinks g_readFolded g_readStiff g_wayMany g_row) → va_S A s.heap H locs → lv_has ls 4 [(0, .ref q), (1, .int x1), (2, .int x2), (3, .int x3)] → W p l e rm_X8_copyRow s m args below meth c H locs 0 0 (QV below args s D Y A (fun (u : (Nat → Int32)) => Q u) (fun u : (Nat → Int32) => (w_X8_copyRow Y q q_row q_isKept q_text q_seenFold q_seenSpan q_readLong q_marks q_isMeasured q_waysAre q_haveSpan g_links g_undos g_length g_seenMany g_trace g_at g_behind g_number g_readLinks g_readFolded g_readStiff g_wayMany u))) (F0 m 2 ls []) := by
  intro n
  induction n with
  | zero => intro x3 g_row h; exact False.elim h
  | succ n ih =>
    intro x3 g_row h H locs ls hP hD hS hl
    obtain ⟨⟨hx, hb, hml, hown, hts⟩, hr, hlocks, hN⟩ := id C
    have h : B_X8_copyRow_2 x1 x2 Q (itr2 (B_X8_copyRow_2 x1 x2 Q) n) x3 g_row := h
    unfold B_X8_copyRow_2 at h
    refine lv_iload_n hx hb dX8_copyRow_2 rfl (lv_at hl 3 rfl) ?_
    refine lv_bipush (v := 11) hx hb dX8_copyRow_3 (by decide) ?_
    refine lv_icmp_ge (tgt := 30) hx hb dX8_copyRow_5 (by decide) (fun c3 => ?_) (fun c3 => ?_)
    · have h := h.1 c3
      exact ret_v (g_row) hx hb hr hlocks hK hP hD hS h dX8_copyRow_30
    · have h := h.2 c3
      refine lv_aload_n hx hb dX8_copyRow_8 rfl (lv_at hl 0 rfl) ?_
      refine va_get (D := D) (ci := 8) (v := .ref q_row) (C := RX8) (T := TX8) (N := 22) hx hb hts in_X8_copyRow_X8 hown hK hP 0 rfl rfl 0 (by decide) (k_X8_copyRow_f7 hts) (fun _ h9 => h9) rfl dX8_copyRow_9 ?_
      refine lv_iload_n hx hb dX8_copyRow_12 rfl (lv_at hl 2 rfl) ?_
      refine lv_iload_n hx hb dX8_copyRow_13 rfl (lv_at hl 3 rfl) ?_
      refine lv_iadd hx hb dX8_copyRow_14 ?_
      refine lv_aload_n hx hb dX8_copyRow_15 rfl (lv_at hl 0 rfl) ?_
      refine va_get (D := D) (ci := 8) (v := .ref q_row) (C := RX8) (T := TX8) (N := 22) hx hb hts in_X8_copyRow_X8 hown hK hP 0 rfl rfl 0 (by decide) (k_X8_copyRow_f7 hts) (fun _ h9 => h9) rfl dX8_copyRow_16 ?_
      refine lv_iload_n hx hb dX8_copyRow_19 rfl (lv_at hl 1 rfl) ?_
      refine lv_iload_n hx hb dX8_copyRow_20 rfl (lv_at hl 3 rfl) ?_
      refine lv_iadd hx hb dX8_copyRow_21 ?_
      obtain ⟨hin, h⟩ := h
      refine va_iald hx hb hK hP 1 0 rfl rfl hin dX8_copyRow_22 ?_
      refine lv_topi (fun z4 ez4 => ?_)
      have h := h z4 ez4
      obtain ⟨hin, h⟩ := h
      refine va_iast hx hb hK hP hD hS 1 0 rfl rfl hin dX8_copyRow_23 (fun H locs hP hD hS => ?_)
      have hP : va_P D vwCl (w_X8_copyRow Y q q_row q_isKept q_text q_seenFold q_seenSpan q_readLong q_marks q_isMeasured q_waysAre q_haveSpan g_links g_undos g_length g_seenMany g_trace g_at g_behind g_number g_readLinks g_readFolded g_readStiff g_wayMany (upd g_row ((x2 + x3)).toNatClampNeg z4)) H := hP
      have hD : va_D A (w_X8_copyRow Y q q_row q_isKept q_text q_seenFold q_seenSpan q_readLong q_marks q_isMeasured q_waysAre q_haveSpan g_links g_undos g_length g_seenMany g_trace g_at g_behind g_number g_readLinks g_readFolded g_readStiff g_wayMany (upd g_row ((x2 + x3)).toNatClampNeg z4)) := hD
      obtain ⟨z5, ez5⟩ : ∃ y : Int32, y = (x3 + (1 : Int32)) := ⟨_, rfl⟩
      have h := h z5 ez5
      refine lv_iinc (v := z5) (lv' := [(3, .int z5), (0, .ref q), (1, .int x1), (2, .int x2)]) hx hb dX8_copyRow_24 hl (k := 3) rfl (by rw [ez5]; rfl) (by decide) rfl (fun ls hl => ?_)
      refine lv_goto (tgt := 2) hx hb dX8_copyRow_27 (by decide) ?_
      exact ih _ _ h _ _ _ hP hD hS (lv_sub hl [1, 2, 3, 0] rfl)
set_option maxHeartbeats 4000000 in
set_option maxRecDepth 100000 in
theorem c_X8_copyRow {l : Launch} {D : va_G} {Y : ClassId × ClassId × ClassId} {q q_row q_isKept q_text q_seenFold q_seenSpan q_readLong q_marks q_isMeasured q_waysAre q_haveSpan : Nat} {g_links g_undos g_length g_seenMany : Int32} {g_trace : Int64} {g_at g_behind g_number g_readLinks g_readFolded g_readStiff g_wayMany : Int32} {g_row : Nat → Int32} {x1 x2 : Int32} {Q : (Nat → Int32) → Prop} (h : wp_X8_copyRow g_row x1 x2 Q) (sz : Nat) : MtV l yX8_copyRow wsX8_copyRow rm_X8_copyRow [.ref q, .int x1, .int x2] D Y (w_X8_copyRow Y q q_row q_isKept q_text q_seenFold q_seenSpan q_readLong q_marks q_isMeasured q_waysAre q_haveSpan g_links g_undos g_length g_seenMany g_trace g_at g_behind g_number g_readLinks g_readFolded g_readStiff g_wayMany g_row) (fun (u : (Nat → Int32)) => Q u) (fun u : (Nat → Int32) => (w_X8_copyRow Y q q_row q_isKept q_text q_seenFold q_seenSpan q_readLong q_marks q_isMeasured q_waysAre q_haveSpan g_links g_undos g_length g_seenMany g_trace g_at g_behind g_number g_readLinks g_readFolded g_readStiff g_wayMany u)) sz := by
  refine ct_v (cc := cX8_copyRow) (nL := 4) (ret := none) (by decide) rfl (Nat.le_of_ble_eq_true rfl) ?_ sz
  intro p e s m below meth c A ls C hK hA hP hD hS hl
  obtain ⟨⟨hx, hb, hml, hown, hts⟩, hr, hlocks, hN⟩ := id C
  have hown : s.vm.findClass RX8 = some m.cls := hown
  have hl : lv_has ls 4 [(0, .ref q), (1, .int x1), (2, .int x2)] := hl
  unfold wp_X8_copyRow at h
  refine lv_iconst (v := 0) hx hb dX8_copyRow_0 (by decide) ?_
  refine lv_istore_n (lv' := [(3, .int (0 : Int32)), (0, .ref q), (1, .int x1), (2, .int x2)]) hx hb dX8_copyRow_1 rfl hl (by decide) rfl (fun ls hl => ?_)
  obtain ⟨n, h⟩ := h
  exact L_X8_copyRow_2 C hK hA  n _ _ h _ _ _ hP hD hS (lv_sub hl [1, 2, 3, 0] rfl)
abbrev rm_X8_isLink : Room := { frames := 1, cells := 0, slots := 0, locals := 22 }
theorem in_X8_isLink_X8 : ∀ w ∈ wsX80, w ∈ wsX8_isLink := fun _ h => List.mem_cons_of_mem _ (List.mem_append_right _ h)
theorem k_X8_isLink_f41 {s : State} {args : Array Value} (hts : ∀ w ∈ wsX8_isLink, w.before args s = true) : (Cond.fieldLink RX8 41 "FoldRuleModel" "links" "I").before args s = true := hts _ (by decide +kernel)
set_option maxHeartbeats 4000000 in
set_option maxRecDepth 100000 in
theorem c_X8_isLink {l : Launch} {D : va_G} {Y : ClassId × ClassId × ClassId} {q q_row q_isKept q_text q_seenFold q_seenSpan q_readLong q_marks q_isMeasured q_waysAre q_haveSpan : Nat} {g_links g_undos g_length g_seenMany : Int32} {g_trace : Int64} {g_at g_behind g_number g_readLinks g_readFolded g_readStiff g_wayMany x1 : Int32} {Q : Int32 → Prop} (h : wp_X8_isLink g_links x1 Q) (sz : Nat) : MtI l yX8_isLink wsX8_isLink rm_X8_isLink [.ref q, .int x1] D Y (w_X8_isLink Y q q_row q_isKept q_text q_seenFold q_seenSpan q_readLong q_marks q_isMeasured q_waysAre q_haveSpan g_links g_undos g_length g_seenMany g_trace g_at g_behind g_number g_readLinks g_readFolded g_readStiff g_wayMany) (fun r (_ : Unit) => Q r) (fun _ : Unit => (w_X8_isLink Y q q_row q_isKept q_text q_seenFold q_seenSpan q_readLong q_marks q_isMeasured q_waysAre q_haveSpan g_links g_undos g_length g_seenMany g_trace g_at g_behind g_number g_readLinks g_readFolded g_readStiff g_wayMany)) sz := by
  refine ct_i (cc := cX8_isLink) (nL := 2) (ret := (some .boolean)) (by decide) rfl (Nat.le_of_ble_eq_true rfl) ?_ sz
  intro p e s m below meth c A ls C hK hA hP hD hS hl
  obtain ⟨⟨hx, hb, hml, hown, hts⟩, hr, hlocks, hN⟩ := id C
  have hown : s.vm.findClass RX8 = some m.cls := hown
  have hl : lv_has ls 2 [(0, .ref q), (1, .int x1)] := hl
  unfold wp_X8_isLink at h
  refine lv_iload_n hx hb dX8_isLink_0 rfl (lv_at hl 1 rfl) ?_
  refine lv_iconst (v := 0) hx hb dX8_isLink_1 (by decide) ?_
  refine lv_aload_n hx hb dX8_isLink_2 rfl (lv_at hl 0 rfl) ?_
  refine va_get (D := D) (ci := 8) (v := .int g_links) (C := RX8) (T := TX8) (N := 22) hx hb hts in_X8_isLink_X8 hown hK hP 0 rfl rfl 1 (by decide) (k_X8_isLink_f41 hts) (fun _ h9 => h9) rfl dX8_isLink_3 ?_
  refine lv_iconst (v := 1) hx hb dX8_isLink_6 (by decide) ?_
  refine lv_isub hx hb dX8_isLink_7 ?_
  have hp : Pt (w_X8_isLink Y q q_row q_isKept q_text q_seenFold q_seenSpan q_readLong q_marks q_isMeasured q_waysAre q_haveSpan g_links g_undos g_length g_seenMany g_trace g_at g_behind g_number g_readLinks g_readFolded g_readStiff g_wayMany) (w_X8_in Y ) [] := ⟨rfl, by decide +kernel⟩
  refine go_i hp hP hD hS hA (fun _ => rfl) (va_runS (As := [.int x1, .int (0 : Int32), .int (g_links - (1 : Int32))]) (rest := []) ⟨hx, hb, hml, hown, hts⟩ (c_X8_in h _) (va_cwS 3 hts gX8_isLink_X8_in rfl rfl rfl (by decide +kernel) ⟨Nat.le_of_ble_eq_true rfl, Nat.le_of_ble_eq_true rfl⟩) (pre_S hp hK hN hP hD) rfl rfl hl.1 rfl (lv_room (Nat.le_of_ble_eq_true rfl)) dX8_isLink_8 ⟨Nat.le_of_ble_eq_true rfl, Nat.le_of_ble_eq_true rfl⟩) (fun r2 u H locs h hP hD hS => ?_)
  try dsimp only at h
  have hP : va_P D vwCl (w_X8_isLink Y q q_row q_isKept q_text q_seenFold q_seenSpan q_readLong q_marks q_isMeasured q_waysAre q_haveSpan g_links g_undos g_length g_seenMany g_trace g_at g_behind g_number g_readLinks g_readFolded g_readStiff g_wayMany) H := hP
  have hD : va_D A (w_X8_isLink Y q q_row q_isKept q_text q_seenFold q_seenSpan q_readLong q_marks q_isMeasured q_waysAre q_haveSpan g_links g_undos g_length g_seenMany g_trace g_at g_behind g_number g_readLinks g_readFolded g_readStiff g_wayMany) := hD
  exact ret_z () hx hb hr hlocks hK hP hD hS h.1 h.2 dX8_isLink_11
abbrev rm_X8_isJoint : Room := { frames := 1, cells := 0, slots := 0, locals := 22 }
theorem in_X8_isJoint_X8 : ∀ w ∈ wsX80, w ∈ wsX8_isJoint := fun _ h => List.mem_cons_of_mem _ (List.mem_append_right _ h)
theorem k_X8_isJoint_f41 {s : State} {args : Array Value} (hts : ∀ w ∈ wsX8_isJoint, w.before args s = true) : (Cond.fieldLink RX8 41 "FoldRuleModel" "links" "I").before args s = true := hts _ (by decide +kernel)
set_option maxHeartbeats 4000000 in
set_option maxRecDepth 100000 in
theorem c_X8_isJoint {l : Launch} {D : va_G} {Y : ClassId × ClassId × ClassId} {q q_row q_isKept q_text q_seenFold q_seenSpan q_readLong q_marks q_isMeasured q_waysAre q_haveSpan : Nat} {g_links g_undos g_length g_seenMany : Int32} {g_trace : Int64} {g_at g_behind g_number g_readLinks g_readFolded g_readStiff g_wayMany x1 : Int32} {Q : Int32 → Prop} (h : wp_X8_isJoint g_links x1 Q) (sz : Nat) : MtI l yX8_isJoint wsX8_isJoint rm_X8_isJoint [.ref q, .int x1] D Y (w_X8_isJoint Y q q_row q_isKept q_text q_seenFold q_seenSpan q_readLong q_marks q_isMeasured q_waysAre q_haveSpan g_links g_undos g_length g_seenMany g_trace g_at g_behind g_number g_readLinks g_readFolded g_readStiff g_wayMany) (fun r (_ : Unit) => Q r) (fun _ : Unit => (w_X8_isJoint Y q q_row q_isKept q_text q_seenFold q_seenSpan q_readLong q_marks q_isMeasured q_waysAre q_haveSpan g_links g_undos g_length g_seenMany g_trace g_at g_behind g_number g_readLinks g_readFolded g_readStiff g_wayMany)) sz := by
  refine ct_i (cc := cX8_isJoint) (nL := 2) (ret := (some .boolean)) (by decide) rfl (Nat.le_of_ble_eq_true rfl) ?_ sz
  intro p e s m below meth c A ls C hK hA hP hD hS hl
  obtain ⟨⟨hx, hb, hml, hown, hts⟩, hr, hlocks, hN⟩ := id C
  have hown : s.vm.findClass RX8 = some m.cls := hown
  have hl : lv_has ls 2 [(0, .ref q), (1, .int x1)] := hl
  unfold wp_X8_isJoint at h
  refine lv_iload_n hx hb dX8_isJoint_0 rfl (lv_at hl 1 rfl) ?_
  refine lv_iconst (v := 0) hx hb dX8_isJoint_1 (by decide) ?_
  refine lv_aload_n hx hb dX8_isJoint_2 rfl (lv_at hl 0 rfl) ?_
  refine va_get (D := D) (ci := 8) (v := .int g_links) (C := RX8) (T := TX8) (N := 22) hx hb hts in_X8_isJoint_X8 hown hK hP 0 rfl rfl 1 (by decide) (k_X8_isJoint_f41 hts) (fun _ h9 => h9) rfl dX8_isJoint_3 ?_
  refine lv_iconst (v := 2) hx hb dX8_isJoint_6 (by decide) ?_
  refine lv_isub hx hb dX8_isJoint_7 ?_
  have hp : Pt (w_X8_isJoint Y q q_row q_isKept q_text q_seenFold q_seenSpan q_readLong q_marks q_isMeasured q_waysAre q_haveSpan g_links g_undos g_length g_seenMany g_trace g_at g_behind g_number g_readLinks g_readFolded g_readStiff g_wayMany) (w_X8_in Y ) [] := ⟨rfl, by decide +kernel⟩
  refine go_i hp hP hD hS hA (fun _ => rfl) (va_runS (As := [.int x1, .int (0 : Int32), .int (g_links - (2 : Int32))]) (rest := []) ⟨hx, hb, hml, hown, hts⟩ (c_X8_in h _) (va_cwS 3 hts gX8_isJoint_X8_in rfl rfl rfl (by decide +kernel) ⟨Nat.le_of_ble_eq_true rfl, Nat.le_of_ble_eq_true rfl⟩) (pre_S hp hK hN hP hD) rfl rfl hl.1 rfl (lv_room (Nat.le_of_ble_eq_true rfl)) dX8_isJoint_8 ⟨Nat.le_of_ble_eq_true rfl, Nat.le_of_ble_eq_true rfl⟩) (fun r2 u H locs h hP hD hS => ?_)
  try dsimp only at h
  have hP : va_P D vwCl (w_X8_isJoint Y q q_row q_isKept q_text q_seenFold q_seenSpan q_readLong q_marks q_isMeasured q_waysAre q_haveSpan g_links g_undos g_length g_seenMany g_trace g_at g_behind g_number g_readLinks g_readFolded g_readStiff g_wayMany) H := hP
  have hD : va_D A (w_X8_isJoint Y q q_row q_isKept q_text q_seenFold q_seenSpan q_readLong q_marks q_isMeasured q_waysAre q_haveSpan g_links g_undos g_length g_seenMany g_trace g_at g_behind g_number g_readLinks g_readFolded g_readStiff g_wayMany) := hD
  exact ret_z () hx hb hr hlocks hK hP hD hS h.1 h.2 dX8_isJoint_11
abbrev rm_X8_type : Room := { frames := 1, cells := 0, slots := 0, locals := 22 }
theorem in_X8_type_X8 : ∀ w ∈ wsX80, w ∈ wsX8_type := fun _ h => List.mem_cons_of_mem _ (List.mem_append_right _ h)
theorem k_X8_type_f49 {s : State} {args : Array Value} (hts : ∀ w ∈ wsX8_type, w.before args s = true) : (Cond.fieldLink RX8 49 "FoldRuleModel" "length" "I").before args s = true := hts _ (by decide +kernel)
theorem k_X8_type_f17 {s : State} {args : Array Value} (hts : ∀ w ∈ wsX8_type, w.before args s = true) : (Cond.fieldLink RX8 17 "FoldRuleModel" "text" "[I").before args s = true := hts _ (by decide +kernel)
set_option maxHeartbeats 4000000 in
set_option maxRecDepth 100000 in
theorem c_X8_type {l : Launch} {D : va_G} {Y : ClassId × ClassId × ClassId} {q q_row q_isKept q_text q_seenFold q_seenSpan q_readLong q_marks q_isMeasured q_waysAre q_haveSpan : Nat} {g_links g_undos g_length g_seenMany : Int32} {g_trace : Int64} {g_at g_behind g_number g_readLinks g_readFolded g_readStiff g_wayMany : Int32} {g_text : Nat → Int32} {x1 : Int32} {Q : Int32 → Int32 → (Nat → Int32) → Prop} (h : wp_X8_type g_length g_text x1 Q) (sz : Nat) : MtI l yX8_type wsX8_type rm_X8_type [.ref q, .int x1] D Y (w_X8_type Y q q_row q_isKept q_text q_seenFold q_seenSpan q_readLong q_marks q_isMeasured q_waysAre q_haveSpan g_links g_undos g_length g_seenMany g_trace g_at g_behind g_number g_readLinks g_readFolded g_readStiff g_wayMany g_text) (fun r (u : Int32 × (Nat → Int32)) => Q r u.1 u.2) (fun u : Int32 × (Nat → Int32) => (w_X8_type Y q q_row q_isKept q_text q_seenFold q_seenSpan q_readLong q_marks q_isMeasured q_waysAre q_haveSpan g_links g_undos u.1 g_seenMany g_trace g_at g_behind g_number g_readLinks g_readFolded g_readStiff g_wayMany u.2)) sz := by
  refine ct_i (cc := cX8_type) (nL := 2) (ret := (some .int)) (by decide) rfl (Nat.le_of_ble_eq_true rfl) ?_ sz
  intro p e s m below meth c A ls C hK hA hP hD hS hl
  obtain ⟨⟨hx, hb, hml, hown, hts⟩, hr, hlocks, hN⟩ := id C
  have hown : s.vm.findClass RX8 = some m.cls := hown
  have hl : lv_has ls 2 [(0, .ref q), (1, .int x1)] := hl
  unfold wp_X8_type at h
  refine lv_iload_n hx hb dX8_type_0 rfl (lv_at hl 1 rfl) ?_
  refine lv_iconst (v := 0) hx hb dX8_type_1 (by decide) ?_
  refine lv_sipush (v := 255) hx hb dX8_type_2 (by decide) ?_
  have hp : Pt (w_X8_type Y q q_row q_isKept q_text q_seenFold q_seenSpan q_readLong q_marks q_isMeasured q_waysAre q_haveSpan g_links g_undos g_length g_seenMany g_trace g_at g_behind g_number g_readLinks g_readFolded g_readStiff g_wayMany g_text) (w_X8_in Y ) [] := ⟨rfl, by decide +kernel⟩
  refine go_i hp hP hD hS hA (fun _ => rfl) (va_runS (As := [.int x1, .int (0 : Int32), .int (255 : Int32)]) (rest := []) ⟨hx, hb, hml, hown, hts⟩ (c_X8_in h _) (va_cwS 3 hts gX8_type_X8_in rfl rfl rfl (by decide +kernel) ⟨Nat.le_of_ble_eq_true rfl, Nat.le_of_ble_eq_true rfl⟩) (pre_S hp hK hN hP hD) rfl rfl hl.1 rfl (lv_room (Nat.le_of_ble_eq_true rfl)) dX8_type_5 ⟨Nat.le_of_ble_eq_true rfl, Nat.le_of_ble_eq_true rfl⟩) (fun r3 u H locs h hP hD hS => ?_)
  try dsimp only at h
  have hP : va_P D vwCl (w_X8_type Y q q_row q_isKept q_text q_seenFold q_seenSpan q_readLong q_marks q_isMeasured q_waysAre q_haveSpan g_links g_undos g_length g_seenMany g_trace g_at g_behind g_number g_readLinks g_readFolded g_readStiff g_wayMany g_text) H := hP
  have hD : va_D A (w_X8_type Y q q_row q_isKept q_text q_seenFold q_seenSpan q_readLong q_marks q_isMeasured q_waysAre q_haveSpan g_links g_undos g_length g_seenMany g_trace g_at g_behind g_number g_readLinks g_readFolded g_readStiff g_wayMany g_text) := hD
  refine lv_if_ne (tgt := 13) hx hb dX8_type_8 (by decide) (fun c4 => ?_) (fun c4 => ?_)
  · have h := h.1 c4
    refine lv_aload_n hx hb dX8_type_13 rfl (lv_at hl 0 rfl) ?_
    refine va_get (D := D) (ci := 8) (v := .int g_length) (C := RX8) (T := TX8) (N := 22) hx hb hts in_X8_type_X8 hown hK hP 0 rfl rfl 5 (by decide) (k_X8_type_f49 hts) (fun _ h9 => h9) rfl dX8_type_14 ?_
    refine lv_bipush (v := 90) hx hb dX8_type_17 (by decide) ?_
    refine lv_icmp_ne (tgt := 25) hx hb dX8_type_19 (by decide) (fun c5 => ?_) (fun c5 => ?_)
    · have h := h.1 c5
      refine lv_aload_n hx hb dX8_type_25 rfl (lv_at hl 0 rfl) ?_
      refine va_get (D := D) (ci := 8) (v := .ref q_text) (C := RX8) (T := TX8) (N := 22) hx hb hts in_X8_type_X8 hown hK hP 0 rfl rfl 4 (by decide) (k_X8_type_f17 hts) (fun _ h9 => h9) rfl dX8_type_26 ?_
      refine lv_aload_n hx hb dX8_type_29 rfl (lv_at hl 0 rfl) ?_
      refine va_get (D := D) (ci := 8) (v := .int g_length) (C := RX8) (T := TX8) (N := 22) hx hb hts in_X8_type_X8 hown hK hP 0 rfl rfl 5 (by decide) (k_X8_type_f49 hts) (fun _ h9 => h9) rfl dX8_type_30 ?_
      refine lv_iload_n hx hb dX8_type_33 rfl (lv_at hl 1 rfl) ?_
      obtain ⟨hin, h⟩ := h
      refine va_iast hx hb hK hP hD hS 1 0 rfl rfl hin dX8_type_34 (fun H locs hP hD hS => ?_)
      have hP : va_P D vwCl (w_X8_type Y q q_row q_isKept q_text q_seenFold q_seenSpan q_readLong q_marks q_isMeasured q_waysAre q_haveSpan g_links g_undos g_length g_seenMany g_trace g_at g_behind g_number g_readLinks g_readFolded g_readStiff g_wayMany (upd g_text (g_length).toNatClampNeg x1)) H := hP
      have hD : va_D A (w_X8_type Y q q_row q_isKept q_text q_seenFold q_seenSpan q_readLong q_marks q_isMeasured q_waysAre q_haveSpan g_links g_undos g_length g_seenMany g_trace g_at g_behind g_number g_readLinks g_readFolded g_readStiff g_wayMany (upd g_text (g_length).toNatClampNeg x1)) := hD
      refine lv_aload_n hx hb dX8_type_35 rfl (lv_at hl 0 rfl) ?_
      refine lv_dup hx hb dX8_type_36 rfl ?_
      refine va_get (D := D) (ci := 8) (v := .int g_length) (C := RX8) (T := TX8) (N := 22) hx hb hts in_X8_type_X8 hown hK hP 0 rfl rfl 5 (by decide) (k_X8_type_f49 hts) (fun _ h9 => h9) rfl dX8_type_37 ?_
      refine lv_iconst (v := 1) hx hb dX8_type_40 (by decide) ?_
      refine lv_iadd hx hb dX8_type_41 ?_
      refine lv_topi (fun z6 ez6 => ?_)
      have h := h z6 ez6
      refine va_put (D := D) (ci := 8) (v := .int z6) (ty := .int) (C := RX8) (T := TX8) (N := 22) hx hb hts in_X8_type_X8 tyX8 tyX8_ok nmX8 hown hK hP hD hS 0 rfl rfl 5 (by decide) (k_X8_type_f49 hts) (fun _ h9 => h9) rfl (by decide +kernel) rfl rfl (Nat.le_of_ble_eq_true rfl) dX8_type_42 (fun H locs hP hD hS => ?_)
      have hP : va_P D vwCl (w_X8_type Y q q_row q_isKept q_text q_seenFold q_seenSpan q_readLong q_marks q_isMeasured q_waysAre q_haveSpan g_links g_undos z6 g_seenMany g_trace g_at g_behind g_number g_readLinks g_readFolded g_readStiff g_wayMany (upd g_text (g_length).toNatClampNeg x1)) H := hP
      have hD : va_D A (w_X8_type Y q q_row q_isKept q_text q_seenFold q_seenSpan q_readLong q_marks q_isMeasured q_waysAre q_haveSpan g_links g_undos z6 g_seenMany g_trace g_at g_behind g_number g_readLinks g_readFolded g_readStiff g_wayMany (upd g_text (g_length).toNatClampNeg x1)) := hD
      refine lv_aload_n hx hb dX8_type_45 rfl (lv_at hl 0 rfl) ?_
      refine va_get (D := D) (ci := 8) (v := .int z6) (C := RX8) (T := TX8) (N := 22) hx hb hts in_X8_type_X8 hown hK hP 0 rfl rfl 5 (by decide) (k_X8_type_f49 hts) (fun _ h9 => h9) rfl dX8_type_46 ?_
      exact ret_i (z6, (upd g_text (g_length).toNatClampNeg x1)) hx hb hr hlocks hK hP hD hS h dX8_type_49
    · have h := h.2 c5
      refine lv_bipush (v := (-3)) hx hb dX8_type_22 (by decide) ?_
      exact ret_i (g_length, g_text) hx hb hr hlocks hK hP hD hS h dX8_type_24
  · have h := h.2 c4
    refine lv_iconst (v := (-1)) hx hb dX8_type_11 (by decide) ?_
    exact ret_i (g_length, g_text) hx hb hr hlocks hK hP hD hS h dX8_type_12
abbrev rm_X8_clear : Room := { frames := 0, cells := 0, slots := 0, locals := 0 }
theorem in_X8_clear_X8 : ∀ w ∈ wsX80, w ∈ wsX8_clear := fun _ h => List.mem_cons_of_mem _ (List.mem_append_right _ h)
theorem k_X8_clear_f49 {s : State} {args : Array Value} (hts : ∀ w ∈ wsX8_clear, w.before args s = true) : (Cond.fieldLink RX8 49 "FoldRuleModel" "length" "I").before args s = true := hts _ (by decide +kernel)
set_option maxHeartbeats 4000000 in
set_option maxRecDepth 100000 in
theorem c_X8_clear {l : Launch} {D : va_G} {Y : ClassId × ClassId × ClassId} {q q_row q_isKept q_text q_seenFold q_seenSpan q_readLong q_marks q_isMeasured q_waysAre q_haveSpan : Nat} {g_links g_undos g_length g_seenMany : Int32} {g_trace : Int64} {g_at g_behind g_number g_readLinks g_readFolded g_readStiff g_wayMany : Int32} {Q : Int32 → Int32 → Prop} (h : wp_X8_clear g_length Q) (sz : Nat) : MtI l yX8_clear wsX8_clear rm_X8_clear [.ref q] D Y (w_X8_clear Y q q_row q_isKept q_text q_seenFold q_seenSpan q_readLong q_marks q_isMeasured q_waysAre q_haveSpan g_links g_undos g_length g_seenMany g_trace g_at g_behind g_number g_readLinks g_readFolded g_readStiff g_wayMany) (fun r (u : Int32) => Q r u) (fun u : Int32 => (w_X8_clear Y q q_row q_isKept q_text q_seenFold q_seenSpan q_readLong q_marks q_isMeasured q_waysAre q_haveSpan g_links g_undos u g_seenMany g_trace g_at g_behind g_number g_readLinks g_readFolded g_readStiff g_wayMany)) sz := by
  refine ct_i (cc := cX8_clear) (nL := 2) (ret := (some .int)) (by decide) rfl (Nat.le_of_ble_eq_true rfl) ?_ sz
  intro p e s m below meth c A ls C hK hA hP hD hS hl
  obtain ⟨⟨hx, hb, hml, hown, hts⟩, hr, hlocks, hN⟩ := id C
  have hown : s.vm.findClass RX8 = some m.cls := hown
  have hl : lv_has ls 2 [(0, .ref q)] := hl
  unfold wp_X8_clear at h
  refine lv_aload_n hx hb dX8_clear_0 rfl (lv_at hl 0 rfl) ?_
  refine va_get (D := D) (ci := 8) (v := .int g_length) (C := RX8) (T := TX8) (N := 22) hx hb hts in_X8_clear_X8 hown hK hP 0 rfl rfl 5 (by decide) (k_X8_clear_f49 hts) (fun _ h9 => h9) rfl dX8_clear_1 ?_
  refine lv_istore_n (lv' := [(1, .int g_length), (0, .ref q)]) hx hb dX8_clear_4 rfl hl (by decide) rfl (fun ls hl => ?_)
  refine lv_aload_n hx hb dX8_clear_5 rfl (lv_at hl 1 rfl) ?_
  refine lv_iconst (v := 0) hx hb dX8_clear_6 (by decide) ?_
  refine va_put (D := D) (ci := 8) (v := .int (0 : Int32)) (ty := .int) (C := RX8) (T := TX8) (N := 22) hx hb hts in_X8_clear_X8 tyX8 tyX8_ok nmX8 hown hK hP hD hS 0 rfl rfl 5 (by decide) (k_X8_clear_f49 hts) (fun _ h9 => h9) rfl (by decide +kernel) rfl rfl (Nat.le_of_ble_eq_true rfl) dX8_clear_7 (fun H locs hP hD hS => ?_)
  have hP : va_P D vwCl (w_X8_clear Y q q_row q_isKept q_text q_seenFold q_seenSpan q_readLong q_marks q_isMeasured q_waysAre q_haveSpan g_links g_undos (0 : Int32) g_seenMany g_trace g_at g_behind g_number g_readLinks g_readFolded g_readStiff g_wayMany) H := hP
  have hD : va_D A (w_X8_clear Y q q_row q_isKept q_text q_seenFold q_seenSpan q_readLong q_marks q_isMeasured q_waysAre q_haveSpan g_links g_undos (0 : Int32) g_seenMany g_trace g_at g_behind g_number g_readLinks g_readFolded g_readStiff g_wayMany) := hD
  refine lv_iload_n hx hb dX8_clear_10 rfl (lv_at hl 0 rfl) ?_
  exact ret_i ((0 : Int32)) hx hb hr hlocks hK hP hD hS h dX8_clear_11
abbrev rm_X8_isFigure : Room := { frames := 1, cells := 0, slots := 0, locals := 22 }
theorem in_X8_isFigure_X8 : ∀ w ∈ wsX80, w ∈ wsX8_isFigure := fun _ h => List.mem_cons_of_mem _ (List.mem_append_right _ h)
theorem k_X8_isFigure_f49 {s : State} {args : Array Value} (hts : ∀ w ∈ wsX8_isFigure, w.before args s = true) : (Cond.fieldLink RX8 49 "FoldRuleModel" "length" "I").before args s = true := hts _ (by decide +kernel)
theorem k_X8_isFigure_f17 {s : State} {args : Array Value} (hts : ∀ w ∈ wsX8_isFigure, w.before args s = true) : (Cond.fieldLink RX8 17 "FoldRuleModel" "text" "[I").before args s = true := hts _ (by decide +kernel)
set_option maxHeartbeats 4000000 in
set_option maxRecDepth 100000 in
theorem c_X8_isFigure {l : Launch} {D : va_G} {Y : ClassId × ClassId × ClassId} {q q_row q_isKept q_text q_seenFold q_seenSpan q_readLong q_marks q_isMeasured q_waysAre q_haveSpan : Nat} {g_links g_undos g_length g_seenMany : Int32} {g_trace : Int64} {g_at g_behind g_number g_readLinks g_readFolded g_readStiff g_wayMany : Int32} {g_text : Nat → Int32} {x1 : Int32} {Q : Int32 → Prop} (h : wp_X8_isFigure g_length g_text x1 Q) (sz : Nat) : MtI l yX8_isFigure wsX8_isFigure rm_X8_isFigure [.ref q, .int x1] D Y (w_X8_isFigure Y q q_row q_isKept q_text q_seenFold q_seenSpan q_readLong q_marks q_isMeasured q_waysAre q_haveSpan g_links g_undos g_length g_seenMany g_trace g_at g_behind g_number g_readLinks g_readFolded g_readStiff g_wayMany g_text) (fun r (_ : Unit) => Q r) (fun _ : Unit => (w_X8_isFigure Y q q_row q_isKept q_text q_seenFold q_seenSpan q_readLong q_marks q_isMeasured q_waysAre q_haveSpan g_links g_undos g_length g_seenMany g_trace g_at g_behind g_number g_readLinks g_readFolded g_readStiff g_wayMany g_text)) sz := by
  refine ct_i (cc := cX8_isFigure) (nL := 2) (ret := (some .boolean)) (by decide) rfl (Nat.le_of_ble_eq_true rfl) ?_ sz
  intro p e s m below meth c A ls C hK hA hP hD hS hl
  obtain ⟨⟨hx, hb, hml, hown, hts⟩, hr, hlocks, hN⟩ := id C
  have hown : s.vm.findClass RX8 = some m.cls := hown
  have hl : lv_has ls 2 [(0, .ref q), (1, .int x1)] := hl
  unfold wp_X8_isFigure at h
  refine lv_iload_n hx hb dX8_isFigure_0 rfl (lv_at hl 1 rfl) ?_
  refine lv_aload_n hx hb dX8_isFigure_1 rfl (lv_at hl 0 rfl) ?_
  refine va_get (D := D) (ci := 8) (v := .int g_length) (C := RX8) (T := TX8) (N := 22) hx hb hts in_X8_isFigure_X8 hown hK hP 0 rfl rfl 5 (by decide) (k_X8_isFigure_f49 hts) (fun _ h9 => h9) rfl dX8_isFigure_2 ?_
  refine lv_icmp_ge (tgt := 28) hx hb dX8_isFigure_5 (by decide) (fun c2 => ?_) (fun c2 => ?_)
  · have h := h.1 c2
    refine lv_iconst (v := 0) hx hb dX8_isFigure_28 (by decide) ?_
    exact ret_z () hx hb hr hlocks hK hP hD hS (Or.inl rfl) h dX8_isFigure_29
  · have h := h.2 c2
    refine lv_aload_n hx hb dX8_isFigure_8 rfl (lv_at hl 0 rfl) ?_
    refine va_get (D := D) (ci := 8) (v := .ref q_text) (C := RX8) (T := TX8) (N := 22) hx hb hts in_X8_isFigure_X8 hown hK hP 0 rfl rfl 4 (by decide) (k_X8_isFigure_f17 hts) (fun _ h9 => h9) rfl dX8_isFigure_9 ?_
    refine lv_iload_n hx hb dX8_isFigure_12 rfl (lv_at hl 1 rfl) ?_
    obtain ⟨hin, h⟩ := h
    refine va_iald hx hb hK hP 1 0 rfl rfl hin dX8_isFigure_13 ?_
    refine lv_bipush (v := 48) hx hb dX8_isFigure_14 (by decide) ?_
    refine lv_bipush (v := 57) hx hb dX8_isFigure_16 (by decide) ?_
    have hp : Pt (w_X8_isFigure Y q q_row q_isKept q_text q_seenFold q_seenSpan q_readLong q_marks q_isMeasured q_waysAre q_haveSpan g_links g_undos g_length g_seenMany g_trace g_at g_behind g_number g_readLinks g_readFolded g_readStiff g_wayMany g_text) (w_X8_in Y ) [] := ⟨rfl, by decide +kernel⟩
    refine go_i hp hP hD hS hA (fun _ => rfl) (va_runS (As := [.int (g_text (x1).toNatClampNeg), .int (48 : Int32), .int (57 : Int32)]) (rest := []) ⟨hx, hb, hml, hown, hts⟩ (c_X8_in h _) (va_cwS 3 hts gX8_isFigure_X8_in rfl rfl rfl (by decide +kernel) ⟨Nat.le_of_ble_eq_true rfl, Nat.le_of_ble_eq_true rfl⟩) (pre_S hp hK hN hP hD) rfl rfl hl.1 rfl (lv_room (Nat.le_of_ble_eq_true rfl)) dX8_isFigure_18 ⟨Nat.le_of_ble_eq_true rfl, Nat.le_of_ble_eq_true rfl⟩) (fun r3 u H locs h hP hD hS => ?_)
    try dsimp only at h
    have hP : va_P D vwCl (w_X8_isFigure Y q q_row q_isKept q_text q_seenFold q_seenSpan q_readLong q_marks q_isMeasured q_waysAre q_haveSpan g_links g_undos g_length g_seenMany g_trace g_at g_behind g_number g_readLinks g_readFolded g_readStiff g_wayMany g_text) H := hP
    have hD : va_D A (w_X8_isFigure Y q q_row q_isKept q_text q_seenFold q_seenSpan q_readLong q_marks q_isMeasured q_waysAre q_haveSpan g_links g_undos g_length g_seenMany g_trace g_at g_behind g_number g_readLinks g_readFolded g_readStiff g_wayMany g_text) := hD
    refine lv_if_eq (tgt := 28) hx hb dX8_isFigure_21 (by decide) (fun c4 => ?_) (fun c4 => ?_)
    · have h := h.1 c4
      refine lv_iconst (v := 0) hx hb dX8_isFigure_28 (by decide) ?_
      exact ret_z () hx hb hr hlocks hK hP hD hS (Or.inl rfl) h dX8_isFigure_29
    · have h := h.2 c4
      refine lv_iconst (v := 1) hx hb dX8_isFigure_24 (by decide) ?_
      refine lv_goto (tgt := 29) hx hb dX8_isFigure_25 (by decide) ?_
      exact ret_z () hx hb hr hlocks hK hP hD hS (Or.inr rfl) h dX8_isFigure_29
abbrev rm_X8_nextToken : Room := { frames := 2, cells := 0, slots := 0, locals := 43 }
theorem in_X8_nextToken_X8 : ∀ w ∈ wsX80, w ∈ wsX8_nextToken := fun _ h => List.mem_cons_of_mem _ (List.mem_append_right _ h)
theorem k_X8_nextToken_f55 {s : State} {args : Array Value} (hts : ∀ w ∈ wsX8_nextToken, w.before args s = true) : (Cond.fieldLink RX8 55 "FoldRuleModel" "at" "I").before args s = true := hts _ (by decide +kernel)
theorem k_X8_nextToken_f52 {s : State} {args : Array Value} (hts : ∀ w ∈ wsX8_nextToken, w.before args s = true) : (Cond.fieldLink RX8 52 "FoldRuleModel" "behind" "I").before args s = true := hts _ (by decide +kernel)
theorem k_X8_nextToken_f49 {s : State} {args : Array Value} (hts : ∀ w ∈ wsX8_nextToken, w.before args s = true) : (Cond.fieldLink RX8 49 "FoldRuleModel" "length" "I").before args s = true := hts _ (by decide +kernel)
theorem k_X8_nextToken_f17 {s : State} {args : Array Value} (hts : ∀ w ∈ wsX8_nextToken, w.before args s = true) : (Cond.fieldLink RX8 17 "FoldRuleModel" "text" "[I").before args s = true := hts _ (by decide +kernel)
set_option maxHeartbeats 4000000 in
set_option maxRecDepth 100000 in
theorem L_X8_nextToken_74 {p : Program} {l : Launch} {e : Env} {s : State} {m : MethodId} {args : Array Value} {below : List Frame} {meth : Method} {c : Code} {D : va_G} {Y : ClassId × ClassId × ClassId} {A : Nat → Prop} {q q_row q_isKept q_text q_seenFold q_seenSpan q_readLong q_marks q_isMeasured q_waysAre q_haveSpan : Nat} {g_links g_undos g_length g_seenMany : Int32} {g_trace : Int64} {g_at g_number g_readLinks g_readFolded g_readStiff g_wayMany : Int32} {g_text : Nat → Int32} {Q : Int32 → Int32 → Prop} (C : Ctx p s m args meth c cX8_nextToken 1 none wsX8_nextToken RX8) (hK : va_K D vwCl (tyS Y) s) (hA : ∀ q, s.heap.size ≤ q → A q) : ∀ (n : Nat) (g_behind : Int32), itr1 (B_X8_nextToken_74 g_length g_at g_text Q) n g_behind → ∀ (H : Heap) (locs : List Loc) (ls : Array Slot), va_P D vwCl (w_X8_nextToken Y q q_row q_isKept q_text q_seenFold q_seenSpan q_readLong q_marks q_isMeasured q_waysAre q_haveSpan g_links g_undos g_length g_seenMany g_trace g_at g_behind g_number g_readLinks g_readFolded g_readStiff g_wayMany g_text) H → va_D A (w_X8_nextToken Y q q_row q_isKept q_text q_seenFold q_seenSpan q_readLong q_marks q_isMeasured q_waysAre q_haveSpan g_links g_undos g_length g_seenMany g_trace g_at g_behind g_number g_readLinks g_readFolded g_readStiff g_wayMany g_text) → va_S A s.heap H locs → lv_has ls 1 [(0, .ref q)] → W p l e rm_X8_nextToken s m args below meth c H locs 0 0 (QV below args s D Y A (fun (u : Int32 × Int32) => Q u.1 u.2) (fun u : Int32 × Int32 => (w_X8_nextToken Y q q_row q_isKept q_text q_seenFold q_seenSpan q_readLong q_marks q_isMeasured q_waysAre q_haveSpan g_links g_undos g_length g_seenMany g_trace u.1 u.2 g_number g_readLinks g_readFolded g_readStiff g_wayMany g_text))) (F0 m 74 ls []) := by
  intro n
  induction n with
  | zero => intro g_behind h; exact False.elim h
  | succ n ih =>
    intro g_behind h H locs ls hP hD hS hl
    obtain ⟨⟨hx, hb, hml, hown, hts⟩, hr, hlocks, hN⟩ := id C
    have h : B_X8_nextToken_74 g_length g_at g_text Q (itr1 (B_X8_nextToken_74 g_length g_at g_text Q) n) g_behind := h
    unfold B_X8_nextToken_74 at h
    refine lv_aload_n hx hb dX8_nextToken_74 rfl (lv_at hl 0 rfl) ?_
    refine lv_aload_n hx hb dX8_nextToken_75 rfl (lv_at hl 0 rfl) ?_
    refine va_get (D := D) (ci := 8) (v := .int g_at) (C := RX8) (T := TX8) (N := 22) hx hb hts in_X8_nextToken_X8 hown hK hP 0 rfl rfl 10 (by decide) (k_X8_nextToken_f55 hts) (fun _ h9 => h9) rfl dX8_nextToken_76 ?_
    have hp : Pt (w_X8_nextToken Y q q_row q_isKept q_text q_seenFold q_seenSpan q_readLong q_marks q_isMeasured q_waysAre q_haveSpan g_links g_undos g_length g_seenMany g_trace g_at g_behind g_number g_readLinks g_readFolded g_readStiff g_wayMany g_text) (w_X8_isFigure Y q q_row q_isKept q_text q_seenFold q_seenSpan q_readLong q_marks q_isMeasured q_waysAre q_haveSpan g_links g_undos g_length g_seenMany g_trace g_at g_behind g_number g_readLinks g_readFolded g_readStiff g_wayMany g_text) [0, 1] := ⟨rfl, by decide +kernel⟩
    refine go_i hp hP hD hS hA (fun _ => rfl) (va_runV (As := [.int g_at]) (rest := []) ⟨hx, hb, hml, hown, hts⟩ (c_X8_isFigure h _) (cwV 1 hts gX8_nextToken_X8_isFigure rfl rfl rfl (by decide +kernel) ⟨Nat.le_of_ble_eq_true rfl, Nat.le_of_ble_eq_true rfl⟩) (pre_V (b := q) (q0 := 0) (ci := 8) (q := (RX8, TX8, 22)) hp hK hN hP hD rfl rfl) rfl rfl hl.1 rfl (lv_room (Nat.le_of_ble_eq_true rfl)) dX8_nextToken_79 ⟨Nat.le_of_ble_eq_true rfl, Nat.le_of_ble_eq_true rfl⟩) (fun r7 u H locs h hP hD hS => ?_)
    try dsimp only at h
    have hP : va_P D vwCl (w_X8_nextToken Y q q_row q_isKept q_text q_seenFold q_seenSpan q_readLong q_marks q_isMeasured q_waysAre q_haveSpan g_links g_undos g_length g_seenMany g_trace g_at g_behind g_number g_readLinks g_readFolded g_readStiff g_wayMany g_text) H := hP
    have hD : va_D A (w_X8_nextToken Y q q_row q_isKept q_text q_seenFold q_seenSpan q_readLong q_marks q_isMeasured q_waysAre q_haveSpan g_links g_undos g_length g_seenMany g_trace g_at g_behind g_number g_readLinks g_readFolded g_readStiff g_wayMany g_text) := hD
    refine lv_if_eq (tgt := 109) hx hb dX8_nextToken_82 (by decide) (fun c8 => ?_) (fun c8 => ?_)
    · have h := h.1 c8
      exact ret_v (g_at, g_behind) hx hb hr hlocks hK hP hD hS h dX8_nextToken_109
    · have h := h.2 c8
      refine lv_aload_n hx hb dX8_nextToken_85 rfl (lv_at hl 0 rfl) ?_
      refine lv_aload_n hx hb dX8_nextToken_86 rfl (lv_at hl 0 rfl) ?_
      refine va_get (D := D) (ci := 8) (v := .int g_behind) (C := RX8) (T := TX8) (N := 22) hx hb hts in_X8_nextToken_X8 hown hK hP 0 rfl rfl 11 (by decide) (k_X8_nextToken_f52 hts) (fun _ h9 => h9) rfl dX8_nextToken_87 ?_
      have hp : Pt (w_X8_nextToken Y q q_row q_isKept q_text q_seenFold q_seenSpan q_readLong q_marks q_isMeasured q_waysAre q_haveSpan g_links g_undos g_length g_seenMany g_trace g_at g_behind g_number g_readLinks g_readFolded g_readStiff g_wayMany g_text) (w_X8_isFigure Y q q_row q_isKept q_text q_seenFold q_seenSpan q_readLong q_marks q_isMeasured q_waysAre q_haveSpan g_links g_undos g_length g_seenMany g_trace g_at g_behind g_number g_readLinks g_readFolded g_readStiff g_wayMany g_text) [0, 1] := ⟨rfl, by decide +kernel⟩
      refine go_i hp hP hD hS hA (fun _ => rfl) (va_runV (As := [.int g_behind]) (rest := []) ⟨hx, hb, hml, hown, hts⟩ (c_X8_isFigure h _) (cwV 1 hts gX8_nextToken_X8_isFigure rfl rfl rfl (by decide +kernel) ⟨Nat.le_of_ble_eq_true rfl, Nat.le_of_ble_eq_true rfl⟩) (pre_V (b := q) (q0 := 0) (ci := 8) (q := (RX8, TX8, 22)) hp hK hN hP hD rfl rfl) rfl rfl hl.1 rfl (lv_room (Nat.le_of_ble_eq_true rfl)) dX8_nextToken_90 ⟨Nat.le_of_ble_eq_true rfl, Nat.le_of_ble_eq_true rfl⟩) (fun r9 u H locs h hP hD hS => ?_)
      try dsimp only at h
      have hP : va_P D vwCl (w_X8_nextToken Y q q_row q_isKept q_text q_seenFold q_seenSpan q_readLong q_marks q_isMeasured q_waysAre q_haveSpan g_links g_undos g_length g_seenMany g_trace g_at g_behind g_number g_readLinks g_readFolded g_readStiff g_wayMany g_text) H := hP
      have hD : va_D A (w_X8_nextToken Y q q_row q_isKept q_text q_seenFold q_seenSpan q_readLong q_marks q_isMeasured q_waysAre q_haveSpan g_links g_undos g_length g_seenMany g_trace g_at g_behind g_number g_readLinks g_readFolded g_readStiff g_wayMany g_text) := hD
      refine lv_if_eq (tgt := 109) hx hb dX8_nextToken_93 (by decide) (fun c10 => ?_) (fun c10 => ?_)
      · have h := h.1 c10
        exact ret_v (g_at, g_behind) hx hb hr hlocks hK hP hD hS h dX8_nextToken_109
      · have h := h.2 c10
        refine lv_aload_n hx hb dX8_nextToken_96 rfl (lv_at hl 0 rfl) ?_
        refine lv_dup hx hb dX8_nextToken_97 rfl ?_
        refine va_get (D := D) (ci := 8) (v := .int g_behind) (C := RX8) (T := TX8) (N := 22) hx hb hts in_X8_nextToken_X8 hown hK hP 0 rfl rfl 11 (by decide) (k_X8_nextToken_f52 hts) (fun _ h9 => h9) rfl dX8_nextToken_98 ?_
        refine lv_iconst (v := 1) hx hb dX8_nextToken_101 (by decide) ?_
        refine lv_iadd hx hb dX8_nextToken_102 ?_
        refine lv_topi (fun z11 ez11 => ?_)
        have h := h z11 ez11
        refine va_put (D := D) (ci := 8) (v := .int z11) (ty := .int) (C := RX8) (T := TX8) (N := 22) hx hb hts in_X8_nextToken_X8 tyX8 tyX8_ok nmX8 hown hK hP hD hS 0 rfl rfl 11 (by decide) (k_X8_nextToken_f52 hts) (fun _ h9 => h9) rfl (by decide +kernel) rfl rfl (Nat.le_of_ble_eq_true rfl) dX8_nextToken_103 (fun H locs hP hD hS => ?_)
        have hP : va_P D vwCl (w_X8_nextToken Y q q_row q_isKept q_text q_seenFold q_seenSpan q_readLong q_marks q_isMeasured q_waysAre q_haveSpan g_links g_undos g_length g_seenMany g_trace g_at z11 g_number g_readLinks g_readFolded g_readStiff g_wayMany g_text) H := hP
        have hD : va_D A (w_X8_nextToken Y q q_row q_isKept q_text q_seenFold q_seenSpan q_readLong q_marks q_isMeasured q_waysAre q_haveSpan g_links g_undos g_length g_seenMany g_trace g_at z11 g_number g_readLinks g_readFolded g_readStiff g_wayMany g_text) := hD
        refine lv_goto (tgt := 74) hx hb dX8_nextToken_106 (by decide) ?_
        exact ih _ h _ _ _ hP hD hS (lv_sub hl [0] rfl)
set_option maxHeartbeats 4000000 in
set_option maxRecDepth 100000 in
theorem L_X8_nextToken_8 {p : Program} {l : Launch} {e : Env} {s : State} {m : MethodId} {args : Array Value} {below : List Frame} {meth : Method} {c : Code} {D : va_G} {Y : ClassId × ClassId × ClassId} {A : Nat → Prop} {q q_row q_isKept q_text q_seenFold q_seenSpan q_readLong q_marks q_isMeasured q_waysAre q_haveSpan : Nat} {g_links g_undos g_length g_seenMany : Int32} {g_trace : Int64} {g_behind g_number g_readLinks g_readFolded g_readStiff g_wayMany : Int32} {g_text : Nat → Int32} {Q : Int32 → Int32 → Prop} (C : Ctx p s m args meth c cX8_nextToken 1 none wsX8_nextToken RX8) (hK : va_K D vwCl (tyS Y) s) (hA : ∀ q, s.heap.size ≤ q → A q) : ∀ (n : Nat) (g_at : Int32), itr1 (B_X8_nextToken_8 g_length g_text Q) n g_at → ∀ (H : Heap) (locs : List Loc) (ls : Array Slot), va_P D vwCl (w_X8_nextToken Y q q_row q_isKept q_text q_seenFold q_seenSpan q_readLong q_marks q_isMeasured q_waysAre q_haveSpan g_links g_undos g_length g_seenMany g_trace g_at g_behind g_number g_readLinks g_readFolded g_readStiff g_wayMany g_text) H → va_D A (w_X8_nextToken Y q q_row q_isKept q_text q_seenFold q_seenSpan q_readLong q_marks q_isMeasured q_waysAre q_haveSpan g_links g_undos g_length g_seenMany g_trace g_at g_behind g_number g_readLinks g_readFolded g_readStiff g_wayMany g_text) → va_S A s.heap H locs → lv_has ls 1 [(0, .ref q)] → W p l e rm_X8_nextToken s m args below meth c H locs 0 0 (QV below args s D Y A (fun (u : Int32 × Int32) => Q u.1 u.2) (fun u : Int32 × Int32 => (w_X8_nextToken Y q q_row q_isKept q_text q_seenFold q_seenSpan q_readLong q_marks q_isMeasured q_waysAre q_haveSpan g_links g_undos g_length g_seenMany g_trace u.1 u.2 g_number g_readLinks g_readFolded g_readStiff g_wayMany g_text))) (F0 m 8 ls []) := by
  intro n
  induction n with
  | zero => intro g_at h; exact False.elim h
  | succ n ih =>
    intro g_at h H locs ls hP hD hS hl
    obtain ⟨⟨hx, hb, hml, hown, hts⟩, hr, hlocks, hN⟩ := id C
    have h : B_X8_nextToken_8 g_length g_text Q (itr1 (B_X8_nextToken_8 g_length g_text Q) n) g_at := h
    unfold B_X8_nextToken_8 at h
    refine lv_aload_n hx hb dX8_nextToken_8 rfl (lv_at hl 0 rfl) ?_
    refine va_get (D := D) (ci := 8) (v := .int g_at) (C := RX8) (T := TX8) (N := 22) hx hb hts in_X8_nextToken_X8 hown hK hP 0 rfl rfl 10 (by decide) (k_X8_nextToken_f55 hts) (fun _ h9 => h9) rfl dX8_nextToken_9 ?_
    refine lv_aload_n hx hb dX8_nextToken_12 rfl (lv_at hl 0 rfl) ?_
    refine va_get (D := D) (ci := 8) (v := .int g_length) (C := RX8) (T := TX8) (N := 22) hx hb hts in_X8_nextToken_X8 hown hK hP 0 rfl rfl 5 (by decide) (k_X8_nextToken_f49 hts) (fun _ h9 => h9) rfl dX8_nextToken_13 ?_
    refine lv_icmp_ge (tgt := 46) hx hb dX8_nextToken_16 (by decide) (fun c12 => ?_) (fun c12 => ?_)
    · have h := h.1 c12
      refine lv_aload_n hx hb dX8_nextToken_46 rfl (lv_at hl 0 rfl) ?_
      refine lv_aload_n hx hb dX8_nextToken_47 rfl (lv_at hl 0 rfl) ?_
      refine va_get (D := D) (ci := 8) (v := .int g_at) (C := RX8) (T := TX8) (N := 22) hx hb hts in_X8_nextToken_X8 hown hK hP 0 rfl rfl 10 (by decide) (k_X8_nextToken_f55 hts) (fun _ h9 => h9) rfl dX8_nextToken_48 ?_
      refine lv_aload_n hx hb dX8_nextToken_51 rfl (lv_at hl 0 rfl) ?_
      refine va_get (D := D) (ci := 8) (v := .int g_length) (C := RX8) (T := TX8) (N := 22) hx hb hts in_X8_nextToken_X8 hown hK hP 0 rfl rfl 5 (by decide) (k_X8_nextToken_f49 hts) (fun _ h9 => h9) rfl dX8_nextToken_52 ?_
      refine lv_icmp_ge (tgt := 67) hx hb dX8_nextToken_55 (by decide) (fun c13 => ?_) (fun c13 => ?_)
      · have h := h.1 c13
        refine lv_aload_n hx hb dX8_nextToken_67 rfl (lv_at hl 0 rfl) ?_
        refine va_get (D := D) (ci := 8) (v := .int g_at) (C := RX8) (T := TX8) (N := 22) hx hb hts in_X8_nextToken_X8 hown hK hP 0 rfl rfl 10 (by decide) (k_X8_nextToken_f55 hts) (fun _ h9 => h9) rfl dX8_nextToken_68 ?_
        refine va_put (D := D) (ci := 8) (v := .int g_at) (ty := .int) (C := RX8) (T := TX8) (N := 22) hx hb hts in_X8_nextToken_X8 tyX8 tyX8_ok nmX8 hown hK hP hD hS 0 rfl rfl 11 (by decide) (k_X8_nextToken_f52 hts) (fun _ h9 => h9) rfl (by decide +kernel) rfl rfl (Nat.le_of_ble_eq_true rfl) dX8_nextToken_71 (fun H locs hP hD hS => ?_)
        have hP : va_P D vwCl (w_X8_nextToken Y q q_row q_isKept q_text q_seenFold q_seenSpan q_readLong q_marks q_isMeasured q_waysAre q_haveSpan g_links g_undos g_length g_seenMany g_trace g_at g_at g_number g_readLinks g_readFolded g_readStiff g_wayMany g_text) H := hP
        have hD : va_D A (w_X8_nextToken Y q q_row q_isKept q_text q_seenFold q_seenSpan q_readLong q_marks q_isMeasured q_waysAre q_haveSpan g_links g_undos g_length g_seenMany g_trace g_at g_at g_number g_readLinks g_readFolded g_readStiff g_wayMany g_text) := hD
        obtain ⟨n, h⟩ := h
        exact L_X8_nextToken_74 C hK hA  n _ h _ _ _ hP hD hS (lv_sub hl [0] rfl)
      · have h := h.2 c13
        refine lv_aload_n hx hb dX8_nextToken_58 rfl (lv_at hl 0 rfl) ?_
        refine va_get (D := D) (ci := 8) (v := .int g_at) (C := RX8) (T := TX8) (N := 22) hx hb hts in_X8_nextToken_X8 hown hK hP 0 rfl rfl 10 (by decide) (k_X8_nextToken_f55 hts) (fun _ h9 => h9) rfl dX8_nextToken_59 ?_
        refine lv_iconst (v := 1) hx hb dX8_nextToken_62 (by decide) ?_
        refine lv_iadd hx hb dX8_nextToken_63 ?_
        refine lv_goto (tgt := 71) hx hb dX8_nextToken_64 (by decide) ?_
        refine lv_topi (fun z14 ez14 => ?_)
        have h := h z14 ez14
        refine va_put (D := D) (ci := 8) (v := .int z14) (ty := .int) (C := RX8) (T := TX8) (N := 22) hx hb hts in_X8_nextToken_X8 tyX8 tyX8_ok nmX8 hown hK hP hD hS 0 rfl rfl 11 (by decide) (k_X8_nextToken_f52 hts) (fun _ h9 => h9) rfl (by decide +kernel) rfl rfl (Nat.le_of_ble_eq_true rfl) dX8_nextToken_71 (fun H locs hP hD hS => ?_)
        have hP : va_P D vwCl (w_X8_nextToken Y q q_row q_isKept q_text q_seenFold q_seenSpan q_readLong q_marks q_isMeasured q_waysAre q_haveSpan g_links g_undos g_length g_seenMany g_trace g_at z14 g_number g_readLinks g_readFolded g_readStiff g_wayMany g_text) H := hP
        have hD : va_D A (w_X8_nextToken Y q q_row q_isKept q_text q_seenFold q_seenSpan q_readLong q_marks q_isMeasured q_waysAre q_haveSpan g_links g_undos g_length g_seenMany g_trace g_at z14 g_number g_readLinks g_readFolded g_readStiff g_wayMany g_text) := hD
        obtain ⟨n, h⟩ := h
        exact L_X8_nextToken_74 C hK hA  n _ h _ _ _ hP hD hS (lv_sub hl [0] rfl)
    · have h := h.2 c12
      refine lv_aload_n hx hb dX8_nextToken_19 rfl (lv_at hl 0 rfl) ?_
      refine va_get (D := D) (ci := 8) (v := .ref q_text) (C := RX8) (T := TX8) (N := 22) hx hb hts in_X8_nextToken_X8 hown hK hP 0 rfl rfl 4 (by decide) (k_X8_nextToken_f17 hts) (fun _ h9 => h9) rfl dX8_nextToken_20 ?_
      refine lv_aload_n hx hb dX8_nextToken_23 rfl (lv_at hl 0 rfl) ?_
      refine va_get (D := D) (ci := 8) (v := .int g_at) (C := RX8) (T := TX8) (N := 22) hx hb hts in_X8_nextToken_X8 hown hK hP 0 rfl rfl 10 (by decide) (k_X8_nextToken_f55 hts) (fun _ h9 => h9) rfl dX8_nextToken_24 ?_
      obtain ⟨hin, h⟩ := h
      refine va_iald hx hb hK hP 1 0 rfl rfl hin dX8_nextToken_27 ?_
      refine lv_bipush (v := 32) hx hb dX8_nextToken_28 (by decide) ?_
      refine lv_icmp_ne (tgt := 46) hx hb dX8_nextToken_30 (by decide) (fun c15 => ?_) (fun c15 => ?_)
      · have h := h.1 c15
        refine lv_aload_n hx hb dX8_nextToken_46 rfl (lv_at hl 0 rfl) ?_
        refine lv_aload_n hx hb dX8_nextToken_47 rfl (lv_at hl 0 rfl) ?_
        refine va_get (D := D) (ci := 8) (v := .int g_at) (C := RX8) (T := TX8) (N := 22) hx hb hts in_X8_nextToken_X8 hown hK hP 0 rfl rfl 10 (by decide) (k_X8_nextToken_f55 hts) (fun _ h9 => h9) rfl dX8_nextToken_48 ?_
        refine lv_aload_n hx hb dX8_nextToken_51 rfl (lv_at hl 0 rfl) ?_
        refine va_get (D := D) (ci := 8) (v := .int g_length) (C := RX8) (T := TX8) (N := 22) hx hb hts in_X8_nextToken_X8 hown hK hP 0 rfl rfl 5 (by decide) (k_X8_nextToken_f49 hts) (fun _ h9 => h9) rfl dX8_nextToken_52 ?_
        refine lv_icmp_ge (tgt := 67) hx hb dX8_nextToken_55 (by decide) (fun c16 => ?_) (fun c16 => ?_)
        · have h := h.1 c16
          refine lv_aload_n hx hb dX8_nextToken_67 rfl (lv_at hl 0 rfl) ?_
          refine va_get (D := D) (ci := 8) (v := .int g_at) (C := RX8) (T := TX8) (N := 22) hx hb hts in_X8_nextToken_X8 hown hK hP 0 rfl rfl 10 (by decide) (k_X8_nextToken_f55 hts) (fun _ h9 => h9) rfl dX8_nextToken_68 ?_
          refine va_put (D := D) (ci := 8) (v := .int g_at) (ty := .int) (C := RX8) (T := TX8) (N := 22) hx hb hts in_X8_nextToken_X8 tyX8 tyX8_ok nmX8 hown hK hP hD hS 0 rfl rfl 11 (by decide) (k_X8_nextToken_f52 hts) (fun _ h9 => h9) rfl (by decide +kernel) rfl rfl (Nat.le_of_ble_eq_true rfl) dX8_nextToken_71 (fun H locs hP hD hS => ?_)
          have hP : va_P D vwCl (w_X8_nextToken Y q q_row q_isKept q_text q_seenFold q_seenSpan q_readLong q_marks q_isMeasured q_waysAre q_haveSpan g_links g_undos g_length g_seenMany g_trace g_at g_at g_number g_readLinks g_readFolded g_readStiff g_wayMany g_text) H := hP
          have hD : va_D A (w_X8_nextToken Y q q_row q_isKept q_text q_seenFold q_seenSpan q_readLong q_marks q_isMeasured q_waysAre q_haveSpan g_links g_undos g_length g_seenMany g_trace g_at g_at g_number g_readLinks g_readFolded g_readStiff g_wayMany g_text) := hD
          obtain ⟨n, h⟩ := h
          exact L_X8_nextToken_74 C hK hA  n _ h _ _ _ hP hD hS (lv_sub hl [0] rfl)
        · have h := h.2 c16
          refine lv_aload_n hx hb dX8_nextToken_58 rfl (lv_at hl 0 rfl) ?_
          refine va_get (D := D) (ci := 8) (v := .int g_at) (C := RX8) (T := TX8) (N := 22) hx hb hts in_X8_nextToken_X8 hown hK hP 0 rfl rfl 10 (by decide) (k_X8_nextToken_f55 hts) (fun _ h9 => h9) rfl dX8_nextToken_59 ?_
          refine lv_iconst (v := 1) hx hb dX8_nextToken_62 (by decide) ?_
          refine lv_iadd hx hb dX8_nextToken_63 ?_
          refine lv_goto (tgt := 71) hx hb dX8_nextToken_64 (by decide) ?_
          refine lv_topi (fun z17 ez17 => ?_)
          have h := h z17 ez17
          refine va_put (D := D) (ci := 8) (v := .int z17) (ty := .int) (C := RX8) (T := TX8) (N := 22) hx hb hts in_X8_nextToken_X8 tyX8 tyX8_ok nmX8 hown hK hP hD hS 0 rfl rfl 11 (by decide) (k_X8_nextToken_f52 hts) (fun _ h9 => h9) rfl (by decide +kernel) rfl rfl (Nat.le_of_ble_eq_true rfl) dX8_nextToken_71 (fun H locs hP hD hS => ?_)
          have hP : va_P D vwCl (w_X8_nextToken Y q q_row q_isKept q_text q_seenFold q_seenSpan q_readLong q_marks q_isMeasured q_waysAre q_haveSpan g_links g_undos g_length g_seenMany g_trace g_at z17 g_number g_readLinks g_readFolded g_readStiff g_wayMany g_text) H := hP
          have hD : va_D A (w_X8_nextToken Y q q_row q_isKept q_text q_seenFold q_seenSpan q_readLong q_marks q_isMeasured q_waysAre q_haveSpan g_links g_undos g_length g_seenMany g_trace g_at z17 g_number g_readLinks g_readFolded g_readStiff g_wayMany g_text) := hD
          obtain ⟨n, h⟩ := h
          exact L_X8_nextToken_74 C hK hA  n _ h _ _ _ hP hD hS (lv_sub hl [0] rfl)
      · have h := h.2 c15
        refine lv_aload_n hx hb dX8_nextToken_33 rfl (lv_at hl 0 rfl) ?_
        refine lv_dup hx hb dX8_nextToken_34 rfl ?_
        refine va_get (D := D) (ci := 8) (v := .int g_at) (C := RX8) (T := TX8) (N := 22) hx hb hts in_X8_nextToken_X8 hown hK hP 0 rfl rfl 10 (by decide) (k_X8_nextToken_f55 hts) (fun _ h9 => h9) rfl dX8_nextToken_35 ?_
        refine lv_iconst (v := 1) hx hb dX8_nextToken_38 (by decide) ?_
        refine lv_iadd hx hb dX8_nextToken_39 ?_
        refine lv_topi (fun z18 ez18 => ?_)
        have h := h z18 ez18
        refine va_put (D := D) (ci := 8) (v := .int z18) (ty := .int) (C := RX8) (T := TX8) (N := 22) hx hb hts in_X8_nextToken_X8 tyX8 tyX8_ok nmX8 hown hK hP hD hS 0 rfl rfl 10 (by decide) (k_X8_nextToken_f55 hts) (fun _ h9 => h9) rfl (by decide +kernel) rfl rfl (Nat.le_of_ble_eq_true rfl) dX8_nextToken_40 (fun H locs hP hD hS => ?_)
        have hP : va_P D vwCl (w_X8_nextToken Y q q_row q_isKept q_text q_seenFold q_seenSpan q_readLong q_marks q_isMeasured q_waysAre q_haveSpan g_links g_undos g_length g_seenMany g_trace z18 g_behind g_number g_readLinks g_readFolded g_readStiff g_wayMany g_text) H := hP
        have hD : va_D A (w_X8_nextToken Y q q_row q_isKept q_text q_seenFold q_seenSpan q_readLong q_marks q_isMeasured q_waysAre q_haveSpan g_links g_undos g_length g_seenMany g_trace z18 g_behind g_number g_readLinks g_readFolded g_readStiff g_wayMany g_text) := hD
        refine lv_goto (tgt := 8) hx hb dX8_nextToken_43 (by decide) ?_
        exact ih _ h _ _ _ hP hD hS (lv_sub hl [0] rfl)
set_option maxHeartbeats 4000000 in
set_option maxRecDepth 100000 in
theorem c_X8_nextToken {l : Launch} {D : va_G} {Y : ClassId × ClassId × ClassId} {q q_row q_isKept q_text q_seenFold q_seenSpan q_readLong q_marks q_isMeasured q_waysAre q_haveSpan : Nat} {g_links g_undos g_length g_seenMany : Int32} {g_trace : Int64} {g_at g_behind g_number g_readLinks g_readFolded g_readStiff g_wayMany : Int32} {g_text : Nat → Int32} {Q : Int32 → Int32 → Prop} (h : wp_X8_nextToken g_length g_at g_behind g_text Q) (sz : Nat) : MtV l yX8_nextToken wsX8_nextToken rm_X8_nextToken [.ref q] D Y (w_X8_nextToken Y q q_row q_isKept q_text q_seenFold q_seenSpan q_readLong q_marks q_isMeasured q_waysAre q_haveSpan g_links g_undos g_length g_seenMany g_trace g_at g_behind g_number g_readLinks g_readFolded g_readStiff g_wayMany g_text) (fun (u : Int32 × Int32) => Q u.1 u.2) (fun u : Int32 × Int32 => (w_X8_nextToken Y q q_row q_isKept q_text q_seenFold q_seenSpan q_readLong q_marks q_isMeasured q_waysAre q_haveSpan g_links g_undos g_length g_seenMany g_trace u.1 u.2 g_number g_readLinks g_readFolded g_readStiff g_wayMany g_text)) sz := by
  refine ct_v (cc := cX8_nextToken) (nL := 1) (ret := none) (by decide) rfl (Nat.le_of_ble_eq_true rfl) ?_ sz
  intro p e s m below meth c A ls C hK hA hP hD hS hl
  obtain ⟨⟨hx, hb, hml, hown, hts⟩, hr, hlocks, hN⟩ := id C
  have hown : s.vm.findClass RX8 = some m.cls := hown
  have hl : lv_has ls 1 [(0, .ref q)] := hl
  unfold wp_X8_nextToken at h
  refine lv_aload_n hx hb dX8_nextToken_0 rfl (lv_at hl 0 rfl) ?_
  refine lv_aload_n hx hb dX8_nextToken_1 rfl (lv_at hl 0 rfl) ?_
  refine va_get (D := D) (ci := 8) (v := .int g_behind) (C := RX8) (T := TX8) (N := 22) hx hb hts in_X8_nextToken_X8 hown hK hP 0 rfl rfl 11 (by decide) (k_X8_nextToken_f52 hts) (fun _ h9 => h9) rfl dX8_nextToken_2 ?_
  refine va_put (D := D) (ci := 8) (v := .int g_behind) (ty := .int) (C := RX8) (T := TX8) (N := 22) hx hb hts in_X8_nextToken_X8 tyX8 tyX8_ok nmX8 hown hK hP hD hS 0 rfl rfl 10 (by decide) (k_X8_nextToken_f55 hts) (fun _ h9 => h9) rfl (by decide +kernel) rfl rfl (Nat.le_of_ble_eq_true rfl) dX8_nextToken_5 (fun H locs hP hD hS => ?_)
  have hP : va_P D vwCl (w_X8_nextToken Y q q_row q_isKept q_text q_seenFold q_seenSpan q_readLong q_marks q_isMeasured q_waysAre q_haveSpan g_links g_undos g_length g_seenMany g_trace g_behind g_behind g_number g_readLinks g_readFolded g_readStiff g_wayMany g_text) H := hP
  have hD : va_D A (w_X8_nextToken Y q q_row q_isKept q_text q_seenFold q_seenSpan q_readLong q_marks q_isMeasured q_waysAre q_haveSpan g_links g_undos g_length g_seenMany g_trace g_behind g_behind g_number g_readLinks g_readFolded g_readStiff g_wayMany g_text) := hD
  obtain ⟨n, h⟩ := h
  exact L_X8_nextToken_8 C hK hA  n _ h _ _ _ hP hD hS (lv_sub hl [0] rfl)
abbrev rm_X8_isSign : Room := { frames := 0, cells := 0, slots := 0, locals := 0 }
theorem in_X8_isSign_X8 : ∀ w ∈ wsX80, w ∈ wsX8_isSign := fun _ h => List.mem_cons_of_mem _ (List.mem_append_right _ h)
theorem k_X8_isSign_f55 {s : State} {args : Array Value} (hts : ∀ w ∈ wsX8_isSign, w.before args s = true) : (Cond.fieldLink RX8 55 "FoldRuleModel" "at" "I").before args s = true := hts _ (by decide +kernel)
theorem k_X8_isSign_f49 {s : State} {args : Array Value} (hts : ∀ w ∈ wsX8_isSign, w.before args s = true) : (Cond.fieldLink RX8 49 "FoldRuleModel" "length" "I").before args s = true := hts _ (by decide +kernel)
theorem k_X8_isSign_f17 {s : State} {args : Array Value} (hts : ∀ w ∈ wsX8_isSign, w.before args s = true) : (Cond.fieldLink RX8 17 "FoldRuleModel" "text" "[I").before args s = true := hts _ (by decide +kernel)
set_option maxHeartbeats 4000000 in
set_option maxRecDepth 100000 in
theorem c_X8_isSign {l : Launch} {D : va_G} {Y : ClassId × ClassId × ClassId} {q q_row q_isKept q_text q_seenFold q_seenSpan q_readLong q_marks q_isMeasured q_waysAre q_haveSpan : Nat} {g_links g_undos g_length g_seenMany : Int32} {g_trace : Int64} {g_at g_behind g_number g_readLinks g_readFolded g_readStiff g_wayMany : Int32} {g_text : Nat → Int32} {x1 : Int32} {Q : Int32 → Prop} (h : wp_X8_isSign g_length g_at g_text x1 Q) (sz : Nat) : MtI l yX8_isSign wsX8_isSign rm_X8_isSign [.ref q, .int x1] D Y (w_X8_isSign Y q q_row q_isKept q_text q_seenFold q_seenSpan q_readLong q_marks q_isMeasured q_waysAre q_haveSpan g_links g_undos g_length g_seenMany g_trace g_at g_behind g_number g_readLinks g_readFolded g_readStiff g_wayMany g_text) (fun r (_ : Unit) => Q r) (fun _ : Unit => (w_X8_isSign Y q q_row q_isKept q_text q_seenFold q_seenSpan q_readLong q_marks q_isMeasured q_waysAre q_haveSpan g_links g_undos g_length g_seenMany g_trace g_at g_behind g_number g_readLinks g_readFolded g_readStiff g_wayMany g_text)) sz := by
  refine ct_i (cc := cX8_isSign) (nL := 2) (ret := (some .boolean)) (by decide) rfl (Nat.le_of_ble_eq_true rfl) ?_ sz
  intro p e s m below meth c A ls C hK hA hP hD hS hl
  obtain ⟨⟨hx, hb, hml, hown, hts⟩, hr, hlocks, hN⟩ := id C
  have hown : s.vm.findClass RX8 = some m.cls := hown
  have hl : lv_has ls 2 [(0, .ref q), (1, .int x1)] := hl
  unfold wp_X8_isSign at h
  refine lv_aload_n hx hb dX8_isSign_0 rfl (lv_at hl 0 rfl) ?_
  refine va_get (D := D) (ci := 8) (v := .int g_at) (C := RX8) (T := TX8) (N := 22) hx hb hts in_X8_isSign_X8 hown hK hP 0 rfl rfl 10 (by decide) (k_X8_isSign_f55 hts) (fun _ h9 => h9) rfl dX8_isSign_1 ?_
  refine lv_aload_n hx hb dX8_isSign_4 rfl (lv_at hl 0 rfl) ?_
  refine va_get (D := D) (ci := 8) (v := .int g_length) (C := RX8) (T := TX8) (N := 22) hx hb hts in_X8_isSign_X8 hown hK hP 0 rfl rfl 5 (by decide) (k_X8_isSign_f49 hts) (fun _ h9 => h9) rfl dX8_isSign_5 ?_
  refine lv_icmp_ge (tgt := 28) hx hb dX8_isSign_8 (by decide) (fun c1 => ?_) (fun c1 => ?_)
  · have h := h.1 c1
    refine lv_iconst (v := 0) hx hb dX8_isSign_28 (by decide) ?_
    exact ret_z () hx hb hr hlocks hK hP hD hS (Or.inl rfl) h dX8_isSign_29
  · have h := h.2 c1
    refine lv_aload_n hx hb dX8_isSign_11 rfl (lv_at hl 0 rfl) ?_
    refine va_get (D := D) (ci := 8) (v := .ref q_text) (C := RX8) (T := TX8) (N := 22) hx hb hts in_X8_isSign_X8 hown hK hP 0 rfl rfl 4 (by decide) (k_X8_isSign_f17 hts) (fun _ h9 => h9) rfl dX8_isSign_12 ?_
    refine lv_aload_n hx hb dX8_isSign_15 rfl (lv_at hl 0 rfl) ?_
    refine va_get (D := D) (ci := 8) (v := .int g_at) (C := RX8) (T := TX8) (N := 22) hx hb hts in_X8_isSign_X8 hown hK hP 0 rfl rfl 10 (by decide) (k_X8_isSign_f55 hts) (fun _ h9 => h9) rfl dX8_isSign_16 ?_
    obtain ⟨hin, h⟩ := h
    refine va_iald hx hb hK hP 1 0 rfl rfl hin dX8_isSign_19 ?_
    refine lv_iload_n hx hb dX8_isSign_20 rfl (lv_at hl 1 rfl) ?_
    refine lv_icmp_ne (tgt := 28) hx hb dX8_isSign_21 (by decide) (fun c2 => ?_) (fun c2 => ?_)
    · have h := h.1 c2
      refine lv_iconst (v := 0) hx hb dX8_isSign_28 (by decide) ?_
      exact ret_z () hx hb hr hlocks hK hP hD hS (Or.inl rfl) h dX8_isSign_29
    · have h := h.2 c2
      refine lv_iconst (v := 1) hx hb dX8_isSign_24 (by decide) ?_
      refine lv_goto (tgt := 29) hx hb dX8_isSign_25 (by decide) ?_
      exact ret_z () hx hb hr hlocks hK hP hD hS (Or.inr rfl) h dX8_isSign_29
