abbrev rm_X7_bends : Room := { frames := 5, cells := 0, slots := 0, locals := 111 }
theorem in_X7_bends_X5 : ∀ w ∈ wsX50, w ∈ wsX7_bends := fun _ h => List.mem_cons_of_mem _ (List.mem_append_left _ (List.mem_append_left _ (List.mem_append_right _ h)))
theorem in_X7_bends_X7 : ∀ w ∈ wsX70, w ∈ wsX7_bends := fun _ h => List.mem_cons_of_mem _ (List.mem_append_left _ (List.mem_append_left _ (List.mem_append_left _ (List.mem_append_right _ h))))
theorem k_X7_bends_f19 {s : State} {args : Array Value} (hts : ∀ w ∈ wsX7_bends, w.before args s = true) : (Cond.fieldLink RX7 19 "FoldRule" "strip" "LFoldRule$Strip;").before args s = true := hts _ (by decide +kernel)
theorem k_X7_bends_f37 {s : State} {args : Array Value} (hts : ∀ w ∈ wsX7_bends, w.before args s = true) : (Cond.fieldLink RX7 37 "FoldRule" "history" "LFoldRule$History;").before args s = true := hts _ (by decide +kernel)
set_option maxHeartbeats 4000000 in
set_option maxRecDepth 100000 in
theorem c_X7_bends {l : Launch} {D : va_G} {Y : ClassId × ClassId × ClassId} {q q_text q_strip q_told q_images q_kept q_history q_lay q_folds q_sightings q_rater q_strip_lengths q_history_steps : Nat} {q_history_steps_E q_history_steps_E_lengths : Nat → Nat} {q_lay_places : Nat} {g_strip_links g_strip_folded g_strip_stiff g_history_slot g_history_size : Int32} {g_history_steps_E_links g_history_steps_E_folded g_history_steps_E_stiff g_strip_lengths : Nat → Int32} {g_history_steps_E_lengths : Nat → Nat → Int32} {g_lay_links g_lay_low g_lay_high : Int32} {g_lay_places : Nat → Int32} {x1 : Int32} {Q : Int32 → Int32 → Int32 → Int32 → (Nat → Int32) → (Nat → Int32) → (Nat → Int32) → (Nat → Nat → Int32) → Int32 → Int32 → Int32 → (Nat → Int32) → Prop} (h : wp_X7_bends g_strip_links g_strip_folded g_strip_stiff g_history_slot g_history_size g_history_steps_E_links g_history_steps_E_folded g_history_steps_E_stiff g_strip_lengths g_history_steps_E_lengths g_lay_links g_lay_low g_lay_high g_lay_places x1 Q) (sz : Nat) : MtI l yX7_bends wsX7_bends rm_X7_bends [.ref q, .int x1] D Y (w_X7_bends Y q q_text q_strip q_told q_images q_kept q_history q_lay q_folds q_sightings q_rater q_strip_lengths q_history_steps q_history_steps_E q_history_steps_E_lengths q_lay_places g_strip_links g_strip_folded g_strip_stiff g_history_slot g_history_size g_history_steps_E_links g_history_steps_E_folded g_history_steps_E_stiff g_strip_lengths g_history_steps_E_lengths g_lay_links g_lay_low g_lay_high g_lay_places) (fun r (u : Int32 × Int32 × Int32 × (Nat → Int32) × (Nat → Int32) × (Nat → Int32) × (Nat → Nat → Int32) × Int32 × Int32 × Int32 × (Nat → Int32)) => Q r u.1 u.2.1 u.2.2.1 u.2.2.2.1 u.2.2.2.2.1 u.2.2.2.2.2.1 u.2.2.2.2.2.2.1 u.2.2.2.2.2.2.2.1 u.2.2.2.2.2.2.2.2.1 u.2.2.2.2.2.2.2.2.2.1 u.2.2.2.2.2.2.2.2.2.2) (fun u : Int32 × Int32 × Int32 × (Nat → Int32) × (Nat → Int32) × (Nat → Int32) × (Nat → Nat → Int32) × Int32 × Int32 × Int32 × (Nat → Int32) => (w_X7_bends Y q q_text q_strip q_told q_images q_kept q_history q_lay q_folds q_sightings q_rater q_strip_lengths q_history_steps q_history_steps_E q_history_steps_E_lengths q_lay_places g_strip_links u.1 g_strip_stiff u.2.1 u.2.2.1 u.2.2.2.1 u.2.2.2.2.1 u.2.2.2.2.2.1 g_strip_lengths u.2.2.2.2.2.2.1 u.2.2.2.2.2.2.2.1 u.2.2.2.2.2.2.2.2.1 u.2.2.2.2.2.2.2.2.2.1 u.2.2.2.2.2.2.2.2.2.2)) sz := by
  refine ct_i (cc := cX7_bends) (nL := 2) (ret := (some .int)) (by decide) rfl (Nat.le_of_ble_eq_true rfl) ?_ sz
  intro p e s m below meth c A ls C hK hA hP hD hS hl
  obtain ⟨⟨hx, hb, hml, hown, hts⟩, hr, hlocks, hN⟩ := id C
  have hown : s.vm.findClass RX7 = some m.cls := hown
  have hl : lv_has ls 2 [(0, .ref q), (1, .int x1)] := hl
  unfold wp_X7_bends at h
  refine lv_aload_n hx hb dX7_bends_0 rfl (lv_at hl 0 rfl) ?_
  refine va_get (D := D) (ci := 7) (v := .ref q_strip) (C := RX7) (T := TX7) (N := 10) hx hb hts in_X7_bends_X7 hown hK hP 0 rfl rfl 1 (by decide) (k_X7_bends_f19 hts) (fun _ h9 => h9) rfl dX7_bends_1 ?_
  refine lv_iload_n hx hb dX7_bends_4 rfl (lv_at hl 1 rfl) ?_
  have hp : Pt (w_X7_bends Y q q_text q_strip q_told q_images q_kept q_history q_lay q_folds q_sightings q_rater q_strip_lengths q_history_steps q_history_steps_E q_history_steps_E_lengths q_lay_places g_strip_links g_strip_folded g_strip_stiff g_history_slot g_history_size g_history_steps_E_links g_history_steps_E_folded g_history_steps_E_stiff g_strip_lengths g_history_steps_E_lengths g_lay_links g_lay_low g_lay_high g_lay_places) (w_X5_hasJoint Y q_strip q_strip_lengths g_strip_links g_strip_folded g_strip_stiff) [1] := ⟨rfl, by decide +kernel⟩
  refine go_i hp hP hD hS hA (fun _ => rfl) (va_runV (As := [.int x1]) (rest := []) ⟨hx, hb, hml, hown, hts⟩ (c_X5_hasJoint h _) (cwV 1 hts gX7_bends_X5_hasJoint rfl rfl rfl (by decide +kernel) ⟨Nat.le_of_ble_eq_true rfl, Nat.le_of_ble_eq_true rfl⟩) (pre_V (b := q_strip) (q0 := 0) (ci := 5) (q := (RX5, TX5, 4)) hp hK hN hP hD rfl rfl) rfl rfl hl.1 rfl (lv_room (Nat.le_of_ble_eq_true rfl)) dX7_bends_5 ⟨Nat.le_of_ble_eq_true rfl, Nat.le_of_ble_eq_true rfl⟩) (fun r15 u H locs h hP hD hS => ?_)
  try dsimp only at h
  have hP : va_P D vwCl (w_X7_bends Y q q_text q_strip q_told q_images q_kept q_history q_lay q_folds q_sightings q_rater q_strip_lengths q_history_steps q_history_steps_E q_history_steps_E_lengths q_lay_places g_strip_links g_strip_folded g_strip_stiff g_history_slot g_history_size g_history_steps_E_links g_history_steps_E_folded g_history_steps_E_stiff g_strip_lengths g_history_steps_E_lengths g_lay_links g_lay_low g_lay_high g_lay_places) H := hP
  have hD : va_D A (w_X7_bends Y q q_text q_strip q_told q_images q_kept q_history q_lay q_folds q_sightings q_rater q_strip_lengths q_history_steps q_history_steps_E q_history_steps_E_lengths q_lay_places g_strip_links g_strip_folded g_strip_stiff g_history_slot g_history_size g_history_steps_E_links g_history_steps_E_folded g_history_steps_E_stiff g_strip_lengths g_history_steps_E_lengths g_lay_links g_lay_low g_lay_high g_lay_places) := hD
  refine lv_if_ne (tgt := 13) hx hb dX7_bends_8 (by decide) (fun c16 => ?_) (fun c16 => ?_)
  · have h := h.1 c16
    refine lv_aload_n hx hb dX7_bends_13 rfl (lv_at hl 0 rfl) ?_
    refine va_get (D := D) (ci := 7) (v := .ref q_strip) (C := RX7) (T := TX7) (N := 10) hx hb hts in_X7_bends_X7 hown hK hP 0 rfl rfl 1 (by decide) (k_X7_bends_f19 hts) (fun _ h9 => h9) rfl dX7_bends_14 ?_
    refine va_getN (D := D) (ci := 5) (v := .int g_strip_stiff) (C := RX5) (T := TX5) (N := 4) hx hb hts in_X7_bends_X5 hown hK hP 1 rfl rfl 3 (by decide) (va_Nw.use rfl (nwX7_128 hN)) (fun _ h9 => h9) rfl dX7_bends_17 ?_
    refine lv_iload_n hx hb dX7_bends_20 rfl (lv_at hl 1 rfl) ?_
    have hp : Pt (w_X7_bends Y q q_text q_strip q_told q_images q_kept q_history q_lay q_folds q_sightings q_rater q_strip_lengths q_history_steps q_history_steps_E q_history_steps_E_lengths q_lay_places g_strip_links g_strip_folded g_strip_stiff g_history_slot g_history_size g_history_steps_E_links g_history_steps_E_folded g_history_steps_E_stiff g_strip_lengths g_history_steps_E_lengths g_lay_links g_lay_low g_lay_high g_lay_places) (w_X7_hasBit Y ) [] := ⟨rfl, by decide +kernel⟩
    refine go_i hp hP hD hS hA (fun _ => rfl) (va_runS (As := [.int g_strip_stiff, .int x1]) (rest := []) ⟨hx, hb, hml, hown, hts⟩ (c_X7_hasBit h _) (va_cwS 2 hts gX7_bends_X7_hasBit rfl rfl rfl (by decide +kernel) ⟨Nat.le_of_ble_eq_true rfl, Nat.le_of_ble_eq_true rfl⟩) (pre_S hp hK hN hP hD) rfl rfl hl.1 rfl (lv_room (Nat.le_of_ble_eq_true rfl)) dX7_bends_21 ⟨Nat.le_of_ble_eq_true rfl, Nat.le_of_ble_eq_true rfl⟩) (fun r17 u H locs h hP hD hS => ?_)
    try dsimp only at h
    have hP : va_P D vwCl (w_X7_bends Y q q_text q_strip q_told q_images q_kept q_history q_lay q_folds q_sightings q_rater q_strip_lengths q_history_steps q_history_steps_E q_history_steps_E_lengths q_lay_places g_strip_links g_strip_folded g_strip_stiff g_history_slot g_history_size g_history_steps_E_links g_history_steps_E_folded g_history_steps_E_stiff g_strip_lengths g_history_steps_E_lengths g_lay_links g_lay_low g_lay_high g_lay_places) H := hP
    have hD : va_D A (w_X7_bends Y q q_text q_strip q_told q_images q_kept q_history q_lay q_folds q_sightings q_rater q_strip_lengths q_history_steps q_history_steps_E q_history_steps_E_lengths q_lay_places g_strip_links g_strip_folded g_strip_stiff g_history_slot g_history_size g_history_steps_E_links g_history_steps_E_folded g_history_steps_E_stiff g_strip_lengths g_history_steps_E_lengths g_lay_links g_lay_low g_lay_high g_lay_places) := hD
    refine lv_if_eq (tgt := 30) hx hb dX7_bends_24 (by decide) (fun c18 => ?_) (fun c18 => ?_)
    · have h := h.1 c18
      refine lv_aload_n hx hb dX7_bends_30 rfl (lv_at hl 0 rfl) ?_
      refine va_get (D := D) (ci := 7) (v := .ref q_history) (C := RX7) (T := TX7) (N := 10) hx hb hts in_X7_bends_X7 hown hK hP 0 rfl rfl 5 (by decide) (k_X7_bends_f37 hts) (fun _ h9 => h9) rfl dX7_bends_31 ?_
      refine lv_aload_n hx hb dX7_bends_34 rfl (lv_at hl 0 rfl) ?_
      refine va_get (D := D) (ci := 7) (v := .ref q_strip) (C := RX7) (T := TX7) (N := 10) hx hb hts in_X7_bends_X7 hown hK hP 0 rfl rfl 1 (by decide) (k_X7_bends_f19 hts) (fun _ h9 => h9) rfl dX7_bends_35 ?_
      have hp : Pt (w_X7_bends Y q q_text q_strip q_told q_images q_kept q_history q_lay q_folds q_sightings q_rater q_strip_lengths q_history_steps q_history_steps_E q_history_steps_E_lengths q_lay_places g_strip_links g_strip_folded g_strip_stiff g_history_slot g_history_size g_history_steps_E_links g_history_steps_E_folded g_history_steps_E_stiff g_strip_lengths g_history_steps_E_lengths g_lay_links g_lay_low g_lay_high g_lay_places) (w_X1_remember Y q_history q_history_steps q_history_steps_E q_history_steps_E_lengths q_strip q_strip_lengths g_history_slot g_history_size g_history_steps_E_links g_history_steps_E_folded g_history_steps_E_stiff g_strip_links g_strip_folded g_strip_stiff g_strip_lengths g_history_steps_E_lengths) [2, 3, 4, 5, 6, 7, 8, 9, 10, 11, 12, 13, 1, 14, 15, 16, 17, 18, 19, 20, 21, 22, 23, 24] := ⟨rfl, by decide +kernel⟩
      refine go_v hp hP hD hS hA (fun _ => rfl) (va_runV (As := [.ref q_strip]) (rest := []) ⟨hx, hb, hml, hown, hts⟩ (c_X1_remember h _) (cwV 1 hts gX7_bends_X1_remember rfl rfl rfl (by decide +kernel) ⟨Nat.le_of_ble_eq_true rfl, Nat.le_of_ble_eq_true rfl⟩) (pre_V (b := q_history) (q0 := 0) (ci := 1) (q := (RX1, TX1, 3)) hp hK hN hP hD rfl rfl) rfl rfl hl.1 rfl (lv_room (Nat.le_of_ble_eq_true rfl)) dX7_bends_38 ⟨Nat.le_of_ble_eq_true rfl, Nat.le_of_ble_eq_true rfl⟩) (fun u H locs h hP hD hS => ?_)
      obtain ⟨u20, u21, u22, u23, u24, u25⟩ := u
      try dsimp only at h
      have hP : va_P D vwCl (w_X7_bends Y q q_text q_strip q_told q_images q_kept q_history q_lay q_folds q_sightings q_rater q_strip_lengths q_history_steps q_history_steps_E q_history_steps_E_lengths q_lay_places g_strip_links g_strip_folded g_strip_stiff u20 u21 u22 u23 u24 g_strip_lengths u25 g_lay_links g_lay_low g_lay_high g_lay_places) H := hP
      have hD : va_D A (w_X7_bends Y q q_text q_strip q_told q_images q_kept q_history q_lay q_folds q_sightings q_rater q_strip_lengths q_history_steps q_history_steps_E q_history_steps_E_lengths q_lay_places g_strip_links g_strip_folded g_strip_stiff u20 u21 u22 u23 u24 g_strip_lengths u25 g_lay_links g_lay_low g_lay_high g_lay_places) := hD
      refine lv_aload_n hx hb dX7_bends_41 rfl (lv_at hl 0 rfl) ?_
      refine va_get (D := D) (ci := 7) (v := .ref q_strip) (C := RX7) (T := TX7) (N := 10) hx hb hts in_X7_bends_X7 hown hK hP 0 rfl rfl 1 (by decide) (k_X7_bends_f19 hts) (fun _ h9 => h9) rfl dX7_bends_42 ?_
      refine lv_iload_n hx hb dX7_bends_45 rfl (lv_at hl 1 rfl) ?_
      have hp : Pt (w_X7_bends Y q q_text q_strip q_told q_images q_kept q_history q_lay q_folds q_sightings q_rater q_strip_lengths q_history_steps q_history_steps_E q_history_steps_E_lengths q_lay_places g_strip_links g_strip_folded g_strip_stiff u20 u21 u22 u23 u24 g_strip_lengths u25 g_lay_links g_lay_low g_lay_high g_lay_places) (w_X5_bend Y q_strip q_strip_lengths g_strip_links g_strip_folded g_strip_stiff) [1] := ⟨rfl, by decide +kernel⟩
      refine go_v hp hP hD hS hA (fun _ => rfl) (va_runV (As := [.int x1]) (rest := []) ⟨hx, hb, hml, hown, hts⟩ (c_X5_bend h _) (cwV 1 hts gX7_bends_X5_bend rfl rfl rfl (by decide +kernel) ⟨Nat.le_of_ble_eq_true rfl, Nat.le_of_ble_eq_true rfl⟩) (pre_V (b := q_strip) (q0 := 0) (ci := 5) (q := (RX5, TX5, 4)) hp hK hN hP hD rfl rfl) rfl rfl hl.1 rfl (lv_room (Nat.le_of_ble_eq_true rfl)) dX7_bends_46 ⟨Nat.le_of_ble_eq_true rfl, Nat.le_of_ble_eq_true rfl⟩) (fun u H locs h hP hD hS => ?_)
      obtain ⟨u27, rfl⟩ : ∃ z, z = u := ⟨_, rfl⟩
      try dsimp only at h
      have hP : va_P D vwCl (w_X7_bends Y q q_text q_strip q_told q_images q_kept q_history q_lay q_folds q_sightings q_rater q_strip_lengths q_history_steps q_history_steps_E q_history_steps_E_lengths q_lay_places g_strip_links u27 g_strip_stiff u20 u21 u22 u23 u24 g_strip_lengths u25 g_lay_links g_lay_low g_lay_high g_lay_places) H := hP
      have hD : va_D A (w_X7_bends Y q q_text q_strip q_told q_images q_kept q_history q_lay q_folds q_sightings q_rater q_strip_lengths q_history_steps q_history_steps_E q_history_steps_E_lengths q_lay_places g_strip_links u27 g_strip_stiff u20 u21 u22 u23 u24 g_strip_lengths u25 g_lay_links g_lay_low g_lay_high g_lay_places) := hD
      refine lv_aload_n hx hb dX7_bends_49 rfl (lv_at hl 0 rfl) ?_
      have hp : Pt (w_X7_bends Y q q_text q_strip q_told q_images q_kept q_history q_lay q_folds q_sightings q_rater q_strip_lengths q_history_steps q_history_steps_E q_history_steps_E_lengths q_lay_places g_strip_links u27 g_strip_stiff u20 u21 u22 u23 u24 g_strip_lengths u25 g_lay_links g_lay_low g_lay_high g_lay_places) (w_X7_spanNow Y q q_text q_strip q_told q_images q_kept q_history q_lay q_folds q_sightings q_rater q_strip_lengths q_lay_places g_strip_links u27 g_strip_stiff g_lay_links g_lay_low g_lay_high g_strip_lengths g_lay_places) [0, 1, 25, 14, 26] := ⟨rfl, by decide +kernel⟩
      refine go_i hp hP hD hS hA (fun _ => rfl) (va_runV (As := []) (rest := []) ⟨hx, hb, hml, hown, hts⟩ (c_X7_spanNow h _) (cwV 0 hts gX7_bends_X7_spanNow rfl rfl rfl (by decide +kernel) ⟨Nat.le_of_ble_eq_true rfl, Nat.le_of_ble_eq_true rfl⟩) (pre_V (b := q) (q0 := 0) (ci := 7) (q := (RX7, TX7, 10)) hp hK hN hP hD rfl rfl) rfl rfl hl.1 rfl (lv_room (Nat.le_of_ble_eq_true rfl)) dX7_bends_50 ⟨Nat.le_of_ble_eq_true rfl, Nat.le_of_ble_eq_true rfl⟩) (fun r28 u H locs h hP hD hS => ?_)
      obtain ⟨u29, u30, u31, u32⟩ := u
      try dsimp only at h
      have hP : va_P D vwCl (w_X7_bends Y q q_text q_strip q_told q_images q_kept q_history q_lay q_folds q_sightings q_rater q_strip_lengths q_history_steps q_history_steps_E q_history_steps_E_lengths q_lay_places g_strip_links u27 g_strip_stiff u20 u21 u22 u23 u24 g_strip_lengths u25 u29 u30 u31 u32) H := hP
      have hD : va_D A (w_X7_bends Y q q_text q_strip q_told q_images q_kept q_history q_lay q_folds q_sightings q_rater q_strip_lengths q_history_steps q_history_steps_E q_history_steps_E_lengths q_lay_places g_strip_links u27 g_strip_stiff u20 u21 u22 u23 u24 g_strip_lengths u25 u29 u30 u31 u32) := hD
      exact ret_i (u27, u20, u21, u22, u23, u24, u25, u29, u30, u31, u32) hx hb hr hlocks hK hP hD hS h dX7_bends_53
    · have h := h.2 c18
      refine lv_bipush (v := (-2)) hx hb dX7_bends_27 (by decide) ?_
      exact ret_i (g_strip_folded, g_history_slot, g_history_size, g_history_steps_E_links, g_history_steps_E_folded, g_history_steps_E_stiff, g_history_steps_E_lengths, g_lay_links, g_lay_low, g_lay_high, g_lay_places) hx hb hr hlocks hK hP hD hS h dX7_bends_29
  · have h := h.2 c16
    refine lv_iconst (v := (-1)) hx hb dX7_bends_11 (by decide) ?_
    exact ret_i (g_strip_folded, g_history_slot, g_history_size, g_history_steps_E_links, g_history_steps_E_folded, g_history_steps_E_stiff, g_history_steps_E_lengths, g_lay_links, g_lay_low, g_lay_high, g_lay_places) hx hb hr hlocks hK hP hD hS h dX7_bends_12
abbrev rm_X7_files : Room := { frames := 3, cells := 0, slots := 0, locals := 64 }
theorem in_X7_files_X7 : ∀ w ∈ wsX70, w ∈ wsX7_files := fun _ h => List.mem_cons_of_mem _ (List.mem_append_left _ (List.mem_append_left _ (List.mem_append_right _ h)))
theorem k_X7_files_f19 {s : State} {args : Array Value} (hts : ∀ w ∈ wsX7_files, w.before args s = true) : (Cond.fieldLink RX7 19 "FoldRule" "strip" "LFoldRule$Strip;").before args s = true := hts _ (by decide +kernel)
theorem k_X7_files_f37 {s : State} {args : Array Value} (hts : ∀ w ∈ wsX7_files, w.before args s = true) : (Cond.fieldLink RX7 37 "FoldRule" "history" "LFoldRule$History;").before args s = true := hts _ (by decide +kernel)
set_option maxHeartbeats 4000000 in
set_option maxRecDepth 100000 in
theorem c_X7_files {l : Launch} {D : va_G} {Y : ClassId × ClassId × ClassId} {q q_text q_strip q_told q_images q_kept q_history q_lay q_folds q_sightings q_rater q_strip_lengths q_history_steps : Nat} {q_history_steps_E q_history_steps_E_lengths : Nat → Nat} {g_strip_links g_strip_folded g_strip_stiff : Int32} {g_strip_lengths : Nat → Int32} {g_history_slot g_history_size : Int32} {g_history_steps_E_links g_history_steps_E_folded g_history_steps_E_stiff : Nat → Int32} {g_history_steps_E_lengths : Nat → Nat → Int32} {x1 x2 : Int32} {Q : Int32 → (Nat → Int32) → Int32 → Int32 → (Nat → Int32) → (Nat → Int32) → (Nat → Int32) → (Nat → Nat → Int32) → Prop} (h : wp_X7_files g_strip_links g_strip_folded g_strip_stiff g_strip_lengths g_history_slot g_history_size g_history_steps_E_links g_history_steps_E_folded g_history_steps_E_stiff g_history_steps_E_lengths x1 x2 Q) (sz : Nat) : MtI l yX7_files wsX7_files rm_X7_files [.ref q, .int x1, .int x2] D Y (w_X7_files Y q q_text q_strip q_told q_images q_kept q_history q_lay q_folds q_sightings q_rater q_strip_lengths q_history_steps q_history_steps_E q_history_steps_E_lengths g_strip_links g_strip_folded g_strip_stiff g_strip_lengths g_history_slot g_history_size g_history_steps_E_links g_history_steps_E_folded g_history_steps_E_stiff g_history_steps_E_lengths) (fun r (u : (Nat → Int32) × Int32 × Int32 × (Nat → Int32) × (Nat → Int32) × (Nat → Int32) × (Nat → Nat → Int32)) => Q r u.1 u.2.1 u.2.2.1 u.2.2.2.1 u.2.2.2.2.1 u.2.2.2.2.2.1 u.2.2.2.2.2.2) (fun u : (Nat → Int32) × Int32 × Int32 × (Nat → Int32) × (Nat → Int32) × (Nat → Int32) × (Nat → Nat → Int32) => (w_X7_files Y q q_text q_strip q_told q_images q_kept q_history q_lay q_folds q_sightings q_rater q_strip_lengths q_history_steps q_history_steps_E q_history_steps_E_lengths g_strip_links g_strip_folded g_strip_stiff u.1 u.2.1 u.2.2.1 u.2.2.2.1 u.2.2.2.2.1 u.2.2.2.2.2.1 u.2.2.2.2.2.2)) sz := by
  refine ct_i (cc := cX7_files) (nL := 3) (ret := (some .int)) (by decide) rfl (Nat.le_of_ble_eq_true rfl) ?_ sz
  intro p e s m below meth c A ls C hK hA hP hD hS hl
  obtain ⟨⟨hx, hb, hml, hown, hts⟩, hr, hlocks, hN⟩ := id C
  have hown : s.vm.findClass RX7 = some m.cls := hown
  have hl : lv_has ls 3 [(0, .ref q), (1, .int x1), (2, .int x2)] := hl
  unfold wp_X7_files at h
  refine lv_aload_n hx hb dX7_files_0 rfl (lv_at hl 0 rfl) ?_
  refine va_get (D := D) (ci := 7) (v := .ref q_strip) (C := RX7) (T := TX7) (N := 10) hx hb hts in_X7_files_X7 hown hK hP 0 rfl rfl 1 (by decide) (k_X7_files_f19 hts) (fun _ h9 => h9) rfl dX7_files_1 ?_
  refine lv_iload_n hx hb dX7_files_4 rfl (lv_at hl 1 rfl) ?_
  have hp : Pt (w_X7_files Y q q_text q_strip q_told q_images q_kept q_history q_lay q_folds q_sightings q_rater q_strip_lengths q_history_steps q_history_steps_E q_history_steps_E_lengths g_strip_links g_strip_folded g_strip_stiff g_strip_lengths g_history_slot g_history_size g_history_steps_E_links g_history_steps_E_folded g_history_steps_E_stiff g_history_steps_E_lengths) (w_X5_hasLink Y q_strip q_strip_lengths g_strip_links g_strip_folded g_strip_stiff) [1] := ⟨rfl, by decide +kernel⟩
  refine go_i hp hP hD hS hA (fun _ => rfl) (va_runV (As := [.int x1]) (rest := []) ⟨hx, hb, hml, hown, hts⟩ (c_X5_hasLink h _) (cwV 1 hts gX7_files_X5_hasLink rfl rfl rfl (by decide +kernel) ⟨Nat.le_of_ble_eq_true rfl, Nat.le_of_ble_eq_true rfl⟩) (pre_V (b := q_strip) (q0 := 0) (ci := 5) (q := (RX5, TX5, 4)) hp hK hN hP hD rfl rfl) rfl rfl hl.1 rfl (lv_room (Nat.le_of_ble_eq_true rfl)) dX7_files_5 ⟨Nat.le_of_ble_eq_true rfl, Nat.le_of_ble_eq_true rfl⟩) (fun r12 u H locs h hP hD hS => ?_)
  try dsimp only at h
  have hP : va_P D vwCl (w_X7_files Y q q_text q_strip q_told q_images q_kept q_history q_lay q_folds q_sightings q_rater q_strip_lengths q_history_steps q_history_steps_E q_history_steps_E_lengths g_strip_links g_strip_folded g_strip_stiff g_strip_lengths g_history_slot g_history_size g_history_steps_E_links g_history_steps_E_folded g_history_steps_E_stiff g_history_steps_E_lengths) H := hP
  have hD : va_D A (w_X7_files Y q q_text q_strip q_told q_images q_kept q_history q_lay q_folds q_sightings q_rater q_strip_lengths q_history_steps q_history_steps_E q_history_steps_E_lengths g_strip_links g_strip_folded g_strip_stiff g_strip_lengths g_history_slot g_history_size g_history_steps_E_links g_history_steps_E_folded g_history_steps_E_stiff g_history_steps_E_lengths) := hD
  refine lv_if_eq (tgt := 21) hx hb dX7_files_8 (by decide) (fun c13 => ?_) (fun c13 => ?_)
  · have h := h.1 c13
    refine lv_iconst (v := (-1)) hx hb dX7_files_21 (by decide) ?_
    exact ret_i (g_strip_lengths, g_history_slot, g_history_size, g_history_steps_E_links, g_history_steps_E_folded, g_history_steps_E_stiff, g_history_steps_E_lengths) hx hb hr hlocks hK hP hD hS h dX7_files_22
  · have h := h.2 c13
    refine lv_iload_n hx hb dX7_files_11 rfl (lv_at hl 2 rfl) ?_
    refine lv_iconst (v := 1) hx hb dX7_files_12 (by decide) ?_
    refine lv_bipush (v := 19) hx hb dX7_files_13 (by decide) ?_
    have hp : Pt (w_X7_files Y q q_text q_strip q_told q_images q_kept q_history q_lay q_folds q_sightings q_rater q_strip_lengths q_history_steps q_history_steps_E q_history_steps_E_lengths g_strip_links g_strip_folded g_strip_stiff g_strip_lengths g_history_slot g_history_size g_history_steps_E_links g_history_steps_E_folded g_history_steps_E_stiff g_history_steps_E_lengths) (w_X7_isWithin Y ) [] := ⟨rfl, by decide +kernel⟩
    refine go_i hp hP hD hS hA (fun _ => rfl) (va_runS (As := [.int x2, .int (1 : Int32), .int (19 : Int32)]) (rest := []) ⟨hx, hb, hml, hown, hts⟩ (c_X7_isWithin h _) (va_cwS 3 hts gX7_files_X7_isWithin rfl rfl rfl (by decide +kernel) ⟨Nat.le_of_ble_eq_true rfl, Nat.le_of_ble_eq_true rfl⟩) (pre_S hp hK hN hP hD) rfl rfl hl.1 rfl (lv_room (Nat.le_of_ble_eq_true rfl)) dX7_files_15 ⟨Nat.le_of_ble_eq_true rfl, Nat.le_of_ble_eq_true rfl⟩) (fun r14 u H locs h hP hD hS => ?_)
    try dsimp only at h
    have hP : va_P D vwCl (w_X7_files Y q q_text q_strip q_told q_images q_kept q_history q_lay q_folds q_sightings q_rater q_strip_lengths q_history_steps q_history_steps_E q_history_steps_E_lengths g_strip_links g_strip_folded g_strip_stiff g_strip_lengths g_history_slot g_history_size g_history_steps_E_links g_history_steps_E_folded g_history_steps_E_stiff g_history_steps_E_lengths) H := hP
    have hD : va_D A (w_X7_files Y q q_text q_strip q_told q_images q_kept q_history q_lay q_folds q_sightings q_rater q_strip_lengths q_history_steps q_history_steps_E q_history_steps_E_lengths g_strip_links g_strip_folded g_strip_stiff g_strip_lengths g_history_slot g_history_size g_history_steps_E_links g_history_steps_E_folded g_history_steps_E_stiff g_history_steps_E_lengths) := hD
    refine lv_if_ne (tgt := 23) hx hb dX7_files_18 (by decide) (fun c15 => ?_) (fun c15 => ?_)
    · have h := h.1 c15
      refine lv_aload_n hx hb dX7_files_23 rfl (lv_at hl 0 rfl) ?_
      refine va_get (D := D) (ci := 7) (v := .ref q_strip) (C := RX7) (T := TX7) (N := 10) hx hb hts in_X7_files_X7 hown hK hP 0 rfl rfl 1 (by decide) (k_X7_files_f19 hts) (fun _ h9 => h9) rfl dX7_files_24 ?_
      refine lv_iload_n hx hb dX7_files_27 rfl (lv_at hl 1 rfl) ?_
      refine lv_iload_n hx hb dX7_files_28 rfl (lv_at hl 2 rfl) ?_
      have hp : Pt (w_X7_files Y q q_text q_strip q_told q_images q_kept q_history q_lay q_folds q_sightings q_rater q_strip_lengths q_history_steps q_history_steps_E q_history_steps_E_lengths g_strip_links g_strip_folded g_strip_stiff g_strip_lengths g_history_slot g_history_size g_history_steps_E_links g_history_steps_E_folded g_history_steps_E_stiff g_history_steps_E_lengths) (w_X5_canFile Y q_strip q_strip_lengths g_strip_links g_strip_folded g_strip_stiff g_strip_lengths) [1, 2] := ⟨rfl, by decide +kernel⟩
      refine go_i hp hP hD hS hA (fun _ => rfl) (va_runV (As := [.int x1, .int x2]) (rest := []) ⟨hx, hb, hml, hown, hts⟩ (c_X5_canFile h _) (cwV 2 hts gX7_files_X5_canFile rfl rfl rfl (by decide +kernel) ⟨Nat.le_of_ble_eq_true rfl, Nat.le_of_ble_eq_true rfl⟩) (pre_V (b := q_strip) (q0 := 0) (ci := 5) (q := (RX5, TX5, 4)) hp hK hN hP hD rfl rfl) rfl rfl hl.1 rfl (lv_room (Nat.le_of_ble_eq_true rfl)) dX7_files_29 ⟨Nat.le_of_ble_eq_true rfl, Nat.le_of_ble_eq_true rfl⟩) (fun r16 u H locs h hP hD hS => ?_)
      try dsimp only at h
      have hP : va_P D vwCl (w_X7_files Y q q_text q_strip q_told q_images q_kept q_history q_lay q_folds q_sightings q_rater q_strip_lengths q_history_steps q_history_steps_E q_history_steps_E_lengths g_strip_links g_strip_folded g_strip_stiff g_strip_lengths g_history_slot g_history_size g_history_steps_E_links g_history_steps_E_folded g_history_steps_E_stiff g_history_steps_E_lengths) H := hP
      have hD : va_D A (w_X7_files Y q q_text q_strip q_told q_images q_kept q_history q_lay q_folds q_sightings q_rater q_strip_lengths q_history_steps q_history_steps_E q_history_steps_E_lengths g_strip_links g_strip_folded g_strip_stiff g_strip_lengths g_history_slot g_history_size g_history_steps_E_links g_history_steps_E_folded g_history_steps_E_stiff g_history_steps_E_lengths) := hD
      refine lv_if_ne (tgt := 38) hx hb dX7_files_32 (by decide) (fun c17 => ?_) (fun c17 => ?_)
      · have h := h.1 c17
        refine lv_aload_n hx hb dX7_files_38 rfl (lv_at hl 0 rfl) ?_
        refine va_get (D := D) (ci := 7) (v := .ref q_history) (C := RX7) (T := TX7) (N := 10) hx hb hts in_X7_files_X7 hown hK hP 0 rfl rfl 5 (by decide) (k_X7_files_f37 hts) (fun _ h9 => h9) rfl dX7_files_39 ?_
        refine lv_aload_n hx hb dX7_files_42 rfl (lv_at hl 0 rfl) ?_
        refine va_get (D := D) (ci := 7) (v := .ref q_strip) (C := RX7) (T := TX7) (N := 10) hx hb hts in_X7_files_X7 hown hK hP 0 rfl rfl 1 (by decide) (k_X7_files_f19 hts) (fun _ h9 => h9) rfl dX7_files_43 ?_
        have hp : Pt (w_X7_files Y q q_text q_strip q_told q_images q_kept q_history q_lay q_folds q_sightings q_rater q_strip_lengths q_history_steps q_history_steps_E q_history_steps_E_lengths g_strip_links g_strip_folded g_strip_stiff g_strip_lengths g_history_slot g_history_size g_history_steps_E_links g_history_steps_E_folded g_history_steps_E_stiff g_history_steps_E_lengths) (w_X1_remember Y q_history q_history_steps q_history_steps_E q_history_steps_E_lengths q_strip q_strip_lengths g_history_slot g_history_size g_history_steps_E_links g_history_steps_E_folded g_history_steps_E_stiff g_strip_links g_strip_folded g_strip_stiff g_strip_lengths g_history_steps_E_lengths) [3, 4, 5, 6, 7, 8, 9, 10, 11, 12, 13, 14, 1, 2, 15, 16, 17, 18, 19, 20, 21, 22, 23, 24] := ⟨rfl, by decide +kernel⟩
        refine go_v hp hP hD hS hA (fun _ => rfl) (va_runV (As := [.ref q_strip]) (rest := []) ⟨hx, hb, hml, hown, hts⟩ (c_X1_remember h _) (cwV 1 hts gX7_files_X1_remember rfl rfl rfl (by decide +kernel) ⟨Nat.le_of_ble_eq_true rfl, Nat.le_of_ble_eq_true rfl⟩) (pre_V (b := q_history) (q0 := 0) (ci := 1) (q := (RX1, TX1, 3)) hp hK hN hP hD rfl rfl) rfl rfl hl.1 rfl (lv_room (Nat.le_of_ble_eq_true rfl)) dX7_files_46 ⟨Nat.le_of_ble_eq_true rfl, Nat.le_of_ble_eq_true rfl⟩) (fun u H locs h hP hD hS => ?_)
        obtain ⟨u19, u20, u21, u22, u23, u24⟩ := u
        try dsimp only at h
        have hP : va_P D vwCl (w_X7_files Y q q_text q_strip q_told q_images q_kept q_history q_lay q_folds q_sightings q_rater q_strip_lengths q_history_steps q_history_steps_E q_history_steps_E_lengths g_strip_links g_strip_folded g_strip_stiff g_strip_lengths u19 u20 u21 u22 u23 u24) H := hP
        have hD : va_D A (w_X7_files Y q q_text q_strip q_told q_images q_kept q_history q_lay q_folds q_sightings q_rater q_strip_lengths q_history_steps q_history_steps_E q_history_steps_E_lengths g_strip_links g_strip_folded g_strip_stiff g_strip_lengths u19 u20 u21 u22 u23 u24) := hD
        refine lv_aload_n hx hb dX7_files_49 rfl (lv_at hl 0 rfl) ?_
        refine va_get (D := D) (ci := 7) (v := .ref q_strip) (C := RX7) (T := TX7) (N := 10) hx hb hts in_X7_files_X7 hown hK hP 0 rfl rfl 1 (by decide) (k_X7_files_f19 hts) (fun _ h9 => h9) rfl dX7_files_50 ?_
        refine lv_iload_n hx hb dX7_files_53 rfl (lv_at hl 1 rfl) ?_
        refine lv_iload_n hx hb dX7_files_54 rfl (lv_at hl 2 rfl) ?_
        have hp : Pt (w_X7_files Y q q_text q_strip q_told q_images q_kept q_history q_lay q_folds q_sightings q_rater q_strip_lengths q_history_steps q_history_steps_E q_history_steps_E_lengths g_strip_links g_strip_folded g_strip_stiff g_strip_lengths u19 u20 u21 u22 u23 u24) (w_X5_file Y q_strip q_strip_lengths g_strip_links g_strip_folded g_strip_stiff g_strip_lengths) [1, 2] := ⟨rfl, by decide +kernel⟩
        refine go_v hp hP hD hS hA (fun _ => rfl) (va_runV (As := [.int x1, .int x2]) (rest := []) ⟨hx, hb, hml, hown, hts⟩ (c_X5_file h _) (cwV 2 hts gX7_files_X5_file rfl rfl rfl (by decide +kernel) ⟨Nat.le_of_ble_eq_true rfl, Nat.le_of_ble_eq_true rfl⟩) (pre_V (b := q_strip) (q0 := 0) (ci := 5) (q := (RX5, TX5, 4)) hp hK hN hP hD rfl rfl) rfl rfl hl.1 rfl (lv_room (Nat.le_of_ble_eq_true rfl)) dX7_files_55 ⟨Nat.le_of_ble_eq_true rfl, Nat.le_of_ble_eq_true rfl⟩) (fun u H locs h hP hD hS => ?_)
        obtain ⟨u26, rfl⟩ : ∃ z, z = u := ⟨_, rfl⟩
        try dsimp only at h
        have hP : va_P D vwCl (w_X7_files Y q q_text q_strip q_told q_images q_kept q_history q_lay q_folds q_sightings q_rater q_strip_lengths q_history_steps q_history_steps_E q_history_steps_E_lengths g_strip_links g_strip_folded g_strip_stiff u26 u19 u20 u21 u22 u23 u24) H := hP
        have hD : va_D A (w_X7_files Y q q_text q_strip q_told q_images q_kept q_history q_lay q_folds q_sightings q_rater q_strip_lengths q_history_steps q_history_steps_E q_history_steps_E_lengths g_strip_links g_strip_folded g_strip_stiff u26 u19 u20 u21 u22 u23 u24) := hD
        refine lv_aload_n hx hb dX7_files_58 rfl (lv_at hl 0 rfl) ?_
        refine va_get (D := D) (ci := 7) (v := .ref q_strip) (C := RX7) (T := TX7) (N := 10) hx hb hts in_X7_files_X7 hown hK hP 0 rfl rfl 1 (by decide) (k_X7_files_f19 hts) (fun _ h9 => h9) rfl dX7_files_59 ?_
        refine lv_iload_n hx hb dX7_files_62 rfl (lv_at hl 1 rfl) ?_
        have hp : Pt (w_X7_files Y q q_text q_strip q_told q_images q_kept q_history q_lay q_folds q_sightings q_rater q_strip_lengths q_history_steps q_history_steps_E q_history_steps_E_lengths g_strip_links g_strip_folded g_strip_stiff u26 u19 u20 u21 u22 u23 u24) (w_X5_lengthOf Y q_strip q_strip_lengths g_strip_links g_strip_folded g_strip_stiff u26) [1, 2] := ⟨rfl, by decide +kernel⟩
        refine go_i hp hP hD hS hA (fun _ => rfl) (va_runV (As := [.int x1]) (rest := []) ⟨hx, hb, hml, hown, hts⟩ (c_X5_lengthOf h _) (cwV 1 hts gX7_files_X5_lengthOf rfl rfl rfl (by decide +kernel) ⟨Nat.le_of_ble_eq_true rfl, Nat.le_of_ble_eq_true rfl⟩) (pre_V (b := q_strip) (q0 := 0) (ci := 5) (q := (RX5, TX5, 4)) hp hK hN hP hD rfl rfl) rfl rfl hl.1 rfl (lv_room (Nat.le_of_ble_eq_true rfl)) dX7_files_63 ⟨Nat.le_of_ble_eq_true rfl, Nat.le_of_ble_eq_true rfl⟩) (fun r27 u H locs h hP hD hS => ?_)
        try dsimp only at h
        have hP : va_P D vwCl (w_X7_files Y q q_text q_strip q_told q_images q_kept q_history q_lay q_folds q_sightings q_rater q_strip_lengths q_history_steps q_history_steps_E q_history_steps_E_lengths g_strip_links g_strip_folded g_strip_stiff u26 u19 u20 u21 u22 u23 u24) H := hP
        have hD : va_D A (w_X7_files Y q q_text q_strip q_told q_images q_kept q_history q_lay q_folds q_sightings q_rater q_strip_lengths q_history_steps q_history_steps_E q_history_steps_E_lengths g_strip_links g_strip_folded g_strip_stiff u26 u19 u20 u21 u22 u23 u24) := hD
        exact ret_i (u26, u19, u20, u21, u22, u23, u24) hx hb hr hlocks hK hP hD hS h dX7_files_66
      · have h := h.2 c17
        refine lv_bipush (v := (-2)) hx hb dX7_files_35 (by decide) ?_
        exact ret_i (g_strip_lengths, g_history_slot, g_history_size, g_history_steps_E_links, g_history_steps_E_folded, g_history_steps_E_stiff, g_history_steps_E_lengths) hx hb hr hlocks hK hP hD hS h dX7_files_37
    · have h := h.2 c15
      refine lv_iconst (v := (-1)) hx hb dX7_files_21 (by decide) ?_
      exact ret_i (g_strip_lengths, g_history_slot, g_history_size, g_history_steps_E_links, g_history_steps_E_folded, g_history_steps_E_stiff, g_history_steps_E_lengths) hx hb hr hlocks hK hP hD hS h dX7_files_22
abbrev rm_X7_turned : Room := { frames := 4, cells := 0, slots := 0, locals := 79 }
theorem in_X7_turned_X5 : ∀ w ∈ wsX50, w ∈ wsX7_turned := fun _ h => List.mem_cons_of_mem _ (List.mem_append_left _ (List.mem_append_right _ h))
theorem in_X7_turned_X7 : ∀ w ∈ wsX70, w ∈ wsX7_turned := fun _ h => List.mem_cons_of_mem _ (List.mem_append_left _ (List.mem_append_left _ (List.mem_append_right _ h)))
theorem k_X7_turned_f19 {s : State} {args : Array Value} (hts : ∀ w ∈ wsX7_turned, w.before args s = true) : (Cond.fieldLink RX7 19 "FoldRule" "strip" "LFoldRule$Strip;").before args s = true := hts _ (by decide +kernel)
theorem k_X7_turned_f37 {s : State} {args : Array Value} (hts : ∀ w ∈ wsX7_turned, w.before args s = true) : (Cond.fieldLink RX7 37 "FoldRule" "history" "LFoldRule$History;").before args s = true := hts _ (by decide +kernel)
set_option maxHeartbeats 4000000 in
set_option maxRecDepth 100000 in
theorem c_X7_turned {l : Launch} {D : va_G} {Y : ClassId × ClassId × ClassId} {q q_text q_strip q_told q_images q_kept q_history q_lay q_folds q_sightings q_rater q_strip_lengths q_history_steps : Nat} {q_history_steps_E q_history_steps_E_lengths : Nat → Nat} {g_strip_links g_strip_folded g_strip_stiff g_history_slot g_history_size : Int32} {g_history_steps_E_links g_history_steps_E_folded g_history_steps_E_stiff g_strip_lengths : Nat → Int32} {g_history_steps_E_lengths : Nat → Nat → Int32} {Q : Int32 → Int32 → Int32 → Int32 → Int32 → (Nat → Int32) → (Nat → Int32) → (Nat → Int32) → (Nat → Int32) → (Nat → Nat → Int32) → Prop} (h : wp_X7_turned g_strip_links g_strip_folded g_strip_stiff g_history_slot g_history_size g_history_steps_E_links g_history_steps_E_folded g_history_steps_E_stiff g_strip_lengths g_history_steps_E_lengths Q) (sz : Nat) : MtI l yX7_turned wsX7_turned rm_X7_turned [.ref q] D Y (w_X7_turned Y q q_text q_strip q_told q_images q_kept q_history q_lay q_folds q_sightings q_rater q_strip_lengths q_history_steps q_history_steps_E q_history_steps_E_lengths g_strip_links g_strip_folded g_strip_stiff g_history_slot g_history_size g_history_steps_E_links g_history_steps_E_folded g_history_steps_E_stiff g_strip_lengths g_history_steps_E_lengths) (fun r (u : Int32 × Int32 × Int32 × Int32 × (Nat → Int32) × (Nat → Int32) × (Nat → Int32) × (Nat → Int32) × (Nat → Nat → Int32)) => Q r u.1 u.2.1 u.2.2.1 u.2.2.2.1 u.2.2.2.2.1 u.2.2.2.2.2.1 u.2.2.2.2.2.2.1 u.2.2.2.2.2.2.2.1 u.2.2.2.2.2.2.2.2) (fun u : Int32 × Int32 × Int32 × Int32 × (Nat → Int32) × (Nat → Int32) × (Nat → Int32) × (Nat → Int32) × (Nat → Nat → Int32) => (w_X7_turned Y q q_text q_strip q_told q_images q_kept q_history q_lay q_folds q_sightings q_rater q_strip_lengths q_history_steps q_history_steps_E q_history_steps_E_lengths g_strip_links u.1 u.2.1 u.2.2.1 u.2.2.2.1 u.2.2.2.2.1 u.2.2.2.2.2.1 u.2.2.2.2.2.2.1 u.2.2.2.2.2.2.2.1 u.2.2.2.2.2.2.2.2)) sz := by
  refine ct_i (cc := cX7_turned) (nL := 1) (ret := (some .int)) (by decide) rfl (Nat.le_of_ble_eq_true rfl) ?_ sz
  intro p e s m below meth c A ls C hK hA hP hD hS hl
  obtain ⟨⟨hx, hb, hml, hown, hts⟩, hr, hlocks, hN⟩ := id C
  have hown : s.vm.findClass RX7 = some m.cls := hown
  have hl : lv_has ls 1 [(0, .ref q)] := hl
  unfold wp_X7_turned at h
  refine lv_aload_n hx hb dX7_turned_0 rfl (lv_at hl 0 rfl) ?_
  refine va_get (D := D) (ci := 7) (v := .ref q_strip) (C := RX7) (T := TX7) (N := 10) hx hb hts in_X7_turned_X7 hown hK hP 0 rfl rfl 1 (by decide) (k_X7_turned_f19 hts) (fun _ h9 => h9) rfl dX7_turned_1 ?_
  refine va_getN (D := D) (ci := 5) (v := .int g_strip_links) (C := RX5) (T := TX5) (N := 4) hx hb hts in_X7_turned_X5 hown hK hP 1 rfl rfl 1 (by decide) (va_Nw.use rfl (nwX7_131 hN)) (fun _ h9 => h9) rfl dX7_turned_4 ?_
  refine lv_if_ne (tgt := 13) hx hb dX7_turned_7 (by decide) (fun c10 => ?_) (fun c10 => ?_)
  · have h := h.1 c10
    refine lv_aload_n hx hb dX7_turned_13 rfl (lv_at hl 0 rfl) ?_
    refine va_get (D := D) (ci := 7) (v := .ref q_history) (C := RX7) (T := TX7) (N := 10) hx hb hts in_X7_turned_X7 hown hK hP 0 rfl rfl 5 (by decide) (k_X7_turned_f37 hts) (fun _ h9 => h9) rfl dX7_turned_14 ?_
    refine lv_aload_n hx hb dX7_turned_17 rfl (lv_at hl 0 rfl) ?_
    refine va_get (D := D) (ci := 7) (v := .ref q_strip) (C := RX7) (T := TX7) (N := 10) hx hb hts in_X7_turned_X7 hown hK hP 0 rfl rfl 1 (by decide) (k_X7_turned_f19 hts) (fun _ h9 => h9) rfl dX7_turned_18 ?_
    have hp : Pt (w_X7_turned Y q q_text q_strip q_told q_images q_kept q_history q_lay q_folds q_sightings q_rater q_strip_lengths q_history_steps q_history_steps_E q_history_steps_E_lengths g_strip_links g_strip_folded g_strip_stiff g_history_slot g_history_size g_history_steps_E_links g_history_steps_E_folded g_history_steps_E_stiff g_strip_lengths g_history_steps_E_lengths) (w_X1_remember Y q_history q_history_steps q_history_steps_E q_history_steps_E_lengths q_strip q_strip_lengths g_history_slot g_history_size g_history_steps_E_links g_history_steps_E_folded g_history_steps_E_stiff g_strip_links g_strip_folded g_strip_stiff g_strip_lengths g_history_steps_E_lengths) [2, 3, 4, 5, 6, 7, 8, 9, 10, 11, 12, 13, 1, 14, 15, 16, 17, 18, 19, 20, 21, 22, 23, 24] := ⟨rfl, by decide +kernel⟩
    refine go_v hp hP hD hS hA (fun _ => rfl) (va_runV (As := [.ref q_strip]) (rest := []) ⟨hx, hb, hml, hown, hts⟩ (c_X1_remember h _) (cwV 1 hts gX7_turned_X1_remember rfl rfl rfl (by decide +kernel) ⟨Nat.le_of_ble_eq_true rfl, Nat.le_of_ble_eq_true rfl⟩) (pre_V (b := q_history) (q0 := 0) (ci := 1) (q := (RX1, TX1, 3)) hp hK hN hP hD rfl rfl) rfl rfl hl.1 rfl (lv_room (Nat.le_of_ble_eq_true rfl)) dX7_turned_21 ⟨Nat.le_of_ble_eq_true rfl, Nat.le_of_ble_eq_true rfl⟩) (fun u H locs h hP hD hS => ?_)
    obtain ⟨u12, u13, u14, u15, u16, u17⟩ := u
    try dsimp only at h
    have hP : va_P D vwCl (w_X7_turned Y q q_text q_strip q_told q_images q_kept q_history q_lay q_folds q_sightings q_rater q_strip_lengths q_history_steps q_history_steps_E q_history_steps_E_lengths g_strip_links g_strip_folded g_strip_stiff u12 u13 u14 u15 u16 g_strip_lengths u17) H := hP
    have hD : va_D A (w_X7_turned Y q q_text q_strip q_told q_images q_kept q_history q_lay q_folds q_sightings q_rater q_strip_lengths q_history_steps q_history_steps_E q_history_steps_E_lengths g_strip_links g_strip_folded g_strip_stiff u12 u13 u14 u15 u16 g_strip_lengths u17) := hD
    refine lv_aload_n hx hb dX7_turned_24 rfl (lv_at hl 0 rfl) ?_
    refine va_get (D := D) (ci := 7) (v := .ref q_strip) (C := RX7) (T := TX7) (N := 10) hx hb hts in_X7_turned_X7 hown hK hP 0 rfl rfl 1 (by decide) (k_X7_turned_f19 hts) (fun _ h9 => h9) rfl dX7_turned_25 ?_
    have hp : Pt (w_X7_turned Y q q_text q_strip q_told q_images q_kept q_history q_lay q_folds q_sightings q_rater q_strip_lengths q_history_steps q_history_steps_E q_history_steps_E_lengths g_strip_links g_strip_folded g_strip_stiff u12 u13 u14 u15 u16 g_strip_lengths u17) (w_X5_turnAbout Y q_strip q_strip_lengths g_strip_links g_strip_folded g_strip_stiff g_strip_lengths) [1, 14] := ⟨rfl, by decide +kernel⟩
    refine go_v hp hP hD hS hA (fun _ => rfl) (va_runV (As := []) (rest := []) ⟨hx, hb, hml, hown, hts⟩ (c_X5_turnAbout h _) (cwV 0 hts gX7_turned_X5_turnAbout rfl rfl rfl (by decide +kernel) ⟨Nat.le_of_ble_eq_true rfl, Nat.le_of_ble_eq_true rfl⟩) (pre_V (b := q_strip) (q0 := 0) (ci := 5) (q := (RX5, TX5, 4)) hp hK hN hP hD rfl rfl) rfl rfl hl.1 rfl (lv_room (Nat.le_of_ble_eq_true rfl)) dX7_turned_28 ⟨Nat.le_of_ble_eq_true rfl, Nat.le_of_ble_eq_true rfl⟩) (fun u H locs h hP hD hS => ?_)
    obtain ⟨u19, u20, u21⟩ := u
    try dsimp only at h
    have hP : va_P D vwCl (w_X7_turned Y q q_text q_strip q_told q_images q_kept q_history q_lay q_folds q_sightings q_rater q_strip_lengths q_history_steps q_history_steps_E q_history_steps_E_lengths g_strip_links u19 u20 u12 u13 u14 u15 u16 u21 u17) H := hP
    have hD : va_D A (w_X7_turned Y q q_text q_strip q_told q_images q_kept q_history q_lay q_folds q_sightings q_rater q_strip_lengths q_history_steps q_history_steps_E q_history_steps_E_lengths g_strip_links u19 u20 u12 u13 u14 u15 u16 u21 u17) := hD
    refine lv_aload_n hx hb dX7_turned_31 rfl (lv_at hl 0 rfl) ?_
    refine va_get (D := D) (ci := 7) (v := .ref q_strip) (C := RX7) (T := TX7) (N := 10) hx hb hts in_X7_turned_X7 hown hK hP 0 rfl rfl 1 (by decide) (k_X7_turned_f19 hts) (fun _ h9 => h9) rfl dX7_turned_32 ?_
    refine va_getN (D := D) (ci := 5) (v := .int u19) (C := RX5) (T := TX5) (N := 4) hx hb hts in_X7_turned_X5 hown hK hP 1 rfl rfl 2 (by decide) (va_Nw.use rfl (nwX7_121 hN)) (fun _ h9 => h9) rfl dX7_turned_35 ?_
    exact ret_i (u19, u20, u12, u13, u14, u15, u16, u21, u17) hx hb hr hlocks hK hP hD hS h dX7_turned_38
  · have h := h.2 c10
    refine lv_bipush (v := (-2)) hx hb dX7_turned_10 (by decide) ?_
    exact ret_i (g_strip_folded, g_strip_stiff, g_history_slot, g_history_size, g_history_steps_E_links, g_history_steps_E_folded, g_history_steps_E_stiff, g_strip_lengths, g_history_steps_E_lengths) hx hb hr hlocks hK hP hD hS h dX7_turned_12
abbrev rm_X7_undo : Room := { frames := 2, cells := 0, slots := 0, locals := 43 }
theorem in_X7_undo_X1 : ∀ w ∈ wsX10, w ∈ wsX7_undo := fun _ h => List.mem_cons_of_mem _ (List.mem_append_left _ (List.mem_append_right _ h))
theorem in_X7_undo_X7 : ∀ w ∈ wsX70, w ∈ wsX7_undo := fun _ h => List.mem_cons_of_mem _ (List.mem_append_left _ (List.mem_append_left _ (List.mem_append_right _ h)))
theorem k_X7_undo_f37 {s : State} {args : Array Value} (hts : ∀ w ∈ wsX7_undo, w.before args s = true) : (Cond.fieldLink RX7 37 "FoldRule" "history" "LFoldRule$History;").before args s = true := hts _ (by decide +kernel)
theorem k_X7_undo_f19 {s : State} {args : Array Value} (hts : ∀ w ∈ wsX7_undo, w.before args s = true) : (Cond.fieldLink RX7 19 "FoldRule" "strip" "LFoldRule$Strip;").before args s = true := hts _ (by decide +kernel)
set_option maxHeartbeats 4000000 in
set_option maxRecDepth 100000 in
theorem c_X7_undo {l : Launch} {D : va_G} {Y : ClassId × ClassId × ClassId} {q q_text q_strip q_told q_images q_kept q_history q_lay q_folds q_sightings q_rater q_history_steps : Nat} {q_history_steps_E : Nat → Nat} {q_strip_lengths : Nat} {q_history_steps_E_lengths : Nat → Nat} {g_history_slot g_history_size g_strip_links g_strip_folded g_strip_stiff : Int32} {g_history_steps_E_links g_history_steps_E_folded g_history_steps_E_stiff : Nat → Int32} {g_history_steps_E_lengths : Nat → Nat → Int32} {g_strip_lengths : Nat → Int32} {Q : Int32 → Int32 → Int32 → Int32 → Int32 → Int32 → (Nat → Int32) → Prop} (h : wp_X7_undo g_history_slot g_history_size g_strip_links g_strip_folded g_strip_stiff g_history_steps_E_links g_history_steps_E_folded g_history_steps_E_stiff g_history_steps_E_lengths g_strip_lengths Q) (sz : Nat) : MtI l yX7_undo wsX7_undo rm_X7_undo [.ref q] D Y (w_X7_undo Y q q_text q_strip q_told q_images q_kept q_history q_lay q_folds q_sightings q_rater q_history_steps q_history_steps_E q_strip_lengths q_history_steps_E_lengths g_history_slot g_history_size g_strip_links g_strip_folded g_strip_stiff g_history_steps_E_links g_history_steps_E_folded g_history_steps_E_stiff g_history_steps_E_lengths g_strip_lengths) (fun r (u : Int32 × Int32 × Int32 × Int32 × Int32 × (Nat → Int32)) => Q r u.1 u.2.1 u.2.2.1 u.2.2.2.1 u.2.2.2.2.1 u.2.2.2.2.2) (fun u : Int32 × Int32 × Int32 × Int32 × Int32 × (Nat → Int32) => (w_X7_undo Y q q_text q_strip q_told q_images q_kept q_history q_lay q_folds q_sightings q_rater q_history_steps q_history_steps_E q_strip_lengths q_history_steps_E_lengths u.1 u.2.1 u.2.2.1 u.2.2.2.1 u.2.2.2.2.1 g_history_steps_E_links g_history_steps_E_folded g_history_steps_E_stiff g_history_steps_E_lengths u.2.2.2.2.2)) sz := by
  refine ct_i (cc := cX7_undo) (nL := 1) (ret := (some .int)) (by decide) rfl (Nat.le_of_ble_eq_true rfl) ?_ sz
  intro p e s m below meth c A ls C hK hA hP hD hS hl
  obtain ⟨⟨hx, hb, hml, hown, hts⟩, hr, hlocks, hN⟩ := id C
  have hown : s.vm.findClass RX7 = some m.cls := hown
  have hl : lv_has ls 1 [(0, .ref q)] := hl
  unfold wp_X7_undo at h
  refine lv_aload_n hx hb dX7_undo_0 rfl (lv_at hl 0 rfl) ?_
  refine va_get (D := D) (ci := 7) (v := .ref q_history) (C := RX7) (T := TX7) (N := 10) hx hb hts in_X7_undo_X7 hown hK hP 0 rfl rfl 5 (by decide) (k_X7_undo_f37 hts) (fun _ h9 => h9) rfl dX7_undo_1 ?_
  refine va_getN (D := D) (ci := 1) (v := .int g_history_size) (C := RX1) (T := TX1) (N := 3) hx hb hts in_X7_undo_X1 hown hK hP 1 rfl rfl 2 (by decide) (va_Nw.use rfl (nwX7_157 hN)) (fun _ h9 => h9) rfl dX7_undo_4 ?_
  refine lv_if_ne (tgt := 13) hx hb dX7_undo_7 (by decide) (fun c7 => ?_) (fun c7 => ?_)
  · have h := h.1 c7
    refine lv_aload_n hx hb dX7_undo_13 rfl (lv_at hl 0 rfl) ?_
    refine va_get (D := D) (ci := 7) (v := .ref q_history) (C := RX7) (T := TX7) (N := 10) hx hb hts in_X7_undo_X7 hown hK hP 0 rfl rfl 5 (by decide) (k_X7_undo_f37 hts) (fun _ h9 => h9) rfl dX7_undo_14 ?_
    refine lv_aload_n hx hb dX7_undo_17 rfl (lv_at hl 0 rfl) ?_
    refine va_get (D := D) (ci := 7) (v := .ref q_strip) (C := RX7) (T := TX7) (N := 10) hx hb hts in_X7_undo_X7 hown hK hP 0 rfl rfl 1 (by decide) (k_X7_undo_f19 hts) (fun _ h9 => h9) rfl dX7_undo_18 ?_
    have hp : Pt (w_X7_undo Y q q_text q_strip q_told q_images q_kept q_history q_lay q_folds q_sightings q_rater q_history_steps q_history_steps_E q_strip_lengths q_history_steps_E_lengths g_history_slot g_history_size g_strip_links g_strip_folded g_strip_stiff g_history_steps_E_links g_history_steps_E_folded g_history_steps_E_stiff g_history_steps_E_lengths g_strip_lengths) (w_X1_restore Y q_history q_history_steps q_history_steps_E q_strip q_strip_lengths q_history_steps_E_lengths g_history_slot g_history_size g_strip_links g_strip_folded g_strip_stiff g_history_steps_E_links g_history_steps_E_folded g_history_steps_E_stiff g_history_steps_E_lengths g_strip_lengths) [1, 2, 3, 4, 5, 6, 7, 8, 9, 10, 11, 12, 13, 14, 15, 16, 17, 18, 19, 20, 21, 22, 23, 24] := ⟨rfl, by decide +kernel⟩
    refine go_v hp hP hD hS hA (fun _ => rfl) (va_runV (As := [.ref q_strip]) (rest := []) ⟨hx, hb, hml, hown, hts⟩ (c_X1_restore h _) (cwV 1 hts gX7_undo_X1_restore rfl rfl rfl (by decide +kernel) ⟨Nat.le_of_ble_eq_true rfl, Nat.le_of_ble_eq_true rfl⟩) (pre_V (b := q_history) (q0 := 0) (ci := 1) (q := (RX1, TX1, 3)) hp hK hN hP hD rfl rfl) rfl rfl hl.1 rfl (lv_room (Nat.le_of_ble_eq_true rfl)) dX7_undo_21 ⟨Nat.le_of_ble_eq_true rfl, Nat.le_of_ble_eq_true rfl⟩) (fun u H locs h hP hD hS => ?_)
    obtain ⟨u9, u10, u11, u12, u13, u14⟩ := u
    try dsimp only at h
    have hP : va_P D vwCl (w_X7_undo Y q q_text q_strip q_told q_images q_kept q_history q_lay q_folds q_sightings q_rater q_history_steps q_history_steps_E q_strip_lengths q_history_steps_E_lengths u9 u10 u11 u12 u13 g_history_steps_E_links g_history_steps_E_folded g_history_steps_E_stiff g_history_steps_E_lengths u14) H := hP
    have hD : va_D A (w_X7_undo Y q q_text q_strip q_told q_images q_kept q_history q_lay q_folds q_sightings q_rater q_history_steps q_history_steps_E q_strip_lengths q_history_steps_E_lengths u9 u10 u11 u12 u13 g_history_steps_E_links g_history_steps_E_folded g_history_steps_E_stiff g_history_steps_E_lengths u14) := hD
    refine lv_aload_n hx hb dX7_undo_24 rfl (lv_at hl 0 rfl) ?_
    refine va_get (D := D) (ci := 7) (v := .ref q_history) (C := RX7) (T := TX7) (N := 10) hx hb hts in_X7_undo_X7 hown hK hP 0 rfl rfl 5 (by decide) (k_X7_undo_f37 hts) (fun _ h9 => h9) rfl dX7_undo_25 ?_
    refine va_getN (D := D) (ci := 1) (v := .int u10) (C := RX1) (T := TX1) (N := 3) hx hb hts in_X7_undo_X1 hown hK hP 1 rfl rfl 2 (by decide) (va_Nw.use rfl (nwX7_157 hN)) (fun _ h9 => h9) rfl dX7_undo_28 ?_
    exact ret_i (u9, u10, u11, u12, u13, u14) hx hb hr hlocks hK hP hD hS h dX7_undo_31
  · have h := h.2 c7
    refine lv_bipush (v := (-2)) hx hb dX7_undo_10 (by decide) ?_
    exact ret_i (g_history_slot, g_history_size, g_strip_links, g_strip_folded, g_strip_stiff, g_strip_lengths) hx hb hr hlocks hK hP hD hS h dX7_undo_12
abbrev rm_X7_bentBy : Room := { frames := 1, cells := 0, slots := 0, locals := 20 }
theorem in_X7_bentBy_X5 : ∀ w ∈ wsX50, w ∈ wsX7_bentBy := fun _ h => List.mem_cons_of_mem _ (List.mem_append_right _ h)
theorem in_X7_bentBy_X7 : ∀ w ∈ wsX70, w ∈ wsX7_bentBy := fun _ h => List.mem_cons_of_mem _ (List.mem_append_left _ (List.mem_append_right _ h))
theorem k_X7_bentBy_f19 {s : State} {args : Array Value} (hts : ∀ w ∈ wsX7_bentBy, w.before args s = true) : (Cond.fieldLink RX7 19 "FoldRule" "strip" "LFoldRule$Strip;").before args s = true := hts _ (by decide +kernel)
set_option maxHeartbeats 4000000 in
set_option maxRecDepth 100000 in
theorem c_X7_bentBy {l : Launch} {D : va_G} {Y : ClassId × ClassId × ClassId} {q q_text q_strip q_told q_images q_kept q_history q_lay q_folds q_sightings q_rater q_strip_lengths : Nat} {g_strip_links g_strip_folded g_strip_stiff x1 : Int32} {Q : Int32 → Prop} (h : wp_X7_bentBy g_strip_folded x1 Q) (sz : Nat) : MtI l yX7_bentBy wsX7_bentBy rm_X7_bentBy [.ref q, .int x1] D Y (w_X7_bentBy Y q q_text q_strip q_told q_images q_kept q_history q_lay q_folds q_sightings q_rater q_strip_lengths g_strip_links g_strip_folded g_strip_stiff) (fun r (_ : Unit) => Q r) (fun _ : Unit => (w_X7_bentBy Y q q_text q_strip q_told q_images q_kept q_history q_lay q_folds q_sightings q_rater q_strip_lengths g_strip_links g_strip_folded g_strip_stiff)) sz := by
  refine ct_i (cc := cX7_bentBy) (nL := 2) (ret := (some .int)) (by decide) rfl (Nat.le_of_ble_eq_true rfl) ?_ sz
  intro p e s m below meth c A ls C hK hA hP hD hS hl
  obtain ⟨⟨hx, hb, hml, hown, hts⟩, hr, hlocks, hN⟩ := id C
  have hown : s.vm.findClass RX7 = some m.cls := hown
  have hl : lv_has ls 2 [(0, .ref q), (1, .int x1)] := hl
  unfold wp_X7_bentBy at h
  refine lv_iload_n hx hb dX7_bentBy_0 rfl (lv_at hl 1 rfl) ?_
  refine lv_bipush (v := (-9)) hx hb dX7_bentBy_1 (by decide) ?_
  refine lv_icmp_ne (tgt := 11) hx hb dX7_bentBy_3 (by decide) (fun c2 => ?_) (fun c2 => ?_)
  · have h := h.1 c2
    refine lv_iload_n hx hb dX7_bentBy_11 rfl (lv_at hl 1 rfl) ?_
    refine lv_aload_n hx hb dX7_bentBy_12 rfl (lv_at hl 0 rfl) ?_
    refine va_get (D := D) (ci := 7) (v := .ref q_strip) (C := RX7) (T := TX7) (N := 10) hx hb hts in_X7_bentBy_X7 hown hK hP 0 rfl rfl 1 (by decide) (k_X7_bentBy_f19 hts) (fun _ h9 => h9) rfl dX7_bentBy_13 ?_
    refine va_getN (D := D) (ci := 5) (v := .int g_strip_folded) (C := RX5) (T := TX5) (N := 4) hx hb hts in_X7_bentBy_X5 hown hK hP 1 rfl rfl 2 (by decide) (va_Nw.use rfl (nwX7_121 hN)) (fun _ h9 => h9) rfl dX7_bentBy_16 ?_
    refine lv_ixor hx hb dX7_bentBy_19 ?_
    have hp : Pt (w_X7_bentBy Y q q_text q_strip q_told q_images q_kept q_history q_lay q_folds q_sightings q_rater q_strip_lengths g_strip_links g_strip_folded g_strip_stiff) (w_J6_bitCount_0f7a4 Y ) [] := ⟨rfl, by decide +kernel⟩
    refine go_i hp hP hD hS hA (fun _ => rfl) (va_runS (As := [.int (x1 ^^^ g_strip_folded)]) (rest := []) ⟨hx, hb, hml, hown, hts⟩ (c_J6_bitCount_0f7a4 h _) (va_cwS 1 hts gX7_bentBy_J6_bitCount_0f7a4 rfl rfl rfl (by decide +kernel) ⟨Nat.le_of_ble_eq_true rfl, Nat.le_of_ble_eq_true rfl⟩) (pre_S hp hK hN hP hD) rfl rfl hl.1 rfl (lv_room (Nat.le_of_ble_eq_true rfl)) dX7_bentBy_20 ⟨Nat.le_of_ble_eq_true rfl, Nat.le_of_ble_eq_true rfl⟩) (fun r3 u H locs h hP hD hS => ?_)
    try dsimp only at h
    have hP : va_P D vwCl (w_X7_bentBy Y q q_text q_strip q_told q_images q_kept q_history q_lay q_folds q_sightings q_rater q_strip_lengths g_strip_links g_strip_folded g_strip_stiff) H := hP
    have hD : va_D A (w_X7_bentBy Y q q_text q_strip q_told q_images q_kept q_history q_lay q_folds q_sightings q_rater q_strip_lengths g_strip_links g_strip_folded g_strip_stiff) := hD
    exact ret_i () hx hb hr hlocks hK hP hD hS h dX7_bentBy_23
  · have h := h.2 c2
    refine lv_bipush (v := (-9)) hx hb dX7_bentBy_6 (by decide) ?_
    refine lv_goto (tgt := 23) hx hb dX7_bentBy_8 (by decide) ?_
    exact ret_i () hx hb hr hlocks hK hP hD hS h dX7_bentBy_23
abbrev rm_X7_box : Room := { frames := 5, cells := 0, slots := 0, locals := 121 }
theorem in_X7_box_X7 : ∀ w ∈ wsX70, w ∈ wsX7_box := fun _ h => List.mem_cons_of_mem _ (List.mem_append_left _ (List.mem_append_left _ (List.mem_append_left _ (List.mem_append_right _ h))))
theorem k_X7_box_f51 {s : State} {args : Array Value} (hts : ∀ w ∈ wsX7_box, w.before args s = true) : (Cond.fieldLink RX7 51 "FoldRule" "folds" "LFoldRule$Folds;").before args s = true := hts _ (by decide +kernel)
theorem k_X7_box_f19 {s : State} {args : Array Value} (hts : ∀ w ∈ wsX7_box, w.before args s = true) : (Cond.fieldLink RX7 19 "FoldRule" "strip" "LFoldRule$Strip;").before args s = true := hts _ (by decide +kernel)
set_option maxHeartbeats 4000000 in
set_option maxRecDepth 100000 in
theorem c_X7_box {l : Launch} {D : va_G} {Y : ClassId × ClassId × ClassId} {q q_text q_strip q_told q_images q_kept q_history q_lay q_folds q_sightings q_rater q_strip_lengths q_folds_lay q_folds_measured q_folds_lay_places : Nat} {g_strip_links g_strip_folded g_strip_stiff g_folds_lay_links g_folds_lay_low g_folds_lay_high : Int32} {g_strip_lengths g_folds_lay_places : Nat → Int32} {x1 x2 : Int32} {Q : Int32 → Int32 → Int32 → Int32 → (Nat → Int32) → Prop} (h : wp_X7_box g_strip_links g_strip_folded g_strip_stiff g_folds_lay_links g_folds_lay_low g_folds_lay_high g_strip_lengths g_folds_lay_places x1 x2 Q) (sz : Nat) : MtI l yX7_box wsX7_box rm_X7_box [.ref q, .int x1, .int x2] D Y (w_X7_box Y q q_text q_strip q_told q_images q_kept q_history q_lay q_folds q_sightings q_rater q_strip_lengths q_folds_lay q_folds_measured q_folds_lay_places g_strip_links g_strip_folded g_strip_stiff g_folds_lay_links g_folds_lay_low g_folds_lay_high g_strip_lengths g_folds_lay_places) (fun r (u : Int32 × Int32 × Int32 × (Nat → Int32)) => Q r u.1 u.2.1 u.2.2.1 u.2.2.2) (fun u : Int32 × Int32 × Int32 × (Nat → Int32) => (w_X7_box Y q q_text q_strip q_told q_images q_kept q_history q_lay q_folds q_sightings q_rater q_strip_lengths q_folds_lay q_folds_measured q_folds_lay_places g_strip_links g_strip_folded g_strip_stiff u.1 u.2.1 u.2.2.1 g_strip_lengths u.2.2.2)) sz := by
  refine ct_i (cc := cX7_box) (nL := 3) (ret := (some .int)) (by decide) rfl (Nat.le_of_ble_eq_true rfl) ?_ sz
  intro p e s m below meth c A ls C hK hA hP hD hS hl
  obtain ⟨⟨hx, hb, hml, hown, hts⟩, hr, hlocks, hN⟩ := id C
  have hown : s.vm.findClass RX7 = some m.cls := hown
  have hl : lv_has ls 3 [(0, .ref q), (1, .int x1), (2, .int x2)] := hl
  unfold wp_X7_box at h
  refine lv_iload_n hx hb dX7_box_0 rfl (lv_at hl 1 rfl) ?_
  refine lv_iconst (v := 1) hx hb dX7_box_1 (by decide) ?_
  refine lv_sipush (v := 180) hx hb dX7_box_2 (by decide) ?_
  have hp : Pt (w_X7_box Y q q_text q_strip q_told q_images q_kept q_history q_lay q_folds q_sightings q_rater q_strip_lengths q_folds_lay q_folds_measured q_folds_lay_places g_strip_links g_strip_folded g_strip_stiff g_folds_lay_links g_folds_lay_low g_folds_lay_high g_strip_lengths g_folds_lay_places) (w_X7_isWithin Y ) [] := ⟨rfl, by decide +kernel⟩
  refine go_i hp hP hD hS hA (fun _ => rfl) (va_runS (As := [.int x1, .int (1 : Int32), .int (180 : Int32)]) (rest := []) ⟨hx, hb, hml, hown, hts⟩ (c_X7_isWithin h _) (va_cwS 3 hts gX7_box_X7_isWithin rfl rfl rfl (by decide +kernel) ⟨Nat.le_of_ble_eq_true rfl, Nat.le_of_ble_eq_true rfl⟩) (pre_S hp hK hN hP hD) rfl rfl hl.1 rfl (lv_room (Nat.le_of_ble_eq_true rfl)) dX7_box_5 ⟨Nat.le_of_ble_eq_true rfl, Nat.le_of_ble_eq_true rfl⟩) (fun r18 u H locs h hP hD hS => ?_)
  try dsimp only at h
  have hP : va_P D vwCl (w_X7_box Y q q_text q_strip q_told q_images q_kept q_history q_lay q_folds q_sightings q_rater q_strip_lengths q_folds_lay q_folds_measured q_folds_lay_places g_strip_links g_strip_folded g_strip_stiff g_folds_lay_links g_folds_lay_low g_folds_lay_high g_strip_lengths g_folds_lay_places) H := hP
  have hD : va_D A (w_X7_box Y q q_text q_strip q_told q_images q_kept q_history q_lay q_folds q_sightings q_rater q_strip_lengths q_folds_lay q_folds_measured q_folds_lay_places g_strip_links g_strip_folded g_strip_stiff g_folds_lay_links g_folds_lay_low g_folds_lay_high g_strip_lengths g_folds_lay_places) := hD
  refine lv_if_ne (tgt := 13) hx hb dX7_box_8 (by decide) (fun c19 => ?_) (fun c19 => ?_)
  · have h := h.1 c19
    refine lv_iload_n hx hb dX7_box_13 rfl (lv_at hl 2 rfl) ?_
    by_cases c20_0 : x2 = (0 : Int32)
    · have h := h.1 c20_0
      refine lv_tableIn (off := (26)) (tgt := 40) hx hb dX7_box_14 (by rw [c20_0]; decide) (by rw [c20_0]; decide) (by rw [c20_0]; rfl) (by decide) ?_
      refine lv_aload_n hx hb dX7_box_40 rfl (lv_at hl 0 rfl) ?_
      refine va_get (D := D) (ci := 7) (v := .ref q_folds) (C := RX7) (T := TX7) (N := 10) hx hb hts in_X7_box_X7 hown hK hP 0 rfl rfl 7 (by decide) (k_X7_box_f51 hts) (fun _ h9 => h9) rfl dX7_box_41 ?_
      refine lv_aload_n hx hb dX7_box_44 rfl (lv_at hl 0 rfl) ?_
      refine va_get (D := D) (ci := 7) (v := .ref q_strip) (C := RX7) (T := TX7) (N := 10) hx hb hts in_X7_box_X7 hown hK hP 0 rfl rfl 1 (by decide) (k_X7_box_f19 hts) (fun _ h9 => h9) rfl dX7_box_45 ?_
      refine lv_iload_n hx hb dX7_box_48 rfl (lv_at hl 1 rfl) ?_
      have hp : Pt (w_X7_box Y q q_text q_strip q_told q_images q_kept q_history q_lay q_folds q_sightings q_rater q_strip_lengths q_folds_lay q_folds_measured q_folds_lay_places g_strip_links g_strip_folded g_strip_stiff g_folds_lay_links g_folds_lay_low g_folds_lay_high g_strip_lengths g_folds_lay_places) (w_X0_howManyGoInto Y q_strip q_strip_lengths q_folds q_folds_lay q_folds_measured q_folds_lay_places g_strip_links g_strip_folded g_strip_stiff g_folds_lay_links g_folds_lay_low g_folds_lay_high g_strip_lengths g_folds_lay_places) [1, 2, 3, 4, 5] := ⟨rfl, by decide +kernel⟩
      refine go_i hp hP hD hS hA (fun _ => rfl) (va_runV (As := [.ref q_strip, .int x1]) (rest := []) ⟨hx, hb, hml, hown, hts⟩ (c_X0_howManyGoInto h _) (cwV 2 hts gX7_box_X0_howManyGoInto rfl rfl rfl (by decide +kernel) ⟨Nat.le_of_ble_eq_true rfl, Nat.le_of_ble_eq_true rfl⟩) (pre_V (b := q_folds) (q0 := 1) (ci := 0) (q := (RX0, TX0, 2)) hp hK hN hP hD rfl rfl) rfl rfl hl.1 rfl (lv_room (Nat.le_of_ble_eq_true rfl)) dX7_box_49 ⟨Nat.le_of_ble_eq_true rfl, Nat.le_of_ble_eq_true rfl⟩) (fun r21 u H locs h hP hD hS => ?_)
      obtain ⟨u22, u23, u24, u25⟩ := u
      try dsimp only at h
      have hP : va_P D vwCl (w_X7_box Y q q_text q_strip q_told q_images q_kept q_history q_lay q_folds q_sightings q_rater q_strip_lengths q_folds_lay q_folds_measured q_folds_lay_places g_strip_links g_strip_folded g_strip_stiff u22 u23 u24 g_strip_lengths u25) H := hP
      have hD : va_D A (w_X7_box Y q q_text q_strip q_told q_images q_kept q_history q_lay q_folds q_sightings q_rater q_strip_lengths q_folds_lay q_folds_measured q_folds_lay_places g_strip_links g_strip_folded g_strip_stiff u22 u23 u24 g_strip_lengths u25) := hD
      exact ret_i (u22, u23, u24, u25) hx hb hr hlocks hK hP hD hS h dX7_box_52
    by_cases c20_1 : x2 = (1 : Int32)
    · have h := h.2.1 c20_1
      refine lv_tableIn (off := (39)) (tgt := 53) hx hb dX7_box_14 (by rw [c20_1]; decide) (by rw [c20_1]; decide) (by rw [c20_1]; rfl) (by decide) ?_
      refine lv_aload_n hx hb dX7_box_53 rfl (lv_at hl 0 rfl) ?_
      refine va_get (D := D) (ci := 7) (v := .ref q_folds) (C := RX7) (T := TX7) (N := 10) hx hb hts in_X7_box_X7 hown hK hP 0 rfl rfl 7 (by decide) (k_X7_box_f51 hts) (fun _ h9 => h9) rfl dX7_box_54 ?_
      refine lv_aload_n hx hb dX7_box_57 rfl (lv_at hl 0 rfl) ?_
      refine va_get (D := D) (ci := 7) (v := .ref q_strip) (C := RX7) (T := TX7) (N := 10) hx hb hts in_X7_box_X7 hown hK hP 0 rfl rfl 1 (by decide) (k_X7_box_f19 hts) (fun _ h9 => h9) rfl dX7_box_58 ?_
      refine lv_iload_n hx hb dX7_box_61 rfl (lv_at hl 1 rfl) ?_
      refine lv_iconst (v := 0) hx hb dX7_box_62 (by decide) ?_
      have hp : Pt (w_X7_box Y q q_text q_strip q_told q_images q_kept q_history q_lay q_folds q_sightings q_rater q_strip_lengths q_folds_lay q_folds_measured q_folds_lay_places g_strip_links g_strip_folded g_strip_stiff g_folds_lay_links g_folds_lay_low g_folds_lay_high g_strip_lengths g_folds_lay_places) (w_X0_nearestFold Y q_strip q_strip_lengths q_folds q_folds_lay q_folds_measured q_folds_lay_places g_strip_links g_strip_folded g_strip_stiff g_folds_lay_links g_folds_lay_low g_folds_lay_high g_strip_lengths g_folds_lay_places) [1, 2, 3, 4, 5] := ⟨rfl, by decide +kernel⟩
      refine go_i hp hP hD hS hA (fun _ => rfl) (va_runV (As := [.ref q_strip, .int x1, .int (0 : Int32)]) (rest := []) ⟨hx, hb, hml, hown, hts⟩ (c_X0_nearestFold h _) (cwV 3 hts gX7_box_X0_nearestFold rfl rfl rfl (by decide +kernel) ⟨Nat.le_of_ble_eq_true rfl, Nat.le_of_ble_eq_true rfl⟩) (pre_V (b := q_folds) (q0 := 1) (ci := 0) (q := (RX0, TX0, 2)) hp hK hN hP hD rfl rfl) rfl rfl hl.1 rfl (lv_room (Nat.le_of_ble_eq_true rfl)) dX7_box_63 ⟨Nat.le_of_ble_eq_true rfl, Nat.le_of_ble_eq_true rfl⟩) (fun r26 u H locs h hP hD hS => ?_)
      obtain ⟨u27, u28, u29, u30⟩ := u
      try dsimp only at h
      have hP : va_P D vwCl (w_X7_box Y q q_text q_strip q_told q_images q_kept q_history q_lay q_folds q_sightings q_rater q_strip_lengths q_folds_lay q_folds_measured q_folds_lay_places g_strip_links g_strip_folded g_strip_stiff u27 u28 u29 g_strip_lengths u30) H := hP
      have hD : va_D A (w_X7_box Y q q_text q_strip q_told q_images q_kept q_history q_lay q_folds q_sightings q_rater q_strip_lengths q_folds_lay q_folds_measured q_folds_lay_places g_strip_links g_strip_folded g_strip_stiff u27 u28 u29 g_strip_lengths u30) := hD
      exact ret_i (u27, u28, u29, u30) hx hb hr hlocks hK hP hD hS h dX7_box_66
    by_cases c20_2 : x2 = (2 : Int32)
    · have h := h.2.2.1 c20_2
      refine lv_tableIn (off := (53)) (tgt := 67) hx hb dX7_box_14 (by rw [c20_2]; decide) (by rw [c20_2]; decide) (by rw [c20_2]; rfl) (by decide) ?_
      refine lv_aload_n hx hb dX7_box_67 rfl (lv_at hl 0 rfl) ?_
      refine lv_aload_n hx hb dX7_box_68 rfl (lv_at hl 0 rfl) ?_
      refine va_get (D := D) (ci := 7) (v := .ref q_folds) (C := RX7) (T := TX7) (N := 10) hx hb hts in_X7_box_X7 hown hK hP 0 rfl rfl 7 (by decide) (k_X7_box_f51 hts) (fun _ h9 => h9) rfl dX7_box_69 ?_
      refine lv_aload_n hx hb dX7_box_72 rfl (lv_at hl 0 rfl) ?_
      refine va_get (D := D) (ci := 7) (v := .ref q_strip) (C := RX7) (T := TX7) (N := 10) hx hb hts in_X7_box_X7 hown hK hP 0 rfl rfl 1 (by decide) (k_X7_box_f19 hts) (fun _ h9 => h9) rfl dX7_box_73 ?_
      refine lv_iload_n hx hb dX7_box_76 rfl (lv_at hl 1 rfl) ?_
      refine lv_iconst (v := 0) hx hb dX7_box_77 (by decide) ?_
      have hp : Pt (w_X7_box Y q q_text q_strip q_told q_images q_kept q_history q_lay q_folds q_sightings q_rater q_strip_lengths q_folds_lay q_folds_measured q_folds_lay_places g_strip_links g_strip_folded g_strip_stiff g_folds_lay_links g_folds_lay_low g_folds_lay_high g_strip_lengths g_folds_lay_places) (w_X0_nearestFold Y q_strip q_strip_lengths q_folds q_folds_lay q_folds_measured q_folds_lay_places g_strip_links g_strip_folded g_strip_stiff g_folds_lay_links g_folds_lay_low g_folds_lay_high g_strip_lengths g_folds_lay_places) [1, 2, 3, 4, 5] := ⟨rfl, by decide +kernel⟩
      refine go_i hp hP hD hS hA (fun _ => rfl) (va_runV (As := [.ref q_strip, .int x1, .int (0 : Int32)]) (rest := [.ref q]) ⟨hx, hb, hml, hown, hts⟩ (c_X0_nearestFold h _) (cwV 3 hts gX7_box_X0_nearestFold rfl rfl rfl (by decide +kernel) ⟨Nat.le_of_ble_eq_true rfl, Nat.le_of_ble_eq_true rfl⟩) (pre_V (b := q_folds) (q0 := 1) (ci := 0) (q := (RX0, TX0, 2)) hp hK hN hP hD rfl rfl) rfl rfl hl.1 rfl (lv_room (Nat.le_of_ble_eq_true rfl)) dX7_box_78 ⟨Nat.le_of_ble_eq_true rfl, Nat.le_of_ble_eq_true rfl⟩) (fun r31 u H locs h hP hD hS => ?_)
      obtain ⟨u32, u33, u34, u35⟩ := u
      try dsimp only at h
      have hP : va_P D vwCl (w_X7_box Y q q_text q_strip q_told q_images q_kept q_history q_lay q_folds q_sightings q_rater q_strip_lengths q_folds_lay q_folds_measured q_folds_lay_places g_strip_links g_strip_folded g_strip_stiff u32 u33 u34 g_strip_lengths u35) H := hP
      have hD : va_D A (w_X7_box Y q q_text q_strip q_told q_images q_kept q_history q_lay q_folds q_sightings q_rater q_strip_lengths q_folds_lay q_folds_measured q_folds_lay_places g_strip_links g_strip_folded g_strip_stiff u32 u33 u34 g_strip_lengths u35) := hD
      have hp : Pt (w_X7_box Y q q_text q_strip q_told q_images q_kept q_history q_lay q_folds q_sightings q_rater q_strip_lengths q_folds_lay q_folds_measured q_folds_lay_places g_strip_links g_strip_folded g_strip_stiff u32 u33 u34 g_strip_lengths u35) (w_X7_bentBy Y q q_text q_strip q_told q_images q_kept q_history q_lay q_folds q_sightings q_rater q_strip_lengths g_strip_links g_strip_folded g_strip_stiff) [0, 1] := ⟨rfl, by decide +kernel⟩
      refine go_i hp hP hD hS hA (fun _ => rfl) (va_runV (As := [.int r31]) (rest := []) ⟨hx, hb, hml, hown, hts⟩ (c_X7_bentBy h _) (cwV 1 hts gX7_box_X7_bentBy rfl rfl rfl (by decide +kernel) ⟨Nat.le_of_ble_eq_true rfl, Nat.le_of_ble_eq_true rfl⟩) (pre_V (b := q) (q0 := 0) (ci := 7) (q := (RX7, TX7, 10)) hp hK hN hP hD rfl rfl) rfl rfl hl.1 rfl (lv_room (Nat.le_of_ble_eq_true rfl)) dX7_box_81 ⟨Nat.le_of_ble_eq_true rfl, Nat.le_of_ble_eq_true rfl⟩) (fun r36 u H locs h hP hD hS => ?_)
      try dsimp only at h
      have hP : va_P D vwCl (w_X7_box Y q q_text q_strip q_told q_images q_kept q_history q_lay q_folds q_sightings q_rater q_strip_lengths q_folds_lay q_folds_measured q_folds_lay_places g_strip_links g_strip_folded g_strip_stiff u32 u33 u34 g_strip_lengths u35) H := hP
      have hD : va_D A (w_X7_box Y q q_text q_strip q_told q_images q_kept q_history q_lay q_folds q_sightings q_rater q_strip_lengths q_folds_lay q_folds_measured q_folds_lay_places g_strip_links g_strip_folded g_strip_stiff u32 u33 u34 g_strip_lengths u35) := hD
      exact ret_i (u32, u33, u34, u35) hx hb hr hlocks hK hP hD hS h dX7_box_84
    have h := h.2.2.2 c20_0 c20_1 c20_2
    refine lv_tableOut (tgt := 85) hx hb dX7_box_14 (by have := lv_neT (a := 0) c20_0 (by decide); have := lv_neT (a := 1) c20_1 (by decide); have := lv_neT (a := 2) c20_2 (by decide); omega) (by decide) ?_
    refine lv_iconst (v := (-1)) hx hb dX7_box_85 (by decide) ?_
    exact ret_i (g_folds_lay_links, g_folds_lay_low, g_folds_lay_high, g_folds_lay_places) hx hb hr hlocks hK hP hD hS h dX7_box_86
  · have h := h.2 c19
    refine lv_iconst (v := (-1)) hx hb dX7_box_11 (by decide) ?_
    exact ret_i (g_folds_lay_links, g_folds_lay_low, g_folds_lay_high, g_folds_lay_places) hx hb hr hlocks hK hP hD hS h dX7_box_12
abbrev rm_X7_end : Room := { frames := 5, cells := 0, slots := 0, locals := 121 }
theorem in_X7_end_X7 : ∀ w ∈ wsX70, w ∈ wsX7_end := fun _ h => List.mem_cons_of_mem _ (List.mem_append_left _ (List.mem_append_left _ (List.mem_append_left _ (List.mem_append_right _ h))))
theorem k_X7_end_f51 {s : State} {args : Array Value} (hts : ∀ w ∈ wsX7_end, w.before args s = true) : (Cond.fieldLink RX7 51 "FoldRule" "folds" "LFoldRule$Folds;").before args s = true := hts _ (by decide +kernel)
theorem k_X7_end_f19 {s : State} {args : Array Value} (hts : ∀ w ∈ wsX7_end, w.before args s = true) : (Cond.fieldLink RX7 19 "FoldRule" "strip" "LFoldRule$Strip;").before args s = true := hts _ (by decide +kernel)
set_option maxHeartbeats 4000000 in
set_option maxRecDepth 100000 in
theorem c_X7_end {l : Launch} {D : va_G} {Y : ClassId × ClassId × ClassId} {q q_text q_strip q_told q_images q_kept q_history q_lay q_folds q_sightings q_rater q_strip_lengths q_folds_lay q_folds_measured q_folds_lay_places : Nat} {g_strip_links g_strip_folded g_strip_stiff g_folds_lay_links g_folds_lay_low g_folds_lay_high : Int32} {g_strip_lengths g_folds_lay_places : Nat → Int32} {x1 : Int32} {Q : Int32 → Int32 → Int32 → Int32 → (Nat → Int32) → Prop} (h : wp_X7_end g_strip_links g_strip_folded g_strip_stiff g_folds_lay_links g_folds_lay_low g_folds_lay_high g_strip_lengths g_folds_lay_places x1 Q) (sz : Nat) : MtI l yX7_end wsX7_end rm_X7_end [.ref q, .int x1] D Y (w_X7_end Y q q_text q_strip q_told q_images q_kept q_history q_lay q_folds q_sightings q_rater q_strip_lengths q_folds_lay q_folds_measured q_folds_lay_places g_strip_links g_strip_folded g_strip_stiff g_folds_lay_links g_folds_lay_low g_folds_lay_high g_strip_lengths g_folds_lay_places) (fun r (u : Int32 × Int32 × Int32 × (Nat → Int32)) => Q r u.1 u.2.1 u.2.2.1 u.2.2.2) (fun u : Int32 × Int32 × Int32 × (Nat → Int32) => (w_X7_end Y q q_text q_strip q_told q_images q_kept q_history q_lay q_folds q_sightings q_rater q_strip_lengths q_folds_lay q_folds_measured q_folds_lay_places g_strip_links g_strip_folded g_strip_stiff u.1 u.2.1 u.2.2.1 g_strip_lengths u.2.2.2)) sz := by
  refine ct_i (cc := cX7_end) (nL := 2) (ret := (some .int)) (by decide) rfl (Nat.le_of_ble_eq_true rfl) ?_ sz
  intro p e s m below meth c A ls C hK hA hP hD hS hl
  obtain ⟨⟨hx, hb, hml, hown, hts⟩, hr, hlocks, hN⟩ := id C
  have hown : s.vm.findClass RX7 = some m.cls := hown
  have hl : lv_has ls 2 [(0, .ref q), (1, .int x1)] := hl
  unfold wp_X7_end at h
  refine lv_iload_n hx hb dX7_end_0 rfl (lv_at hl 1 rfl) ?_
  refine lv_sipush (v := (-180)) hx hb dX7_end_1 (by decide) ?_
  refine lv_sipush (v := 180) hx hb dX7_end_4 (by decide) ?_
  have hp : Pt (w_X7_end Y q q_text q_strip q_told q_images q_kept q_history q_lay q_folds q_sightings q_rater q_strip_lengths q_folds_lay q_folds_measured q_folds_lay_places g_strip_links g_strip_folded g_strip_stiff g_folds_lay_links g_folds_lay_low g_folds_lay_high g_strip_lengths g_folds_lay_places) (w_X7_isWithin Y ) [] := ⟨rfl, by decide +kernel⟩
  refine go_i hp hP hD hS hA (fun _ => rfl) (va_runS (As := [.int x1, .int (-180 : Int32), .int (180 : Int32)]) (rest := []) ⟨hx, hb, hml, hown, hts⟩ (c_X7_isWithin h _) (va_cwS 3 hts gX7_end_X7_isWithin rfl rfl rfl (by decide +kernel) ⟨Nat.le_of_ble_eq_true rfl, Nat.le_of_ble_eq_true rfl⟩) (pre_S hp hK hN hP hD) rfl rfl hl.1 rfl (lv_room (Nat.le_of_ble_eq_true rfl)) dX7_end_7 ⟨Nat.le_of_ble_eq_true rfl, Nat.le_of_ble_eq_true rfl⟩) (fun r7 u H locs h hP hD hS => ?_)
  try dsimp only at h
  have hP : va_P D vwCl (w_X7_end Y q q_text q_strip q_told q_images q_kept q_history q_lay q_folds q_sightings q_rater q_strip_lengths q_folds_lay q_folds_measured q_folds_lay_places g_strip_links g_strip_folded g_strip_stiff g_folds_lay_links g_folds_lay_low g_folds_lay_high g_strip_lengths g_folds_lay_places) H := hP
  have hD : va_D A (w_X7_end Y q q_text q_strip q_told q_images q_kept q_history q_lay q_folds q_sightings q_rater q_strip_lengths q_folds_lay q_folds_measured q_folds_lay_places g_strip_links g_strip_folded g_strip_stiff g_folds_lay_links g_folds_lay_low g_folds_lay_high g_strip_lengths g_folds_lay_places) := hD
  refine lv_if_ne (tgt := 15) hx hb dX7_end_10 (by decide) (fun c8 => ?_) (fun c8 => ?_)
  · have h := h.1 c8
    refine lv_aload_n hx hb dX7_end_15 rfl (lv_at hl 0 rfl) ?_
    refine va_get (D := D) (ci := 7) (v := .ref q_folds) (C := RX7) (T := TX7) (N := 10) hx hb hts in_X7_end_X7 hown hK hP 0 rfl rfl 7 (by decide) (k_X7_end_f51 hts) (fun _ h9 => h9) rfl dX7_end_16 ?_
    refine lv_aload_n hx hb dX7_end_19 rfl (lv_at hl 0 rfl) ?_
    refine va_get (D := D) (ci := 7) (v := .ref q_strip) (C := RX7) (T := TX7) (N := 10) hx hb hts in_X7_end_X7 hown hK hP 0 rfl rfl 1 (by decide) (k_X7_end_f19 hts) (fun _ h9 => h9) rfl dX7_end_20 ?_
    refine lv_iload_n hx hb dX7_end_23 rfl (lv_at hl 1 rfl) ?_
    refine lv_iconst (v := 1) hx hb dX7_end_24 (by decide) ?_
    have hp : Pt (w_X7_end Y q q_text q_strip q_told q_images q_kept q_history q_lay q_folds q_sightings q_rater q_strip_lengths q_folds_lay q_folds_measured q_folds_lay_places g_strip_links g_strip_folded g_strip_stiff g_folds_lay_links g_folds_lay_low g_folds_lay_high g_strip_lengths g_folds_lay_places) (w_X0_nearestFold Y q_strip q_strip_lengths q_folds q_folds_lay q_folds_measured q_folds_lay_places g_strip_links g_strip_folded g_strip_stiff g_folds_lay_links g_folds_lay_low g_folds_lay_high g_strip_lengths g_folds_lay_places) [1, 2, 3, 4, 5] := ⟨rfl, by decide +kernel⟩
    refine go_i hp hP hD hS hA (fun _ => rfl) (va_runV (As := [.ref q_strip, .int x1, .int (1 : Int32)]) (rest := []) ⟨hx, hb, hml, hown, hts⟩ (c_X0_nearestFold h _) (cwV 3 hts gX7_end_X0_nearestFold rfl rfl rfl (by decide +kernel) ⟨Nat.le_of_ble_eq_true rfl, Nat.le_of_ble_eq_true rfl⟩) (pre_V (b := q_folds) (q0 := 1) (ci := 0) (q := (RX0, TX0, 2)) hp hK hN hP hD rfl rfl) rfl rfl hl.1 rfl (lv_room (Nat.le_of_ble_eq_true rfl)) dX7_end_25 ⟨Nat.le_of_ble_eq_true rfl, Nat.le_of_ble_eq_true rfl⟩) (fun r9 u H locs h hP hD hS => ?_)
    obtain ⟨u10, u11, u12, u13⟩ := u
    try dsimp only at h
    have hP : va_P D vwCl (w_X7_end Y q q_text q_strip q_told q_images q_kept q_history q_lay q_folds q_sightings q_rater q_strip_lengths q_folds_lay q_folds_measured q_folds_lay_places g_strip_links g_strip_folded g_strip_stiff u10 u11 u12 g_strip_lengths u13) H := hP
    have hD : va_D A (w_X7_end Y q q_text q_strip q_told q_images q_kept q_history q_lay q_folds q_sightings q_rater q_strip_lengths q_folds_lay q_folds_measured q_folds_lay_places g_strip_links g_strip_folded g_strip_stiff u10 u11 u12 g_strip_lengths u13) := hD
    exact ret_i (u10, u11, u12, u13) hx hb hr hlocks hK hP hD hS h dX7_end_28
  · have h := h.2 c8
    refine lv_iconst (v := (-1)) hx hb dX7_end_13 (by decide) ?_
    exact ret_i (g_folds_lay_links, g_folds_lay_low, g_folds_lay_high, g_folds_lay_places) hx hb hr hlocks hK hP hD hS h dX7_end_14
abbrev rm_X7_measures : Room := { frames := 6, cells := 0, slots := 0, locals := 118 }
theorem in_X7_measures_X7 : ∀ w ∈ wsX70, w ∈ wsX7_measures := fun _ h => List.mem_cons_of_mem _ (List.mem_append_left _ (List.mem_append_left _ (List.mem_append_left _ (List.mem_append_right _ h))))
theorem k_X7_measures_f51 {s : State} {args : Array Value} (hts : ∀ w ∈ wsX7_measures, w.before args s = true) : (Cond.fieldLink RX7 51 "FoldRule" "folds" "LFoldRule$Folds;").before args s = true := hts _ (by decide +kernel)
theorem k_X7_measures_f19 {s : State} {args : Array Value} (hts : ∀ w ∈ wsX7_measures, w.before args s = true) : (Cond.fieldLink RX7 19 "FoldRule" "strip" "LFoldRule$Strip;").before args s = true := hts _ (by decide +kernel)
set_option maxHeartbeats 4000000 in
set_option maxRecDepth 100000 in
theorem c_X7_measures {l : Launch} {D : va_G} {Y : ClassId × ClassId × ClassId} {q q_text q_strip q_told q_images q_kept q_history q_lay q_folds q_sightings q_rater q_folds_lay q_folds_measured q_strip_lengths q_folds_lay_places : Nat} {g_folds_measured : Nat → Int32} {g_strip_links g_strip_folded g_strip_stiff g_folds_lay_links g_folds_lay_low g_folds_lay_high : Int32} {g_strip_lengths g_folds_lay_places : Nat → Int32} {x1 : Int32} {Q : Int32 → (Nat → Int32) → Int32 → Int32 → Int32 → (Nat → Int32) → Prop} (h : wp_X7_measures g_folds_measured g_strip_links g_strip_folded g_strip_stiff g_folds_lay_links g_folds_lay_low g_folds_lay_high g_strip_lengths g_folds_lay_places x1 Q) (sz : Nat) : MtI l yX7_measures wsX7_measures rm_X7_measures [.ref q, .int x1] D Y (w_X7_measures Y q q_text q_strip q_told q_images q_kept q_history q_lay q_folds q_sightings q_rater q_folds_lay q_folds_measured q_strip_lengths q_folds_lay_places g_folds_measured g_strip_links g_strip_folded g_strip_stiff g_folds_lay_links g_folds_lay_low g_folds_lay_high g_strip_lengths g_folds_lay_places) (fun r (u : (Nat → Int32) × Int32 × Int32 × Int32 × (Nat → Int32)) => Q r u.1 u.2.1 u.2.2.1 u.2.2.2.1 u.2.2.2.2) (fun u : (Nat → Int32) × Int32 × Int32 × Int32 × (Nat → Int32) => (w_X7_measures Y q q_text q_strip q_told q_images q_kept q_history q_lay q_folds q_sightings q_rater q_folds_lay q_folds_measured q_strip_lengths q_folds_lay_places u.1 g_strip_links g_strip_folded g_strip_stiff u.2.1 u.2.2.1 u.2.2.2.1 g_strip_lengths u.2.2.2.2)) sz := by
  refine ct_i (cc := cX7_measures) (nL := 2) (ret := (some .int)) (by decide) rfl (Nat.le_of_ble_eq_true rfl) ?_ sz
  intro p e s m below meth c A ls C hK hA hP hD hS hl
  obtain ⟨⟨hx, hb, hml, hown, hts⟩, hr, hlocks, hN⟩ := id C
  have hown : s.vm.findClass RX7 = some m.cls := hown
  have hl : lv_has ls 2 [(0, .ref q), (1, .int x1)] := hl
  unfold wp_X7_measures at h
  refine lv_iload_n hx hb dX7_measures_0 rfl (lv_at hl 1 rfl) ?_
  refine lv_iconst (v := 1) hx hb dX7_measures_1 (by decide) ?_
  refine lv_sipush (v := 180) hx hb dX7_measures_2 (by decide) ?_
  have hp : Pt (w_X7_measures Y q q_text q_strip q_told q_images q_kept q_history q_lay q_folds q_sightings q_rater q_folds_lay q_folds_measured q_strip_lengths q_folds_lay_places g_folds_measured g_strip_links g_strip_folded g_strip_stiff g_folds_lay_links g_folds_lay_low g_folds_lay_high g_strip_lengths g_folds_lay_places) (w_X7_isWithin Y ) [] := ⟨rfl, by decide +kernel⟩
  refine go_i hp hP hD hS hA (fun _ => rfl) (va_runS (As := [.int x1, .int (1 : Int32), .int (180 : Int32)]) (rest := []) ⟨hx, hb, hml, hown, hts⟩ (c_X7_isWithin h _) (va_cwS 3 hts gX7_measures_X7_isWithin rfl rfl rfl (by decide +kernel) ⟨Nat.le_of_ble_eq_true rfl, Nat.le_of_ble_eq_true rfl⟩) (pre_S hp hK hN hP hD) rfl rfl hl.1 rfl (lv_room (Nat.le_of_ble_eq_true rfl)) dX7_measures_5 ⟨Nat.le_of_ble_eq_true rfl, Nat.le_of_ble_eq_true rfl⟩) (fun r8 u H locs h hP hD hS => ?_)
  try dsimp only at h
  have hP : va_P D vwCl (w_X7_measures Y q q_text q_strip q_told q_images q_kept q_history q_lay q_folds q_sightings q_rater q_folds_lay q_folds_measured q_strip_lengths q_folds_lay_places g_folds_measured g_strip_links g_strip_folded g_strip_stiff g_folds_lay_links g_folds_lay_low g_folds_lay_high g_strip_lengths g_folds_lay_places) H := hP
  have hD : va_D A (w_X7_measures Y q q_text q_strip q_told q_images q_kept q_history q_lay q_folds q_sightings q_rater q_folds_lay q_folds_measured q_strip_lengths q_folds_lay_places g_folds_measured g_strip_links g_strip_folded g_strip_stiff g_folds_lay_links g_folds_lay_low g_folds_lay_high g_strip_lengths g_folds_lay_places) := hD
  refine lv_if_ne (tgt := 13) hx hb dX7_measures_8 (by decide) (fun c9 => ?_) (fun c9 => ?_)
  · have h := h.1 c9
    refine lv_aload_n hx hb dX7_measures_13 rfl (lv_at hl 0 rfl) ?_
    refine va_get (D := D) (ci := 7) (v := .ref q_folds) (C := RX7) (T := TX7) (N := 10) hx hb hts in_X7_measures_X7 hown hK hP 0 rfl rfl 7 (by decide) (k_X7_measures_f51 hts) (fun _ h9 => h9) rfl dX7_measures_14 ?_
    refine lv_aload_n hx hb dX7_measures_17 rfl (lv_at hl 0 rfl) ?_
    refine va_get (D := D) (ci := 7) (v := .ref q_strip) (C := RX7) (T := TX7) (N := 10) hx hb hts in_X7_measures_X7 hown hK hP 0 rfl rfl 1 (by decide) (k_X7_measures_f19 hts) (fun _ h9 => h9) rfl dX7_measures_18 ?_
    refine lv_iload_n hx hb dX7_measures_21 rfl (lv_at hl 1 rfl) ?_
    have hp : Pt (w_X7_measures Y q q_text q_strip q_told q_images q_kept q_history q_lay q_folds q_sightings q_rater q_folds_lay q_folds_measured q_strip_lengths q_folds_lay_places g_folds_measured g_strip_links g_strip_folded g_strip_stiff g_folds_lay_links g_folds_lay_low g_folds_lay_high g_strip_lengths g_folds_lay_places) (w_X0_canMeasure Y q_folds q_folds_lay q_folds_measured q_strip q_strip_lengths q_folds_lay_places g_folds_measured g_strip_links g_strip_folded g_strip_stiff g_folds_lay_links g_folds_lay_low g_folds_lay_high g_strip_lengths g_folds_lay_places) [1, 2, 3, 4, 5, 6] := ⟨rfl, by decide +kernel⟩
    refine go_i hp hP hD hS hA (fun _ => rfl) (va_runV (As := [.ref q_strip, .int x1]) (rest := []) ⟨hx, hb, hml, hown, hts⟩ (c_X0_canMeasure h _) (cwV 2 hts gX7_measures_X0_canMeasure rfl rfl rfl (by decide +kernel) ⟨Nat.le_of_ble_eq_true rfl, Nat.le_of_ble_eq_true rfl⟩) (pre_V (b := q_folds) (q0 := 0) (ci := 0) (q := (RX0, TX0, 2)) hp hK hN hP hD rfl rfl) rfl rfl hl.1 rfl (lv_room (Nat.le_of_ble_eq_true rfl)) dX7_measures_22 ⟨Nat.le_of_ble_eq_true rfl, Nat.le_of_ble_eq_true rfl⟩) (fun r10 u H locs h hP hD hS => ?_)
    obtain ⟨u11, u12, u13, u14, u15⟩ := u
    try dsimp only at h
    have hP : va_P D vwCl (w_X7_measures Y q q_text q_strip q_told q_images q_kept q_history q_lay q_folds q_sightings q_rater q_folds_lay q_folds_measured q_strip_lengths q_folds_lay_places u11 g_strip_links g_strip_folded g_strip_stiff u12 u13 u14 g_strip_lengths u15) H := hP
    have hD : va_D A (w_X7_measures Y q q_text q_strip q_told q_images q_kept q_history q_lay q_folds q_sightings q_rater q_folds_lay q_folds_measured q_strip_lengths q_folds_lay_places u11 g_strip_links g_strip_folded g_strip_stiff u12 u13 u14 g_strip_lengths u15) := hD
    refine lv_if_eq (tgt := 32) hx hb dX7_measures_25 (by decide) (fun c16 => ?_) (fun c16 => ?_)
    · have h := h.1 c16
      refine lv_iconst (v := 0) hx hb dX7_measures_32 (by decide) ?_
      exact ret_i (u11, u12, u13, u14, u15) hx hb hr hlocks hK hP hD hS h dX7_measures_33
    · have h := h.2 c16
      refine lv_iconst (v := 1) hx hb dX7_measures_28 (by decide) ?_
      refine lv_goto (tgt := 33) hx hb dX7_measures_29 (by decide) ?_
      exact ret_i (u11, u12, u13, u14, u15) hx hb hr hlocks hK hP hD hS h dX7_measures_33
  · have h := h.2 c9
    refine lv_iconst (v := (-1)) hx hb dX7_measures_11 (by decide) ?_
    exact ret_i (g_folds_measured, g_folds_lay_links, g_folds_lay_low, g_folds_lay_high, g_folds_lay_places) hx hb hr hlocks hK hP hD hS h dX7_measures_12
abbrev rm_X7_commonDivisor : Room := { frames := 1, cells := 0, slots := 0, locals := 13 }
theorem k_X7_commonDivisor_m243 {s : State} {args : Array Value} (hts : ∀ w ∈ wsX7_commonDivisor, w.before args s = true) : (Cond.methodLink RX7 243 Lib.Math.max.name).before args s = true := hts _ (by decide +kernel)
theorem k_X7_commonDivisor_smax {s : State} {args : Array Value} (hts : ∀ w ∈ wsX7_commonDivisor, w.before args s = true) : (Cond.static Lib.Math.max.name).before args s = true := hts _ (by decide +kernel)
theorem k_X7_commonDivisor_imath {s : State} {args : Array Value} (hts : ∀ w ∈ wsX7_commonDivisor, w.before args s = true) : (Cond.initialized "java/lang/Math").before args s = true := hts _ (by decide +kernel)
theorem k_X7_commonDivisor_bmax {s : State} {args : Array Value} (hts : ∀ w ∈ wsX7_commonDivisor, w.before args s = true) : (Cond.code Lib.Math.max.name Lib.Math.max.code 2 (some .int)).before args s = true := hts _ (by decide +kernel)
set_option maxHeartbeats 4000000 in
set_option maxRecDepth 100000 in
theorem L_X7_commonDivisor_7 {p : Program} {l : Launch} {e : Env} {s : State} {m : MethodId} {args : Array Value} {below : List Frame} {meth : Method} {c : Code} {D : va_G} {Y : ClassId × ClassId × ClassId} {A : Nat → Prop} {Q : Int32 → Prop} (C : Ctx p s m args meth c cX7_commonDivisor 6 (some .int) wsX7_commonDivisor RX7) (hK : va_K D vwCl (tyS Y) s) (hA : ∀ q, s.heap.size ≤ q → A q) : ∀ (n : Nat) (x2 x3 x4 : Int32), itr3 (B_X7_commonDivisor_7 Q) n x2 x3 x4 → ∀ (H : Heap) (locs : List Loc) (ls : Array Slot), va_P D vwCl (w_X7_commonDivisor Y ) H → va_D A (w_X7_commonDivisor Y ) → va_S A s.heap H locs → lv_has ls 6 [(2, .int x2), (3, .int x3), (4, .int x4)] → W p l e rm_X7_commonDivisor s m args below meth c H locs 0 0 (QI below args s D Y A (fun r (_ : Unit) => Q r) (fun _ : Unit => (w_X7_commonDivisor Y ))) (F0 m 7 ls []) := by
  intro n
  induction n with
  | zero => intro x2 x3 x4 h; exact False.elim h
  | succ n ih =>
    intro x2 x3 x4 h H locs ls hP hD hS hl
    obtain ⟨⟨hx, hb, hml, hown, hts⟩, hr, hlocks, hN⟩ := id C
    have h : B_X7_commonDivisor_7 Q (itr3 (B_X7_commonDivisor_7 Q) n) x2 x3 x4 := h
    unfold B_X7_commonDivisor_7 at h
    refine lv_iload hx hb dX7_commonDivisor_7 (lv_at hl 2 rfl) ?_
    refine lv_bipush (v := 64) hx hb dX7_commonDivisor_9 (by decide) ?_
    refine lv_icmp_ge (tgt := 34) hx hb dX7_commonDivisor_11 (by decide) (fun c5 => ?_) (fun c5 => ?_)
    · have h := h.1 c5
      refine lv_iload_n hx hb dX7_commonDivisor_34 rfl (lv_at hl 0 rfl) ?_
      refine lv_iconst (v := 1) hx hb dX7_commonDivisor_35 (by decide) ?_
      refine va_mmax hx hb (hml.trans hl.1.symm) hown (k_X7_commonDivisor_m243 hts) (k_X7_commonDivisor_smax hts) (k_X7_commonDivisor_imath hts) (k_X7_commonDivisor_bmax hts) (Nat.le_of_ble_eq_true rfl) (Nat.le_of_ble_eq_true rfl) (Nat.le_of_ble_eq_true rfl) (Nat.le_of_ble_eq_true rfl) dX7_commonDivisor_36 ?_
      refine lv_topi (fun z6 ez6 => ?_)
      have h := h z6 ez6
      exact ret_i () hx hb hr hlocks hK hP hD hS h dX7_commonDivisor_39
    · have h := h.2 c5
      refine lv_iload_n hx hb dX7_commonDivisor_14 rfl (lv_at hl 1 rfl) ?_
      refine lv_if_eq (tgt := 34) hx hb dX7_commonDivisor_15 (by decide) (fun c7 => ?_) (fun c7 => ?_)
      · have h := h.1 c7
        refine lv_iload_n hx hb dX7_commonDivisor_34 rfl (lv_at hl 0 rfl) ?_
        refine lv_iconst (v := 1) hx hb dX7_commonDivisor_35 (by decide) ?_
        refine va_mmax hx hb (hml.trans hl.1.symm) hown (k_X7_commonDivisor_m243 hts) (k_X7_commonDivisor_smax hts) (k_X7_commonDivisor_imath hts) (k_X7_commonDivisor_bmax hts) (Nat.le_of_ble_eq_true rfl) (Nat.le_of_ble_eq_true rfl) (Nat.le_of_ble_eq_true rfl) (Nat.le_of_ble_eq_true rfl) dX7_commonDivisor_36 ?_
        refine lv_topi (fun z8 ez8 => ?_)
        have h := h z8 ez8
        exact ret_i () hx hb hr hlocks hK hP hD hS h dX7_commonDivisor_39
      · have h := h.2 c7
        refine lv_iload_n hx hb dX7_commonDivisor_18 rfl (lv_at hl 0 rfl) ?_
        refine lv_iload_n hx hb dX7_commonDivisor_19 rfl (lv_at hl 1 rfl) ?_
        obtain ⟨hne, h⟩ := h
        refine lv_irem hx hb dX7_commonDivisor_20 hne ?_
        refine lv_topi (fun z9 ez9 => ?_)
        have h := h z9 ez9
        refine lv_istore (lv' := [(5, .int z9), (2, .int x2), (3, .int x3), (4, .int x4)]) hx hb dX7_commonDivisor_21 hl (by decide) rfl (fun ls hl => ?_)
        refine lv_iload_n hx hb dX7_commonDivisor_23 rfl (lv_at hl 2 rfl) ?_
        refine lv_istore_n (lv' := [(2, .int x3), (5, .int z9), (3, .int x3), (4, .int x4)]) hx hb dX7_commonDivisor_24 rfl hl (by decide) rfl (fun ls hl => ?_)
        refine lv_iload hx hb dX7_commonDivisor_25 (lv_at hl 1 rfl) ?_
        refine lv_istore_n (lv' := [(3, .int z9), (2, .int x3), (5, .int z9), (4, .int x4)]) hx hb dX7_commonDivisor_27 rfl hl (by decide) rfl (fun ls hl => ?_)
        obtain ⟨z10, ez10⟩ : ∃ y : Int32, y = (x4 + (1 : Int32)) := ⟨_, rfl⟩
        have h := h z10 ez10
        refine lv_iinc (v := z10) (lv' := [(4, .int z10), (3, .int z9), (2, .int x3), (5, .int z9)]) hx hb dX7_commonDivisor_28 hl (k := 3) rfl (by rw [ez10]; rfl) (by decide) rfl (fun ls hl => ?_)
        refine lv_goto (tgt := 7) hx hb dX7_commonDivisor_31 (by decide) ?_
        exact ih _ _ _ h _ _ _ hP hD hS (lv_sub hl [2, 1, 0] rfl)
set_option maxHeartbeats 4000000 in
set_option maxRecDepth 100000 in
theorem c_X7_commonDivisor {l : Launch} {D : va_G} {Y : ClassId × ClassId × ClassId} {x0 x1 : Int32} {Q : Int32 → Prop} (h : wp_X7_commonDivisor x0 x1 Q) (sz : Nat) : MtI l yX7_commonDivisor wsX7_commonDivisor rm_X7_commonDivisor [.int x0, .int x1] D Y (w_X7_commonDivisor Y ) (fun r (_ : Unit) => Q r) (fun _ : Unit => (w_X7_commonDivisor Y )) sz := by
  refine ct_i (cc := cX7_commonDivisor) (nL := 6) (ret := (some .int)) (by decide) rfl (Nat.le_of_ble_eq_true rfl) ?_ sz
  intro p e s m below meth c A ls C hK hA hP hD hS hl
  obtain ⟨⟨hx, hb, hml, hown, hts⟩, hr, hlocks, hN⟩ := id C
  have hown : s.vm.findClass RX7 = some m.cls := hown
  have hl : lv_has ls 6 [(0, .int x0), (1, .int x1)] := hl
  unfold wp_X7_commonDivisor at h
  refine lv_iload_n hx hb dX7_commonDivisor_0 rfl (lv_at hl 0 rfl) ?_
  refine lv_istore_n (lv' := [(2, .int x0), (0, .int x0), (1, .int x1)]) hx hb dX7_commonDivisor_1 rfl hl (by decide) rfl (fun ls hl => ?_)
  refine lv_iload_n hx hb dX7_commonDivisor_2 rfl (lv_at hl 2 rfl) ?_
  refine lv_istore_n (lv' := [(3, .int x1), (2, .int x0), (0, .int x0), (1, .int x1)]) hx hb dX7_commonDivisor_3 rfl hl (by decide) rfl (fun ls hl => ?_)
  refine lv_iconst (v := 0) hx hb dX7_commonDivisor_4 (by decide) ?_
  refine lv_istore (lv' := [(4, .int (0 : Int32)), (3, .int x1), (2, .int x0), (0, .int x0), (1, .int x1)]) hx hb dX7_commonDivisor_5 hl (by decide) rfl (fun ls hl => ?_)
  obtain ⟨n, h⟩ := h
  exact L_X7_commonDivisor_7 C hK hA  n _ _ _ h _ _ _ hP hD hS (lv_sub hl [2, 1, 0] rfl)
abbrev rm_X7_odds : Room := { frames := 5, cells := 0, slots := 0, locals := 120 }
theorem in_X7_odds_X7 : ∀ w ∈ wsX70, w ∈ wsX7_odds := fun _ h => List.mem_cons_of_mem _ (List.mem_append_left _ (List.mem_append_left _ (List.mem_append_left _ (List.mem_append_right _ h))))
theorem k_X7_odds_f51 {s : State} {args : Array Value} (hts : ∀ w ∈ wsX7_odds, w.before args s = true) : (Cond.fieldLink RX7 51 "FoldRule" "folds" "LFoldRule$Folds;").before args s = true := hts _ (by decide +kernel)
theorem k_X7_odds_f19 {s : State} {args : Array Value} (hts : ∀ w ∈ wsX7_odds, w.before args s = true) : (Cond.fieldLink RX7 19 "FoldRule" "strip" "LFoldRule$Strip;").before args s = true := hts _ (by decide +kernel)
set_option maxHeartbeats 4000000 in
set_option maxRecDepth 100000 in
theorem c_X7_odds {l : Launch} {D : va_G} {Y : ClassId × ClassId × ClassId} {q q_text q_strip q_told q_images q_kept q_history q_lay q_folds q_sightings q_rater q_strip_lengths q_folds_lay q_folds_measured q_folds_lay_places : Nat} {g_strip_links g_strip_folded g_strip_stiff g_folds_lay_links g_folds_lay_low g_folds_lay_high : Int32} {g_strip_lengths g_folds_lay_places : Nat → Int32} {x1 x2 x3 : Int32} {Q : Int32 → Int32 → Int32 → Int32 → (Nat → Int32) → Prop} (h : wp_X7_odds g_strip_links g_strip_folded g_strip_stiff g_folds_lay_links g_folds_lay_low g_folds_lay_high g_strip_lengths g_folds_lay_places x1 x2 x3 Q) (sz : Nat) : MtI l yX7_odds wsX7_odds rm_X7_odds [.ref q, .int x1, .int x2, .int x3] D Y (w_X7_odds Y q q_text q_strip q_told q_images q_kept q_history q_lay q_folds q_sightings q_rater q_strip_lengths q_folds_lay q_folds_measured q_folds_lay_places g_strip_links g_strip_folded g_strip_stiff g_folds_lay_links g_folds_lay_low g_folds_lay_high g_strip_lengths g_folds_lay_places) (fun r (u : Int32 × Int32 × Int32 × (Nat → Int32)) => Q r u.1 u.2.1 u.2.2.1 u.2.2.2) (fun u : Int32 × Int32 × Int32 × (Nat → Int32) => (w_X7_odds Y q q_text q_strip q_told q_images q_kept q_history q_lay q_folds q_sightings q_rater q_strip_lengths q_folds_lay q_folds_measured q_folds_lay_places g_strip_links g_strip_folded g_strip_stiff u.1 u.2.1 u.2.2.1 g_strip_lengths u.2.2.2)) sz := by
  refine ct_i (cc := cX7_odds) (nL := 7) (ret := (some .int)) (by decide) rfl (Nat.le_of_ble_eq_true rfl) ?_ sz
  intro p e s m below meth c A ls C hK hA hP hD hS hl
  obtain ⟨⟨hx, hb, hml, hown, hts⟩, hr, hlocks, hN⟩ := id C
  have hown : s.vm.findClass RX7 = some m.cls := hown
  have hl : lv_has ls 7 [(0, .ref q), (1, .int x1), (2, .int x2), (3, .int x3)] := hl
  unfold wp_X7_odds at h
  refine lv_iload_n hx hb dX7_odds_0 rfl (lv_at hl 1 rfl) ?_
  refine lv_iconst (v := 0) hx hb dX7_odds_1 (by decide) ?_
  refine lv_bipush (v := 10) hx hb dX7_odds_2 (by decide) ?_
  have hp : Pt (w_X7_odds Y q q_text q_strip q_told q_images q_kept q_history q_lay q_folds q_sightings q_rater q_strip_lengths q_folds_lay q_folds_measured q_folds_lay_places g_strip_links g_strip_folded g_strip_stiff g_folds_lay_links g_folds_lay_low g_folds_lay_high g_strip_lengths g_folds_lay_places) (w_X7_isWithin Y ) [] := ⟨rfl, by decide +kernel⟩
  refine go_i hp hP hD hS hA (fun _ => rfl) (va_runS (As := [.int x1, .int (0 : Int32), .int (10 : Int32)]) (rest := []) ⟨hx, hb, hml, hown, hts⟩ (c_X7_isWithin h _) (va_cwS 3 hts gX7_odds_X7_isWithin rfl rfl rfl (by decide +kernel) ⟨Nat.le_of_ble_eq_true rfl, Nat.le_of_ble_eq_true rfl⟩) (pre_S hp hK hN hP hD) rfl rfl hl.1 rfl (lv_room (Nat.le_of_ble_eq_true rfl)) dX7_odds_4 ⟨Nat.le_of_ble_eq_true rfl, Nat.le_of_ble_eq_true rfl⟩) (fun r12 u H locs h hP hD hS => ?_)
  try dsimp only at h
  have hP : va_P D vwCl (w_X7_odds Y q q_text q_strip q_told q_images q_kept q_history q_lay q_folds q_sightings q_rater q_strip_lengths q_folds_lay q_folds_measured q_folds_lay_places g_strip_links g_strip_folded g_strip_stiff g_folds_lay_links g_folds_lay_low g_folds_lay_high g_strip_lengths g_folds_lay_places) H := hP
  have hD : va_D A (w_X7_odds Y q q_text q_strip q_told q_images q_kept q_history q_lay q_folds q_sightings q_rater q_strip_lengths q_folds_lay q_folds_measured q_folds_lay_places g_strip_links g_strip_folded g_strip_stiff g_folds_lay_links g_folds_lay_low g_folds_lay_high g_strip_lengths g_folds_lay_places) := hD
  refine lv_if_eq (tgt := 30) hx hb dX7_odds_7 (by decide) (fun c13 => ?_) (fun c13 => ?_)
  · have h := h.1 c13
    refine lv_iconst (v := (-1)) hx hb dX7_odds_30 (by decide) ?_
    exact ret_i (g_folds_lay_links, g_folds_lay_low, g_folds_lay_high, g_folds_lay_places) hx hb hr hlocks hK hP hD hS h dX7_odds_31
  · have h := h.2 c13
    refine lv_iload_n hx hb dX7_odds_10 rfl (lv_at hl 2 rfl) ?_
    refine lv_iconst (v := 1) hx hb dX7_odds_11 (by decide) ?_
    refine lv_sipush (v := 180) hx hb dX7_odds_12 (by decide) ?_
    have hp : Pt (w_X7_odds Y q q_text q_strip q_told q_images q_kept q_history q_lay q_folds q_sightings q_rater q_strip_lengths q_folds_lay q_folds_measured q_folds_lay_places g_strip_links g_strip_folded g_strip_stiff g_folds_lay_links g_folds_lay_low g_folds_lay_high g_strip_lengths g_folds_lay_places) (w_X7_isWithin Y ) [] := ⟨rfl, by decide +kernel⟩
    refine go_i hp hP hD hS hA (fun _ => rfl) (va_runS (As := [.int x2, .int (1 : Int32), .int (180 : Int32)]) (rest := []) ⟨hx, hb, hml, hown, hts⟩ (c_X7_isWithin h _) (va_cwS 3 hts gX7_odds_X7_isWithin rfl rfl rfl (by decide +kernel) ⟨Nat.le_of_ble_eq_true rfl, Nat.le_of_ble_eq_true rfl⟩) (pre_S hp hK hN hP hD) rfl rfl hl.1 rfl (lv_room (Nat.le_of_ble_eq_true rfl)) dX7_odds_15 ⟨Nat.le_of_ble_eq_true rfl, Nat.le_of_ble_eq_true rfl⟩) (fun r14 u H locs h hP hD hS => ?_)
    try dsimp only at h
    have hP : va_P D vwCl (w_X7_odds Y q q_text q_strip q_told q_images q_kept q_history q_lay q_folds q_sightings q_rater q_strip_lengths q_folds_lay q_folds_measured q_folds_lay_places g_strip_links g_strip_folded g_strip_stiff g_folds_lay_links g_folds_lay_low g_folds_lay_high g_strip_lengths g_folds_lay_places) H := hP
    have hD : va_D A (w_X7_odds Y q q_text q_strip q_told q_images q_kept q_history q_lay q_folds q_sightings q_rater q_strip_lengths q_folds_lay q_folds_measured q_folds_lay_places g_strip_links g_strip_folded g_strip_stiff g_folds_lay_links g_folds_lay_low g_folds_lay_high g_strip_lengths g_folds_lay_places) := hD
    refine lv_if_eq (tgt := 30) hx hb dX7_odds_18 (by decide) (fun c15 => ?_) (fun c15 => ?_)
    · have h := h.1 c15
      refine lv_iconst (v := (-1)) hx hb dX7_odds_30 (by decide) ?_
      exact ret_i (g_folds_lay_links, g_folds_lay_low, g_folds_lay_high, g_folds_lay_places) hx hb hr hlocks hK hP hD hS h dX7_odds_31
    · have h := h.2 c15
      refine lv_iload_n hx hb dX7_odds_21 rfl (lv_at hl 3 rfl) ?_
      refine lv_iconst (v := 0) hx hb dX7_odds_22 (by decide) ?_
      refine lv_iconst (v := 1) hx hb dX7_odds_23 (by decide) ?_
      have hp : Pt (w_X7_odds Y q q_text q_strip q_told q_images q_kept q_history q_lay q_folds q_sightings q_rater q_strip_lengths q_folds_lay q_folds_measured q_folds_lay_places g_strip_links g_strip_folded g_strip_stiff g_folds_lay_links g_folds_lay_low g_folds_lay_high g_strip_lengths g_folds_lay_places) (w_X7_isWithin Y ) [] := ⟨rfl, by decide +kernel⟩
      refine go_i hp hP hD hS hA (fun _ => rfl) (va_runS (As := [.int x3, .int (0 : Int32), .int (1 : Int32)]) (rest := []) ⟨hx, hb, hml, hown, hts⟩ (c_X7_isWithin h _) (va_cwS 3 hts gX7_odds_X7_isWithin rfl rfl rfl (by decide +kernel) ⟨Nat.le_of_ble_eq_true rfl, Nat.le_of_ble_eq_true rfl⟩) (pre_S hp hK hN hP hD) rfl rfl hl.1 rfl (lv_room (Nat.le_of_ble_eq_true rfl)) dX7_odds_24 ⟨Nat.le_of_ble_eq_true rfl, Nat.le_of_ble_eq_true rfl⟩) (fun r16 u H locs h hP hD hS => ?_)
      try dsimp only at h
      have hP : va_P D vwCl (w_X7_odds Y q q_text q_strip q_told q_images q_kept q_history q_lay q_folds q_sightings q_rater q_strip_lengths q_folds_lay q_folds_measured q_folds_lay_places g_strip_links g_strip_folded g_strip_stiff g_folds_lay_links g_folds_lay_low g_folds_lay_high g_strip_lengths g_folds_lay_places) H := hP
      have hD : va_D A (w_X7_odds Y q q_text q_strip q_told q_images q_kept q_history q_lay q_folds q_sightings q_rater q_strip_lengths q_folds_lay q_folds_measured q_folds_lay_places g_strip_links g_strip_folded g_strip_stiff g_folds_lay_links g_folds_lay_low g_folds_lay_high g_strip_lengths g_folds_lay_places) := hD
      refine lv_if_ne (tgt := 32) hx hb dX7_odds_27 (by decide) (fun c17 => ?_) (fun c17 => ?_)
      · have h := h.1 c17
        refine lv_aload_n hx hb dX7_odds_32 rfl (lv_at hl 0 rfl) ?_
        refine va_get (D := D) (ci := 7) (v := .ref q_folds) (C := RX7) (T := TX7) (N := 10) hx hb hts in_X7_odds_X7 hown hK hP 0 rfl rfl 7 (by decide) (k_X7_odds_f51 hts) (fun _ h9 => h9) rfl dX7_odds_33 ?_
        refine lv_aload_n hx hb dX7_odds_36 rfl (lv_at hl 0 rfl) ?_
        refine va_get (D := D) (ci := 7) (v := .ref q_strip) (C := RX7) (T := TX7) (N := 10) hx hb hts in_X7_odds_X7 hown hK hP 0 rfl rfl 1 (by decide) (k_X7_odds_f19 hts) (fun _ h9 => h9) rfl dX7_odds_37 ?_
        refine lv_iload_n hx hb dX7_odds_40 rfl (lv_at hl 1 rfl) ?_
        refine lv_iload_n hx hb dX7_odds_41 rfl (lv_at hl 2 rfl) ?_
        have hp : Pt (w_X7_odds Y q q_text q_strip q_told q_images q_kept q_history q_lay q_folds q_sightings q_rater q_strip_lengths q_folds_lay q_folds_measured q_folds_lay_places g_strip_links g_strip_folded g_strip_stiff g_folds_lay_links g_folds_lay_low g_folds_lay_high g_strip_lengths g_folds_lay_places) (w_X0_weightInto Y q_strip q_strip_lengths q_folds q_folds_lay q_folds_measured q_folds_lay_places g_strip_links g_strip_folded g_strip_stiff g_folds_lay_links g_folds_lay_low g_folds_lay_high g_strip_lengths g_folds_lay_places) [1, 2, 3, 4, 5] := ⟨rfl, by decide +kernel⟩
        refine go_i hp hP hD hS hA (fun _ => rfl) (va_runV (As := [.ref q_strip, .int x1, .int x2]) (rest := []) ⟨hx, hb, hml, hown, hts⟩ (c_X0_weightInto h _) (cwV 3 hts gX7_odds_X0_weightInto rfl rfl rfl (by decide +kernel) ⟨Nat.le_of_ble_eq_true rfl, Nat.le_of_ble_eq_true rfl⟩) (pre_V (b := q_folds) (q0 := 1) (ci := 0) (q := (RX0, TX0, 2)) hp hK hN hP hD rfl rfl) rfl rfl hl.1 rfl (lv_room (Nat.le_of_ble_eq_true rfl)) dX7_odds_42 ⟨Nat.le_of_ble_eq_true rfl, Nat.le_of_ble_eq_true rfl⟩) (fun r18 u H locs h hP hD hS => ?_)
        obtain ⟨u19, u20, u21, u22⟩ := u
        try dsimp only at h
        have hP : va_P D vwCl (w_X7_odds Y q q_text q_strip q_told q_images q_kept q_history q_lay q_folds q_sightings q_rater q_strip_lengths q_folds_lay q_folds_measured q_folds_lay_places g_strip_links g_strip_folded g_strip_stiff u19 u20 u21 g_strip_lengths u22) H := hP
        have hD : va_D A (w_X7_odds Y q q_text q_strip q_told q_images q_kept q_history q_lay q_folds q_sightings q_rater q_strip_lengths q_folds_lay q_folds_measured q_folds_lay_places g_strip_links g_strip_folded g_strip_stiff u19 u20 u21 g_strip_lengths u22) := hD
        refine lv_istore (lv' := [(4, .int r18), (0, .ref q), (1, .int x1), (2, .int x2), (3, .int x3)]) hx hb dX7_odds_45 hl (by decide) rfl (fun ls hl => ?_)
        refine lv_bipush (v := 10) hx hb dX7_odds_47 (by decide) ?_
        refine lv_aload_n hx hb dX7_odds_49 rfl (lv_at hl 1 rfl) ?_
        refine va_get (D := D) (ci := 7) (v := .ref q_strip) (C := RX7) (T := TX7) (N := 10) hx hb hts in_X7_odds_X7 hown hK hP 0 rfl rfl 1 (by decide) (k_X7_odds_f19 hts) (fun _ h9 => h9) rfl dX7_odds_50 ?_
        have hp : Pt (w_X7_odds Y q q_text q_strip q_told q_images q_kept q_history q_lay q_folds q_sightings q_rater q_strip_lengths q_folds_lay q_folds_measured q_folds_lay_places g_strip_links g_strip_folded g_strip_stiff u19 u20 u21 g_strip_lengths u22) (w_X5_freeJoints Y q_strip q_strip_lengths g_strip_links g_strip_folded g_strip_stiff) [1] := ⟨rfl, by decide +kernel⟩
        refine go_i hp hP hD hS hA (fun _ => rfl) (va_runV (As := []) (rest := [.int (10 : Int32)]) ⟨hx, hb, hml, hown, hts⟩ (c_X5_freeJoints h _) (cwV 0 hts gX7_odds_X5_freeJoints rfl rfl rfl (by decide +kernel) ⟨Nat.le_of_ble_eq_true rfl, Nat.le_of_ble_eq_true rfl⟩) (pre_V (b := q_strip) (q0 := 0) (ci := 5) (q := (RX5, TX5, 4)) hp hK hN hP hD rfl rfl) rfl rfl hl.1 rfl (lv_room (Nat.le_of_ble_eq_true rfl)) dX7_odds_53 ⟨Nat.le_of_ble_eq_true rfl, Nat.le_of_ble_eq_true rfl⟩) (fun r23 u H locs h hP hD hS => ?_)
        try dsimp only at h
        have hP : va_P D vwCl (w_X7_odds Y q q_text q_strip q_told q_images q_kept q_history q_lay q_folds q_sightings q_rater q_strip_lengths q_folds_lay q_folds_measured q_folds_lay_places g_strip_links g_strip_folded g_strip_stiff u19 u20 u21 g_strip_lengths u22) H := hP
        have hD : va_D A (w_X7_odds Y q q_text q_strip q_told q_images q_kept q_history q_lay q_folds q_sightings q_rater q_strip_lengths q_folds_lay q_folds_measured q_folds_lay_places g_strip_links g_strip_folded g_strip_stiff u19 u20 u21 g_strip_lengths u22) := hD
        have hp : Pt (w_X7_odds Y q q_text q_strip q_told q_images q_kept q_history q_lay q_folds q_sightings q_rater q_strip_lengths q_folds_lay q_folds_measured q_folds_lay_places g_strip_links g_strip_folded g_strip_stiff u19 u20 u21 g_strip_lengths u22) (w_X7_power Y ) [] := ⟨rfl, by decide +kernel⟩
        refine go_i hp hP hD hS hA (fun _ => rfl) (va_runS (As := [.int (10 : Int32), .int r23]) (rest := []) ⟨hx, hb, hml, hown, hts⟩ (c_X7_power h _) (va_cwS 2 hts gX7_odds_X7_power rfl rfl rfl (by decide +kernel) ⟨Nat.le_of_ble_eq_true rfl, Nat.le_of_ble_eq_true rfl⟩) (pre_S hp hK hN hP hD) rfl rfl hl.1 rfl (lv_room (Nat.le_of_ble_eq_true rfl)) dX7_odds_56 ⟨Nat.le_of_ble_eq_true rfl, Nat.le_of_ble_eq_true rfl⟩) (fun r24 u H locs h hP hD hS => ?_)
        try dsimp only at h
        have hP : va_P D vwCl (w_X7_odds Y q q_text q_strip q_told q_images q_kept q_history q_lay q_folds q_sightings q_rater q_strip_lengths q_folds_lay q_folds_measured q_folds_lay_places g_strip_links g_strip_folded g_strip_stiff u19 u20 u21 g_strip_lengths u22) H := hP
        have hD : va_D A (w_X7_odds Y q q_text q_strip q_told q_images q_kept q_history q_lay q_folds q_sightings q_rater q_strip_lengths q_folds_lay q_folds_measured q_folds_lay_places g_strip_links g_strip_folded g_strip_stiff u19 u20 u21 g_strip_lengths u22) := hD
        refine lv_istore (lv' := [(5, .int r24), (4, .int r18), (0, .ref q), (1, .int x1), (2, .int x2), (3, .int x3)]) hx hb dX7_odds_59 hl (by decide) rfl (fun ls hl => ?_)
        refine lv_iload hx hb dX7_odds_61 (lv_at hl 1 rfl) ?_
        refine lv_iload hx hb dX7_odds_63 (lv_at hl 0 rfl) ?_
        have hp : Pt (w_X7_odds Y q q_text q_strip q_told q_images q_kept q_history q_lay q_folds q_sightings q_rater q_strip_lengths q_folds_lay q_folds_measured q_folds_lay_places g_strip_links g_strip_folded g_strip_stiff u19 u20 u21 g_strip_lengths u22) (w_X7_commonDivisor Y ) [] := ⟨rfl, by decide +kernel⟩
        refine go_i hp hP hD hS hA (fun _ => rfl) (va_runS (As := [.int r18, .int r24]) (rest := []) ⟨hx, hb, hml, hown, hts⟩ (c_X7_commonDivisor h _) (va_cwS 2 hts gX7_odds_X7_commonDivisor rfl rfl rfl (by decide +kernel) ⟨Nat.le_of_ble_eq_true rfl, Nat.le_of_ble_eq_true rfl⟩) (pre_S hp hK hN hP hD) rfl rfl hl.1 rfl (lv_room (Nat.le_of_ble_eq_true rfl)) dX7_odds_65 ⟨Nat.le_of_ble_eq_true rfl, Nat.le_of_ble_eq_true rfl⟩) (fun r25 u H locs h hP hD hS => ?_)
        try dsimp only at h
        have hP : va_P D vwCl (w_X7_odds Y q q_text q_strip q_told q_images q_kept q_history q_lay q_folds q_sightings q_rater q_strip_lengths q_folds_lay q_folds_measured q_folds_lay_places g_strip_links g_strip_folded g_strip_stiff u19 u20 u21 g_strip_lengths u22) H := hP
        have hD : va_D A (w_X7_odds Y q q_text q_strip q_told q_images q_kept q_history q_lay q_folds q_sightings q_rater q_strip_lengths q_folds_lay q_folds_measured q_folds_lay_places g_strip_links g_strip_folded g_strip_stiff u19 u20 u21 g_strip_lengths u22) := hD
        refine lv_istore (lv' := [(6, .int r25), (5, .int r24), (4, .int r18), (0, .ref q), (1, .int x1), (2, .int x2), (3, .int x3)]) hx hb dX7_odds_68 hl (by decide) rfl (fun ls hl => ?_)
        refine lv_iload_n hx hb dX7_odds_70 rfl (lv_at hl 6 rfl) ?_
        refine lv_if_ne (tgt := 79) hx hb dX7_odds_71 (by decide) (fun c26 => ?_) (fun c26 => ?_)
        · have h := h.1 c26
          refine lv_iload hx hb dX7_odds_79 (lv_at hl 1 rfl) ?_
          refine lv_iload hx hb dX7_odds_81 (lv_at hl 0 rfl) ?_
          obtain ⟨hne, h⟩ := h
          refine lv_idiv hx hb dX7_odds_83 hne ?_
          exact ret_i (u19, u20, u21, u22) hx hb hr hlocks hK hP hD hS h dX7_odds_84
        · have h := h.2 c26
          refine lv_iload hx hb dX7_odds_74 (lv_at hl 2 rfl) ?_
          refine lv_goto (tgt := 81) hx hb dX7_odds_76 (by decide) ?_
          refine lv_iload hx hb dX7_odds_81 (lv_at hl 0 rfl) ?_
          obtain ⟨hne, h⟩ := h
          refine lv_idiv hx hb dX7_odds_83 hne ?_
          exact ret_i (u19, u20, u21, u22) hx hb hr hlocks hK hP hD hS h dX7_odds_84
      · have h := h.2 c17
        refine lv_iconst (v := (-1)) hx hb dX7_odds_30 (by decide) ?_
        exact ret_i (g_folds_lay_links, g_folds_lay_low, g_folds_lay_high, g_folds_lay_places) hx hb hr hlocks hK hP hD hS h dX7_odds_31
abbrev rm_X7_sees : Room := { frames := 4, cells := 0, slots := 0, locals := 74 }
theorem in_X7_sees_X4 : ∀ w ∈ wsX40, w ∈ wsX7_sees := fun _ h => List.mem_cons_of_mem _ (List.mem_append_left _ (List.mem_append_right _ h))
theorem in_X7_sees_X7 : ∀ w ∈ wsX70, w ∈ wsX7_sees := fun _ h => List.mem_cons_of_mem _ (List.mem_append_left _ (List.mem_append_left _ (List.mem_append_right _ h)))
theorem k_X7_sees_f19 {s : State} {args : Array Value} (hts : ∀ w ∈ wsX7_sees, w.before args s = true) : (Cond.fieldLink RX7 19 "FoldRule" "strip" "LFoldRule$Strip;").before args s = true := hts _ (by decide +kernel)
theorem k_X7_sees_f58 {s : State} {args : Array Value} (hts : ∀ w ∈ wsX7_sees, w.before args s = true) : (Cond.fieldLink RX7 58 "FoldRule" "sightings" "LFoldRule$Sightings;").before args s = true := hts _ (by decide +kernel)
set_option maxHeartbeats 4000000 in
set_option maxRecDepth 100000 in
theorem c_X7_sees {l : Launch} {D : va_G} {Y : ClassId × ClassId × ClassId} {q q_text q_strip q_told q_images q_kept q_history q_lay q_folds q_sightings q_rater q_strip_lengths q_sightings_seenFolds q_sightings_seenSpans q_sightings_isWay q_sightings_tally q_sightings_lay : Nat} {g_strip_links g_strip_folded g_strip_stiff g_sightings_size : Int32} {g_sightings_seenFolds g_sightings_seenSpans : Nat → Int32} {x1 x2 : Int32} {Q : Int32 → Int32 → (Nat → Int32) → (Nat → Int32) → Prop} (h : wp_X7_sees g_strip_links g_strip_folded g_strip_stiff g_sightings_size g_sightings_seenFolds g_sightings_seenSpans x1 x2 Q) (sz : Nat) : MtI l yX7_sees wsX7_sees rm_X7_sees [.ref q, .int x1, .int x2] D Y (w_X7_sees Y q q_text q_strip q_told q_images q_kept q_history q_lay q_folds q_sightings q_rater q_strip_lengths q_sightings_seenFolds q_sightings_seenSpans q_sightings_isWay q_sightings_tally q_sightings_lay g_strip_links g_strip_folded g_strip_stiff g_sightings_size g_sightings_seenFolds g_sightings_seenSpans) (fun r (u : Int32 × (Nat → Int32) × (Nat → Int32)) => Q r u.1 u.2.1 u.2.2) (fun u : Int32 × (Nat → Int32) × (Nat → Int32) => (w_X7_sees Y q q_text q_strip q_told q_images q_kept q_history q_lay q_folds q_sightings q_rater q_strip_lengths q_sightings_seenFolds q_sightings_seenSpans q_sightings_isWay q_sightings_tally q_sightings_lay g_strip_links g_strip_folded g_strip_stiff u.1 u.2.1 u.2.2)) sz := by
  refine ct_i (cc := cX7_sees) (nL := 3) (ret := (some .int)) (by decide) rfl (Nat.le_of_ble_eq_true rfl) ?_ sz
  intro p e s m below meth c A ls C hK hA hP hD hS hl
  obtain ⟨⟨hx, hb, hml, hown, hts⟩, hr, hlocks, hN⟩ := id C
  have hown : s.vm.findClass RX7 = some m.cls := hown
  have hl : lv_has ls 3 [(0, .ref q), (1, .int x1), (2, .int x2)] := hl
  unfold wp_X7_sees at h
  refine lv_aload_n hx hb dX7_sees_0 rfl (lv_at hl 0 rfl) ?_
  refine va_get (D := D) (ci := 7) (v := .ref q_strip) (C := RX7) (T := TX7) (N := 10) hx hb hts in_X7_sees_X7 hown hK hP 0 rfl rfl 1 (by decide) (k_X7_sees_f19 hts) (fun _ h9 => h9) rfl dX7_sees_1 ?_
  refine lv_iload_n hx hb dX7_sees_4 rfl (lv_at hl 1 rfl) ?_
  have hp : Pt (w_X7_sees Y q q_text q_strip q_told q_images q_kept q_history q_lay q_folds q_sightings q_rater q_strip_lengths q_sightings_seenFolds q_sightings_seenSpans q_sightings_isWay q_sightings_tally q_sightings_lay g_strip_links g_strip_folded g_strip_stiff g_sightings_size g_sightings_seenFolds g_sightings_seenSpans) (w_X5_isFold Y q_strip q_strip_lengths g_strip_links g_strip_folded g_strip_stiff) [1] := ⟨rfl, by decide +kernel⟩
  refine go_i hp hP hD hS hA (fun _ => rfl) (va_runV (As := [.int x1]) (rest := []) ⟨hx, hb, hml, hown, hts⟩ (c_X5_isFold h _) (cwV 1 hts gX7_sees_X5_isFold rfl rfl rfl (by decide +kernel) ⟨Nat.le_of_ble_eq_true rfl, Nat.le_of_ble_eq_true rfl⟩) (pre_V (b := q_strip) (q0 := 0) (ci := 5) (q := (RX5, TX5, 4)) hp hK hN hP hD rfl rfl) rfl rfl hl.1 rfl (lv_room (Nat.le_of_ble_eq_true rfl)) dX7_sees_5 ⟨Nat.le_of_ble_eq_true rfl, Nat.le_of_ble_eq_true rfl⟩) (fun r7 u H locs h hP hD hS => ?_)
  try dsimp only at h
  have hP : va_P D vwCl (w_X7_sees Y q q_text q_strip q_told q_images q_kept q_history q_lay q_folds q_sightings q_rater q_strip_lengths q_sightings_seenFolds q_sightings_seenSpans q_sightings_isWay q_sightings_tally q_sightings_lay g_strip_links g_strip_folded g_strip_stiff g_sightings_size g_sightings_seenFolds g_sightings_seenSpans) H := hP
  have hD : va_D A (w_X7_sees Y q q_text q_strip q_told q_images q_kept q_history q_lay q_folds q_sightings q_rater q_strip_lengths q_sightings_seenFolds q_sightings_seenSpans q_sightings_isWay q_sightings_tally q_sightings_lay g_strip_links g_strip_folded g_strip_stiff g_sightings_size g_sightings_seenFolds g_sightings_seenSpans) := hD
  refine lv_if_eq (tgt := 22) hx hb dX7_sees_8 (by decide) (fun c8 => ?_) (fun c8 => ?_)
  · have h := h.1 c8
    refine lv_iconst (v := (-1)) hx hb dX7_sees_22 (by decide) ?_
    exact ret_i (g_sightings_size, g_sightings_seenFolds, g_sightings_seenSpans) hx hb hr hlocks hK hP hD hS h dX7_sees_23
  · have h := h.2 c8
    refine lv_iload_n hx hb dX7_sees_11 rfl (lv_at hl 2 rfl) ?_
    refine lv_iconst (v := 0) hx hb dX7_sees_12 (by decide) ?_
    refine lv_sipush (v := 180) hx hb dX7_sees_13 (by decide) ?_
    have hp : Pt (w_X7_sees Y q q_text q_strip q_told q_images q_kept q_history q_lay q_folds q_sightings q_rater q_strip_lengths q_sightings_seenFolds q_sightings_seenSpans q_sightings_isWay q_sightings_tally q_sightings_lay g_strip_links g_strip_folded g_strip_stiff g_sightings_size g_sightings_seenFolds g_sightings_seenSpans) (w_X7_isWithin Y ) [] := ⟨rfl, by decide +kernel⟩
    refine go_i hp hP hD hS hA (fun _ => rfl) (va_runS (As := [.int x2, .int (0 : Int32), .int (180 : Int32)]) (rest := []) ⟨hx, hb, hml, hown, hts⟩ (c_X7_isWithin h _) (va_cwS 3 hts gX7_sees_X7_isWithin rfl rfl rfl (by decide +kernel) ⟨Nat.le_of_ble_eq_true rfl, Nat.le_of_ble_eq_true rfl⟩) (pre_S hp hK hN hP hD) rfl rfl hl.1 rfl (lv_room (Nat.le_of_ble_eq_true rfl)) dX7_sees_16 ⟨Nat.le_of_ble_eq_true rfl, Nat.le_of_ble_eq_true rfl⟩) (fun r9 u H locs h hP hD hS => ?_)
    try dsimp only at h
    have hP : va_P D vwCl (w_X7_sees Y q q_text q_strip q_told q_images q_kept q_history q_lay q_folds q_sightings q_rater q_strip_lengths q_sightings_seenFolds q_sightings_seenSpans q_sightings_isWay q_sightings_tally q_sightings_lay g_strip_links g_strip_folded g_strip_stiff g_sightings_size g_sightings_seenFolds g_sightings_seenSpans) H := hP
    have hD : va_D A (w_X7_sees Y q q_text q_strip q_told q_images q_kept q_history q_lay q_folds q_sightings q_rater q_strip_lengths q_sightings_seenFolds q_sightings_seenSpans q_sightings_isWay q_sightings_tally q_sightings_lay g_strip_links g_strip_folded g_strip_stiff g_sightings_size g_sightings_seenFolds g_sightings_seenSpans) := hD
    refine lv_if_ne (tgt := 24) hx hb dX7_sees_19 (by decide) (fun c10 => ?_) (fun c10 => ?_)
    · have h := h.1 c10
      refine lv_aload_n hx hb dX7_sees_24 rfl (lv_at hl 0 rfl) ?_
      refine va_get (D := D) (ci := 7) (v := .ref q_sightings) (C := RX7) (T := TX7) (N := 10) hx hb hts in_X7_sees_X7 hown hK hP 0 rfl rfl 8 (by decide) (k_X7_sees_f58 hts) (fun _ h9 => h9) rfl dX7_sees_25 ?_
      have hp : Pt (w_X7_sees Y q q_text q_strip q_told q_images q_kept q_history q_lay q_folds q_sightings q_rater q_strip_lengths q_sightings_seenFolds q_sightings_seenSpans q_sightings_isWay q_sightings_tally q_sightings_lay g_strip_links g_strip_folded g_strip_stiff g_sightings_size g_sightings_seenFolds g_sightings_seenSpans) (w_X4_isFull Y q_sightings q_sightings_seenFolds q_sightings_seenSpans q_sightings_isWay q_sightings_tally q_sightings_lay g_sightings_size) [2] := ⟨rfl, by decide +kernel⟩
      refine go_i hp hP hD hS hA (fun _ => rfl) (va_runV (As := []) (rest := []) ⟨hx, hb, hml, hown, hts⟩ (c_X4_isFull h _) (cwV 0 hts gX7_sees_X4_isFull rfl rfl rfl (by decide +kernel) ⟨Nat.le_of_ble_eq_true rfl, Nat.le_of_ble_eq_true rfl⟩) (pre_V (b := q_sightings) (q0 := 0) (ci := 4) (q := (RX4, TX4, 6)) hp hK hN hP hD rfl rfl) rfl rfl hl.1 rfl (lv_room (Nat.le_of_ble_eq_true rfl)) dX7_sees_28 ⟨Nat.le_of_ble_eq_true rfl, Nat.le_of_ble_eq_true rfl⟩) (fun r11 u H locs h hP hD hS => ?_)
      try dsimp only at h
      have hP : va_P D vwCl (w_X7_sees Y q q_text q_strip q_told q_images q_kept q_history q_lay q_folds q_sightings q_rater q_strip_lengths q_sightings_seenFolds q_sightings_seenSpans q_sightings_isWay q_sightings_tally q_sightings_lay g_strip_links g_strip_folded g_strip_stiff g_sightings_size g_sightings_seenFolds g_sightings_seenSpans) H := hP
      have hD : va_D A (w_X7_sees Y q q_text q_strip q_told q_images q_kept q_history q_lay q_folds q_sightings q_rater q_strip_lengths q_sightings_seenFolds q_sightings_seenSpans q_sightings_isWay q_sightings_tally q_sightings_lay g_strip_links g_strip_folded g_strip_stiff g_sightings_size g_sightings_seenFolds g_sightings_seenSpans) := hD
      refine lv_if_eq (tgt := 37) hx hb dX7_sees_31 (by decide) (fun c12 => ?_) (fun c12 => ?_)
      · have h := h.1 c12
        refine lv_aload_n hx hb dX7_sees_37 rfl (lv_at hl 0 rfl) ?_
        refine va_get (D := D) (ci := 7) (v := .ref q_sightings) (C := RX7) (T := TX7) (N := 10) hx hb hts in_X7_sees_X7 hown hK hP 0 rfl rfl 8 (by decide) (k_X7_sees_f58 hts) (fun _ h9 => h9) rfl dX7_sees_38 ?_
        refine lv_iload_n hx hb dX7_sees_41 rfl (lv_at hl 1 rfl) ?_
        refine lv_iload_n hx hb dX7_sees_42 rfl (lv_at hl 2 rfl) ?_
        have hp : Pt (w_X7_sees Y q q_text q_strip q_told q_images q_kept q_history q_lay q_folds q_sightings q_rater q_strip_lengths q_sightings_seenFolds q_sightings_seenSpans q_sightings_isWay q_sightings_tally q_sightings_lay g_strip_links g_strip_folded g_strip_stiff g_sightings_size g_sightings_seenFolds g_sightings_seenSpans) (w_X4_note Y q_sightings q_sightings_seenFolds q_sightings_seenSpans q_sightings_isWay q_sightings_tally q_sightings_lay g_sightings_size g_sightings_seenFolds g_sightings_seenSpans) [2, 3, 4] := ⟨rfl, by decide +kernel⟩
        refine go_v hp hP hD hS hA (fun _ => rfl) (va_runV (As := [.int x1, .int x2]) (rest := []) ⟨hx, hb, hml, hown, hts⟩ (c_X4_note h _) (cwV 2 hts gX7_sees_X4_note rfl rfl rfl (by decide +kernel) ⟨Nat.le_of_ble_eq_true rfl, Nat.le_of_ble_eq_true rfl⟩) (pre_V (b := q_sightings) (q0 := 0) (ci := 4) (q := (RX4, TX4, 6)) hp hK hN hP hD rfl rfl) rfl rfl hl.1 rfl (lv_room (Nat.le_of_ble_eq_true rfl)) dX7_sees_43 ⟨Nat.le_of_ble_eq_true rfl, Nat.le_of_ble_eq_true rfl⟩) (fun u H locs h hP hD hS => ?_)
        obtain ⟨u14, u15, u16⟩ := u
        try dsimp only at h
        have hP : va_P D vwCl (w_X7_sees Y q q_text q_strip q_told q_images q_kept q_history q_lay q_folds q_sightings q_rater q_strip_lengths q_sightings_seenFolds q_sightings_seenSpans q_sightings_isWay q_sightings_tally q_sightings_lay g_strip_links g_strip_folded g_strip_stiff u14 u15 u16) H := hP
        have hD : va_D A (w_X7_sees Y q q_text q_strip q_told q_images q_kept q_history q_lay q_folds q_sightings q_rater q_strip_lengths q_sightings_seenFolds q_sightings_seenSpans q_sightings_isWay q_sightings_tally q_sightings_lay g_strip_links g_strip_folded g_strip_stiff u14 u15 u16) := hD
        refine lv_aload_n hx hb dX7_sees_46 rfl (lv_at hl 0 rfl) ?_
        refine va_get (D := D) (ci := 7) (v := .ref q_sightings) (C := RX7) (T := TX7) (N := 10) hx hb hts in_X7_sees_X7 hown hK hP 0 rfl rfl 8 (by decide) (k_X7_sees_f58 hts) (fun _ h9 => h9) rfl dX7_sees_47 ?_
        refine va_getN (D := D) (ci := 4) (v := .int u14) (C := RX4) (T := TX4) (N := 6) hx hb hts in_X7_sees_X4 hown hK hP 2 rfl rfl 2 (by decide) (va_Nw.use rfl (nwX7_213 hN)) (fun _ h9 => h9) rfl dX7_sees_50 ?_
        exact ret_i (u14, u15, u16) hx hb hr hlocks hK hP hD hS h dX7_sees_53
      · have h := h.2 c12
        refine lv_bipush (v := (-3)) hx hb dX7_sees_34 (by decide) ?_
        exact ret_i (g_sightings_size, g_sightings_seenFolds, g_sightings_seenSpans) hx hb hr hlocks hK hP hD hS h dX7_sees_36
    · have h := h.2 c10
      refine lv_iconst (v := (-1)) hx hb dX7_sees_22 (by decide) ?_
      exact ret_i (g_sightings_size, g_sightings_seenFolds, g_sightings_seenSpans) hx hb hr hlocks hK hP hD hS h dX7_sees_23
abbrev rm_X7_forget : Room := { frames := 1, cells := 0, slots := 0, locals := 20 }
theorem in_X7_forget_X4 : ∀ w ∈ wsX40, w ∈ wsX7_forget := fun _ h => List.mem_cons_of_mem _ (List.mem_append_right _ h)
theorem in_X7_forget_X7 : ∀ w ∈ wsX70, w ∈ wsX7_forget := fun _ h => List.mem_cons_of_mem _ (List.mem_append_left _ (List.mem_append_right _ h))
theorem k_X7_forget_f58 {s : State} {args : Array Value} (hts : ∀ w ∈ wsX7_forget, w.before args s = true) : (Cond.fieldLink RX7 58 "FoldRule" "sightings" "LFoldRule$Sightings;").before args s = true := hts _ (by decide +kernel)
set_option maxHeartbeats 4000000 in
set_option maxRecDepth 100000 in
theorem c_X7_forget {l : Launch} {D : va_G} {Y : ClassId × ClassId × ClassId} {q q_text q_strip q_told q_images q_kept q_history q_lay q_folds q_sightings q_rater q_sightings_seenFolds q_sightings_seenSpans q_sightings_isWay q_sightings_tally q_sightings_lay : Nat} {g_sightings_size : Int32} {Q : Int32 → Int32 → Prop} (h : wp_X7_forget g_sightings_size Q) (sz : Nat) : MtI l yX7_forget wsX7_forget rm_X7_forget [.ref q] D Y (w_X7_forget Y q q_text q_strip q_told q_images q_kept q_history q_lay q_folds q_sightings q_rater q_sightings_seenFolds q_sightings_seenSpans q_sightings_isWay q_sightings_tally q_sightings_lay g_sightings_size) (fun r (u : Int32) => Q r u) (fun u : Int32 => (w_X7_forget Y q q_text q_strip q_told q_images q_kept q_history q_lay q_folds q_sightings q_rater q_sightings_seenFolds q_sightings_seenSpans q_sightings_isWay q_sightings_tally q_sightings_lay u)) sz := by
  refine ct_i (cc := cX7_forget) (nL := 2) (ret := (some .int)) (by decide) rfl (Nat.le_of_ble_eq_true rfl) ?_ sz
  intro p e s m below meth c A ls C hK hA hP hD hS hl
  obtain ⟨⟨hx, hb, hml, hown, hts⟩, hr, hlocks, hN⟩ := id C
  have hown : s.vm.findClass RX7 = some m.cls := hown
  have hl : lv_has ls 2 [(0, .ref q)] := hl
  unfold wp_X7_forget at h
  refine lv_aload_n hx hb dX7_forget_0 rfl (lv_at hl 0 rfl) ?_
  refine va_get (D := D) (ci := 7) (v := .ref q_sightings) (C := RX7) (T := TX7) (N := 10) hx hb hts in_X7_forget_X7 hown hK hP 0 rfl rfl 8 (by decide) (k_X7_forget_f58 hts) (fun _ h9 => h9) rfl dX7_forget_1 ?_
  refine va_getN (D := D) (ci := 4) (v := .int g_sightings_size) (C := RX4) (T := TX4) (N := 6) hx hb hts in_X7_forget_X4 hown hK hP 1 rfl rfl 2 (by decide) (va_Nw.use rfl (nwX7_213 hN)) (fun _ h9 => h9) rfl dX7_forget_4 ?_
  refine lv_istore_n (lv' := [(1, .int g_sightings_size), (0, .ref q)]) hx hb dX7_forget_7 rfl hl (by decide) rfl (fun ls hl => ?_)
  refine lv_aload_n hx hb dX7_forget_8 rfl (lv_at hl 1 rfl) ?_
  refine va_get (D := D) (ci := 7) (v := .ref q_sightings) (C := RX7) (T := TX7) (N := 10) hx hb hts in_X7_forget_X7 hown hK hP 0 rfl rfl 8 (by decide) (k_X7_forget_f58 hts) (fun _ h9 => h9) rfl dX7_forget_9 ?_
  have hp : Pt (w_X7_forget Y q q_text q_strip q_told q_images q_kept q_history q_lay q_folds q_sightings q_rater q_sightings_seenFolds q_sightings_seenSpans q_sightings_isWay q_sightings_tally q_sightings_lay g_sightings_size) (w_X4_loseAll Y q_sightings q_sightings_seenFolds q_sightings_seenSpans q_sightings_isWay q_sightings_tally q_sightings_lay g_sightings_size) [1] := ⟨rfl, by decide +kernel⟩
  refine go_v hp hP hD hS hA (fun _ => rfl) (va_runV (As := []) (rest := []) ⟨hx, hb, hml, hown, hts⟩ (c_X4_loseAll h _) (cwV 0 hts gX7_forget_X4_loseAll rfl rfl rfl (by decide +kernel) ⟨Nat.le_of_ble_eq_true rfl, Nat.le_of_ble_eq_true rfl⟩) (pre_V (b := q_sightings) (q0 := 0) (ci := 4) (q := (RX4, TX4, 6)) hp hK hN hP hD rfl rfl) rfl rfl hl.1 rfl (lv_room (Nat.le_of_ble_eq_true rfl)) dX7_forget_12 ⟨Nat.le_of_ble_eq_true rfl, Nat.le_of_ble_eq_true rfl⟩) (fun u H locs h hP hD hS => ?_)
  obtain ⟨u3, rfl⟩ : ∃ z, z = u := ⟨_, rfl⟩
  try dsimp only at h
  have hP : va_P D vwCl (w_X7_forget Y q q_text q_strip q_told q_images q_kept q_history q_lay q_folds q_sightings q_rater q_sightings_seenFolds q_sightings_seenSpans q_sightings_isWay q_sightings_tally q_sightings_lay u3) H := hP
  have hD : va_D A (w_X7_forget Y q q_text q_strip q_told q_images q_kept q_history q_lay q_folds q_sightings q_rater q_sightings_seenFolds q_sightings_seenSpans q_sightings_isWay q_sightings_tally q_sightings_lay u3) := hD
  refine lv_iload_n hx hb dX7_forget_15 rfl (lv_at hl 0 rfl) ?_
  exact ret_i (u3) hx hb hr hlocks hK hP hD hS h dX7_forget_16
abbrev rm_X7_ways : Room := { frames := 5, cells := 0, slots := 0, locals := 120 }
theorem in_X7_ways_X7 : ∀ w ∈ wsX70, w ∈ wsX7_ways := fun _ h => List.mem_cons_of_mem _ (List.mem_append_left _ (List.mem_append_left _ (List.mem_append_left _ (List.mem_append_right _ h))))
theorem k_X7_ways_f58 {s : State} {args : Array Value} (hts : ∀ w ∈ wsX7_ways, w.before args s = true) : (Cond.fieldLink RX7 58 "FoldRule" "sightings" "LFoldRule$Sightings;").before args s = true := hts _ (by decide +kernel)
theorem k_X7_ways_f19 {s : State} {args : Array Value} (hts : ∀ w ∈ wsX7_ways, w.before args s = true) : (Cond.fieldLink RX7 19 "FoldRule" "strip" "LFoldRule$Strip;").before args s = true := hts _ (by decide +kernel)
set_option maxHeartbeats 4000000 in
set_option maxRecDepth 100000 in
theorem c_X7_ways {l : Launch} {D : va_G} {Y : ClassId × ClassId × ClassId} {q q_text q_strip q_told q_images q_kept q_history q_lay q_folds q_sightings q_rater q_strip_lengths q_sightings_seenFolds q_sightings_seenSpans q_sightings_isWay q_sightings_tally q_sightings_lay q_sightings_lay_places : Nat} {g_strip_links g_strip_folded g_strip_stiff : Int32} {g_strip_lengths : Nat → Int32} {g_sightings_size : Int32} {g_sightings_seenFolds : Nat → Int32} {g_sightings_lay_links g_sightings_lay_low g_sightings_lay_high : Int32} {g_sightings_lay_places g_sightings_seenSpans g_sightings_isWay : Nat → Int32} {x1 : Int32} {Q : Int32 → Int32 → Int32 → Int32 → (Nat → Int32) → (Nat → Int32) → Prop} (h : wp_X7_ways g_strip_links g_strip_lengths g_sightings_size g_sightings_seenFolds g_sightings_lay_links g_sightings_lay_low g_sightings_lay_high g_sightings_lay_places g_sightings_seenSpans g_sightings_isWay x1 Q) (sz : Nat) : MtI l yX7_ways wsX7_ways rm_X7_ways [.ref q, .int x1] D Y (w_X7_ways Y q q_text q_strip q_told q_images q_kept q_history q_lay q_folds q_sightings q_rater q_strip_lengths q_sightings_seenFolds q_sightings_seenSpans q_sightings_isWay q_sightings_tally q_sightings_lay q_sightings_lay_places g_strip_links g_strip_folded g_strip_stiff g_strip_lengths g_sightings_size g_sightings_seenFolds g_sightings_lay_links g_sightings_lay_low g_sightings_lay_high g_sightings_lay_places g_sightings_seenSpans g_sightings_isWay) (fun r (u : Int32 × Int32 × Int32 × (Nat → Int32) × (Nat → Int32)) => Q r u.1 u.2.1 u.2.2.1 u.2.2.2.1 u.2.2.2.2) (fun u : Int32 × Int32 × Int32 × (Nat → Int32) × (Nat → Int32) => (w_X7_ways Y q q_text q_strip q_told q_images q_kept q_history q_lay q_folds q_sightings q_rater q_strip_lengths q_sightings_seenFolds q_sightings_seenSpans q_sightings_isWay q_sightings_tally q_sightings_lay q_sightings_lay_places g_strip_links g_strip_folded g_strip_stiff g_strip_lengths g_sightings_size g_sightings_seenFolds u.1 u.2.1 u.2.2.1 u.2.2.2.1 g_sightings_seenSpans u.2.2.2.2)) sz := by
  refine ct_i (cc := cX7_ways) (nL := 2) (ret := (some .int)) (by decide) rfl (Nat.le_of_ble_eq_true rfl) ?_ sz
  intro p e s m below meth c A ls C hK hA hP hD hS hl
  obtain ⟨⟨hx, hb, hml, hown, hts⟩, hr, hlocks, hN⟩ := id C
  have hown : s.vm.findClass RX7 = some m.cls := hown
  have hl : lv_has ls 2 [(0, .ref q), (1, .int x1)] := hl
  unfold wp_X7_ways at h
  refine lv_iload_n hx hb dX7_ways_0 rfl (lv_at hl 1 rfl) ?_
  by_cases c13_0 : x1 = (0 : Int32)
  · have h := h.1 c13_0
    refine lv_lookup (off := (27)) (tgt := 28) hx hb dX7_ways_1 (by decide) (by rw [c13_0]; decide) (by decide) ?_
    refine lv_aload_n hx hb dX7_ways_28 rfl (lv_at hl 0 rfl) ?_
    refine va_get (D := D) (ci := 7) (v := .ref q_sightings) (C := RX7) (T := TX7) (N := 10) hx hb hts in_X7_ways_X7 hown hK hP 0 rfl rfl 8 (by decide) (k_X7_ways_f58 hts) (fun _ h9 => h9) rfl dX7_ways_29 ?_
    refine lv_aload_n hx hb dX7_ways_32 rfl (lv_at hl 0 rfl) ?_
    refine va_get (D := D) (ci := 7) (v := .ref q_strip) (C := RX7) (T := TX7) (N := 10) hx hb hts in_X7_ways_X7 hown hK hP 0 rfl rfl 1 (by decide) (k_X7_ways_f19 hts) (fun _ h9 => h9) rfl dX7_ways_33 ?_
    have hp : Pt (w_X7_ways Y q q_text q_strip q_told q_images q_kept q_history q_lay q_folds q_sightings q_rater q_strip_lengths q_sightings_seenFolds q_sightings_seenSpans q_sightings_isWay q_sightings_tally q_sightings_lay q_sightings_lay_places g_strip_links g_strip_folded g_strip_stiff g_strip_lengths g_sightings_size g_sightings_seenFolds g_sightings_lay_links g_sightings_lay_low g_sightings_lay_high g_sightings_lay_places g_sightings_seenSpans g_sightings_isWay) (w_X4_findWays Y q_strip q_strip_lengths q_sightings q_sightings_seenFolds q_sightings_seenSpans q_sightings_isWay q_sightings_tally q_sightings_lay q_sightings_lay_places g_strip_links g_strip_folded g_strip_stiff g_strip_lengths g_sightings_size g_sightings_seenFolds g_sightings_lay_links g_sightings_lay_low g_sightings_lay_high g_sightings_lay_places g_sightings_seenSpans g_sightings_isWay) [1, 2, 3, 4, 5, 6, 7, 8] := ⟨rfl, by decide +kernel⟩
    refine go_i hp hP hD hS hA (fun _ => rfl) (va_runV (As := [.ref q_strip]) (rest := []) ⟨hx, hb, hml, hown, hts⟩ (c_X4_findWays h _) (cwV 1 hts gX7_ways_X4_findWays rfl rfl rfl (by decide +kernel) ⟨Nat.le_of_ble_eq_true rfl, Nat.le_of_ble_eq_true rfl⟩) (pre_V (b := q_sightings) (q0 := 2) (ci := 4) (q := (RX4, TX4, 6)) hp hK hN hP hD rfl rfl) rfl rfl hl.1 rfl (lv_room (Nat.le_of_ble_eq_true rfl)) dX7_ways_36 ⟨Nat.le_of_ble_eq_true rfl, Nat.le_of_ble_eq_true rfl⟩) (fun r14 u H locs h hP hD hS => ?_)
    obtain ⟨u15, u16, u17, u18, u19⟩ := u
    try dsimp only at h
    have hP : va_P D vwCl (w_X7_ways Y q q_text q_strip q_told q_images q_kept q_history q_lay q_folds q_sightings q_rater q_strip_lengths q_sightings_seenFolds q_sightings_seenSpans q_sightings_isWay q_sightings_tally q_sightings_lay q_sightings_lay_places g_strip_links g_strip_folded g_strip_stiff g_strip_lengths g_sightings_size g_sightings_seenFolds u15 u16 u17 u18 g_sightings_seenSpans u19) H := hP
    have hD : va_D A (w_X7_ways Y q q_text q_strip q_told q_images q_kept q_history q_lay q_folds q_sightings q_rater q_strip_lengths q_sightings_seenFolds q_sightings_seenSpans q_sightings_isWay q_sightings_tally q_sightings_lay q_sightings_lay_places g_strip_links g_strip_folded g_strip_stiff g_strip_lengths g_sightings_size g_sightings_seenFolds u15 u16 u17 u18 g_sightings_seenSpans u19) := hD
    exact ret_i (u15, u16, u17, u18, u19) hx hb hr hlocks hK hP hD hS h dX7_ways_39
  by_cases c13_1 : x1 = (1 : Int32)
  · have h := h.2.1 c13_1
    refine lv_lookup (off := (39)) (tgt := 40) hx hb dX7_ways_1 (by decide) (by rw [c13_1]; decide) (by decide) ?_
    refine lv_aload_n hx hb dX7_ways_40 rfl (lv_at hl 0 rfl) ?_
    refine va_get (D := D) (ci := 7) (v := .ref q_sightings) (C := RX7) (T := TX7) (N := 10) hx hb hts in_X7_ways_X7 hown hK hP 0 rfl rfl 8 (by decide) (k_X7_ways_f58 hts) (fun _ h9 => h9) rfl dX7_ways_41 ?_
    refine lv_aload_n hx hb dX7_ways_44 rfl (lv_at hl 0 rfl) ?_
    refine va_get (D := D) (ci := 7) (v := .ref q_strip) (C := RX7) (T := TX7) (N := 10) hx hb hts in_X7_ways_X7 hown hK hP 0 rfl rfl 1 (by decide) (k_X7_ways_f19 hts) (fun _ h9 => h9) rfl dX7_ways_45 ?_
    have hp : Pt (w_X7_ways Y q q_text q_strip q_told q_images q_kept q_history q_lay q_folds q_sightings q_rater q_strip_lengths q_sightings_seenFolds q_sightings_seenSpans q_sightings_isWay q_sightings_tally q_sightings_lay q_sightings_lay_places g_strip_links g_strip_folded g_strip_stiff g_strip_lengths g_sightings_size g_sightings_seenFolds g_sightings_lay_links g_sightings_lay_low g_sightings_lay_high g_sightings_lay_places g_sightings_seenSpans g_sightings_isWay) (w_X4_firstWay Y q_strip q_strip_lengths q_sightings q_sightings_seenFolds q_sightings_seenSpans q_sightings_isWay q_sightings_tally q_sightings_lay q_sightings_lay_places g_strip_links g_strip_folded g_strip_stiff g_strip_lengths g_sightings_size g_sightings_seenFolds g_sightings_lay_links g_sightings_lay_low g_sightings_lay_high g_sightings_lay_places g_sightings_seenSpans g_sightings_isWay) [1, 2, 3, 4, 5, 6, 7, 8] := ⟨rfl, by decide +kernel⟩
    refine go_i hp hP hD hS hA (fun _ => rfl) (va_runV (As := [.ref q_strip]) (rest := []) ⟨hx, hb, hml, hown, hts⟩ (c_X4_firstWay h _) (cwV 1 hts gX7_ways_X4_firstWay rfl rfl rfl (by decide +kernel) ⟨Nat.le_of_ble_eq_true rfl, Nat.le_of_ble_eq_true rfl⟩) (pre_V (b := q_sightings) (q0 := 2) (ci := 4) (q := (RX4, TX4, 6)) hp hK hN hP hD rfl rfl) rfl rfl hl.1 rfl (lv_room (Nat.le_of_ble_eq_true rfl)) dX7_ways_48 ⟨Nat.le_of_ble_eq_true rfl, Nat.le_of_ble_eq_true rfl⟩) (fun r20 u H locs h hP hD hS => ?_)
    obtain ⟨u21, u22, u23, u24, u25⟩ := u
    try dsimp only at h
    have hP : va_P D vwCl (w_X7_ways Y q q_text q_strip q_told q_images q_kept q_history q_lay q_folds q_sightings q_rater q_strip_lengths q_sightings_seenFolds q_sightings_seenSpans q_sightings_isWay q_sightings_tally q_sightings_lay q_sightings_lay_places g_strip_links g_strip_folded g_strip_stiff g_strip_lengths g_sightings_size g_sightings_seenFolds u21 u22 u23 u24 g_sightings_seenSpans u25) H := hP
    have hD : va_D A (w_X7_ways Y q q_text q_strip q_told q_images q_kept q_history q_lay q_folds q_sightings q_rater q_strip_lengths q_sightings_seenFolds q_sightings_seenSpans q_sightings_isWay q_sightings_tally q_sightings_lay q_sightings_lay_places g_strip_links g_strip_folded g_strip_stiff g_strip_lengths g_sightings_size g_sightings_seenFolds u21 u22 u23 u24 g_sightings_seenSpans u25) := hD
    exact ret_i (u21, u22, u23, u24, u25) hx hb hr hlocks hK hP hD hS h dX7_ways_51
  have h := h.2.2 c13_0 c13_1
  refine lv_lookup (off := (51)) (tgt := 52) hx hb dX7_ways_1 (by decide) (by refine (lv_osw c13_0 (by decide)).trans ?_; refine (lv_osw c13_1 (by decide)).trans ?_; rfl) (by decide) ?_
  refine lv_iconst (v := (-1)) hx hb dX7_ways_52 (by decide) ?_
  exact ret_i (g_sightings_lay_links, g_sightings_lay_low, g_sightings_lay_high, g_sightings_lay_places, g_sightings_isWay) hx hb hr hlocks hK hP hD hS h dX7_ways_53
