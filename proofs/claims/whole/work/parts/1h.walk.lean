abbrev rm_X8_readsNumber : Room := { frames := 3, cells := 0, slots := 0, locals := 63 }
theorem in_X8_readsNumber_X8 : ∀ w ∈ wsX80, w ∈ wsX8_readsNumber := fun _ h => List.mem_cons_of_mem _ (List.mem_append_right _ h)
theorem k_X8_readsNumber_f55 {s : State} {args : Array Value} (hts : ∀ w ∈ wsX8_readsNumber, w.before args s = true) : (Cond.fieldLink RX8 55 "FoldRuleModel" "at" "I").before args s = true := hts _ (by decide +kernel)
theorem k_X8_readsNumber_f52 {s : State} {args : Array Value} (hts : ∀ w ∈ wsX8_readsNumber, w.before args s = true) : (Cond.fieldLink RX8 52 "FoldRuleModel" "behind" "I").before args s = true := hts _ (by decide +kernel)
theorem k_X8_readsNumber_f17 {s : State} {args : Array Value} (hts : ∀ w ∈ wsX8_readsNumber, w.before args s = true) : (Cond.fieldLink RX8 17 "FoldRuleModel" "text" "[I").before args s = true := hts _ (by decide +kernel)
theorem k_X8_readsNumber_f65 {s : State} {args : Array Value} (hts : ∀ w ∈ wsX8_readsNumber, w.before args s = true) : (Cond.fieldLink RX8 65 "FoldRuleModel" "number" "I").before args s = true := hts _ (by decide +kernel)
set_option maxHeartbeats 4000000 in
set_option maxRecDepth 100000 in
theorem c_X8_readsNumber {l : Launch} {D : va_G} {Y : ClassId × ClassId × ClassId} {q q_row q_isKept q_text q_seenFold q_seenSpan q_readLong q_marks q_isMeasured q_waysAre q_haveSpan : Nat} {g_links g_undos g_length g_seenMany : Int32} {g_trace : Int64} {g_at g_behind g_number g_readLinks g_readFolded g_readStiff g_wayMany : Int32} {g_text : Nat → Int32} {x1 x2 : Int32} {Q : Int32 → Int32 → Int32 → Int32 → Prop} (h : wp_X8_readsNumber g_length g_at g_behind g_number g_text x1 x2 Q) (sz : Nat) : MtI l yX8_readsNumber wsX8_readsNumber rm_X8_readsNumber [.ref q, .int x1, .int x2] D Y (w_X8_readsNumber Y q q_row q_isKept q_text q_seenFold q_seenSpan q_readLong q_marks q_isMeasured q_waysAre q_haveSpan g_links g_undos g_length g_seenMany g_trace g_at g_behind g_number g_readLinks g_readFolded g_readStiff g_wayMany g_text) (fun r (u : Int32 × Int32 × Int32) => Q r u.1 u.2.1 u.2.2) (fun u : Int32 × Int32 × Int32 => (w_X8_readsNumber Y q q_row q_isKept q_text q_seenFold q_seenSpan q_readLong q_marks q_isMeasured q_waysAre q_haveSpan g_links g_undos g_length g_seenMany g_trace u.1 u.2.1 u.2.2 g_readLinks g_readFolded g_readStiff g_wayMany g_text)) sz := by
  refine ct_i (cc := cX8_readsNumber) (nL := 3) (ret := (some .boolean)) (by decide) rfl (Nat.le_of_ble_eq_true rfl) ?_ sz
  intro p e s m below meth c A ls C hK hA hP hD hS hl
  obtain ⟨⟨hx, hb, hml, hown, hts⟩, hr, hlocks, hN⟩ := id C
  have hown : s.vm.findClass RX8 = some m.cls := hown
  have hl : lv_has ls 3 [(0, .ref q), (1, .int x1), (2, .int x2)] := hl
  unfold wp_X8_readsNumber at h
  refine lv_aload_n hx hb dX8_readsNumber_0 rfl (lv_at hl 0 rfl) ?_
  have hp : Pt (w_X8_readsNumber Y q q_row q_isKept q_text q_seenFold q_seenSpan q_readLong q_marks q_isMeasured q_waysAre q_haveSpan g_links g_undos g_length g_seenMany g_trace g_at g_behind g_number g_readLinks g_readFolded g_readStiff g_wayMany g_text) (w_X8_nextToken Y q q_row q_isKept q_text q_seenFold q_seenSpan q_readLong q_marks q_isMeasured q_waysAre q_haveSpan g_links g_undos g_length g_seenMany g_trace g_at g_behind g_number g_readLinks g_readFolded g_readStiff g_wayMany g_text) [0, 1] := ⟨rfl, by decide +kernel⟩
  refine go_v hp hP hD hS hA (fun _ => rfl) (va_runV (As := []) (rest := []) ⟨hx, hb, hml, hown, hts⟩ (c_X8_nextToken h _) (cwV 0 hts gX8_readsNumber_X8_nextToken rfl rfl rfl (by decide +kernel) ⟨Nat.le_of_ble_eq_true rfl, Nat.le_of_ble_eq_true rfl⟩) (pre_V (b := q) (q0 := 0) (ci := 8) (q := (RX8, TX8, 22)) hp hK hN hP hD rfl rfl) rfl rfl hl.1 rfl (lv_room (Nat.le_of_ble_eq_true rfl)) dX8_readsNumber_1 ⟨Nat.le_of_ble_eq_true rfl, Nat.le_of_ble_eq_true rfl⟩) (fun u H locs h hP hD hS => ?_)
  obtain ⟨u13, u14⟩ := u
  try dsimp only at h
  have hP : va_P D vwCl (w_X8_readsNumber Y q q_row q_isKept q_text q_seenFold q_seenSpan q_readLong q_marks q_isMeasured q_waysAre q_haveSpan g_links g_undos g_length g_seenMany g_trace u13 u14 g_number g_readLinks g_readFolded g_readStiff g_wayMany g_text) H := hP
  have hD : va_D A (w_X8_readsNumber Y q q_row q_isKept q_text q_seenFold q_seenSpan q_readLong q_marks q_isMeasured q_waysAre q_haveSpan g_links g_undos g_length g_seenMany g_trace u13 u14 g_number g_readLinks g_readFolded g_readStiff g_wayMany g_text) := hD
  refine lv_aload_n hx hb dX8_readsNumber_4 rfl (lv_at hl 0 rfl) ?_
  refine lv_aload_n hx hb dX8_readsNumber_5 rfl (lv_at hl 0 rfl) ?_
  refine va_get (D := D) (ci := 8) (v := .int u13) (C := RX8) (T := TX8) (N := 22) hx hb hts in_X8_readsNumber_X8 hown hK hP 0 rfl rfl 10 (by decide) (k_X8_readsNumber_f55 hts) (fun _ h9 => h9) rfl dX8_readsNumber_6 ?_
  have hp : Pt (w_X8_readsNumber Y q q_row q_isKept q_text q_seenFold q_seenSpan q_readLong q_marks q_isMeasured q_waysAre q_haveSpan g_links g_undos g_length g_seenMany g_trace u13 u14 g_number g_readLinks g_readFolded g_readStiff g_wayMany g_text) (w_X8_isFigure Y q q_row q_isKept q_text q_seenFold q_seenSpan q_readLong q_marks q_isMeasured q_waysAre q_haveSpan g_links g_undos g_length g_seenMany g_trace u13 u14 g_number g_readLinks g_readFolded g_readStiff g_wayMany g_text) [0, 1] := ⟨rfl, by decide +kernel⟩
  refine go_i hp hP hD hS hA (fun _ => rfl) (va_runV (As := [.int u13]) (rest := []) ⟨hx, hb, hml, hown, hts⟩ (c_X8_isFigure h _) (cwV 1 hts gX8_readsNumber_X8_isFigure rfl rfl rfl (by decide +kernel) ⟨Nat.le_of_ble_eq_true rfl, Nat.le_of_ble_eq_true rfl⟩) (pre_V (b := q) (q0 := 0) (ci := 8) (q := (RX8, TX8, 22)) hp hK hN hP hD rfl rfl) rfl rfl hl.1 rfl (lv_room (Nat.le_of_ble_eq_true rfl)) dX8_readsNumber_9 ⟨Nat.le_of_ble_eq_true rfl, Nat.le_of_ble_eq_true rfl⟩) (fun r15 u H locs h hP hD hS => ?_)
  try dsimp only at h
  have hP : va_P D vwCl (w_X8_readsNumber Y q q_row q_isKept q_text q_seenFold q_seenSpan q_readLong q_marks q_isMeasured q_waysAre q_haveSpan g_links g_undos g_length g_seenMany g_trace u13 u14 g_number g_readLinks g_readFolded g_readStiff g_wayMany g_text) H := hP
  have hD : va_D A (w_X8_readsNumber Y q q_row q_isKept q_text q_seenFold q_seenSpan q_readLong q_marks q_isMeasured q_waysAre q_haveSpan g_links g_undos g_length g_seenMany g_trace u13 u14 g_number g_readLinks g_readFolded g_readStiff g_wayMany g_text) := hD
  refine lv_if_eq (tgt := 55) hx hb dX8_readsNumber_12 (by decide) (fun c16 => ?_) (fun c16 => ?_)
  · have h := h.1 c16
    refine lv_iconst (v := 0) hx hb dX8_readsNumber_55 (by decide) ?_
    exact ret_z (u13, u14, g_number) hx hb hr hlocks hK hP hD hS (Or.inl rfl) h dX8_readsNumber_56
  · have h := h.2 c16
    refine lv_aload_n hx hb dX8_readsNumber_15 rfl (lv_at hl 0 rfl) ?_
    refine va_get (D := D) (ci := 8) (v := .int u14) (C := RX8) (T := TX8) (N := 22) hx hb hts in_X8_readsNumber_X8 hown hK hP 0 rfl rfl 11 (by decide) (k_X8_readsNumber_f52 hts) (fun _ h9 => h9) rfl dX8_readsNumber_16 ?_
    refine lv_aload_n hx hb dX8_readsNumber_19 rfl (lv_at hl 0 rfl) ?_
    refine va_get (D := D) (ci := 8) (v := .int u13) (C := RX8) (T := TX8) (N := 22) hx hb hts in_X8_readsNumber_X8 hown hK hP 0 rfl rfl 10 (by decide) (k_X8_readsNumber_f55 hts) (fun _ h9 => h9) rfl dX8_readsNumber_20 ?_
    refine lv_isub hx hb dX8_readsNumber_23 ?_
    refine lv_iconst (v := 2) hx hb dX8_readsNumber_24 (by decide) ?_
    refine lv_icmp_gt (tgt := 55) hx hb dX8_readsNumber_25 (by decide) (fun c17 => ?_) (fun c17 => ?_)
    · have h := h.1 c17
      refine lv_iconst (v := 0) hx hb dX8_readsNumber_55 (by decide) ?_
      exact ret_z (u13, u14, g_number) hx hb hr hlocks hK hP hD hS (Or.inl rfl) h dX8_readsNumber_56
    · have h := h.2 c17
      refine lv_aload_n hx hb dX8_readsNumber_28 rfl (lv_at hl 0 rfl) ?_
      refine va_get (D := D) (ci := 8) (v := .int u14) (C := RX8) (T := TX8) (N := 22) hx hb hts in_X8_readsNumber_X8 hown hK hP 0 rfl rfl 11 (by decide) (k_X8_readsNumber_f52 hts) (fun _ h9 => h9) rfl dX8_readsNumber_29 ?_
      refine lv_aload_n hx hb dX8_readsNumber_32 rfl (lv_at hl 0 rfl) ?_
      refine va_get (D := D) (ci := 8) (v := .int u13) (C := RX8) (T := TX8) (N := 22) hx hb hts in_X8_readsNumber_X8 hown hK hP 0 rfl rfl 10 (by decide) (k_X8_readsNumber_f55 hts) (fun _ h9 => h9) rfl dX8_readsNumber_33 ?_
      refine lv_isub hx hb dX8_readsNumber_36 ?_
      refine lv_iconst (v := 2) hx hb dX8_readsNumber_37 (by decide) ?_
      refine lv_icmp_ne (tgt := 57) hx hb dX8_readsNumber_38 (by decide) (fun c18 => ?_) (fun c18 => ?_)
      · have h := h.1 c18
        refine lv_aload_n hx hb dX8_readsNumber_57 rfl (lv_at hl 0 rfl) ?_
        refine lv_aload_n hx hb dX8_readsNumber_58 rfl (lv_at hl 0 rfl) ?_
        refine va_get (D := D) (ci := 8) (v := .ref q_text) (C := RX8) (T := TX8) (N := 22) hx hb hts in_X8_readsNumber_X8 hown hK hP 0 rfl rfl 4 (by decide) (k_X8_readsNumber_f17 hts) (fun _ h9 => h9) rfl dX8_readsNumber_59 ?_
        refine lv_aload_n hx hb dX8_readsNumber_62 rfl (lv_at hl 0 rfl) ?_
        refine va_get (D := D) (ci := 8) (v := .int u13) (C := RX8) (T := TX8) (N := 22) hx hb hts in_X8_readsNumber_X8 hown hK hP 0 rfl rfl 10 (by decide) (k_X8_readsNumber_f55 hts) (fun _ h9 => h9) rfl dX8_readsNumber_63 ?_
        obtain ⟨hin, h⟩ := h
        refine va_iald hx hb hK hP 1 0 rfl rfl hin dX8_readsNumber_66 ?_
        refine lv_bipush (v := 48) hx hb dX8_readsNumber_67 (by decide) ?_
        refine lv_isub hx hb dX8_readsNumber_69 ?_
        refine lv_topi (fun z19 ez19 => ?_)
        have h := h z19 ez19
        refine va_put (D := D) (ci := 8) (v := .int z19) (ty := .int) (C := RX8) (T := TX8) (N := 22) hx hb hts in_X8_readsNumber_X8 tyX8 tyX8_ok nmX8 hown hK hP hD hS 0 rfl rfl 12 (by decide) (k_X8_readsNumber_f65 hts) (fun _ h9 => h9) rfl (by decide +kernel) rfl rfl (Nat.le_of_ble_eq_true rfl) dX8_readsNumber_70 (fun H locs hP hD hS => ?_)
        have hP : va_P D vwCl (w_X8_readsNumber Y q q_row q_isKept q_text q_seenFold q_seenSpan q_readLong q_marks q_isMeasured q_waysAre q_haveSpan g_links g_undos g_length g_seenMany g_trace u13 u14 z19 g_readLinks g_readFolded g_readStiff g_wayMany g_text) H := hP
        have hD : va_D A (w_X8_readsNumber Y q q_row q_isKept q_text q_seenFold q_seenSpan q_readLong q_marks q_isMeasured q_waysAre q_haveSpan g_links g_undos g_length g_seenMany g_trace u13 u14 z19 g_readLinks g_readFolded g_readStiff g_wayMany g_text) := hD
        refine lv_aload_n hx hb dX8_readsNumber_73 rfl (lv_at hl 0 rfl) ?_
        refine lv_aload_n hx hb dX8_readsNumber_74 rfl (lv_at hl 0 rfl) ?_
        refine va_get (D := D) (ci := 8) (v := .int u14) (C := RX8) (T := TX8) (N := 22) hx hb hts in_X8_readsNumber_X8 hown hK hP 0 rfl rfl 11 (by decide) (k_X8_readsNumber_f52 hts) (fun _ h9 => h9) rfl dX8_readsNumber_75 ?_
        refine lv_aload_n hx hb dX8_readsNumber_78 rfl (lv_at hl 0 rfl) ?_
        refine va_get (D := D) (ci := 8) (v := .int u13) (C := RX8) (T := TX8) (N := 22) hx hb hts in_X8_readsNumber_X8 hown hK hP 0 rfl rfl 10 (by decide) (k_X8_readsNumber_f55 hts) (fun _ h9 => h9) rfl dX8_readsNumber_79 ?_
        refine lv_isub hx hb dX8_readsNumber_82 ?_
        refine lv_iconst (v := 2) hx hb dX8_readsNumber_83 (by decide) ?_
        refine lv_icmp_ne (tgt := 112) hx hb dX8_readsNumber_84 (by decide) (fun c20 => ?_) (fun c20 => ?_)
        · have h := h.1 c20
          refine lv_aload_n hx hb dX8_readsNumber_112 rfl (lv_at hl 0 rfl) ?_
          refine va_get (D := D) (ci := 8) (v := .int z19) (C := RX8) (T := TX8) (N := 22) hx hb hts in_X8_readsNumber_X8 hown hK hP 0 rfl rfl 12 (by decide) (k_X8_readsNumber_f65 hts) (fun _ h9 => h9) rfl dX8_readsNumber_113 ?_
          refine va_put (D := D) (ci := 8) (v := .int z19) (ty := .int) (C := RX8) (T := TX8) (N := 22) hx hb hts in_X8_readsNumber_X8 tyX8 tyX8_ok nmX8 hown hK hP hD hS 0 rfl rfl 12 (by decide) (k_X8_readsNumber_f65 hts) (fun _ h9 => h9) rfl (by decide +kernel) rfl rfl (Nat.le_of_ble_eq_true rfl) dX8_readsNumber_116 (fun H locs hP hD hS => ?_)
          have hP : va_P D vwCl (w_X8_readsNumber Y q q_row q_isKept q_text q_seenFold q_seenSpan q_readLong q_marks q_isMeasured q_waysAre q_haveSpan g_links g_undos g_length g_seenMany g_trace u13 u14 z19 g_readLinks g_readFolded g_readStiff g_wayMany g_text) H := hP
          have hD : va_D A (w_X8_readsNumber Y q q_row q_isKept q_text q_seenFold q_seenSpan q_readLong q_marks q_isMeasured q_waysAre q_haveSpan g_links g_undos g_length g_seenMany g_trace u13 u14 z19 g_readLinks g_readFolded g_readStiff g_wayMany g_text) := hD
          refine lv_aload_n hx hb dX8_readsNumber_119 rfl (lv_at hl 0 rfl) ?_
          refine va_get (D := D) (ci := 8) (v := .int z19) (C := RX8) (T := TX8) (N := 22) hx hb hts in_X8_readsNumber_X8 hown hK hP 0 rfl rfl 12 (by decide) (k_X8_readsNumber_f65 hts) (fun _ h9 => h9) rfl dX8_readsNumber_120 ?_
          refine lv_iload_n hx hb dX8_readsNumber_123 rfl (lv_at hl 1 rfl) ?_
          refine lv_iload_n hx hb dX8_readsNumber_124 rfl (lv_at hl 2 rfl) ?_
          have hp : Pt (w_X8_readsNumber Y q q_row q_isKept q_text q_seenFold q_seenSpan q_readLong q_marks q_isMeasured q_waysAre q_haveSpan g_links g_undos g_length g_seenMany g_trace u13 u14 z19 g_readLinks g_readFolded g_readStiff g_wayMany g_text) (w_X8_in Y ) [] := ⟨rfl, by decide +kernel⟩
          refine go_i hp hP hD hS hA (fun _ => rfl) (va_runS (As := [.int z19, .int x1, .int x2]) (rest := []) ⟨hx, hb, hml, hown, hts⟩ (c_X8_in h _) (va_cwS 3 hts gX8_readsNumber_X8_in rfl rfl rfl (by decide +kernel) ⟨Nat.le_of_ble_eq_true rfl, Nat.le_of_ble_eq_true rfl⟩) (pre_S hp hK hN hP hD) rfl rfl hl.1 rfl (lv_room (Nat.le_of_ble_eq_true rfl)) dX8_readsNumber_125 ⟨Nat.le_of_ble_eq_true rfl, Nat.le_of_ble_eq_true rfl⟩) (fun r21 u H locs h hP hD hS => ?_)
          try dsimp only at h
          have hP : va_P D vwCl (w_X8_readsNumber Y q q_row q_isKept q_text q_seenFold q_seenSpan q_readLong q_marks q_isMeasured q_waysAre q_haveSpan g_links g_undos g_length g_seenMany g_trace u13 u14 z19 g_readLinks g_readFolded g_readStiff g_wayMany g_text) H := hP
          have hD : va_D A (w_X8_readsNumber Y q q_row q_isKept q_text q_seenFold q_seenSpan q_readLong q_marks q_isMeasured q_waysAre q_haveSpan g_links g_undos g_length g_seenMany g_trace u13 u14 z19 g_readLinks g_readFolded g_readStiff g_wayMany g_text) := hD
          exact ret_z (u13, u14, z19) hx hb hr hlocks hK hP hD hS h.1 h.2 dX8_readsNumber_128
        · have h := h.2 c20
          refine lv_bipush (v := 10) hx hb dX8_readsNumber_87 (by decide) ?_
          refine lv_aload_n hx hb dX8_readsNumber_89 rfl (lv_at hl 0 rfl) ?_
          refine va_get (D := D) (ci := 8) (v := .int z19) (C := RX8) (T := TX8) (N := 22) hx hb hts in_X8_readsNumber_X8 hown hK hP 0 rfl rfl 12 (by decide) (k_X8_readsNumber_f65 hts) (fun _ h9 => h9) rfl dX8_readsNumber_90 ?_
          refine lv_imul hx hb dX8_readsNumber_93 ?_
          refine lv_aload_n hx hb dX8_readsNumber_94 rfl (lv_at hl 0 rfl) ?_
          refine va_get (D := D) (ci := 8) (v := .ref q_text) (C := RX8) (T := TX8) (N := 22) hx hb hts in_X8_readsNumber_X8 hown hK hP 0 rfl rfl 4 (by decide) (k_X8_readsNumber_f17 hts) (fun _ h9 => h9) rfl dX8_readsNumber_95 ?_
          refine lv_aload_n hx hb dX8_readsNumber_98 rfl (lv_at hl 0 rfl) ?_
          refine va_get (D := D) (ci := 8) (v := .int u13) (C := RX8) (T := TX8) (N := 22) hx hb hts in_X8_readsNumber_X8 hown hK hP 0 rfl rfl 10 (by decide) (k_X8_readsNumber_f55 hts) (fun _ h9 => h9) rfl dX8_readsNumber_99 ?_
          refine lv_iconst (v := 1) hx hb dX8_readsNumber_102 (by decide) ?_
          refine lv_iadd hx hb dX8_readsNumber_103 ?_
          obtain ⟨hin, h⟩ := h
          refine va_iald hx hb hK hP 1 0 rfl rfl hin dX8_readsNumber_104 ?_
          refine lv_iadd hx hb dX8_readsNumber_105 ?_
          refine lv_bipush (v := 48) hx hb dX8_readsNumber_106 (by decide) ?_
          refine lv_isub hx hb dX8_readsNumber_108 ?_
          refine lv_goto (tgt := 116) hx hb dX8_readsNumber_109 (by decide) ?_
          refine lv_topi (fun z22 ez22 => ?_)
          have h := h z22 ez22
          refine va_put (D := D) (ci := 8) (v := .int z22) (ty := .int) (C := RX8) (T := TX8) (N := 22) hx hb hts in_X8_readsNumber_X8 tyX8 tyX8_ok nmX8 hown hK hP hD hS 0 rfl rfl 12 (by decide) (k_X8_readsNumber_f65 hts) (fun _ h9 => h9) rfl (by decide +kernel) rfl rfl (Nat.le_of_ble_eq_true rfl) dX8_readsNumber_116 (fun H locs hP hD hS => ?_)
          have hP : va_P D vwCl (w_X8_readsNumber Y q q_row q_isKept q_text q_seenFold q_seenSpan q_readLong q_marks q_isMeasured q_waysAre q_haveSpan g_links g_undos g_length g_seenMany g_trace u13 u14 z22 g_readLinks g_readFolded g_readStiff g_wayMany g_text) H := hP
          have hD : va_D A (w_X8_readsNumber Y q q_row q_isKept q_text q_seenFold q_seenSpan q_readLong q_marks q_isMeasured q_waysAre q_haveSpan g_links g_undos g_length g_seenMany g_trace u13 u14 z22 g_readLinks g_readFolded g_readStiff g_wayMany g_text) := hD
          refine lv_aload_n hx hb dX8_readsNumber_119 rfl (lv_at hl 0 rfl) ?_
          refine va_get (D := D) (ci := 8) (v := .int z22) (C := RX8) (T := TX8) (N := 22) hx hb hts in_X8_readsNumber_X8 hown hK hP 0 rfl rfl 12 (by decide) (k_X8_readsNumber_f65 hts) (fun _ h9 => h9) rfl dX8_readsNumber_120 ?_
          refine lv_iload_n hx hb dX8_readsNumber_123 rfl (lv_at hl 1 rfl) ?_
          refine lv_iload_n hx hb dX8_readsNumber_124 rfl (lv_at hl 2 rfl) ?_
          have hp : Pt (w_X8_readsNumber Y q q_row q_isKept q_text q_seenFold q_seenSpan q_readLong q_marks q_isMeasured q_waysAre q_haveSpan g_links g_undos g_length g_seenMany g_trace u13 u14 z22 g_readLinks g_readFolded g_readStiff g_wayMany g_text) (w_X8_in Y ) [] := ⟨rfl, by decide +kernel⟩
          refine go_i hp hP hD hS hA (fun _ => rfl) (va_runS (As := [.int z22, .int x1, .int x2]) (rest := []) ⟨hx, hb, hml, hown, hts⟩ (c_X8_in h _) (va_cwS 3 hts gX8_readsNumber_X8_in rfl rfl rfl (by decide +kernel) ⟨Nat.le_of_ble_eq_true rfl, Nat.le_of_ble_eq_true rfl⟩) (pre_S hp hK hN hP hD) rfl rfl hl.1 rfl (lv_room (Nat.le_of_ble_eq_true rfl)) dX8_readsNumber_125 ⟨Nat.le_of_ble_eq_true rfl, Nat.le_of_ble_eq_true rfl⟩) (fun r23 u H locs h hP hD hS => ?_)
          try dsimp only at h
          have hP : va_P D vwCl (w_X8_readsNumber Y q q_row q_isKept q_text q_seenFold q_seenSpan q_readLong q_marks q_isMeasured q_waysAre q_haveSpan g_links g_undos g_length g_seenMany g_trace u13 u14 z22 g_readLinks g_readFolded g_readStiff g_wayMany g_text) H := hP
          have hD : va_D A (w_X8_readsNumber Y q q_row q_isKept q_text q_seenFold q_seenSpan q_readLong q_marks q_isMeasured q_waysAre q_haveSpan g_links g_undos g_length g_seenMany g_trace u13 u14 z22 g_readLinks g_readFolded g_readStiff g_wayMany g_text) := hD
          exact ret_z (u13, u14, z22) hx hb hr hlocks hK hP hD hS h.1 h.2 dX8_readsNumber_128
      · have h := h.2 c18
        refine lv_aload_n hx hb dX8_readsNumber_41 rfl (lv_at hl 0 rfl) ?_
        refine va_get (D := D) (ci := 8) (v := .ref q_text) (C := RX8) (T := TX8) (N := 22) hx hb hts in_X8_readsNumber_X8 hown hK hP 0 rfl rfl 4 (by decide) (k_X8_readsNumber_f17 hts) (fun _ h9 => h9) rfl dX8_readsNumber_42 ?_
        refine lv_aload_n hx hb dX8_readsNumber_45 rfl (lv_at hl 0 rfl) ?_
        refine va_get (D := D) (ci := 8) (v := .int u13) (C := RX8) (T := TX8) (N := 22) hx hb hts in_X8_readsNumber_X8 hown hK hP 0 rfl rfl 10 (by decide) (k_X8_readsNumber_f55 hts) (fun _ h9 => h9) rfl dX8_readsNumber_46 ?_
        obtain ⟨hin, h⟩ := h
        refine va_iald hx hb hK hP 1 0 rfl rfl hin dX8_readsNumber_49 ?_
        refine lv_bipush (v := 48) hx hb dX8_readsNumber_50 (by decide) ?_
        refine lv_icmp_ne (tgt := 57) hx hb dX8_readsNumber_52 (by decide) (fun c24 => ?_) (fun c24 => ?_)
        · have h := h.1 c24
          refine lv_aload_n hx hb dX8_readsNumber_57 rfl (lv_at hl 0 rfl) ?_
          refine lv_aload_n hx hb dX8_readsNumber_58 rfl (lv_at hl 0 rfl) ?_
          refine va_get (D := D) (ci := 8) (v := .ref q_text) (C := RX8) (T := TX8) (N := 22) hx hb hts in_X8_readsNumber_X8 hown hK hP 0 rfl rfl 4 (by decide) (k_X8_readsNumber_f17 hts) (fun _ h9 => h9) rfl dX8_readsNumber_59 ?_
          refine lv_aload_n hx hb dX8_readsNumber_62 rfl (lv_at hl 0 rfl) ?_
          refine va_get (D := D) (ci := 8) (v := .int u13) (C := RX8) (T := TX8) (N := 22) hx hb hts in_X8_readsNumber_X8 hown hK hP 0 rfl rfl 10 (by decide) (k_X8_readsNumber_f55 hts) (fun _ h9 => h9) rfl dX8_readsNumber_63 ?_
          obtain ⟨hin, h⟩ := h
          refine va_iald hx hb hK hP 1 0 rfl rfl hin dX8_readsNumber_66 ?_
          refine lv_bipush (v := 48) hx hb dX8_readsNumber_67 (by decide) ?_
          refine lv_isub hx hb dX8_readsNumber_69 ?_
          refine lv_topi (fun z25 ez25 => ?_)
          have h := h z25 ez25
          refine va_put (D := D) (ci := 8) (v := .int z25) (ty := .int) (C := RX8) (T := TX8) (N := 22) hx hb hts in_X8_readsNumber_X8 tyX8 tyX8_ok nmX8 hown hK hP hD hS 0 rfl rfl 12 (by decide) (k_X8_readsNumber_f65 hts) (fun _ h9 => h9) rfl (by decide +kernel) rfl rfl (Nat.le_of_ble_eq_true rfl) dX8_readsNumber_70 (fun H locs hP hD hS => ?_)
          have hP : va_P D vwCl (w_X8_readsNumber Y q q_row q_isKept q_text q_seenFold q_seenSpan q_readLong q_marks q_isMeasured q_waysAre q_haveSpan g_links g_undos g_length g_seenMany g_trace u13 u14 z25 g_readLinks g_readFolded g_readStiff g_wayMany g_text) H := hP
          have hD : va_D A (w_X8_readsNumber Y q q_row q_isKept q_text q_seenFold q_seenSpan q_readLong q_marks q_isMeasured q_waysAre q_haveSpan g_links g_undos g_length g_seenMany g_trace u13 u14 z25 g_readLinks g_readFolded g_readStiff g_wayMany g_text) := hD
          refine lv_aload_n hx hb dX8_readsNumber_73 rfl (lv_at hl 0 rfl) ?_
          refine lv_aload_n hx hb dX8_readsNumber_74 rfl (lv_at hl 0 rfl) ?_
          refine va_get (D := D) (ci := 8) (v := .int u14) (C := RX8) (T := TX8) (N := 22) hx hb hts in_X8_readsNumber_X8 hown hK hP 0 rfl rfl 11 (by decide) (k_X8_readsNumber_f52 hts) (fun _ h9 => h9) rfl dX8_readsNumber_75 ?_
          refine lv_aload_n hx hb dX8_readsNumber_78 rfl (lv_at hl 0 rfl) ?_
          refine va_get (D := D) (ci := 8) (v := .int u13) (C := RX8) (T := TX8) (N := 22) hx hb hts in_X8_readsNumber_X8 hown hK hP 0 rfl rfl 10 (by decide) (k_X8_readsNumber_f55 hts) (fun _ h9 => h9) rfl dX8_readsNumber_79 ?_
          refine lv_isub hx hb dX8_readsNumber_82 ?_
          refine lv_iconst (v := 2) hx hb dX8_readsNumber_83 (by decide) ?_
          refine lv_icmp_ne (tgt := 112) hx hb dX8_readsNumber_84 (by decide) (fun c26 => ?_) (fun c26 => ?_)
          · have h := h.1 c26
            refine lv_aload_n hx hb dX8_readsNumber_112 rfl (lv_at hl 0 rfl) ?_
            refine va_get (D := D) (ci := 8) (v := .int z25) (C := RX8) (T := TX8) (N := 22) hx hb hts in_X8_readsNumber_X8 hown hK hP 0 rfl rfl 12 (by decide) (k_X8_readsNumber_f65 hts) (fun _ h9 => h9) rfl dX8_readsNumber_113 ?_
            refine va_put (D := D) (ci := 8) (v := .int z25) (ty := .int) (C := RX8) (T := TX8) (N := 22) hx hb hts in_X8_readsNumber_X8 tyX8 tyX8_ok nmX8 hown hK hP hD hS 0 rfl rfl 12 (by decide) (k_X8_readsNumber_f65 hts) (fun _ h9 => h9) rfl (by decide +kernel) rfl rfl (Nat.le_of_ble_eq_true rfl) dX8_readsNumber_116 (fun H locs hP hD hS => ?_)
            have hP : va_P D vwCl (w_X8_readsNumber Y q q_row q_isKept q_text q_seenFold q_seenSpan q_readLong q_marks q_isMeasured q_waysAre q_haveSpan g_links g_undos g_length g_seenMany g_trace u13 u14 z25 g_readLinks g_readFolded g_readStiff g_wayMany g_text) H := hP
            have hD : va_D A (w_X8_readsNumber Y q q_row q_isKept q_text q_seenFold q_seenSpan q_readLong q_marks q_isMeasured q_waysAre q_haveSpan g_links g_undos g_length g_seenMany g_trace u13 u14 z25 g_readLinks g_readFolded g_readStiff g_wayMany g_text) := hD
            refine lv_aload_n hx hb dX8_readsNumber_119 rfl (lv_at hl 0 rfl) ?_
            refine va_get (D := D) (ci := 8) (v := .int z25) (C := RX8) (T := TX8) (N := 22) hx hb hts in_X8_readsNumber_X8 hown hK hP 0 rfl rfl 12 (by decide) (k_X8_readsNumber_f65 hts) (fun _ h9 => h9) rfl dX8_readsNumber_120 ?_
            refine lv_iload_n hx hb dX8_readsNumber_123 rfl (lv_at hl 1 rfl) ?_
            refine lv_iload_n hx hb dX8_readsNumber_124 rfl (lv_at hl 2 rfl) ?_
            have hp : Pt (w_X8_readsNumber Y q q_row q_isKept q_text q_seenFold q_seenSpan q_readLong q_marks q_isMeasured q_waysAre q_haveSpan g_links g_undos g_length g_seenMany g_trace u13 u14 z25 g_readLinks g_readFolded g_readStiff g_wayMany g_text) (w_X8_in Y ) [] := ⟨rfl, by decide +kernel⟩
            refine go_i hp hP hD hS hA (fun _ => rfl) (va_runS (As := [.int z25, .int x1, .int x2]) (rest := []) ⟨hx, hb, hml, hown, hts⟩ (c_X8_in h _) (va_cwS 3 hts gX8_readsNumber_X8_in rfl rfl rfl (by decide +kernel) ⟨Nat.le_of_ble_eq_true rfl, Nat.le_of_ble_eq_true rfl⟩) (pre_S hp hK hN hP hD) rfl rfl hl.1 rfl (lv_room (Nat.le_of_ble_eq_true rfl)) dX8_readsNumber_125 ⟨Nat.le_of_ble_eq_true rfl, Nat.le_of_ble_eq_true rfl⟩) (fun r27 u H locs h hP hD hS => ?_)
            try dsimp only at h
            have hP : va_P D vwCl (w_X8_readsNumber Y q q_row q_isKept q_text q_seenFold q_seenSpan q_readLong q_marks q_isMeasured q_waysAre q_haveSpan g_links g_undos g_length g_seenMany g_trace u13 u14 z25 g_readLinks g_readFolded g_readStiff g_wayMany g_text) H := hP
            have hD : va_D A (w_X8_readsNumber Y q q_row q_isKept q_text q_seenFold q_seenSpan q_readLong q_marks q_isMeasured q_waysAre q_haveSpan g_links g_undos g_length g_seenMany g_trace u13 u14 z25 g_readLinks g_readFolded g_readStiff g_wayMany g_text) := hD
            exact ret_z (u13, u14, z25) hx hb hr hlocks hK hP hD hS h.1 h.2 dX8_readsNumber_128
          · have h := h.2 c26
            refine lv_bipush (v := 10) hx hb dX8_readsNumber_87 (by decide) ?_
            refine lv_aload_n hx hb dX8_readsNumber_89 rfl (lv_at hl 0 rfl) ?_
            refine va_get (D := D) (ci := 8) (v := .int z25) (C := RX8) (T := TX8) (N := 22) hx hb hts in_X8_readsNumber_X8 hown hK hP 0 rfl rfl 12 (by decide) (k_X8_readsNumber_f65 hts) (fun _ h9 => h9) rfl dX8_readsNumber_90 ?_
            refine lv_imul hx hb dX8_readsNumber_93 ?_
            refine lv_aload_n hx hb dX8_readsNumber_94 rfl (lv_at hl 0 rfl) ?_
            refine va_get (D := D) (ci := 8) (v := .ref q_text) (C := RX8) (T := TX8) (N := 22) hx hb hts in_X8_readsNumber_X8 hown hK hP 0 rfl rfl 4 (by decide) (k_X8_readsNumber_f17 hts) (fun _ h9 => h9) rfl dX8_readsNumber_95 ?_
            refine lv_aload_n hx hb dX8_readsNumber_98 rfl (lv_at hl 0 rfl) ?_
            refine va_get (D := D) (ci := 8) (v := .int u13) (C := RX8) (T := TX8) (N := 22) hx hb hts in_X8_readsNumber_X8 hown hK hP 0 rfl rfl 10 (by decide) (k_X8_readsNumber_f55 hts) (fun _ h9 => h9) rfl dX8_readsNumber_99 ?_
            refine lv_iconst (v := 1) hx hb dX8_readsNumber_102 (by decide) ?_
            refine lv_iadd hx hb dX8_readsNumber_103 ?_
            obtain ⟨hin, h⟩ := h
            refine va_iald hx hb hK hP 1 0 rfl rfl hin dX8_readsNumber_104 ?_
            refine lv_iadd hx hb dX8_readsNumber_105 ?_
            refine lv_bipush (v := 48) hx hb dX8_readsNumber_106 (by decide) ?_
            refine lv_isub hx hb dX8_readsNumber_108 ?_
            refine lv_goto (tgt := 116) hx hb dX8_readsNumber_109 (by decide) ?_
            refine lv_topi (fun z28 ez28 => ?_)
            have h := h z28 ez28
            refine va_put (D := D) (ci := 8) (v := .int z28) (ty := .int) (C := RX8) (T := TX8) (N := 22) hx hb hts in_X8_readsNumber_X8 tyX8 tyX8_ok nmX8 hown hK hP hD hS 0 rfl rfl 12 (by decide) (k_X8_readsNumber_f65 hts) (fun _ h9 => h9) rfl (by decide +kernel) rfl rfl (Nat.le_of_ble_eq_true rfl) dX8_readsNumber_116 (fun H locs hP hD hS => ?_)
            have hP : va_P D vwCl (w_X8_readsNumber Y q q_row q_isKept q_text q_seenFold q_seenSpan q_readLong q_marks q_isMeasured q_waysAre q_haveSpan g_links g_undos g_length g_seenMany g_trace u13 u14 z28 g_readLinks g_readFolded g_readStiff g_wayMany g_text) H := hP
            have hD : va_D A (w_X8_readsNumber Y q q_row q_isKept q_text q_seenFold q_seenSpan q_readLong q_marks q_isMeasured q_waysAre q_haveSpan g_links g_undos g_length g_seenMany g_trace u13 u14 z28 g_readLinks g_readFolded g_readStiff g_wayMany g_text) := hD
            refine lv_aload_n hx hb dX8_readsNumber_119 rfl (lv_at hl 0 rfl) ?_
            refine va_get (D := D) (ci := 8) (v := .int z28) (C := RX8) (T := TX8) (N := 22) hx hb hts in_X8_readsNumber_X8 hown hK hP 0 rfl rfl 12 (by decide) (k_X8_readsNumber_f65 hts) (fun _ h9 => h9) rfl dX8_readsNumber_120 ?_
            refine lv_iload_n hx hb dX8_readsNumber_123 rfl (lv_at hl 1 rfl) ?_
            refine lv_iload_n hx hb dX8_readsNumber_124 rfl (lv_at hl 2 rfl) ?_
            have hp : Pt (w_X8_readsNumber Y q q_row q_isKept q_text q_seenFold q_seenSpan q_readLong q_marks q_isMeasured q_waysAre q_haveSpan g_links g_undos g_length g_seenMany g_trace u13 u14 z28 g_readLinks g_readFolded g_readStiff g_wayMany g_text) (w_X8_in Y ) [] := ⟨rfl, by decide +kernel⟩
            refine go_i hp hP hD hS hA (fun _ => rfl) (va_runS (As := [.int z28, .int x1, .int x2]) (rest := []) ⟨hx, hb, hml, hown, hts⟩ (c_X8_in h _) (va_cwS 3 hts gX8_readsNumber_X8_in rfl rfl rfl (by decide +kernel) ⟨Nat.le_of_ble_eq_true rfl, Nat.le_of_ble_eq_true rfl⟩) (pre_S hp hK hN hP hD) rfl rfl hl.1 rfl (lv_room (Nat.le_of_ble_eq_true rfl)) dX8_readsNumber_125 ⟨Nat.le_of_ble_eq_true rfl, Nat.le_of_ble_eq_true rfl⟩) (fun r29 u H locs h hP hD hS => ?_)
            try dsimp only at h
            have hP : va_P D vwCl (w_X8_readsNumber Y q q_row q_isKept q_text q_seenFold q_seenSpan q_readLong q_marks q_isMeasured q_waysAre q_haveSpan g_links g_undos g_length g_seenMany g_trace u13 u14 z28 g_readLinks g_readFolded g_readStiff g_wayMany g_text) H := hP
            have hD : va_D A (w_X8_readsNumber Y q q_row q_isKept q_text q_seenFold q_seenSpan q_readLong q_marks q_isMeasured q_waysAre q_haveSpan g_links g_undos g_length g_seenMany g_trace u13 u14 z28 g_readLinks g_readFolded g_readStiff g_wayMany g_text) := hD
            exact ret_z (u13, u14, z28) hx hb hr hlocks hK hP hD hS h.1 h.2 dX8_readsNumber_128
        · have h := h.2 c24
          refine lv_iconst (v := 0) hx hb dX8_readsNumber_55 (by decide) ?_
          exact ret_z (u13, u14, g_number) hx hb hr hlocks hK hP hD hS (Or.inl rfl) h dX8_readsNumber_56
abbrev rm_X8_readsLink : Room := { frames := 4, cells := 0, slots := 0, locals := 85 }
theorem in_X8_readsLink_X8 : ∀ w ∈ wsX80, w ∈ wsX8_readsLink := fun _ h => List.mem_cons_of_mem _ (List.mem_append_right _ h)
theorem k_X8_readsLink_f68 {s : State} {args : Array Value} (hts : ∀ w ∈ wsX8_readsLink, w.before args s = true) : (Cond.fieldLink RX8 68 "FoldRuleModel" "readLinks" "I").before args s = true := hts _ (by decide +kernel)
theorem k_X8_readsLink_f26 {s : State} {args : Array Value} (hts : ∀ w ∈ wsX8_readsLink, w.before args s = true) : (Cond.fieldLink RX8 26 "FoldRuleModel" "readLong" "[I").before args s = true := hts _ (by decide +kernel)
theorem k_X8_readsLink_f65 {s : State} {args : Array Value} (hts : ∀ w ∈ wsX8_readsLink, w.before args s = true) : (Cond.fieldLink RX8 65 "FoldRuleModel" "number" "I").before args s = true := hts _ (by decide +kernel)
set_option maxHeartbeats 4000000 in
set_option maxRecDepth 100000 in
theorem c_X8_readsLink {l : Launch} {D : va_G} {Y : ClassId × ClassId × ClassId} {q q_row q_isKept q_text q_seenFold q_seenSpan q_readLong q_marks q_isMeasured q_waysAre q_haveSpan : Nat} {g_links g_undos g_length g_seenMany : Int32} {g_trace : Int64} {g_at g_behind g_number g_readLinks g_readFolded g_readStiff g_wayMany : Int32} {g_text g_readLong : Nat → Int32} {Q : Int32 → Int32 → Int32 → Int32 → Int32 → (Nat → Int32) → Prop} (h : wp_X8_readsLink g_length g_at g_behind g_number g_readLinks g_text g_readLong Q) (sz : Nat) : MtI l yX8_readsLink wsX8_readsLink rm_X8_readsLink [.ref q] D Y (w_X8_readsLink Y q q_row q_isKept q_text q_seenFold q_seenSpan q_readLong q_marks q_isMeasured q_waysAre q_haveSpan g_links g_undos g_length g_seenMany g_trace g_at g_behind g_number g_readLinks g_readFolded g_readStiff g_wayMany g_text g_readLong) (fun r (u : Int32 × Int32 × Int32 × Int32 × (Nat → Int32)) => Q r u.1 u.2.1 u.2.2.1 u.2.2.2.1 u.2.2.2.2) (fun u : Int32 × Int32 × Int32 × Int32 × (Nat → Int32) => (w_X8_readsLink Y q q_row q_isKept q_text q_seenFold q_seenSpan q_readLong q_marks q_isMeasured q_waysAre q_haveSpan g_links g_undos g_length g_seenMany g_trace u.1 u.2.1 u.2.2.1 u.2.2.2.1 g_readFolded g_readStiff g_wayMany g_text u.2.2.2.2)) sz := by
  refine ct_i (cc := cX8_readsLink) (nL := 1) (ret := (some .boolean)) (by decide) rfl (Nat.le_of_ble_eq_true rfl) ?_ sz
  intro p e s m below meth c A ls C hK hA hP hD hS hl
  obtain ⟨⟨hx, hb, hml, hown, hts⟩, hr, hlocks, hN⟩ := id C
  have hown : s.vm.findClass RX8 = some m.cls := hown
  have hl : lv_has ls 1 [(0, .ref q)] := hl
  unfold wp_X8_readsLink at h
  refine lv_aload_n hx hb dX8_readsLink_0 rfl (lv_at hl 0 rfl) ?_
  refine va_get (D := D) (ci := 8) (v := .int g_readLinks) (C := RX8) (T := TX8) (N := 22) hx hb hts in_X8_readsLink_X8 hown hK hP 0 rfl rfl 13 (by decide) (k_X8_readsLink_f68 hts) (fun _ h9 => h9) rfl dX8_readsLink_1 ?_
  refine lv_bipush (v := 9) hx hb dX8_readsLink_4 (by decide) ?_
  refine lv_icmp_eq (tgt := 19) hx hb dX8_readsLink_6 (by decide) (fun c6 => ?_) (fun c6 => ?_)
  · have h := h.1 c6
    refine lv_iconst (v := 0) hx hb dX8_readsLink_19 (by decide) ?_
    exact ret_z (g_at, g_behind, g_number, g_readLinks, g_readLong) hx hb hr hlocks hK hP hD hS (Or.inl rfl) h dX8_readsLink_20
  · have h := h.2 c6
    refine lv_aload_n hx hb dX8_readsLink_9 rfl (lv_at hl 0 rfl) ?_
    refine lv_iconst (v := 1) hx hb dX8_readsLink_10 (by decide) ?_
    refine lv_bipush (v := 20) hx hb dX8_readsLink_11 (by decide) ?_
    have hp : Pt (w_X8_readsLink Y q q_row q_isKept q_text q_seenFold q_seenSpan q_readLong q_marks q_isMeasured q_waysAre q_haveSpan g_links g_undos g_length g_seenMany g_trace g_at g_behind g_number g_readLinks g_readFolded g_readStiff g_wayMany g_text g_readLong) (w_X8_readsNumber Y q q_row q_isKept q_text q_seenFold q_seenSpan q_readLong q_marks q_isMeasured q_waysAre q_haveSpan g_links g_undos g_length g_seenMany g_trace g_at g_behind g_number g_readLinks g_readFolded g_readStiff g_wayMany g_text) [0, 1] := ⟨rfl, by decide +kernel⟩
    refine go_i hp hP hD hS hA (fun _ => rfl) (va_runV (As := [.int (1 : Int32), .int (20 : Int32)]) (rest := []) ⟨hx, hb, hml, hown, hts⟩ (c_X8_readsNumber h _) (cwV 2 hts gX8_readsLink_X8_readsNumber rfl rfl rfl (by decide +kernel) ⟨Nat.le_of_ble_eq_true rfl, Nat.le_of_ble_eq_true rfl⟩) (pre_V (b := q) (q0 := 0) (ci := 8) (q := (RX8, TX8, 22)) hp hK hN hP hD rfl rfl) rfl rfl hl.1 rfl (lv_room (Nat.le_of_ble_eq_true rfl)) dX8_readsLink_13 ⟨Nat.le_of_ble_eq_true rfl, Nat.le_of_ble_eq_true rfl⟩) (fun r7 u H locs h hP hD hS => ?_)
    obtain ⟨u8, u9, u10⟩ := u
    try dsimp only at h
    have hP : va_P D vwCl (w_X8_readsLink Y q q_row q_isKept q_text q_seenFold q_seenSpan q_readLong q_marks q_isMeasured q_waysAre q_haveSpan g_links g_undos g_length g_seenMany g_trace u8 u9 u10 g_readLinks g_readFolded g_readStiff g_wayMany g_text g_readLong) H := hP
    have hD : va_D A (w_X8_readsLink Y q q_row q_isKept q_text q_seenFold q_seenSpan q_readLong q_marks q_isMeasured q_waysAre q_haveSpan g_links g_undos g_length g_seenMany g_trace u8 u9 u10 g_readLinks g_readFolded g_readStiff g_wayMany g_text g_readLong) := hD
    refine lv_if_ne (tgt := 21) hx hb dX8_readsLink_16 (by decide) (fun c11 => ?_) (fun c11 => ?_)
    · have h := h.1 c11
      refine lv_aload_n hx hb dX8_readsLink_21 rfl (lv_at hl 0 rfl) ?_
      refine va_get (D := D) (ci := 8) (v := .ref q_readLong) (C := RX8) (T := TX8) (N := 22) hx hb hts in_X8_readsLink_X8 hown hK hP 0 rfl rfl 14 (by decide) (k_X8_readsLink_f26 hts) (fun _ h9 => h9) rfl dX8_readsLink_22 ?_
      refine lv_aload_n hx hb dX8_readsLink_25 rfl (lv_at hl 0 rfl) ?_
      refine va_get (D := D) (ci := 8) (v := .int g_readLinks) (C := RX8) (T := TX8) (N := 22) hx hb hts in_X8_readsLink_X8 hown hK hP 0 rfl rfl 13 (by decide) (k_X8_readsLink_f68 hts) (fun _ h9 => h9) rfl dX8_readsLink_26 ?_
      refine lv_aload_n hx hb dX8_readsLink_29 rfl (lv_at hl 0 rfl) ?_
      refine va_get (D := D) (ci := 8) (v := .int u10) (C := RX8) (T := TX8) (N := 22) hx hb hts in_X8_readsLink_X8 hown hK hP 0 rfl rfl 12 (by decide) (k_X8_readsLink_f65 hts) (fun _ h9 => h9) rfl dX8_readsLink_30 ?_
      obtain ⟨hin, h⟩ := h
      refine va_iast hx hb hK hP hD hS 2 0 rfl rfl hin dX8_readsLink_33 (fun H locs hP hD hS => ?_)
      have hP : va_P D vwCl (w_X8_readsLink Y q q_row q_isKept q_text q_seenFold q_seenSpan q_readLong q_marks q_isMeasured q_waysAre q_haveSpan g_links g_undos g_length g_seenMany g_trace u8 u9 u10 g_readLinks g_readFolded g_readStiff g_wayMany g_text (upd g_readLong (g_readLinks).toNatClampNeg u10)) H := hP
      have hD : va_D A (w_X8_readsLink Y q q_row q_isKept q_text q_seenFold q_seenSpan q_readLong q_marks q_isMeasured q_waysAre q_haveSpan g_links g_undos g_length g_seenMany g_trace u8 u9 u10 g_readLinks g_readFolded g_readStiff g_wayMany g_text (upd g_readLong (g_readLinks).toNatClampNeg u10)) := hD
      refine lv_aload_n hx hb dX8_readsLink_34 rfl (lv_at hl 0 rfl) ?_
      refine lv_dup hx hb dX8_readsLink_35 rfl ?_
      refine va_get (D := D) (ci := 8) (v := .int g_readLinks) (C := RX8) (T := TX8) (N := 22) hx hb hts in_X8_readsLink_X8 hown hK hP 0 rfl rfl 13 (by decide) (k_X8_readsLink_f68 hts) (fun _ h9 => h9) rfl dX8_readsLink_36 ?_
      refine lv_iconst (v := 1) hx hb dX8_readsLink_39 (by decide) ?_
      refine lv_iadd hx hb dX8_readsLink_40 ?_
      refine lv_topi (fun z12 ez12 => ?_)
      have h := h z12 ez12
      refine va_put (D := D) (ci := 8) (v := .int z12) (ty := .int) (C := RX8) (T := TX8) (N := 22) hx hb hts in_X8_readsLink_X8 tyX8 tyX8_ok nmX8 hown hK hP hD hS 0 rfl rfl 13 (by decide) (k_X8_readsLink_f68 hts) (fun _ h9 => h9) rfl (by decide +kernel) rfl rfl (Nat.le_of_ble_eq_true rfl) dX8_readsLink_41 (fun H locs hP hD hS => ?_)
      have hP : va_P D vwCl (w_X8_readsLink Y q q_row q_isKept q_text q_seenFold q_seenSpan q_readLong q_marks q_isMeasured q_waysAre q_haveSpan g_links g_undos g_length g_seenMany g_trace u8 u9 u10 z12 g_readFolded g_readStiff g_wayMany g_text (upd g_readLong (g_readLinks).toNatClampNeg u10)) H := hP
      have hD : va_D A (w_X8_readsLink Y q q_row q_isKept q_text q_seenFold q_seenSpan q_readLong q_marks q_isMeasured q_waysAre q_haveSpan g_links g_undos g_length g_seenMany g_trace u8 u9 u10 z12 g_readFolded g_readStiff g_wayMany g_text (upd g_readLong (g_readLinks).toNatClampNeg u10)) := hD
      refine lv_iconst (v := 1) hx hb dX8_readsLink_44 (by decide) ?_
      exact ret_z (u8, u9, u10, z12, (upd g_readLong (g_readLinks).toNatClampNeg u10)) hx hb hr hlocks hK hP hD hS (Or.inr rfl) h dX8_readsLink_45
    · have h := h.2 c11
      refine lv_iconst (v := 0) hx hb dX8_readsLink_19 (by decide) ?_
      exact ret_z (u8, u9, u10, g_readLinks, g_readLong) hx hb hr hlocks hK hP hD hS (Or.inl rfl) h dX8_readsLink_20
abbrev rm_X8_readsJoint : Room := { frames := 4, cells := 0, slots := 0, locals := 85 }
theorem in_X8_readsJoint_X8 : ∀ w ∈ wsX80, w ∈ wsX8_readsJoint := fun _ h => List.mem_cons_of_mem _ (List.mem_append_right _ h)
theorem k_X8_readsJoint_f68 {s : State} {args : Array Value} (hts : ∀ w ∈ wsX8_readsJoint, w.before args s = true) : (Cond.fieldLink RX8 68 "FoldRuleModel" "readLinks" "I").before args s = true := hts _ (by decide +kernel)
theorem k_X8_readsJoint_f75 {s : State} {args : Array Value} (hts : ∀ w ∈ wsX8_readsJoint, w.before args s = true) : (Cond.fieldLink RX8 75 "FoldRuleModel" "readFolded" "I").before args s = true := hts _ (by decide +kernel)
theorem k_X8_readsJoint_f78 {s : State} {args : Array Value} (hts : ∀ w ∈ wsX8_readsJoint, w.before args s = true) : (Cond.fieldLink RX8 78 "FoldRuleModel" "readStiff" "I").before args s = true := hts _ (by decide +kernel)
theorem k_X8_readsJoint_f65 {s : State} {args : Array Value} (hts : ∀ w ∈ wsX8_readsJoint, w.before args s = true) : (Cond.fieldLink RX8 65 "FoldRuleModel" "number" "I").before args s = true := hts _ (by decide +kernel)
set_option maxHeartbeats 4000000 in
set_option maxRecDepth 100000 in
theorem c_X8_readsJoint {l : Launch} {D : va_G} {Y : ClassId × ClassId × ClassId} {q q_row q_isKept q_text q_seenFold q_seenSpan q_readLong q_marks q_isMeasured q_waysAre q_haveSpan : Nat} {g_links g_undos g_length g_seenMany : Int32} {g_trace : Int64} {g_at g_behind g_number g_readLinks g_readFolded g_readStiff g_wayMany : Int32} {g_text : Nat → Int32} {x1 : Int32} {Q : Int32 → Int32 → Int32 → Int32 → Int32 → Int32 → Prop} (h : wp_X8_readsJoint g_length g_at g_behind g_number g_readLinks g_readFolded g_readStiff g_text x1 Q) (sz : Nat) : MtI l yX8_readsJoint wsX8_readsJoint rm_X8_readsJoint [.ref q, .int x1] D Y (w_X8_readsJoint Y q q_row q_isKept q_text q_seenFold q_seenSpan q_readLong q_marks q_isMeasured q_waysAre q_haveSpan g_links g_undos g_length g_seenMany g_trace g_at g_behind g_number g_readLinks g_readFolded g_readStiff g_wayMany g_text) (fun r (u : Int32 × Int32 × Int32 × Int32 × Int32) => Q r u.1 u.2.1 u.2.2.1 u.2.2.2.1 u.2.2.2.2) (fun u : Int32 × Int32 × Int32 × Int32 × Int32 => (w_X8_readsJoint Y q q_row q_isKept q_text q_seenFold q_seenSpan q_readLong q_marks q_isMeasured q_waysAre q_haveSpan g_links g_undos g_length g_seenMany g_trace u.1 u.2.1 u.2.2.1 g_readLinks u.2.2.2.1 u.2.2.2.2 g_wayMany g_text)) sz := by
  refine ct_i (cc := cX8_readsJoint) (nL := 2) (ret := (some .boolean)) (by decide) rfl (Nat.le_of_ble_eq_true rfl) ?_ sz
  intro p e s m below meth c A ls C hK hA hP hD hS hl
  obtain ⟨⟨hx, hb, hml, hown, hts⟩, hr, hlocks, hN⟩ := id C
  have hown : s.vm.findClass RX8 = some m.cls := hown
  have hl : lv_has ls 2 [(0, .ref q), (1, .int x1)] := hl
  unfold wp_X8_readsJoint at h
  refine lv_aload_n hx hb dX8_readsJoint_0 rfl (lv_at hl 0 rfl) ?_
  refine lv_iconst (v := 0) hx hb dX8_readsJoint_1 (by decide) ?_
  refine lv_aload_n hx hb dX8_readsJoint_2 rfl (lv_at hl 0 rfl) ?_
  refine va_get (D := D) (ci := 8) (v := .int g_readLinks) (C := RX8) (T := TX8) (N := 22) hx hb hts in_X8_readsJoint_X8 hown hK hP 0 rfl rfl 13 (by decide) (k_X8_readsJoint_f68 hts) (fun _ h9 => h9) rfl dX8_readsJoint_3 ?_
  refine lv_iconst (v := 2) hx hb dX8_readsJoint_6 (by decide) ?_
  refine lv_isub hx hb dX8_readsJoint_7 ?_
  have hp : Pt (w_X8_readsJoint Y q q_row q_isKept q_text q_seenFold q_seenSpan q_readLong q_marks q_isMeasured q_waysAre q_haveSpan g_links g_undos g_length g_seenMany g_trace g_at g_behind g_number g_readLinks g_readFolded g_readStiff g_wayMany g_text) (w_X8_readsNumber Y q q_row q_isKept q_text q_seenFold q_seenSpan q_readLong q_marks q_isMeasured q_waysAre q_haveSpan g_links g_undos g_length g_seenMany g_trace g_at g_behind g_number g_readLinks g_readFolded g_readStiff g_wayMany g_text) [0, 1] := ⟨rfl, by decide +kernel⟩
  refine go_i hp hP hD hS hA (fun _ => rfl) (va_runV (As := [.int (0 : Int32), .int (g_readLinks - (2 : Int32))]) (rest := []) ⟨hx, hb, hml, hown, hts⟩ (c_X8_readsNumber h _) (cwV 2 hts gX8_readsJoint_X8_readsNumber rfl rfl rfl (by decide +kernel) ⟨Nat.le_of_ble_eq_true rfl, Nat.le_of_ble_eq_true rfl⟩) (pre_V (b := q) (q0 := 0) (ci := 8) (q := (RX8, TX8, 22)) hp hK hN hP hD rfl rfl) rfl rfl hl.1 rfl (lv_room (Nat.le_of_ble_eq_true rfl)) dX8_readsJoint_8 ⟨Nat.le_of_ble_eq_true rfl, Nat.le_of_ble_eq_true rfl⟩) (fun r12 u H locs h hP hD hS => ?_)
  obtain ⟨u13, u14, u15⟩ := u
  try dsimp only at h
  have hP : va_P D vwCl (w_X8_readsJoint Y q q_row q_isKept q_text q_seenFold q_seenSpan q_readLong q_marks q_isMeasured q_waysAre q_haveSpan g_links g_undos g_length g_seenMany g_trace u13 u14 u15 g_readLinks g_readFolded g_readStiff g_wayMany g_text) H := hP
  have hD : va_D A (w_X8_readsJoint Y q q_row q_isKept q_text q_seenFold q_seenSpan q_readLong q_marks q_isMeasured q_waysAre q_haveSpan g_links g_undos g_length g_seenMany g_trace u13 u14 u15 g_readLinks g_readFolded g_readStiff g_wayMany g_text) := hD
  refine lv_if_eq (tgt := 33) hx hb dX8_readsJoint_11 (by decide) (fun c16 => ?_) (fun c16 => ?_)
  · have h := h.1 c16
    refine lv_iconst (v := 0) hx hb dX8_readsJoint_33 (by decide) ?_
    exact ret_z (u13, u14, u15, g_readFolded, g_readStiff) hx hb hr hlocks hK hP hD hS (Or.inl rfl) h dX8_readsJoint_34
  · have h := h.2 c16
    refine lv_aload_n hx hb dX8_readsJoint_14 rfl (lv_at hl 0 rfl) ?_
    refine va_get (D := D) (ci := 8) (v := .int g_readFolded) (C := RX8) (T := TX8) (N := 22) hx hb hts in_X8_readsJoint_X8 hown hK hP 0 rfl rfl 15 (by decide) (k_X8_readsJoint_f75 hts) (fun _ h9 => h9) rfl dX8_readsJoint_15 ?_
    refine lv_aload_n hx hb dX8_readsJoint_18 rfl (lv_at hl 0 rfl) ?_
    refine va_get (D := D) (ci := 8) (v := .int g_readStiff) (C := RX8) (T := TX8) (N := 22) hx hb hts in_X8_readsJoint_X8 hown hK hP 0 rfl rfl 16 (by decide) (k_X8_readsJoint_f78 hts) (fun _ h9 => h9) rfl dX8_readsJoint_19 ?_
    refine lv_ior hx hb dX8_readsJoint_22 ?_
    refine lv_aload_n hx hb dX8_readsJoint_23 rfl (lv_at hl 0 rfl) ?_
    refine va_get (D := D) (ci := 8) (v := .int u15) (C := RX8) (T := TX8) (N := 22) hx hb hts in_X8_readsJoint_X8 hown hK hP 0 rfl rfl 12 (by decide) (k_X8_readsJoint_f65 hts) (fun _ h9 => h9) rfl dX8_readsJoint_24 ?_
    have hp : Pt (w_X8_readsJoint Y q q_row q_isKept q_text q_seenFold q_seenSpan q_readLong q_marks q_isMeasured q_waysAre q_haveSpan g_links g_undos g_length g_seenMany g_trace u13 u14 u15 g_readLinks g_readFolded g_readStiff g_wayMany g_text) (w_X8_has Y ) [] := ⟨rfl, by decide +kernel⟩
    refine go_i hp hP hD hS hA (fun _ => rfl) (va_runS (As := [.int (g_readFolded ||| g_readStiff), .int u15]) (rest := []) ⟨hx, hb, hml, hown, hts⟩ (c_X8_has h _) (va_cwS 2 hts gX8_readsJoint_X8_has rfl rfl rfl (by decide +kernel) ⟨Nat.le_of_ble_eq_true rfl, Nat.le_of_ble_eq_true rfl⟩) (pre_S hp hK hN hP hD) rfl rfl hl.1 rfl (lv_room (Nat.le_of_ble_eq_true rfl)) dX8_readsJoint_27 ⟨Nat.le_of_ble_eq_true rfl, Nat.le_of_ble_eq_true rfl⟩) (fun r17 u H locs h hP hD hS => ?_)
    try dsimp only at h
    have hP : va_P D vwCl (w_X8_readsJoint Y q q_row q_isKept q_text q_seenFold q_seenSpan q_readLong q_marks q_isMeasured q_waysAre q_haveSpan g_links g_undos g_length g_seenMany g_trace u13 u14 u15 g_readLinks g_readFolded g_readStiff g_wayMany g_text) H := hP
    have hD : va_D A (w_X8_readsJoint Y q q_row q_isKept q_text q_seenFold q_seenSpan q_readLong q_marks q_isMeasured q_waysAre q_haveSpan g_links g_undos g_length g_seenMany g_trace u13 u14 u15 g_readLinks g_readFolded g_readStiff g_wayMany g_text) := hD
    refine lv_if_eq (tgt := 35) hx hb dX8_readsJoint_30 (by decide) (fun c18 => ?_) (fun c18 => ?_)
    · have h := h.1 c18
      refine lv_aload_n hx hb dX8_readsJoint_35 rfl (lv_at hl 0 rfl) ?_
      refine lv_dup hx hb dX8_readsJoint_36 rfl ?_
      refine va_get (D := D) (ci := 8) (v := .int g_readFolded) (C := RX8) (T := TX8) (N := 22) hx hb hts in_X8_readsJoint_X8 hown hK hP 0 rfl rfl 15 (by decide) (k_X8_readsJoint_f75 hts) (fun _ h9 => h9) rfl dX8_readsJoint_37 ?_
      refine lv_iload_n hx hb dX8_readsJoint_40 rfl (lv_at hl 1 rfl) ?_
      refine lv_if_eq (tgt := 53) hx hb dX8_readsJoint_41 (by decide) (fun c19 => ?_) (fun c19 => ?_)
      · have h := h.1 c19
        refine lv_iconst (v := 0) hx hb dX8_readsJoint_53 (by decide) ?_
        refine lv_ior hx hb dX8_readsJoint_54 ?_
        refine lv_topi (fun z20 ez20 => ?_)
        have h := h z20 ez20
        refine va_put (D := D) (ci := 8) (v := .int z20) (ty := .int) (C := RX8) (T := TX8) (N := 22) hx hb hts in_X8_readsJoint_X8 tyX8 tyX8_ok nmX8 hown hK hP hD hS 0 rfl rfl 15 (by decide) (k_X8_readsJoint_f75 hts) (fun _ h9 => h9) rfl (by decide +kernel) rfl rfl (Nat.le_of_ble_eq_true rfl) dX8_readsJoint_55 (fun H locs hP hD hS => ?_)
        have hP : va_P D vwCl (w_X8_readsJoint Y q q_row q_isKept q_text q_seenFold q_seenSpan q_readLong q_marks q_isMeasured q_waysAre q_haveSpan g_links g_undos g_length g_seenMany g_trace u13 u14 u15 g_readLinks z20 g_readStiff g_wayMany g_text) H := hP
        have hD : va_D A (w_X8_readsJoint Y q q_row q_isKept q_text q_seenFold q_seenSpan q_readLong q_marks q_isMeasured q_waysAre q_haveSpan g_links g_undos g_length g_seenMany g_trace u13 u14 u15 g_readLinks z20 g_readStiff g_wayMany g_text) := hD
        refine lv_aload_n hx hb dX8_readsJoint_58 rfl (lv_at hl 0 rfl) ?_
        refine lv_dup hx hb dX8_readsJoint_59 rfl ?_
        refine va_get (D := D) (ci := 8) (v := .int g_readStiff) (C := RX8) (T := TX8) (N := 22) hx hb hts in_X8_readsJoint_X8 hown hK hP 0 rfl rfl 16 (by decide) (k_X8_readsJoint_f78 hts) (fun _ h9 => h9) rfl dX8_readsJoint_60 ?_
        refine lv_iload_n hx hb dX8_readsJoint_63 rfl (lv_at hl 1 rfl) ?_
        refine lv_if_eq (tgt := 71) hx hb dX8_readsJoint_64 (by decide) (fun c21 => ?_) (fun c21 => ?_)
        · have h := h.1 c21
          refine lv_iconst (v := 1) hx hb dX8_readsJoint_71 (by decide) ?_
          refine lv_aload_n hx hb dX8_readsJoint_72 rfl (lv_at hl 0 rfl) ?_
          refine va_get (D := D) (ci := 8) (v := .int u15) (C := RX8) (T := TX8) (N := 22) hx hb hts in_X8_readsJoint_X8 hown hK hP 0 rfl rfl 12 (by decide) (k_X8_readsJoint_f65 hts) (fun _ h9 => h9) rfl dX8_readsJoint_73 ?_
          refine lv_ishl hx hb dX8_readsJoint_76 ?_
          refine lv_ior hx hb dX8_readsJoint_77 ?_
          refine lv_topi (fun z22 ez22 => ?_)
          have h := h z22 ez22
          refine va_put (D := D) (ci := 8) (v := .int z22) (ty := .int) (C := RX8) (T := TX8) (N := 22) hx hb hts in_X8_readsJoint_X8 tyX8 tyX8_ok nmX8 hown hK hP hD hS 0 rfl rfl 16 (by decide) (k_X8_readsJoint_f78 hts) (fun _ h9 => h9) rfl (by decide +kernel) rfl rfl (Nat.le_of_ble_eq_true rfl) dX8_readsJoint_78 (fun H locs hP hD hS => ?_)
          have hP : va_P D vwCl (w_X8_readsJoint Y q q_row q_isKept q_text q_seenFold q_seenSpan q_readLong q_marks q_isMeasured q_waysAre q_haveSpan g_links g_undos g_length g_seenMany g_trace u13 u14 u15 g_readLinks z20 z22 g_wayMany g_text) H := hP
          have hD : va_D A (w_X8_readsJoint Y q q_row q_isKept q_text q_seenFold q_seenSpan q_readLong q_marks q_isMeasured q_waysAre q_haveSpan g_links g_undos g_length g_seenMany g_trace u13 u14 u15 g_readLinks z20 z22 g_wayMany g_text) := hD
          refine lv_iconst (v := 1) hx hb dX8_readsJoint_81 (by decide) ?_
          exact ret_z (u13, u14, u15, z20, z22) hx hb hr hlocks hK hP hD hS (Or.inr rfl) h dX8_readsJoint_82
        · have h := h.2 c21
          refine lv_iconst (v := 0) hx hb dX8_readsJoint_67 (by decide) ?_
          refine lv_goto (tgt := 77) hx hb dX8_readsJoint_68 (by decide) ?_
          refine lv_ior hx hb dX8_readsJoint_77 ?_
          refine lv_topi (fun z23 ez23 => ?_)
          have h := h z23 ez23
          refine va_put (D := D) (ci := 8) (v := .int z23) (ty := .int) (C := RX8) (T := TX8) (N := 22) hx hb hts in_X8_readsJoint_X8 tyX8 tyX8_ok nmX8 hown hK hP hD hS 0 rfl rfl 16 (by decide) (k_X8_readsJoint_f78 hts) (fun _ h9 => h9) rfl (by decide +kernel) rfl rfl (Nat.le_of_ble_eq_true rfl) dX8_readsJoint_78 (fun H locs hP hD hS => ?_)
          have hP : va_P D vwCl (w_X8_readsJoint Y q q_row q_isKept q_text q_seenFold q_seenSpan q_readLong q_marks q_isMeasured q_waysAre q_haveSpan g_links g_undos g_length g_seenMany g_trace u13 u14 u15 g_readLinks z20 z23 g_wayMany g_text) H := hP
          have hD : va_D A (w_X8_readsJoint Y q q_row q_isKept q_text q_seenFold q_seenSpan q_readLong q_marks q_isMeasured q_waysAre q_haveSpan g_links g_undos g_length g_seenMany g_trace u13 u14 u15 g_readLinks z20 z23 g_wayMany g_text) := hD
          refine lv_iconst (v := 1) hx hb dX8_readsJoint_81 (by decide) ?_
          exact ret_z (u13, u14, u15, z20, z23) hx hb hr hlocks hK hP hD hS (Or.inr rfl) h dX8_readsJoint_82
      · have h := h.2 c19
        refine lv_iconst (v := 1) hx hb dX8_readsJoint_44 (by decide) ?_
        refine lv_aload_n hx hb dX8_readsJoint_45 rfl (lv_at hl 0 rfl) ?_
        refine va_get (D := D) (ci := 8) (v := .int u15) (C := RX8) (T := TX8) (N := 22) hx hb hts in_X8_readsJoint_X8 hown hK hP 0 rfl rfl 12 (by decide) (k_X8_readsJoint_f65 hts) (fun _ h9 => h9) rfl dX8_readsJoint_46 ?_
        refine lv_ishl hx hb dX8_readsJoint_49 ?_
        refine lv_goto (tgt := 54) hx hb dX8_readsJoint_50 (by decide) ?_
        refine lv_ior hx hb dX8_readsJoint_54 ?_
        refine lv_topi (fun z24 ez24 => ?_)
        have h := h z24 ez24
        refine va_put (D := D) (ci := 8) (v := .int z24) (ty := .int) (C := RX8) (T := TX8) (N := 22) hx hb hts in_X8_readsJoint_X8 tyX8 tyX8_ok nmX8 hown hK hP hD hS 0 rfl rfl 15 (by decide) (k_X8_readsJoint_f75 hts) (fun _ h9 => h9) rfl (by decide +kernel) rfl rfl (Nat.le_of_ble_eq_true rfl) dX8_readsJoint_55 (fun H locs hP hD hS => ?_)
        have hP : va_P D vwCl (w_X8_readsJoint Y q q_row q_isKept q_text q_seenFold q_seenSpan q_readLong q_marks q_isMeasured q_waysAre q_haveSpan g_links g_undos g_length g_seenMany g_trace u13 u14 u15 g_readLinks z24 g_readStiff g_wayMany g_text) H := hP
        have hD : va_D A (w_X8_readsJoint Y q q_row q_isKept q_text q_seenFold q_seenSpan q_readLong q_marks q_isMeasured q_waysAre q_haveSpan g_links g_undos g_length g_seenMany g_trace u13 u14 u15 g_readLinks z24 g_readStiff g_wayMany g_text) := hD
        refine lv_aload_n hx hb dX8_readsJoint_58 rfl (lv_at hl 0 rfl) ?_
        refine lv_dup hx hb dX8_readsJoint_59 rfl ?_
        refine va_get (D := D) (ci := 8) (v := .int g_readStiff) (C := RX8) (T := TX8) (N := 22) hx hb hts in_X8_readsJoint_X8 hown hK hP 0 rfl rfl 16 (by decide) (k_X8_readsJoint_f78 hts) (fun _ h9 => h9) rfl dX8_readsJoint_60 ?_
        refine lv_iload_n hx hb dX8_readsJoint_63 rfl (lv_at hl 1 rfl) ?_
        refine lv_if_eq (tgt := 71) hx hb dX8_readsJoint_64 (by decide) (fun c25 => ?_) (fun c25 => ?_)
        · have h := h.1 c25
          refine lv_iconst (v := 1) hx hb dX8_readsJoint_71 (by decide) ?_
          refine lv_aload_n hx hb dX8_readsJoint_72 rfl (lv_at hl 0 rfl) ?_
          refine va_get (D := D) (ci := 8) (v := .int u15) (C := RX8) (T := TX8) (N := 22) hx hb hts in_X8_readsJoint_X8 hown hK hP 0 rfl rfl 12 (by decide) (k_X8_readsJoint_f65 hts) (fun _ h9 => h9) rfl dX8_readsJoint_73 ?_
          refine lv_ishl hx hb dX8_readsJoint_76 ?_
          refine lv_ior hx hb dX8_readsJoint_77 ?_
          refine lv_topi (fun z26 ez26 => ?_)
          have h := h z26 ez26
          refine va_put (D := D) (ci := 8) (v := .int z26) (ty := .int) (C := RX8) (T := TX8) (N := 22) hx hb hts in_X8_readsJoint_X8 tyX8 tyX8_ok nmX8 hown hK hP hD hS 0 rfl rfl 16 (by decide) (k_X8_readsJoint_f78 hts) (fun _ h9 => h9) rfl (by decide +kernel) rfl rfl (Nat.le_of_ble_eq_true rfl) dX8_readsJoint_78 (fun H locs hP hD hS => ?_)
          have hP : va_P D vwCl (w_X8_readsJoint Y q q_row q_isKept q_text q_seenFold q_seenSpan q_readLong q_marks q_isMeasured q_waysAre q_haveSpan g_links g_undos g_length g_seenMany g_trace u13 u14 u15 g_readLinks z24 z26 g_wayMany g_text) H := hP
          have hD : va_D A (w_X8_readsJoint Y q q_row q_isKept q_text q_seenFold q_seenSpan q_readLong q_marks q_isMeasured q_waysAre q_haveSpan g_links g_undos g_length g_seenMany g_trace u13 u14 u15 g_readLinks z24 z26 g_wayMany g_text) := hD
          refine lv_iconst (v := 1) hx hb dX8_readsJoint_81 (by decide) ?_
          exact ret_z (u13, u14, u15, z24, z26) hx hb hr hlocks hK hP hD hS (Or.inr rfl) h dX8_readsJoint_82
        · have h := h.2 c25
          refine lv_iconst (v := 0) hx hb dX8_readsJoint_67 (by decide) ?_
          refine lv_goto (tgt := 77) hx hb dX8_readsJoint_68 (by decide) ?_
          refine lv_ior hx hb dX8_readsJoint_77 ?_
          refine lv_topi (fun z27 ez27 => ?_)
          have h := h z27 ez27
          refine va_put (D := D) (ci := 8) (v := .int z27) (ty := .int) (C := RX8) (T := TX8) (N := 22) hx hb hts in_X8_readsJoint_X8 tyX8 tyX8_ok nmX8 hown hK hP hD hS 0 rfl rfl 16 (by decide) (k_X8_readsJoint_f78 hts) (fun _ h9 => h9) rfl (by decide +kernel) rfl rfl (Nat.le_of_ble_eq_true rfl) dX8_readsJoint_78 (fun H locs hP hD hS => ?_)
          have hP : va_P D vwCl (w_X8_readsJoint Y q q_row q_isKept q_text q_seenFold q_seenSpan q_readLong q_marks q_isMeasured q_waysAre q_haveSpan g_links g_undos g_length g_seenMany g_trace u13 u14 u15 g_readLinks z24 z27 g_wayMany g_text) H := hP
          have hD : va_D A (w_X8_readsJoint Y q q_row q_isKept q_text q_seenFold q_seenSpan q_readLong q_marks q_isMeasured q_waysAre q_haveSpan g_links g_undos g_length g_seenMany g_trace u13 u14 u15 g_readLinks z24 z27 g_wayMany g_text) := hD
          refine lv_iconst (v := 1) hx hb dX8_readsJoint_81 (by decide) ?_
          exact ret_z (u13, u14, u15, z24, z27) hx hb hr hlocks hK hP hD hS (Or.inr rfl) h dX8_readsJoint_82
    · have h := h.2 c18
      refine lv_iconst (v := 0) hx hb dX8_readsJoint_33 (by decide) ?_
      exact ret_z (u13, u14, u15, g_readFolded, g_readStiff) hx hb hr hlocks hK hP hD hS (Or.inl rfl) h dX8_readsJoint_34
abbrev rm_X8_readsItem : Room := { frames := 5, cells := 0, slots := 0, locals := 106 }
set_option maxHeartbeats 4000000 in
set_option maxRecDepth 100000 in
theorem c_X8_readsItem {l : Launch} {D : va_G} {Y : ClassId × ClassId × ClassId} {q q_row q_isKept q_text q_seenFold q_seenSpan q_readLong q_marks q_isMeasured q_waysAre q_haveSpan : Nat} {g_links g_undos g_length g_seenMany : Int32} {g_trace : Int64} {g_at g_behind g_number g_readLinks g_readFolded g_readStiff g_wayMany : Int32} {g_text g_readLong : Nat → Int32} {Q : Int32 → Int32 → Int32 → Int32 → Int32 → Int32 → Int32 → (Nat → Int32) → Prop} (h : wp_X8_readsItem g_length g_at g_behind g_number g_readLinks g_readFolded g_readStiff g_text g_readLong Q) (sz : Nat) : MtI l yX8_readsItem wsX8_readsItem rm_X8_readsItem [.ref q] D Y (w_X8_readsItem Y q q_row q_isKept q_text q_seenFold q_seenSpan q_readLong q_marks q_isMeasured q_waysAre q_haveSpan g_links g_undos g_length g_seenMany g_trace g_at g_behind g_number g_readLinks g_readFolded g_readStiff g_wayMany g_text g_readLong) (fun r (u : Int32 × Int32 × Int32 × Int32 × Int32 × Int32 × (Nat → Int32)) => Q r u.1 u.2.1 u.2.2.1 u.2.2.2.1 u.2.2.2.2.1 u.2.2.2.2.2.1 u.2.2.2.2.2.2) (fun u : Int32 × Int32 × Int32 × Int32 × Int32 × Int32 × (Nat → Int32) => (w_X8_readsItem Y q q_row q_isKept q_text q_seenFold q_seenSpan q_readLong q_marks q_isMeasured q_waysAre q_haveSpan g_links g_undos g_length g_seenMany g_trace u.1 u.2.1 u.2.2.1 u.2.2.2.1 u.2.2.2.2.1 u.2.2.2.2.2.1 g_wayMany g_text u.2.2.2.2.2.2)) sz := by
  refine ct_i (cc := cX8_readsItem) (nL := 2) (ret := (some .boolean)) (by decide) rfl (Nat.le_of_ble_eq_true rfl) ?_ sz
  intro p e s m below meth c A ls C hK hA hP hD hS hl
  obtain ⟨⟨hx, hb, hml, hown, hts⟩, hr, hlocks, hN⟩ := id C
  have hown : s.vm.findClass RX8 = some m.cls := hown
  have hl : lv_has ls 2 [(0, .ref q)] := hl
  unfold wp_X8_readsItem at h
  refine lv_aload_n hx hb dX8_readsItem_0 rfl (lv_at hl 0 rfl) ?_
  refine lv_bipush (v := 107) hx hb dX8_readsItem_1 (by decide) ?_
  have hp : Pt (w_X8_readsItem Y q q_row q_isKept q_text q_seenFold q_seenSpan q_readLong q_marks q_isMeasured q_waysAre q_haveSpan g_links g_undos g_length g_seenMany g_trace g_at g_behind g_number g_readLinks g_readFolded g_readStiff g_wayMany g_text g_readLong) (w_X8_isSign Y q q_row q_isKept q_text q_seenFold q_seenSpan q_readLong q_marks q_isMeasured q_waysAre q_haveSpan g_links g_undos g_length g_seenMany g_trace g_at g_behind g_number g_readLinks g_readFolded g_readStiff g_wayMany g_text) [0, 1] := ⟨rfl, by decide +kernel⟩
  refine go_i hp hP hD hS hA (fun _ => rfl) (va_runV (As := [.int (107 : Int32)]) (rest := []) ⟨hx, hb, hml, hown, hts⟩ (c_X8_isSign h _) (cwV 1 hts gX8_readsItem_X8_isSign rfl rfl rfl (by decide +kernel) ⟨Nat.le_of_ble_eq_true rfl, Nat.le_of_ble_eq_true rfl⟩) (pre_V (b := q) (q0 := 0) (ci := 8) (q := (RX8, TX8, 22)) hp hK hN hP hD rfl rfl) rfl rfl hl.1 rfl (lv_room (Nat.le_of_ble_eq_true rfl)) dX8_readsItem_3 ⟨Nat.le_of_ble_eq_true rfl, Nat.le_of_ble_eq_true rfl⟩) (fun r37 u H locs h hP hD hS => ?_)
  try dsimp only at h
  have hP : va_P D vwCl (w_X8_readsItem Y q q_row q_isKept q_text q_seenFold q_seenSpan q_readLong q_marks q_isMeasured q_waysAre q_haveSpan g_links g_undos g_length g_seenMany g_trace g_at g_behind g_number g_readLinks g_readFolded g_readStiff g_wayMany g_text g_readLong) H := hP
  have hD : va_D A (w_X8_readsItem Y q q_row q_isKept q_text q_seenFold q_seenSpan q_readLong q_marks q_isMeasured q_waysAre q_haveSpan g_links g_undos g_length g_seenMany g_trace g_at g_behind g_number g_readLinks g_readFolded g_readStiff g_wayMany g_text g_readLong) := hD
  refine lv_if_eq (tgt := 16) hx hb dX8_readsItem_6 (by decide) (fun c38 => ?_) (fun c38 => ?_)
  · have h := h.1 c38
    refine lv_aload_n hx hb dX8_readsItem_16 rfl (lv_at hl 0 rfl) ?_
    refine lv_bipush (v := 102) hx hb dX8_readsItem_17 (by decide) ?_
    have hp : Pt (w_X8_readsItem Y q q_row q_isKept q_text q_seenFold q_seenSpan q_readLong q_marks q_isMeasured q_waysAre q_haveSpan g_links g_undos g_length g_seenMany g_trace g_at g_behind g_number g_readLinks g_readFolded g_readStiff g_wayMany g_text g_readLong) (w_X8_isSign Y q q_row q_isKept q_text q_seenFold q_seenSpan q_readLong q_marks q_isMeasured q_waysAre q_haveSpan g_links g_undos g_length g_seenMany g_trace g_at g_behind g_number g_readLinks g_readFolded g_readStiff g_wayMany g_text) [0, 1] := ⟨rfl, by decide +kernel⟩
    refine go_i hp hP hD hS hA (fun _ => rfl) (va_runV (As := [.int (102 : Int32)]) (rest := []) ⟨hx, hb, hml, hown, hts⟩ (c_X8_isSign h _) (cwV 1 hts gX8_readsItem_X8_isSign rfl rfl rfl (by decide +kernel) ⟨Nat.le_of_ble_eq_true rfl, Nat.le_of_ble_eq_true rfl⟩) (pre_V (b := q) (q0 := 0) (ci := 8) (q := (RX8, TX8, 22)) hp hK hN hP hD rfl rfl) rfl rfl hl.1 rfl (lv_room (Nat.le_of_ble_eq_true rfl)) dX8_readsItem_19 ⟨Nat.le_of_ble_eq_true rfl, Nat.le_of_ble_eq_true rfl⟩) (fun r39 u H locs h hP hD hS => ?_)
    try dsimp only at h
    have hP : va_P D vwCl (w_X8_readsItem Y q q_row q_isKept q_text q_seenFold q_seenSpan q_readLong q_marks q_isMeasured q_waysAre q_haveSpan g_links g_undos g_length g_seenMany g_trace g_at g_behind g_number g_readLinks g_readFolded g_readStiff g_wayMany g_text g_readLong) H := hP
    have hD : va_D A (w_X8_readsItem Y q q_row q_isKept q_text q_seenFold q_seenSpan q_readLong q_marks q_isMeasured q_waysAre q_haveSpan g_links g_undos g_length g_seenMany g_trace g_at g_behind g_number g_readLinks g_readFolded g_readStiff g_wayMany g_text g_readLong) := hD
    refine lv_if_eq (tgt := 33) hx hb dX8_readsItem_22 (by decide) (fun c40 => ?_) (fun c40 => ?_)
    · have h := h.1 c40
      refine lv_aload_n hx hb dX8_readsItem_33 rfl (lv_at hl 0 rfl) ?_
      refine lv_bipush (v := 120) hx hb dX8_readsItem_34 (by decide) ?_
      have hp : Pt (w_X8_readsItem Y q q_row q_isKept q_text q_seenFold q_seenSpan q_readLong q_marks q_isMeasured q_waysAre q_haveSpan g_links g_undos g_length g_seenMany g_trace g_at g_behind g_number g_readLinks g_readFolded g_readStiff g_wayMany g_text g_readLong) (w_X8_isSign Y q q_row q_isKept q_text q_seenFold q_seenSpan q_readLong q_marks q_isMeasured q_waysAre q_haveSpan g_links g_undos g_length g_seenMany g_trace g_at g_behind g_number g_readLinks g_readFolded g_readStiff g_wayMany g_text) [0, 1] := ⟨rfl, by decide +kernel⟩
      refine go_i hp hP hD hS hA (fun _ => rfl) (va_runV (As := [.int (120 : Int32)]) (rest := []) ⟨hx, hb, hml, hown, hts⟩ (c_X8_isSign h _) (cwV 1 hts gX8_readsItem_X8_isSign rfl rfl rfl (by decide +kernel) ⟨Nat.le_of_ble_eq_true rfl, Nat.le_of_ble_eq_true rfl⟩) (pre_V (b := q) (q0 := 0) (ci := 8) (q := (RX8, TX8, 22)) hp hK hN hP hD rfl rfl) rfl rfl hl.1 rfl (lv_room (Nat.le_of_ble_eq_true rfl)) dX8_readsItem_36 ⟨Nat.le_of_ble_eq_true rfl, Nat.le_of_ble_eq_true rfl⟩) (fun r41 u H locs h hP hD hS => ?_)
      try dsimp only at h
      have hP : va_P D vwCl (w_X8_readsItem Y q q_row q_isKept q_text q_seenFold q_seenSpan q_readLong q_marks q_isMeasured q_waysAre q_haveSpan g_links g_undos g_length g_seenMany g_trace g_at g_behind g_number g_readLinks g_readFolded g_readStiff g_wayMany g_text g_readLong) H := hP
      have hD : va_D A (w_X8_readsItem Y q q_row q_isKept q_text q_seenFold q_seenSpan q_readLong q_marks q_isMeasured q_waysAre q_haveSpan g_links g_undos g_length g_seenMany g_trace g_at g_behind g_number g_readLinks g_readFolded g_readStiff g_wayMany g_text g_readLong) := hD
      refine lv_if_eq (tgt := 54) hx hb dX8_readsItem_39 (by decide) (fun c42 => ?_) (fun c42 => ?_)
      · have h := h.1 c42
        refine lv_iconst (v := 0) hx hb dX8_readsItem_54 (by decide) ?_
        refine lv_istore_n (lv' := [(1, .int (0 : Int32)), (0, .ref q)]) hx hb dX8_readsItem_55 rfl hl (by decide) rfl (fun ls hl => ?_)
        refine lv_iload_n hx hb dX8_readsItem_56 rfl (lv_at hl 0 rfl) ?_
        refine lv_if_eq (tgt := 71) hx hb dX8_readsItem_57 (by decide) (fun c43 => ?_) (fun c43 => ?_)
        · have h := h.1 c43
          refine lv_iload_n hx hb dX8_readsItem_71 rfl (lv_at hl 0 rfl) ?_
          exact ret_z (g_at, g_behind, g_number, g_readLinks, g_readFolded, g_readStiff, g_readLong) hx hb hr hlocks hK hP hD hS (Or.inl rfl) h dX8_readsItem_72
        · have h := h.2 c43
          refine lv_aload_n hx hb dX8_readsItem_60 rfl (lv_at hl 1 rfl) ?_
          have hp : Pt (w_X8_readsItem Y q q_row q_isKept q_text q_seenFold q_seenSpan q_readLong q_marks q_isMeasured q_waysAre q_haveSpan g_links g_undos g_length g_seenMany g_trace g_at g_behind g_number g_readLinks g_readFolded g_readStiff g_wayMany g_text g_readLong) (w_X8_nextToken Y q q_row q_isKept q_text q_seenFold q_seenSpan q_readLong q_marks q_isMeasured q_waysAre q_haveSpan g_links g_undos g_length g_seenMany g_trace g_at g_behind g_number g_readLinks g_readFolded g_readStiff g_wayMany g_text) [0, 1] := ⟨rfl, by decide +kernel⟩
          refine go_v hp hP hD hS hA (fun _ => rfl) (va_runV (As := []) (rest := []) ⟨hx, hb, hml, hown, hts⟩ (c_X8_nextToken h _) (cwV 0 hts gX8_readsItem_X8_nextToken rfl rfl rfl (by decide +kernel) ⟨Nat.le_of_ble_eq_true rfl, Nat.le_of_ble_eq_true rfl⟩) (pre_V (b := q) (q0 := 0) (ci := 8) (q := (RX8, TX8, 22)) hp hK hN hP hD rfl rfl) rfl rfl hl.1 rfl (lv_room (Nat.le_of_ble_eq_true rfl)) dX8_readsItem_61 ⟨Nat.le_of_ble_eq_true rfl, Nat.le_of_ble_eq_true rfl⟩) (fun u H locs h hP hD hS => ?_)
          obtain ⟨u45, u46⟩ := u
          try dsimp only at h
          have hP : va_P D vwCl (w_X8_readsItem Y q q_row q_isKept q_text q_seenFold q_seenSpan q_readLong q_marks q_isMeasured q_waysAre q_haveSpan g_links g_undos g_length g_seenMany g_trace u45 u46 g_number g_readLinks g_readFolded g_readStiff g_wayMany g_text g_readLong) H := hP
          have hD : va_D A (w_X8_readsItem Y q q_row q_isKept q_text q_seenFold q_seenSpan q_readLong q_marks q_isMeasured q_waysAre q_haveSpan g_links g_undos g_length g_seenMany g_trace u45 u46 g_number g_readLinks g_readFolded g_readStiff g_wayMany g_text g_readLong) := hD
          refine lv_aload_n hx hb dX8_readsItem_64 rfl (lv_at hl 1 rfl) ?_
          refine lv_bipush (v := 59) hx hb dX8_readsItem_65 (by decide) ?_
          have hp : Pt (w_X8_readsItem Y q q_row q_isKept q_text q_seenFold q_seenSpan q_readLong q_marks q_isMeasured q_waysAre q_haveSpan g_links g_undos g_length g_seenMany g_trace u45 u46 g_number g_readLinks g_readFolded g_readStiff g_wayMany g_text g_readLong) (w_X8_isSign Y q q_row q_isKept q_text q_seenFold q_seenSpan q_readLong q_marks q_isMeasured q_waysAre q_haveSpan g_links g_undos g_length g_seenMany g_trace u45 u46 g_number g_readLinks g_readFolded g_readStiff g_wayMany g_text) [0, 1] := ⟨rfl, by decide +kernel⟩
          refine go_i hp hP hD hS hA (fun _ => rfl) (va_runV (As := [.int (59 : Int32)]) (rest := []) ⟨hx, hb, hml, hown, hts⟩ (c_X8_isSign h _) (cwV 1 hts gX8_readsItem_X8_isSign rfl rfl rfl (by decide +kernel) ⟨Nat.le_of_ble_eq_true rfl, Nat.le_of_ble_eq_true rfl⟩) (pre_V (b := q) (q0 := 0) (ci := 8) (q := (RX8, TX8, 22)) hp hK hN hP hD rfl rfl) rfl rfl hl.1 rfl (lv_room (Nat.le_of_ble_eq_true rfl)) dX8_readsItem_67 ⟨Nat.le_of_ble_eq_true rfl, Nat.le_of_ble_eq_true rfl⟩) (fun r47 u H locs h hP hD hS => ?_)
          try dsimp only at h
          have hP : va_P D vwCl (w_X8_readsItem Y q q_row q_isKept q_text q_seenFold q_seenSpan q_readLong q_marks q_isMeasured q_waysAre q_haveSpan g_links g_undos g_length g_seenMany g_trace u45 u46 g_number g_readLinks g_readFolded g_readStiff g_wayMany g_text g_readLong) H := hP
          have hD : va_D A (w_X8_readsItem Y q q_row q_isKept q_text q_seenFold q_seenSpan q_readLong q_marks q_isMeasured q_waysAre q_haveSpan g_links g_undos g_length g_seenMany g_trace u45 u46 g_number g_readLinks g_readFolded g_readStiff g_wayMany g_text g_readLong) := hD
          refine lv_istore_n (lv' := [(1, .int r47), (0, .ref q)]) hx hb dX8_readsItem_70 rfl hl (by decide) rfl (fun ls hl => ?_)
          refine lv_iload_n hx hb dX8_readsItem_71 rfl (lv_at hl 0 rfl) ?_
          exact ret_z (u45, u46, g_number, g_readLinks, g_readFolded, g_readStiff, g_readLong) hx hb hr hlocks hK hP hD hS h.1 h.2 dX8_readsItem_72
      · have h := h.2 c42
        refine lv_aload_n hx hb dX8_readsItem_42 rfl (lv_at hl 0 rfl) ?_
        refine lv_iconst (v := 0) hx hb dX8_readsItem_43 (by decide) ?_
        have hp : Pt (w_X8_readsItem Y q q_row q_isKept q_text q_seenFold q_seenSpan q_readLong q_marks q_isMeasured q_waysAre q_haveSpan g_links g_undos g_length g_seenMany g_trace g_at g_behind g_number g_readLinks g_readFolded g_readStiff g_wayMany g_text g_readLong) (w_X8_readsJoint Y q q_row q_isKept q_text q_seenFold q_seenSpan q_readLong q_marks q_isMeasured q_waysAre q_haveSpan g_links g_undos g_length g_seenMany g_trace g_at g_behind g_number g_readLinks g_readFolded g_readStiff g_wayMany g_text) [0, 1] := ⟨rfl, by decide +kernel⟩
        refine go_i hp hP hD hS hA (fun _ => rfl) (va_runV (As := [.int (0 : Int32)]) (rest := []) ⟨hx, hb, hml, hown, hts⟩ (c_X8_readsJoint h _) (cwV 1 hts gX8_readsItem_X8_readsJoint rfl rfl rfl (by decide +kernel) ⟨Nat.le_of_ble_eq_true rfl, Nat.le_of_ble_eq_true rfl⟩) (pre_V (b := q) (q0 := 0) (ci := 8) (q := (RX8, TX8, 22)) hp hK hN hP hD rfl rfl) rfl rfl hl.1 rfl (lv_room (Nat.le_of_ble_eq_true rfl)) dX8_readsItem_44 ⟨Nat.le_of_ble_eq_true rfl, Nat.le_of_ble_eq_true rfl⟩) (fun r48 u H locs h hP hD hS => ?_)
        obtain ⟨u49, u50, u51, u52, u53⟩ := u
        try dsimp only at h
        have hP : va_P D vwCl (w_X8_readsItem Y q q_row q_isKept q_text q_seenFold q_seenSpan q_readLong q_marks q_isMeasured q_waysAre q_haveSpan g_links g_undos g_length g_seenMany g_trace u49 u50 u51 g_readLinks u52 u53 g_wayMany g_text g_readLong) H := hP
        have hD : va_D A (w_X8_readsItem Y q q_row q_isKept q_text q_seenFold q_seenSpan q_readLong q_marks q_isMeasured q_waysAre q_haveSpan g_links g_undos g_length g_seenMany g_trace u49 u50 u51 g_readLinks u52 u53 g_wayMany g_text g_readLong) := hD
        refine lv_if_eq (tgt := 54) hx hb dX8_readsItem_47 (by decide) (fun c54 => ?_) (fun c54 => ?_)
        · have h := h.1 c54
          refine lv_iconst (v := 0) hx hb dX8_readsItem_54 (by decide) ?_
          refine lv_istore_n (lv' := [(1, .int (0 : Int32)), (0, .ref q)]) hx hb dX8_readsItem_55 rfl hl (by decide) rfl (fun ls hl => ?_)
          refine lv_iload_n hx hb dX8_readsItem_56 rfl (lv_at hl 0 rfl) ?_
          refine lv_if_eq (tgt := 71) hx hb dX8_readsItem_57 (by decide) (fun c55 => ?_) (fun c55 => ?_)
          · have h := h.1 c55
            refine lv_iload_n hx hb dX8_readsItem_71 rfl (lv_at hl 0 rfl) ?_
            exact ret_z (u49, u50, u51, g_readLinks, u52, u53, g_readLong) hx hb hr hlocks hK hP hD hS (Or.inl rfl) h dX8_readsItem_72
          · have h := h.2 c55
            refine lv_aload_n hx hb dX8_readsItem_60 rfl (lv_at hl 1 rfl) ?_
            have hp : Pt (w_X8_readsItem Y q q_row q_isKept q_text q_seenFold q_seenSpan q_readLong q_marks q_isMeasured q_waysAre q_haveSpan g_links g_undos g_length g_seenMany g_trace u49 u50 u51 g_readLinks u52 u53 g_wayMany g_text g_readLong) (w_X8_nextToken Y q q_row q_isKept q_text q_seenFold q_seenSpan q_readLong q_marks q_isMeasured q_waysAre q_haveSpan g_links g_undos g_length g_seenMany g_trace u49 u50 u51 g_readLinks u52 u53 g_wayMany g_text) [0, 1] := ⟨rfl, by decide +kernel⟩
            refine go_v hp hP hD hS hA (fun _ => rfl) (va_runV (As := []) (rest := []) ⟨hx, hb, hml, hown, hts⟩ (c_X8_nextToken h _) (cwV 0 hts gX8_readsItem_X8_nextToken rfl rfl rfl (by decide +kernel) ⟨Nat.le_of_ble_eq_true rfl, Nat.le_of_ble_eq_true rfl⟩) (pre_V (b := q) (q0 := 0) (ci := 8) (q := (RX8, TX8, 22)) hp hK hN hP hD rfl rfl) rfl rfl hl.1 rfl (lv_room (Nat.le_of_ble_eq_true rfl)) dX8_readsItem_61 ⟨Nat.le_of_ble_eq_true rfl, Nat.le_of_ble_eq_true rfl⟩) (fun u H locs h hP hD hS => ?_)
            obtain ⟨u57, u58⟩ := u
            try dsimp only at h
            have hP : va_P D vwCl (w_X8_readsItem Y q q_row q_isKept q_text q_seenFold q_seenSpan q_readLong q_marks q_isMeasured q_waysAre q_haveSpan g_links g_undos g_length g_seenMany g_trace u57 u58 u51 g_readLinks u52 u53 g_wayMany g_text g_readLong) H := hP
            have hD : va_D A (w_X8_readsItem Y q q_row q_isKept q_text q_seenFold q_seenSpan q_readLong q_marks q_isMeasured q_waysAre q_haveSpan g_links g_undos g_length g_seenMany g_trace u57 u58 u51 g_readLinks u52 u53 g_wayMany g_text g_readLong) := hD
            refine lv_aload_n hx hb dX8_readsItem_64 rfl (lv_at hl 1 rfl) ?_
            refine lv_bipush (v := 59) hx hb dX8_readsItem_65 (by decide) ?_
            have hp : Pt (w_X8_readsItem Y q q_row q_isKept q_text q_seenFold q_seenSpan q_readLong q_marks q_isMeasured q_waysAre q_haveSpan g_links g_undos g_length g_seenMany g_trace u57 u58 u51 g_readLinks u52 u53 g_wayMany g_text g_readLong) (w_X8_isSign Y q q_row q_isKept q_text q_seenFold q_seenSpan q_readLong q_marks q_isMeasured q_waysAre q_haveSpan g_links g_undos g_length g_seenMany g_trace u57 u58 u51 g_readLinks u52 u53 g_wayMany g_text) [0, 1] := ⟨rfl, by decide +kernel⟩
            refine go_i hp hP hD hS hA (fun _ => rfl) (va_runV (As := [.int (59 : Int32)]) (rest := []) ⟨hx, hb, hml, hown, hts⟩ (c_X8_isSign h _) (cwV 1 hts gX8_readsItem_X8_isSign rfl rfl rfl (by decide +kernel) ⟨Nat.le_of_ble_eq_true rfl, Nat.le_of_ble_eq_true rfl⟩) (pre_V (b := q) (q0 := 0) (ci := 8) (q := (RX8, TX8, 22)) hp hK hN hP hD rfl rfl) rfl rfl hl.1 rfl (lv_room (Nat.le_of_ble_eq_true rfl)) dX8_readsItem_67 ⟨Nat.le_of_ble_eq_true rfl, Nat.le_of_ble_eq_true rfl⟩) (fun r59 u H locs h hP hD hS => ?_)
            try dsimp only at h
            have hP : va_P D vwCl (w_X8_readsItem Y q q_row q_isKept q_text q_seenFold q_seenSpan q_readLong q_marks q_isMeasured q_waysAre q_haveSpan g_links g_undos g_length g_seenMany g_trace u57 u58 u51 g_readLinks u52 u53 g_wayMany g_text g_readLong) H := hP
            have hD : va_D A (w_X8_readsItem Y q q_row q_isKept q_text q_seenFold q_seenSpan q_readLong q_marks q_isMeasured q_waysAre q_haveSpan g_links g_undos g_length g_seenMany g_trace u57 u58 u51 g_readLinks u52 u53 g_wayMany g_text g_readLong) := hD
            refine lv_istore_n (lv' := [(1, .int r59), (0, .ref q)]) hx hb dX8_readsItem_70 rfl hl (by decide) rfl (fun ls hl => ?_)
            refine lv_iload_n hx hb dX8_readsItem_71 rfl (lv_at hl 0 rfl) ?_
            exact ret_z (u57, u58, u51, g_readLinks, u52, u53, g_readLong) hx hb hr hlocks hK hP hD hS h.1 h.2 dX8_readsItem_72
        · have h := h.2 c54
          refine lv_iconst (v := 1) hx hb dX8_readsItem_50 (by decide) ?_
          refine lv_goto (tgt := 55) hx hb dX8_readsItem_51 (by decide) ?_
          refine lv_istore_n (lv' := [(1, .int (1 : Int32)), (0, .ref q)]) hx hb dX8_readsItem_55 rfl hl (by decide) rfl (fun ls hl => ?_)
          refine lv_iload_n hx hb dX8_readsItem_56 rfl (lv_at hl 0 rfl) ?_
          refine lv_if_eq (tgt := 71) hx hb dX8_readsItem_57 (by decide) (fun c60 => ?_) (fun c60 => ?_)
          · have h := h.1 c60
            refine lv_iload_n hx hb dX8_readsItem_71 rfl (lv_at hl 0 rfl) ?_
            exact ret_z (u49, u50, u51, g_readLinks, u52, u53, g_readLong) hx hb hr hlocks hK hP hD hS (Or.inr rfl) h dX8_readsItem_72
          · have h := h.2 c60
            refine lv_aload_n hx hb dX8_readsItem_60 rfl (lv_at hl 1 rfl) ?_
            have hp : Pt (w_X8_readsItem Y q q_row q_isKept q_text q_seenFold q_seenSpan q_readLong q_marks q_isMeasured q_waysAre q_haveSpan g_links g_undos g_length g_seenMany g_trace u49 u50 u51 g_readLinks u52 u53 g_wayMany g_text g_readLong) (w_X8_nextToken Y q q_row q_isKept q_text q_seenFold q_seenSpan q_readLong q_marks q_isMeasured q_waysAre q_haveSpan g_links g_undos g_length g_seenMany g_trace u49 u50 u51 g_readLinks u52 u53 g_wayMany g_text) [0, 1] := ⟨rfl, by decide +kernel⟩
            refine go_v hp hP hD hS hA (fun _ => rfl) (va_runV (As := []) (rest := []) ⟨hx, hb, hml, hown, hts⟩ (c_X8_nextToken h _) (cwV 0 hts gX8_readsItem_X8_nextToken rfl rfl rfl (by decide +kernel) ⟨Nat.le_of_ble_eq_true rfl, Nat.le_of_ble_eq_true rfl⟩) (pre_V (b := q) (q0 := 0) (ci := 8) (q := (RX8, TX8, 22)) hp hK hN hP hD rfl rfl) rfl rfl hl.1 rfl (lv_room (Nat.le_of_ble_eq_true rfl)) dX8_readsItem_61 ⟨Nat.le_of_ble_eq_true rfl, Nat.le_of_ble_eq_true rfl⟩) (fun u H locs h hP hD hS => ?_)
            obtain ⟨u62, u63⟩ := u
            try dsimp only at h
            have hP : va_P D vwCl (w_X8_readsItem Y q q_row q_isKept q_text q_seenFold q_seenSpan q_readLong q_marks q_isMeasured q_waysAre q_haveSpan g_links g_undos g_length g_seenMany g_trace u62 u63 u51 g_readLinks u52 u53 g_wayMany g_text g_readLong) H := hP
            have hD : va_D A (w_X8_readsItem Y q q_row q_isKept q_text q_seenFold q_seenSpan q_readLong q_marks q_isMeasured q_waysAre q_haveSpan g_links g_undos g_length g_seenMany g_trace u62 u63 u51 g_readLinks u52 u53 g_wayMany g_text g_readLong) := hD
            refine lv_aload_n hx hb dX8_readsItem_64 rfl (lv_at hl 1 rfl) ?_
            refine lv_bipush (v := 59) hx hb dX8_readsItem_65 (by decide) ?_
            have hp : Pt (w_X8_readsItem Y q q_row q_isKept q_text q_seenFold q_seenSpan q_readLong q_marks q_isMeasured q_waysAre q_haveSpan g_links g_undos g_length g_seenMany g_trace u62 u63 u51 g_readLinks u52 u53 g_wayMany g_text g_readLong) (w_X8_isSign Y q q_row q_isKept q_text q_seenFold q_seenSpan q_readLong q_marks q_isMeasured q_waysAre q_haveSpan g_links g_undos g_length g_seenMany g_trace u62 u63 u51 g_readLinks u52 u53 g_wayMany g_text) [0, 1] := ⟨rfl, by decide +kernel⟩
            refine go_i hp hP hD hS hA (fun _ => rfl) (va_runV (As := [.int (59 : Int32)]) (rest := []) ⟨hx, hb, hml, hown, hts⟩ (c_X8_isSign h _) (cwV 1 hts gX8_readsItem_X8_isSign rfl rfl rfl (by decide +kernel) ⟨Nat.le_of_ble_eq_true rfl, Nat.le_of_ble_eq_true rfl⟩) (pre_V (b := q) (q0 := 0) (ci := 8) (q := (RX8, TX8, 22)) hp hK hN hP hD rfl rfl) rfl rfl hl.1 rfl (lv_room (Nat.le_of_ble_eq_true rfl)) dX8_readsItem_67 ⟨Nat.le_of_ble_eq_true rfl, Nat.le_of_ble_eq_true rfl⟩) (fun r64 u H locs h hP hD hS => ?_)
            try dsimp only at h
            have hP : va_P D vwCl (w_X8_readsItem Y q q_row q_isKept q_text q_seenFold q_seenSpan q_readLong q_marks q_isMeasured q_waysAre q_haveSpan g_links g_undos g_length g_seenMany g_trace u62 u63 u51 g_readLinks u52 u53 g_wayMany g_text g_readLong) H := hP
            have hD : va_D A (w_X8_readsItem Y q q_row q_isKept q_text q_seenFold q_seenSpan q_readLong q_marks q_isMeasured q_waysAre q_haveSpan g_links g_undos g_length g_seenMany g_trace u62 u63 u51 g_readLinks u52 u53 g_wayMany g_text g_readLong) := hD
            refine lv_istore_n (lv' := [(1, .int r64), (0, .ref q)]) hx hb dX8_readsItem_70 rfl hl (by decide) rfl (fun ls hl => ?_)
            refine lv_iload_n hx hb dX8_readsItem_71 rfl (lv_at hl 0 rfl) ?_
            exact ret_z (u62, u63, u51, g_readLinks, u52, u53, g_readLong) hx hb hr hlocks hK hP hD hS h.1 h.2 dX8_readsItem_72
    · have h := h.2 c40
      refine lv_aload_n hx hb dX8_readsItem_25 rfl (lv_at hl 0 rfl) ?_
      refine lv_iconst (v := 1) hx hb dX8_readsItem_26 (by decide) ?_
      have hp : Pt (w_X8_readsItem Y q q_row q_isKept q_text q_seenFold q_seenSpan q_readLong q_marks q_isMeasured q_waysAre q_haveSpan g_links g_undos g_length g_seenMany g_trace g_at g_behind g_number g_readLinks g_readFolded g_readStiff g_wayMany g_text g_readLong) (w_X8_readsJoint Y q q_row q_isKept q_text q_seenFold q_seenSpan q_readLong q_marks q_isMeasured q_waysAre q_haveSpan g_links g_undos g_length g_seenMany g_trace g_at g_behind g_number g_readLinks g_readFolded g_readStiff g_wayMany g_text) [0, 1] := ⟨rfl, by decide +kernel⟩
      refine go_i hp hP hD hS hA (fun _ => rfl) (va_runV (As := [.int (1 : Int32)]) (rest := []) ⟨hx, hb, hml, hown, hts⟩ (c_X8_readsJoint h _) (cwV 1 hts gX8_readsItem_X8_readsJoint rfl rfl rfl (by decide +kernel) ⟨Nat.le_of_ble_eq_true rfl, Nat.le_of_ble_eq_true rfl⟩) (pre_V (b := q) (q0 := 0) (ci := 8) (q := (RX8, TX8, 22)) hp hK hN hP hD rfl rfl) rfl rfl hl.1 rfl (lv_room (Nat.le_of_ble_eq_true rfl)) dX8_readsItem_27 ⟨Nat.le_of_ble_eq_true rfl, Nat.le_of_ble_eq_true rfl⟩) (fun r65 u H locs h hP hD hS => ?_)
      obtain ⟨u66, u67, u68, u69, u70⟩ := u
      try dsimp only at h
      have hP : va_P D vwCl (w_X8_readsItem Y q q_row q_isKept q_text q_seenFold q_seenSpan q_readLong q_marks q_isMeasured q_waysAre q_haveSpan g_links g_undos g_length g_seenMany g_trace u66 u67 u68 g_readLinks u69 u70 g_wayMany g_text g_readLong) H := hP
      have hD : va_D A (w_X8_readsItem Y q q_row q_isKept q_text q_seenFold q_seenSpan q_readLong q_marks q_isMeasured q_waysAre q_haveSpan g_links g_undos g_length g_seenMany g_trace u66 u67 u68 g_readLinks u69 u70 g_wayMany g_text g_readLong) := hD
      refine lv_goto (tgt := 55) hx hb dX8_readsItem_30 (by decide) ?_
      refine lv_istore_n (lv' := [(1, .int r65), (0, .ref q)]) hx hb dX8_readsItem_55 rfl hl (by decide) rfl (fun ls hl => ?_)
      refine lv_iload_n hx hb dX8_readsItem_56 rfl (lv_at hl 0 rfl) ?_
      refine lv_if_eq (tgt := 71) hx hb dX8_readsItem_57 (by decide) (fun c71 => ?_) (fun c71 => ?_)
      · have h := h.1 c71
        refine lv_iload_n hx hb dX8_readsItem_71 rfl (lv_at hl 0 rfl) ?_
        exact ret_z (u66, u67, u68, g_readLinks, u69, u70, g_readLong) hx hb hr hlocks hK hP hD hS h.1 h.2 dX8_readsItem_72
      · have h := h.2 c71
        refine lv_aload_n hx hb dX8_readsItem_60 rfl (lv_at hl 1 rfl) ?_
        have hp : Pt (w_X8_readsItem Y q q_row q_isKept q_text q_seenFold q_seenSpan q_readLong q_marks q_isMeasured q_waysAre q_haveSpan g_links g_undos g_length g_seenMany g_trace u66 u67 u68 g_readLinks u69 u70 g_wayMany g_text g_readLong) (w_X8_nextToken Y q q_row q_isKept q_text q_seenFold q_seenSpan q_readLong q_marks q_isMeasured q_waysAre q_haveSpan g_links g_undos g_length g_seenMany g_trace u66 u67 u68 g_readLinks u69 u70 g_wayMany g_text) [0, 1] := ⟨rfl, by decide +kernel⟩
        refine go_v hp hP hD hS hA (fun _ => rfl) (va_runV (As := []) (rest := []) ⟨hx, hb, hml, hown, hts⟩ (c_X8_nextToken h _) (cwV 0 hts gX8_readsItem_X8_nextToken rfl rfl rfl (by decide +kernel) ⟨Nat.le_of_ble_eq_true rfl, Nat.le_of_ble_eq_true rfl⟩) (pre_V (b := q) (q0 := 0) (ci := 8) (q := (RX8, TX8, 22)) hp hK hN hP hD rfl rfl) rfl rfl hl.1 rfl (lv_room (Nat.le_of_ble_eq_true rfl)) dX8_readsItem_61 ⟨Nat.le_of_ble_eq_true rfl, Nat.le_of_ble_eq_true rfl⟩) (fun u H locs h hP hD hS => ?_)
        obtain ⟨u73, u74⟩ := u
        try dsimp only at h
        have hP : va_P D vwCl (w_X8_readsItem Y q q_row q_isKept q_text q_seenFold q_seenSpan q_readLong q_marks q_isMeasured q_waysAre q_haveSpan g_links g_undos g_length g_seenMany g_trace u73 u74 u68 g_readLinks u69 u70 g_wayMany g_text g_readLong) H := hP
        have hD : va_D A (w_X8_readsItem Y q q_row q_isKept q_text q_seenFold q_seenSpan q_readLong q_marks q_isMeasured q_waysAre q_haveSpan g_links g_undos g_length g_seenMany g_trace u73 u74 u68 g_readLinks u69 u70 g_wayMany g_text g_readLong) := hD
        refine lv_aload_n hx hb dX8_readsItem_64 rfl (lv_at hl 1 rfl) ?_
        refine lv_bipush (v := 59) hx hb dX8_readsItem_65 (by decide) ?_
        have hp : Pt (w_X8_readsItem Y q q_row q_isKept q_text q_seenFold q_seenSpan q_readLong q_marks q_isMeasured q_waysAre q_haveSpan g_links g_undos g_length g_seenMany g_trace u73 u74 u68 g_readLinks u69 u70 g_wayMany g_text g_readLong) (w_X8_isSign Y q q_row q_isKept q_text q_seenFold q_seenSpan q_readLong q_marks q_isMeasured q_waysAre q_haveSpan g_links g_undos g_length g_seenMany g_trace u73 u74 u68 g_readLinks u69 u70 g_wayMany g_text) [0, 1] := ⟨rfl, by decide +kernel⟩
        refine go_i hp hP hD hS hA (fun _ => rfl) (va_runV (As := [.int (59 : Int32)]) (rest := []) ⟨hx, hb, hml, hown, hts⟩ (c_X8_isSign h _) (cwV 1 hts gX8_readsItem_X8_isSign rfl rfl rfl (by decide +kernel) ⟨Nat.le_of_ble_eq_true rfl, Nat.le_of_ble_eq_true rfl⟩) (pre_V (b := q) (q0 := 0) (ci := 8) (q := (RX8, TX8, 22)) hp hK hN hP hD rfl rfl) rfl rfl hl.1 rfl (lv_room (Nat.le_of_ble_eq_true rfl)) dX8_readsItem_67 ⟨Nat.le_of_ble_eq_true rfl, Nat.le_of_ble_eq_true rfl⟩) (fun r75 u H locs h hP hD hS => ?_)
        try dsimp only at h
        have hP : va_P D vwCl (w_X8_readsItem Y q q_row q_isKept q_text q_seenFold q_seenSpan q_readLong q_marks q_isMeasured q_waysAre q_haveSpan g_links g_undos g_length g_seenMany g_trace u73 u74 u68 g_readLinks u69 u70 g_wayMany g_text g_readLong) H := hP
        have hD : va_D A (w_X8_readsItem Y q q_row q_isKept q_text q_seenFold q_seenSpan q_readLong q_marks q_isMeasured q_waysAre q_haveSpan g_links g_undos g_length g_seenMany g_trace u73 u74 u68 g_readLinks u69 u70 g_wayMany g_text g_readLong) := hD
        refine lv_istore_n (lv' := [(1, .int r75), (0, .ref q)]) hx hb dX8_readsItem_70 rfl hl (by decide) rfl (fun ls hl => ?_)
        refine lv_iload_n hx hb dX8_readsItem_71 rfl (lv_at hl 0 rfl) ?_
        exact ret_z (u73, u74, u68, g_readLinks, u69, u70, g_readLong) hx hb hr hlocks hK hP hD hS h.1 h.2 dX8_readsItem_72
  · have h := h.2 c38
    refine lv_aload_n hx hb dX8_readsItem_9 rfl (lv_at hl 0 rfl) ?_
    have hp : Pt (w_X8_readsItem Y q q_row q_isKept q_text q_seenFold q_seenSpan q_readLong q_marks q_isMeasured q_waysAre q_haveSpan g_links g_undos g_length g_seenMany g_trace g_at g_behind g_number g_readLinks g_readFolded g_readStiff g_wayMany g_text g_readLong) (w_X8_readsLink Y q q_row q_isKept q_text q_seenFold q_seenSpan q_readLong q_marks q_isMeasured q_waysAre q_haveSpan g_links g_undos g_length g_seenMany g_trace g_at g_behind g_number g_readLinks g_readFolded g_readStiff g_wayMany g_text g_readLong) [0, 1, 2] := ⟨rfl, by decide +kernel⟩
    refine go_i hp hP hD hS hA (fun _ => rfl) (va_runV (As := []) (rest := []) ⟨hx, hb, hml, hown, hts⟩ (c_X8_readsLink h _) (cwV 0 hts gX8_readsItem_X8_readsLink rfl rfl rfl (by decide +kernel) ⟨Nat.le_of_ble_eq_true rfl, Nat.le_of_ble_eq_true rfl⟩) (pre_V (b := q) (q0 := 0) (ci := 8) (q := (RX8, TX8, 22)) hp hK hN hP hD rfl rfl) rfl rfl hl.1 rfl (lv_room (Nat.le_of_ble_eq_true rfl)) dX8_readsItem_10 ⟨Nat.le_of_ble_eq_true rfl, Nat.le_of_ble_eq_true rfl⟩) (fun r76 u H locs h hP hD hS => ?_)
    obtain ⟨u77, u78, u79, u80, u81⟩ := u
    try dsimp only at h
    have hP : va_P D vwCl (w_X8_readsItem Y q q_row q_isKept q_text q_seenFold q_seenSpan q_readLong q_marks q_isMeasured q_waysAre q_haveSpan g_links g_undos g_length g_seenMany g_trace u77 u78 u79 u80 g_readFolded g_readStiff g_wayMany g_text u81) H := hP
    have hD : va_D A (w_X8_readsItem Y q q_row q_isKept q_text q_seenFold q_seenSpan q_readLong q_marks q_isMeasured q_waysAre q_haveSpan g_links g_undos g_length g_seenMany g_trace u77 u78 u79 u80 g_readFolded g_readStiff g_wayMany g_text u81) := hD
    refine lv_goto (tgt := 55) hx hb dX8_readsItem_13 (by decide) ?_
    refine lv_istore_n (lv' := [(1, .int r76), (0, .ref q)]) hx hb dX8_readsItem_55 rfl hl (by decide) rfl (fun ls hl => ?_)
    refine lv_iload_n hx hb dX8_readsItem_56 rfl (lv_at hl 0 rfl) ?_
    refine lv_if_eq (tgt := 71) hx hb dX8_readsItem_57 (by decide) (fun c82 => ?_) (fun c82 => ?_)
    · have h := h.1 c82
      refine lv_iload_n hx hb dX8_readsItem_71 rfl (lv_at hl 0 rfl) ?_
      exact ret_z (u77, u78, u79, u80, g_readFolded, g_readStiff, u81) hx hb hr hlocks hK hP hD hS h.1 h.2 dX8_readsItem_72
    · have h := h.2 c82
      refine lv_aload_n hx hb dX8_readsItem_60 rfl (lv_at hl 1 rfl) ?_
      have hp : Pt (w_X8_readsItem Y q q_row q_isKept q_text q_seenFold q_seenSpan q_readLong q_marks q_isMeasured q_waysAre q_haveSpan g_links g_undos g_length g_seenMany g_trace u77 u78 u79 u80 g_readFolded g_readStiff g_wayMany g_text u81) (w_X8_nextToken Y q q_row q_isKept q_text q_seenFold q_seenSpan q_readLong q_marks q_isMeasured q_waysAre q_haveSpan g_links g_undos g_length g_seenMany g_trace u77 u78 u79 u80 g_readFolded g_readStiff g_wayMany g_text) [0, 1] := ⟨rfl, by decide +kernel⟩
      refine go_v hp hP hD hS hA (fun _ => rfl) (va_runV (As := []) (rest := []) ⟨hx, hb, hml, hown, hts⟩ (c_X8_nextToken h _) (cwV 0 hts gX8_readsItem_X8_nextToken rfl rfl rfl (by decide +kernel) ⟨Nat.le_of_ble_eq_true rfl, Nat.le_of_ble_eq_true rfl⟩) (pre_V (b := q) (q0 := 0) (ci := 8) (q := (RX8, TX8, 22)) hp hK hN hP hD rfl rfl) rfl rfl hl.1 rfl (lv_room (Nat.le_of_ble_eq_true rfl)) dX8_readsItem_61 ⟨Nat.le_of_ble_eq_true rfl, Nat.le_of_ble_eq_true rfl⟩) (fun u H locs h hP hD hS => ?_)
      obtain ⟨u84, u85⟩ := u
      try dsimp only at h
      have hP : va_P D vwCl (w_X8_readsItem Y q q_row q_isKept q_text q_seenFold q_seenSpan q_readLong q_marks q_isMeasured q_waysAre q_haveSpan g_links g_undos g_length g_seenMany g_trace u84 u85 u79 u80 g_readFolded g_readStiff g_wayMany g_text u81) H := hP
      have hD : va_D A (w_X8_readsItem Y q q_row q_isKept q_text q_seenFold q_seenSpan q_readLong q_marks q_isMeasured q_waysAre q_haveSpan g_links g_undos g_length g_seenMany g_trace u84 u85 u79 u80 g_readFolded g_readStiff g_wayMany g_text u81) := hD
      refine lv_aload_n hx hb dX8_readsItem_64 rfl (lv_at hl 1 rfl) ?_
      refine lv_bipush (v := 59) hx hb dX8_readsItem_65 (by decide) ?_
      have hp : Pt (w_X8_readsItem Y q q_row q_isKept q_text q_seenFold q_seenSpan q_readLong q_marks q_isMeasured q_waysAre q_haveSpan g_links g_undos g_length g_seenMany g_trace u84 u85 u79 u80 g_readFolded g_readStiff g_wayMany g_text u81) (w_X8_isSign Y q q_row q_isKept q_text q_seenFold q_seenSpan q_readLong q_marks q_isMeasured q_waysAre q_haveSpan g_links g_undos g_length g_seenMany g_trace u84 u85 u79 u80 g_readFolded g_readStiff g_wayMany g_text) [0, 1] := ⟨rfl, by decide +kernel⟩
      refine go_i hp hP hD hS hA (fun _ => rfl) (va_runV (As := [.int (59 : Int32)]) (rest := []) ⟨hx, hb, hml, hown, hts⟩ (c_X8_isSign h _) (cwV 1 hts gX8_readsItem_X8_isSign rfl rfl rfl (by decide +kernel) ⟨Nat.le_of_ble_eq_true rfl, Nat.le_of_ble_eq_true rfl⟩) (pre_V (b := q) (q0 := 0) (ci := 8) (q := (RX8, TX8, 22)) hp hK hN hP hD rfl rfl) rfl rfl hl.1 rfl (lv_room (Nat.le_of_ble_eq_true rfl)) dX8_readsItem_67 ⟨Nat.le_of_ble_eq_true rfl, Nat.le_of_ble_eq_true rfl⟩) (fun r86 u H locs h hP hD hS => ?_)
      try dsimp only at h
      have hP : va_P D vwCl (w_X8_readsItem Y q q_row q_isKept q_text q_seenFold q_seenSpan q_readLong q_marks q_isMeasured q_waysAre q_haveSpan g_links g_undos g_length g_seenMany g_trace u84 u85 u79 u80 g_readFolded g_readStiff g_wayMany g_text u81) H := hP
      have hD : va_D A (w_X8_readsItem Y q q_row q_isKept q_text q_seenFold q_seenSpan q_readLong q_marks q_isMeasured q_waysAre q_haveSpan g_links g_undos g_length g_seenMany g_trace u84 u85 u79 u80 g_readFolded g_readStiff g_wayMany g_text u81) := hD
      refine lv_istore_n (lv' := [(1, .int r86), (0, .ref q)]) hx hb dX8_readsItem_70 rfl hl (by decide) rfl (fun ls hl => ?_)
      refine lv_iload_n hx hb dX8_readsItem_71 rfl (lv_at hl 0 rfl) ?_
      exact ret_z (u84, u85, u79, u80, g_readFolded, g_readStiff, u81) hx hb hr hlocks hK hP hD hS h.1 h.2 dX8_readsItem_72
abbrev rm_X8_readItems : Room := { frames := 6, cells := 0, slots := 0, locals := 127 }
theorem in_X8_readItems_X8 : ∀ w ∈ wsX80, w ∈ wsX8_readItems := fun _ h => List.mem_cons_of_mem _ (List.mem_append_right _ h)
theorem k_X8_readItems_f55 {s : State} {args : Array Value} (hts : ∀ w ∈ wsX8_readItems, w.before args s = true) : (Cond.fieldLink RX8 55 "FoldRuleModel" "at" "I").before args s = true := hts _ (by decide +kernel)
theorem k_X8_readItems_f49 {s : State} {args : Array Value} (hts : ∀ w ∈ wsX8_readItems, w.before args s = true) : (Cond.fieldLink RX8 49 "FoldRuleModel" "length" "I").before args s = true := hts _ (by decide +kernel)
theorem k_X8_readItems_f52 {s : State} {args : Array Value} (hts : ∀ w ∈ wsX8_readItems, w.before args s = true) : (Cond.fieldLink RX8 52 "FoldRuleModel" "behind" "I").before args s = true := hts _ (by decide +kernel)
theorem k_X8_readItems_f68 {s : State} {args : Array Value} (hts : ∀ w ∈ wsX8_readItems, w.before args s = true) : (Cond.fieldLink RX8 68 "FoldRuleModel" "readLinks" "I").before args s = true := hts _ (by decide +kernel)
theorem k_X8_readItems_f75 {s : State} {args : Array Value} (hts : ∀ w ∈ wsX8_readItems, w.before args s = true) : (Cond.fieldLink RX8 75 "FoldRuleModel" "readFolded" "I").before args s = true := hts _ (by decide +kernel)
theorem k_X8_readItems_f78 {s : State} {args : Array Value} (hts : ∀ w ∈ wsX8_readItems, w.before args s = true) : (Cond.fieldLink RX8 78 "FoldRuleModel" "readStiff" "I").before args s = true := hts _ (by decide +kernel)
set_option maxHeartbeats 4000000 in
set_option maxRecDepth 100000 in
theorem L_X8_readItems_26 {p : Program} {l : Launch} {e : Env} {s : State} {m : MethodId} {args : Array Value} {below : List Frame} {meth : Method} {c : Code} {D : va_G} {Y : ClassId × ClassId × ClassId} {A : Nat → Prop} {q q_row q_isKept q_text q_seenFold q_seenSpan q_readLong q_marks q_isMeasured q_waysAre q_haveSpan : Nat} {g_links g_undos g_length g_seenMany : Int32} {g_trace : Int64} {g_wayMany : Int32} {g_text : Nat → Int32} {Q : Int32 → Int32 → Int32 → Int32 → Int32 → Int32 → Int32 → (Nat → Int32) → Prop} (C : Ctx p s m args meth c cX8_readItems 2 (some .int) wsX8_readItems RX8) (hK : va_K D vwCl (tyS Y) s) (hA : ∀ q, s.heap.size ≤ q → A q) : ∀ (n : Nat) (x1 g_at g_behind g_number g_readLinks g_readFolded g_readStiff : Int32) (g_readLong : Nat → Int32), itr8 (B_X8_readItems_26 g_length g_text Q) n x1 g_at g_behind g_number g_readLinks g_readFolded g_readStiff g_readLong → ∀ (H : Heap) (locs : List Loc) (ls : Array Slot), va_P D vwCl (w_X8_readItems Y q q_row q_isKept q_text q_seenFold q_seenSpan q_readLong q_marks q_isMeasured q_waysAre q_haveSpan g_links g_undos g_length g_seenMany g_trace g_at g_behind g_number g_readLinks g_readFolded g_readStiff g_wayMany g_text g_readLong) H → va_D A (w_X8_readItems Y q q_row q_isKept q_text q_seenFold q_seenSpan q_readLong q_marks q_isMeasured q_waysAre q_haveSpan g_links g_undos g_length g_seenMany g_trace g_at g_behind g_number g_readLinks g_readFolded g_readStiff g_wayMany g_text g_readLong) → va_S A s.heap H locs → lv_has ls 2 [(0, .ref q), (1, .int x1)] → W p l e rm_X8_readItems s m args below meth c H locs 0 0 (QI below args s D Y A (fun r (u : Int32 × Int32 × Int32 × Int32 × Int32 × Int32 × (Nat → Int32)) => Q r u.1 u.2.1 u.2.2.1 u.2.2.2.1 u.2.2.2.2.1 u.2.2.2.2.2.1 u.2.2.2.2.2.2) (fun u : Int32 × Int32 × Int32 × Int32 × Int32 × Int32 × (Nat → Int32) => (w_X8_readItems Y q q_row q_isKept q_text q_seenFold q_seenSpan q_readLong q_marks q_isMeasured q_waysAre q_haveSpan g_links g_undos g_length g_seenMany g_trace u.1 u.2.1 u.2.2.1 u.2.2.2.1 u.2.2.2.2.1 u.2.2.2.2.2.1 g_wayMany g_text u.2.2.2.2.2.2))) (F0 m 26 ls []) := by
  intro n
  induction n with
  | zero => intro x1 g_at g_behind g_number g_readLinks g_readFolded g_readStiff g_readLong h; exact False.elim h
  | succ n ih =>
    intro x1 g_at g_behind g_number g_readLinks g_readFolded g_readStiff g_readLong h H locs ls hP hD hS hl
    obtain ⟨⟨hx, hb, hml, hown, hts⟩, hr, hlocks, hN⟩ := id C
    have h : B_X8_readItems_26 g_length g_text Q (itr8 (B_X8_readItems_26 g_length g_text Q) n) x1 g_at g_behind g_number g_readLinks g_readFolded g_readStiff g_readLong := h
    unfold B_X8_readItems_26 at h
    refine lv_aload_n hx hb dX8_readItems_26 rfl (lv_at hl 0 rfl) ?_
    refine va_get (D := D) (ci := 8) (v := .int g_at) (C := RX8) (T := TX8) (N := 22) hx hb hts in_X8_readItems_X8 hown hK hP 0 rfl rfl 10 (by decide) (k_X8_readItems_f55 hts) (fun _ h9 => h9) rfl dX8_readItems_27 ?_
    refine lv_aload_n hx hb dX8_readItems_30 rfl (lv_at hl 0 rfl) ?_
    refine va_get (D := D) (ci := 8) (v := .int g_length) (C := RX8) (T := TX8) (N := 22) hx hb hts in_X8_readItems_X8 hown hK hP 0 rfl rfl 5 (by decide) (k_X8_readItems_f49 hts) (fun _ h9 => h9) rfl dX8_readItems_31 ?_
    refine lv_icmp_ge (tgt := 57) hx hb dX8_readItems_34 (by decide) (fun c14 => ?_) (fun c14 => ?_)
    · have h := h.1 c14
      refine lv_iload_n hx hb dX8_readItems_57 rfl (lv_at hl 1 rfl) ?_
      exact ret_i (g_at, g_behind, g_number, g_readLinks, g_readFolded, g_readStiff, g_readLong) hx hb hr hlocks hK hP hD hS h dX8_readItems_58
    · have h := h.2 c14
      refine lv_aload_n hx hb dX8_readItems_37 rfl (lv_at hl 0 rfl) ?_
      have hp : Pt (w_X8_readItems Y q q_row q_isKept q_text q_seenFold q_seenSpan q_readLong q_marks q_isMeasured q_waysAre q_haveSpan g_links g_undos g_length g_seenMany g_trace g_at g_behind g_number g_readLinks g_readFolded g_readStiff g_wayMany g_text g_readLong) (w_X8_readsItem Y q q_row q_isKept q_text q_seenFold q_seenSpan q_readLong q_marks q_isMeasured q_waysAre q_haveSpan g_links g_undos g_length g_seenMany g_trace g_at g_behind g_number g_readLinks g_readFolded g_readStiff g_wayMany g_text g_readLong) [0, 1, 2] := ⟨rfl, by decide +kernel⟩
      refine go_i hp hP hD hS hA (fun _ => rfl) (va_runV (As := []) (rest := []) ⟨hx, hb, hml, hown, hts⟩ (c_X8_readsItem h _) (cwV 0 hts gX8_readItems_X8_readsItem rfl rfl rfl (by decide +kernel) ⟨Nat.le_of_ble_eq_true rfl, Nat.le_of_ble_eq_true rfl⟩) (pre_V (b := q) (q0 := 0) (ci := 8) (q := (RX8, TX8, 22)) hp hK hN hP hD rfl rfl) rfl rfl hl.1 rfl (lv_room (Nat.le_of_ble_eq_true rfl)) dX8_readItems_38 ⟨Nat.le_of_ble_eq_true rfl, Nat.le_of_ble_eq_true rfl⟩) (fun r15 u H locs h hP hD hS => ?_)
      obtain ⟨u16, u17, u18, u19, u20, u21, u22⟩ := u
      try dsimp only at h
      have hP : va_P D vwCl (w_X8_readItems Y q q_row q_isKept q_text q_seenFold q_seenSpan q_readLong q_marks q_isMeasured q_waysAre q_haveSpan g_links g_undos g_length g_seenMany g_trace u16 u17 u18 u19 u20 u21 g_wayMany g_text u22) H := hP
      have hD : va_D A (w_X8_readItems Y q q_row q_isKept q_text q_seenFold q_seenSpan q_readLong q_marks q_isMeasured q_waysAre q_haveSpan g_links g_undos g_length g_seenMany g_trace u16 u17 u18 u19 u20 u21 g_wayMany g_text u22) := hD
      refine lv_if_ne (tgt := 47) hx hb dX8_readItems_41 (by decide) (fun c23 => ?_) (fun c23 => ?_)
      · have h := h.1 c23
        obtain ⟨z24, ez24⟩ : ∃ y : Int32, y = (x1 + (1 : Int32)) := ⟨_, rfl⟩
        have h := h z24 ez24
        refine lv_iinc (v := z24) (lv' := [(1, .int z24), (0, .ref q)]) hx hb dX8_readItems_47 hl (k := 1) rfl (by rw [ez24]; rfl) (by decide) rfl (fun ls hl => ?_)
        refine lv_aload_n hx hb dX8_readItems_50 rfl (lv_at hl 1 rfl) ?_
        have hp : Pt (w_X8_readItems Y q q_row q_isKept q_text q_seenFold q_seenSpan q_readLong q_marks q_isMeasured q_waysAre q_haveSpan g_links g_undos g_length g_seenMany g_trace u16 u17 u18 u19 u20 u21 g_wayMany g_text u22) (w_X8_nextToken Y q q_row q_isKept q_text q_seenFold q_seenSpan q_readLong q_marks q_isMeasured q_waysAre q_haveSpan g_links g_undos g_length g_seenMany g_trace u16 u17 u18 u19 u20 u21 g_wayMany g_text) [0, 1] := ⟨rfl, by decide +kernel⟩
        refine go_v hp hP hD hS hA (fun _ => rfl) (va_runV (As := []) (rest := []) ⟨hx, hb, hml, hown, hts⟩ (c_X8_nextToken h _) (cwV 0 hts gX8_readItems_X8_nextToken rfl rfl rfl (by decide +kernel) ⟨Nat.le_of_ble_eq_true rfl, Nat.le_of_ble_eq_true rfl⟩) (pre_V (b := q) (q0 := 0) (ci := 8) (q := (RX8, TX8, 22)) hp hK hN hP hD rfl rfl) rfl rfl hl.1 rfl (lv_room (Nat.le_of_ble_eq_true rfl)) dX8_readItems_51 ⟨Nat.le_of_ble_eq_true rfl, Nat.le_of_ble_eq_true rfl⟩) (fun u H locs h hP hD hS => ?_)
        obtain ⟨u26, u27⟩ := u
        try dsimp only at h
        have hP : va_P D vwCl (w_X8_readItems Y q q_row q_isKept q_text q_seenFold q_seenSpan q_readLong q_marks q_isMeasured q_waysAre q_haveSpan g_links g_undos g_length g_seenMany g_trace u26 u27 u18 u19 u20 u21 g_wayMany g_text u22) H := hP
        have hD : va_D A (w_X8_readItems Y q q_row q_isKept q_text q_seenFold q_seenSpan q_readLong q_marks q_isMeasured q_waysAre q_haveSpan g_links g_undos g_length g_seenMany g_trace u26 u27 u18 u19 u20 u21 g_wayMany g_text u22) := hD
        refine lv_goto (tgt := 26) hx hb dX8_readItems_54 (by decide) ?_
        exact ih _ _ _ _ _ _ _ _ h _ _ _ hP hD hS (lv_sub hl [1, 0] rfl)
      · have h := h.2 c23
        refine lv_bipush (v := (-9)) hx hb dX8_readItems_44 (by decide) ?_
        exact ret_i (u16, u17, u18, u19, u20, u21, u22) hx hb hr hlocks hK hP hD hS h dX8_readItems_46
set_option maxHeartbeats 4000000 in
set_option maxRecDepth 100000 in
theorem c_X8_readItems {l : Launch} {D : va_G} {Y : ClassId × ClassId × ClassId} {q q_row q_isKept q_text q_seenFold q_seenSpan q_readLong q_marks q_isMeasured q_waysAre q_haveSpan : Nat} {g_links g_undos g_length g_seenMany : Int32} {g_trace : Int64} {g_at g_behind g_number g_readLinks g_readFolded g_readStiff g_wayMany : Int32} {g_text g_readLong : Nat → Int32} {Q : Int32 → Int32 → Int32 → Int32 → Int32 → Int32 → Int32 → (Nat → Int32) → Prop} (h : wp_X8_readItems g_length g_at g_behind g_number g_readLinks g_readFolded g_readStiff g_text g_readLong Q) (sz : Nat) : MtI l yX8_readItems wsX8_readItems rm_X8_readItems [.ref q] D Y (w_X8_readItems Y q q_row q_isKept q_text q_seenFold q_seenSpan q_readLong q_marks q_isMeasured q_waysAre q_haveSpan g_links g_undos g_length g_seenMany g_trace g_at g_behind g_number g_readLinks g_readFolded g_readStiff g_wayMany g_text g_readLong) (fun r (u : Int32 × Int32 × Int32 × Int32 × Int32 × Int32 × (Nat → Int32)) => Q r u.1 u.2.1 u.2.2.1 u.2.2.2.1 u.2.2.2.2.1 u.2.2.2.2.2.1 u.2.2.2.2.2.2) (fun u : Int32 × Int32 × Int32 × Int32 × Int32 × Int32 × (Nat → Int32) => (w_X8_readItems Y q q_row q_isKept q_text q_seenFold q_seenSpan q_readLong q_marks q_isMeasured q_waysAre q_haveSpan g_links g_undos g_length g_seenMany g_trace u.1 u.2.1 u.2.2.1 u.2.2.2.1 u.2.2.2.2.1 u.2.2.2.2.2.1 g_wayMany g_text u.2.2.2.2.2.2)) sz := by
  refine ct_i (cc := cX8_readItems) (nL := 2) (ret := (some .int)) (by decide) rfl (Nat.le_of_ble_eq_true rfl) ?_ sz
  intro p e s m below meth c A ls C hK hA hP hD hS hl
  obtain ⟨⟨hx, hb, hml, hown, hts⟩, hr, hlocks, hN⟩ := id C
  have hown : s.vm.findClass RX8 = some m.cls := hown
  have hl : lv_has ls 2 [(0, .ref q)] := hl
  unfold wp_X8_readItems at h
  refine lv_aload_n hx hb dX8_readItems_0 rfl (lv_at hl 0 rfl) ?_
  refine lv_iconst (v := 0) hx hb dX8_readItems_1 (by decide) ?_
  refine va_put (D := D) (ci := 8) (v := .int (0 : Int32)) (ty := .int) (C := RX8) (T := TX8) (N := 22) hx hb hts in_X8_readItems_X8 tyX8 tyX8_ok nmX8 hown hK hP hD hS 0 rfl rfl 11 (by decide) (k_X8_readItems_f52 hts) (fun _ h9 => h9) rfl (by decide +kernel) rfl rfl (Nat.le_of_ble_eq_true rfl) dX8_readItems_2 (fun H locs hP hD hS => ?_)
  have hP : va_P D vwCl (w_X8_readItems Y q q_row q_isKept q_text q_seenFold q_seenSpan q_readLong q_marks q_isMeasured q_waysAre q_haveSpan g_links g_undos g_length g_seenMany g_trace g_at (0 : Int32) g_number g_readLinks g_readFolded g_readStiff g_wayMany g_text g_readLong) H := hP
  have hD : va_D A (w_X8_readItems Y q q_row q_isKept q_text q_seenFold q_seenSpan q_readLong q_marks q_isMeasured q_waysAre q_haveSpan g_links g_undos g_length g_seenMany g_trace g_at (0 : Int32) g_number g_readLinks g_readFolded g_readStiff g_wayMany g_text g_readLong) := hD
  refine lv_aload_n hx hb dX8_readItems_5 rfl (lv_at hl 0 rfl) ?_
  refine lv_iconst (v := 0) hx hb dX8_readItems_6 (by decide) ?_
  refine va_put (D := D) (ci := 8) (v := .int (0 : Int32)) (ty := .int) (C := RX8) (T := TX8) (N := 22) hx hb hts in_X8_readItems_X8 tyX8 tyX8_ok nmX8 hown hK hP hD hS 0 rfl rfl 13 (by decide) (k_X8_readItems_f68 hts) (fun _ h9 => h9) rfl (by decide +kernel) rfl rfl (Nat.le_of_ble_eq_true rfl) dX8_readItems_7 (fun H locs hP hD hS => ?_)
  have hP : va_P D vwCl (w_X8_readItems Y q q_row q_isKept q_text q_seenFold q_seenSpan q_readLong q_marks q_isMeasured q_waysAre q_haveSpan g_links g_undos g_length g_seenMany g_trace g_at (0 : Int32) g_number (0 : Int32) g_readFolded g_readStiff g_wayMany g_text g_readLong) H := hP
  have hD : va_D A (w_X8_readItems Y q q_row q_isKept q_text q_seenFold q_seenSpan q_readLong q_marks q_isMeasured q_waysAre q_haveSpan g_links g_undos g_length g_seenMany g_trace g_at (0 : Int32) g_number (0 : Int32) g_readFolded g_readStiff g_wayMany g_text g_readLong) := hD
  refine lv_aload_n hx hb dX8_readItems_10 rfl (lv_at hl 0 rfl) ?_
  refine lv_iconst (v := 0) hx hb dX8_readItems_11 (by decide) ?_
  refine va_put (D := D) (ci := 8) (v := .int (0 : Int32)) (ty := .int) (C := RX8) (T := TX8) (N := 22) hx hb hts in_X8_readItems_X8 tyX8 tyX8_ok nmX8 hown hK hP hD hS 0 rfl rfl 15 (by decide) (k_X8_readItems_f75 hts) (fun _ h9 => h9) rfl (by decide +kernel) rfl rfl (Nat.le_of_ble_eq_true rfl) dX8_readItems_12 (fun H locs hP hD hS => ?_)
  have hP : va_P D vwCl (w_X8_readItems Y q q_row q_isKept q_text q_seenFold q_seenSpan q_readLong q_marks q_isMeasured q_waysAre q_haveSpan g_links g_undos g_length g_seenMany g_trace g_at (0 : Int32) g_number (0 : Int32) (0 : Int32) g_readStiff g_wayMany g_text g_readLong) H := hP
  have hD : va_D A (w_X8_readItems Y q q_row q_isKept q_text q_seenFold q_seenSpan q_readLong q_marks q_isMeasured q_waysAre q_haveSpan g_links g_undos g_length g_seenMany g_trace g_at (0 : Int32) g_number (0 : Int32) (0 : Int32) g_readStiff g_wayMany g_text g_readLong) := hD
  refine lv_aload_n hx hb dX8_readItems_15 rfl (lv_at hl 0 rfl) ?_
  refine lv_iconst (v := 0) hx hb dX8_readItems_16 (by decide) ?_
  refine va_put (D := D) (ci := 8) (v := .int (0 : Int32)) (ty := .int) (C := RX8) (T := TX8) (N := 22) hx hb hts in_X8_readItems_X8 tyX8 tyX8_ok nmX8 hown hK hP hD hS 0 rfl rfl 16 (by decide) (k_X8_readItems_f78 hts) (fun _ h9 => h9) rfl (by decide +kernel) rfl rfl (Nat.le_of_ble_eq_true rfl) dX8_readItems_17 (fun H locs hP hD hS => ?_)
  have hP : va_P D vwCl (w_X8_readItems Y q q_row q_isKept q_text q_seenFold q_seenSpan q_readLong q_marks q_isMeasured q_waysAre q_haveSpan g_links g_undos g_length g_seenMany g_trace g_at (0 : Int32) g_number (0 : Int32) (0 : Int32) (0 : Int32) g_wayMany g_text g_readLong) H := hP
  have hD : va_D A (w_X8_readItems Y q q_row q_isKept q_text q_seenFold q_seenSpan q_readLong q_marks q_isMeasured q_waysAre q_haveSpan g_links g_undos g_length g_seenMany g_trace g_at (0 : Int32) g_number (0 : Int32) (0 : Int32) (0 : Int32) g_wayMany g_text g_readLong) := hD
  refine lv_iconst (v := 0) hx hb dX8_readItems_20 (by decide) ?_
  refine lv_istore_n (lv' := [(1, .int (0 : Int32)), (0, .ref q)]) hx hb dX8_readItems_21 rfl hl (by decide) rfl (fun ls hl => ?_)
  refine lv_aload_n hx hb dX8_readItems_22 rfl (lv_at hl 1 rfl) ?_
  have hp : Pt (w_X8_readItems Y q q_row q_isKept q_text q_seenFold q_seenSpan q_readLong q_marks q_isMeasured q_waysAre q_haveSpan g_links g_undos g_length g_seenMany g_trace g_at (0 : Int32) g_number (0 : Int32) (0 : Int32) (0 : Int32) g_wayMany g_text g_readLong) (w_X8_nextToken Y q q_row q_isKept q_text q_seenFold q_seenSpan q_readLong q_marks q_isMeasured q_waysAre q_haveSpan g_links g_undos g_length g_seenMany g_trace g_at (0 : Int32) g_number (0 : Int32) (0 : Int32) (0 : Int32) g_wayMany g_text) [0, 1] := ⟨rfl, by decide +kernel⟩
  refine go_v hp hP hD hS hA (fun _ => rfl) (va_runV (As := []) (rest := []) ⟨hx, hb, hml, hown, hts⟩ (c_X8_nextToken h _) (cwV 0 hts gX8_readItems_X8_nextToken rfl rfl rfl (by decide +kernel) ⟨Nat.le_of_ble_eq_true rfl, Nat.le_of_ble_eq_true rfl⟩) (pre_V (b := q) (q0 := 0) (ci := 8) (q := (RX8, TX8, 22)) hp hK hN hP hD rfl rfl) rfl rfl hl.1 rfl (lv_room (Nat.le_of_ble_eq_true rfl)) dX8_readItems_23 ⟨Nat.le_of_ble_eq_true rfl, Nat.le_of_ble_eq_true rfl⟩) (fun u H locs h hP hD hS => ?_)
  obtain ⟨u29, u30⟩ := u
  try dsimp only at h
  have hP : va_P D vwCl (w_X8_readItems Y q q_row q_isKept q_text q_seenFold q_seenSpan q_readLong q_marks q_isMeasured q_waysAre q_haveSpan g_links g_undos g_length g_seenMany g_trace u29 u30 g_number (0 : Int32) (0 : Int32) (0 : Int32) g_wayMany g_text g_readLong) H := hP
  have hD : va_D A (w_X8_readItems Y q q_row q_isKept q_text q_seenFold q_seenSpan q_readLong q_marks q_isMeasured q_waysAre q_haveSpan g_links g_undos g_length g_seenMany g_trace u29 u30 g_number (0 : Int32) (0 : Int32) (0 : Int32) g_wayMany g_text g_readLong) := hD
  obtain ⟨n, h⟩ := h
  exact L_X8_readItems_26 C hK hA  n _ _ _ _ _ _ _ _ h _ _ _ hP hD hS (lv_sub hl [1, 0] rfl)
abbrev rm_X8_rule : Room := { frames := 7, cells := 0, slots := 0, locals := 148 }
theorem in_X8_rule_X8 : ∀ w ∈ wsX80, w ∈ wsX8_rule := fun _ h => List.mem_cons_of_mem _ (List.mem_append_right _ h)
theorem k_X8_rule_f7 {s : State} {args : Array Value} (hts : ∀ w ∈ wsX8_rule, w.before args s = true) : (Cond.fieldLink RX8 7 "FoldRuleModel" "row" "[I").before args s = true := hts _ (by decide +kernel)
theorem k_X8_rule_f75 {s : State} {args : Array Value} (hts : ∀ w ∈ wsX8_rule, w.before args s = true) : (Cond.fieldLink RX8 75 "FoldRuleModel" "readFolded" "I").before args s = true := hts _ (by decide +kernel)
theorem k_X8_rule_f78 {s : State} {args : Array Value} (hts : ∀ w ∈ wsX8_rule, w.before args s = true) : (Cond.fieldLink RX8 78 "FoldRuleModel" "readStiff" "I").before args s = true := hts _ (by decide +kernel)
theorem k_X8_rule_f102 {s : State} {args : Array Value} (hts : ∀ w ∈ wsX8_rule, w.before args s = true) : (Cond.fieldLink RX8 102 "FoldRuleModel" "undos" "I").before args s = true := hts _ (by decide +kernel)
theorem k_X8_rule_f105 {s : State} {args : Array Value} (hts : ∀ w ∈ wsX8_rule, w.before args s = true) : (Cond.fieldLink RX8 105 "FoldRuleModel" "seenMany" "I").before args s = true := hts _ (by decide +kernel)
theorem k_X8_rule_f13 {s : State} {args : Array Value} (hts : ∀ w ∈ wsX8_rule, w.before args s = true) : (Cond.fieldLink RX8 13 "FoldRuleModel" "isKept" "[Z").before args s = true := hts _ (by decide +kernel)
theorem k_X8_rule_f41 {s : State} {args : Array Value} (hts : ∀ w ∈ wsX8_rule, w.before args s = true) : (Cond.fieldLink RX8 41 "FoldRuleModel" "links" "I").before args s = true := hts _ (by decide +kernel)
theorem k_X8_rule_f26 {s : State} {args : Array Value} (hts : ∀ w ∈ wsX8_rule, w.before args s = true) : (Cond.fieldLink RX8 26 "FoldRuleModel" "readLong" "[I").before args s = true := hts _ (by decide +kernel)
theorem k_X8_rule_f49 {s : State} {args : Array Value} (hts : ∀ w ∈ wsX8_rule, w.before args s = true) : (Cond.fieldLink RX8 49 "FoldRuleModel" "length" "I").before args s = true := hts _ (by decide +kernel)
theorem k_X8_rule_f68 {s : State} {args : Array Value} (hts : ∀ w ∈ wsX8_rule, w.before args s = true) : (Cond.fieldLink RX8 68 "FoldRuleModel" "readLinks" "I").before args s = true := hts _ (by decide +kernel)
theorem k_X8_rule_f55 {s : State} {args : Array Value} (hts : ∀ w ∈ wsX8_rule, w.before args s = true) : (Cond.fieldLink RX8 55 "FoldRuleModel" "at" "I").before args s = true := hts _ (by decide +kernel)
set_option maxHeartbeats 4000000 in
set_option maxRecDepth 100000 in
theorem L_X8_rule_34 {p : Program} {l : Launch} {e : Env} {s : State} {m : MethodId} {args : Array Value} {below : List Frame} {meth : Method} {c : Code} {D : va_G} {Y : ClassId × ClassId × ClassId} {A : Nat → Prop} {q q_row q_isKept q_text q_seenFold q_seenSpan q_readLong q_marks q_isMeasured q_waysAre q_haveSpan : Nat} {g_links g_undos g_length g_seenMany : Int32} {g_trace : Int64} {g_at g_behind g_number g_readLinks g_readFolded g_readStiff g_wayMany : Int32} {g_text g_readLong g_isKept : Nat → Int32} {x1 : Int32} {Q : Int32 → Int32 → Int32 → Int32 → Int32 → Int32 → Int32 → Int32 → Int32 → Int32 → Int32 → (Nat → Int32) → (Nat → Int32) → (Nat → Int32) → Prop} (C : Ctx p s m args meth c cX8_rule 3 (some .int) wsX8_rule RX8) (hK : va_K D vwCl (tyS Y) s) (hA : ∀ q, s.heap.size ≤ q → A q) : ∀ (n : Nat) (x2 : Int32) (g_row : Nat → Int32), itr2 (B_X8_rule_34 g_links g_length g_at g_behind g_number g_readLinks g_readFolded g_readStiff g_readLong g_isKept x1 Q) n x2 g_row → ∀ (H : Heap) (locs : List Loc) (ls : Array Slot), va_P D vwCl (w_X8_rule Y q q_row q_isKept q_text q_seenFold q_seenSpan q_readLong q_marks q_isMeasured q_waysAre q_haveSpan g_links g_undos g_length g_seenMany g_trace g_at g_behind g_number g_readLinks g_readFolded g_readStiff g_wayMany g_text g_readLong g_row g_isKept) H → va_D A (w_X8_rule Y q q_row q_isKept q_text q_seenFold q_seenSpan q_readLong q_marks q_isMeasured q_waysAre q_haveSpan g_links g_undos g_length g_seenMany g_trace g_at g_behind g_number g_readLinks g_readFolded g_readStiff g_wayMany g_text g_readLong g_row g_isKept) → va_S A s.heap H locs → lv_has ls 3 [(0, .ref q), (1, .int x1), (2, .int x2)] → W p l e rm_X8_rule s m args below meth c H locs 0 0 (QI below args s D Y A (fun r (u : Int32 × Int32 × Int32 × Int32 × Int32 × Int32 × Int32 × Int32 × Int32 × Int32 × (Nat → Int32) × (Nat → Int32) × (Nat → Int32)) => Q r u.1 u.2.1 u.2.2.1 u.2.2.2.1 u.2.2.2.2.1 u.2.2.2.2.2.1 u.2.2.2.2.2.2.1 u.2.2.2.2.2.2.2.1 u.2.2.2.2.2.2.2.2.1 u.2.2.2.2.2.2.2.2.2.1 u.2.2.2.2.2.2.2.2.2.2.1 u.2.2.2.2.2.2.2.2.2.2.2.1 u.2.2.2.2.2.2.2.2.2.2.2.2) (fun u : Int32 × Int32 × Int32 × Int32 × Int32 × Int32 × Int32 × Int32 × Int32 × Int32 × (Nat → Int32) × (Nat → Int32) × (Nat → Int32) => (w_X8_rule Y q q_row q_isKept q_text q_seenFold q_seenSpan q_readLong q_marks q_isMeasured q_waysAre q_haveSpan u.1 u.2.1 u.2.2.1 u.2.2.2.1 g_trace u.2.2.2.2.1 u.2.2.2.2.2.1 u.2.2.2.2.2.2.1 u.2.2.2.2.2.2.2.1 u.2.2.2.2.2.2.2.2.1 u.2.2.2.2.2.2.2.2.2.1 g_wayMany g_text u.2.2.2.2.2.2.2.2.2.2.1 u.2.2.2.2.2.2.2.2.2.2.2.1 u.2.2.2.2.2.2.2.2.2.2.2.2))) (F0 m 34 ls []) := by
  intro n
  induction n with
  | zero => intro x2 g_row h; exact False.elim h
  | succ n ih =>
    intro x2 g_row h H locs ls hP hD hS hl
    obtain ⟨⟨hx, hb, hml, hown, hts⟩, hr, hlocks, hN⟩ := id C
    have h : B_X8_rule_34 g_links g_length g_at g_behind g_number g_readLinks g_readFolded g_readStiff g_readLong g_isKept x1 Q (itr2 (B_X8_rule_34 g_links g_length g_at g_behind g_number g_readLinks g_readFolded g_readStiff g_readLong g_isKept x1 Q) n) x2 g_row := h
    unfold B_X8_rule_34 at h
    refine lv_iload_n hx hb dX8_rule_34 rfl (lv_at hl 2 rfl) ?_
    refine lv_bipush (v := 9) hx hb dX8_rule_35 (by decide) ?_
    refine lv_icmp_ge (tgt := 72) hx hb dX8_rule_37 (by decide) (fun c12 => ?_) (fun c12 => ?_)
    · have h := h.1 c12
      refine lv_aload_n hx hb dX8_rule_72 rfl (lv_at hl 0 rfl) ?_
      refine va_get (D := D) (ci := 8) (v := .ref q_row) (C := RX8) (T := TX8) (N := 22) hx hb hts in_X8_rule_X8 hown hK hP 0 rfl rfl 0 (by decide) (k_X8_rule_f7 hts) (fun _ h9 => h9) rfl dX8_rule_73 ?_
      refine lv_bipush (v := 9) hx hb dX8_rule_76 (by decide) ?_
      refine lv_aload_n hx hb dX8_rule_78 rfl (lv_at hl 0 rfl) ?_
      refine va_get (D := D) (ci := 8) (v := .int g_readFolded) (C := RX8) (T := TX8) (N := 22) hx hb hts in_X8_rule_X8 hown hK hP 0 rfl rfl 15 (by decide) (k_X8_rule_f75 hts) (fun _ h9 => h9) rfl dX8_rule_79 ?_
      obtain ⟨hin, h⟩ := h
      refine va_iast hx hb hK hP hD hS 3 0 rfl rfl hin dX8_rule_82 (fun H locs hP hD hS => ?_)
      have hP : va_P D vwCl (w_X8_rule Y q q_row q_isKept q_text q_seenFold q_seenSpan q_readLong q_marks q_isMeasured q_waysAre q_haveSpan g_links g_undos g_length g_seenMany g_trace g_at g_behind g_number g_readLinks g_readFolded g_readStiff g_wayMany g_text g_readLong (upd g_row ((9 : Int32)).toNatClampNeg g_readFolded) g_isKept) H := hP
      have hD : va_D A (w_X8_rule Y q q_row q_isKept q_text q_seenFold q_seenSpan q_readLong q_marks q_isMeasured q_waysAre q_haveSpan g_links g_undos g_length g_seenMany g_trace g_at g_behind g_number g_readLinks g_readFolded g_readStiff g_wayMany g_text g_readLong (upd g_row ((9 : Int32)).toNatClampNeg g_readFolded) g_isKept) := hD
      refine lv_aload_n hx hb dX8_rule_83 rfl (lv_at hl 0 rfl) ?_
      refine va_get (D := D) (ci := 8) (v := .ref q_row) (C := RX8) (T := TX8) (N := 22) hx hb hts in_X8_rule_X8 hown hK hP 0 rfl rfl 0 (by decide) (k_X8_rule_f7 hts) (fun _ h9 => h9) rfl dX8_rule_84 ?_
      refine lv_bipush (v := 10) hx hb dX8_rule_87 (by decide) ?_
      refine lv_aload_n hx hb dX8_rule_89 rfl (lv_at hl 0 rfl) ?_
      refine va_get (D := D) (ci := 8) (v := .int g_readStiff) (C := RX8) (T := TX8) (N := 22) hx hb hts in_X8_rule_X8 hown hK hP 0 rfl rfl 16 (by decide) (k_X8_rule_f78 hts) (fun _ h9 => h9) rfl dX8_rule_90 ?_
      obtain ⟨hin, h⟩ := h
      refine va_iast hx hb hK hP hD hS 3 0 rfl rfl hin dX8_rule_93 (fun H locs hP hD hS => ?_)
      have hP : va_P D vwCl (w_X8_rule Y q q_row q_isKept q_text q_seenFold q_seenSpan q_readLong q_marks q_isMeasured q_waysAre q_haveSpan g_links g_undos g_length g_seenMany g_trace g_at g_behind g_number g_readLinks g_readFolded g_readStiff g_wayMany g_text g_readLong (upd (upd g_row ((9 : Int32)).toNatClampNeg g_readFolded) ((10 : Int32)).toNatClampNeg g_readStiff) g_isKept) H := hP
      have hD : va_D A (w_X8_rule Y q q_row q_isKept q_text q_seenFold q_seenSpan q_readLong q_marks q_isMeasured q_waysAre q_haveSpan g_links g_undos g_length g_seenMany g_trace g_at g_behind g_number g_readLinks g_readFolded g_readStiff g_wayMany g_text g_readLong (upd (upd g_row ((9 : Int32)).toNatClampNeg g_readFolded) ((10 : Int32)).toNatClampNeg g_readStiff) g_isKept) := hD
      refine lv_aload_n hx hb dX8_rule_94 rfl (lv_at hl 0 rfl) ?_
      refine lv_iconst (v := 0) hx hb dX8_rule_95 (by decide) ?_
      refine va_put (D := D) (ci := 8) (v := .int (0 : Int32)) (ty := .int) (C := RX8) (T := TX8) (N := 22) hx hb hts in_X8_rule_X8 tyX8 tyX8_ok nmX8 hown hK hP hD hS 0 rfl rfl 2 (by decide) (k_X8_rule_f102 hts) (fun _ h9 => h9) rfl (by decide +kernel) rfl rfl (Nat.le_of_ble_eq_true rfl) dX8_rule_96 (fun H locs hP hD hS => ?_)
      have hP : va_P D vwCl (w_X8_rule Y q q_row q_isKept q_text q_seenFold q_seenSpan q_readLong q_marks q_isMeasured q_waysAre q_haveSpan g_links (0 : Int32) g_length g_seenMany g_trace g_at g_behind g_number g_readLinks g_readFolded g_readStiff g_wayMany g_text g_readLong (upd (upd g_row ((9 : Int32)).toNatClampNeg g_readFolded) ((10 : Int32)).toNatClampNeg g_readStiff) g_isKept) H := hP
      have hD : va_D A (w_X8_rule Y q q_row q_isKept q_text q_seenFold q_seenSpan q_readLong q_marks q_isMeasured q_waysAre q_haveSpan g_links (0 : Int32) g_length g_seenMany g_trace g_at g_behind g_number g_readLinks g_readFolded g_readStiff g_wayMany g_text g_readLong (upd (upd g_row ((9 : Int32)).toNatClampNeg g_readFolded) ((10 : Int32)).toNatClampNeg g_readStiff) g_isKept) := hD
      refine lv_aload_n hx hb dX8_rule_99 rfl (lv_at hl 0 rfl) ?_
      refine lv_iconst (v := 0) hx hb dX8_rule_100 (by decide) ?_
      refine va_put (D := D) (ci := 8) (v := .int (0 : Int32)) (ty := .int) (C := RX8) (T := TX8) (N := 22) hx hb hts in_X8_rule_X8 tyX8 tyX8_ok nmX8 hown hK hP hD hS 0 rfl rfl 6 (by decide) (k_X8_rule_f105 hts) (fun _ h9 => h9) rfl (by decide +kernel) rfl rfl (Nat.le_of_ble_eq_true rfl) dX8_rule_101 (fun H locs hP hD hS => ?_)
      have hP : va_P D vwCl (w_X8_rule Y q q_row q_isKept q_text q_seenFold q_seenSpan q_readLong q_marks q_isMeasured q_waysAre q_haveSpan g_links (0 : Int32) g_length (0 : Int32) g_trace g_at g_behind g_number g_readLinks g_readFolded g_readStiff g_wayMany g_text g_readLong (upd (upd g_row ((9 : Int32)).toNatClampNeg g_readFolded) ((10 : Int32)).toNatClampNeg g_readStiff) g_isKept) H := hP
      have hD : va_D A (w_X8_rule Y q q_row q_isKept q_text q_seenFold q_seenSpan q_readLong q_marks q_isMeasured q_waysAre q_haveSpan g_links (0 : Int32) g_length (0 : Int32) g_trace g_at g_behind g_number g_readLinks g_readFolded g_readStiff g_wayMany g_text g_readLong (upd (upd g_row ((9 : Int32)).toNatClampNeg g_readFolded) ((10 : Int32)).toNatClampNeg g_readStiff) g_isKept) := hD
      refine lv_aload_n hx hb dX8_rule_104 rfl (lv_at hl 0 rfl) ?_
      refine va_get (D := D) (ci := 8) (v := .ref q_isKept) (C := RX8) (T := TX8) (N := 22) hx hb hts in_X8_rule_X8 hown hK hP 0 rfl rfl 3 (by decide) (k_X8_rule_f13 hts) (fun _ h9 => h9) rfl dX8_rule_105 ?_
      refine lv_iconst (v := 0) hx hb dX8_rule_108 (by decide) ?_
      refine lv_iconst (v := 0) hx hb dX8_rule_109 (by decide) ?_
      obtain ⟨hin, h⟩ := h
      refine va_zast hx hb hK hP hD hS 4 1 rfl rfl hin dX8_rule_110 (fun H locs hP hD hS => ?_)
      have hP : va_P D vwCl (w_X8_rule Y q q_row q_isKept q_text q_seenFold q_seenSpan q_readLong q_marks q_isMeasured q_waysAre q_haveSpan g_links (0 : Int32) g_length (0 : Int32) g_trace g_at g_behind g_number g_readLinks g_readFolded g_readStiff g_wayMany g_text g_readLong (upd (upd g_row ((9 : Int32)).toNatClampNeg g_readFolded) ((10 : Int32)).toNatClampNeg g_readStiff) (upd g_isKept ((0 : Int32)).toNatClampNeg (vp_nar .boolean (0 : Int32)))) H := hP
      have hD : va_D A (w_X8_rule Y q q_row q_isKept q_text q_seenFold q_seenSpan q_readLong q_marks q_isMeasured q_waysAre q_haveSpan g_links (0 : Int32) g_length (0 : Int32) g_trace g_at g_behind g_number g_readLinks g_readFolded g_readStiff g_wayMany g_text g_readLong (upd (upd g_row ((9 : Int32)).toNatClampNeg g_readFolded) ((10 : Int32)).toNatClampNeg g_readStiff) (upd g_isKept ((0 : Int32)).toNatClampNeg (vp_nar .boolean (0 : Int32)))) := hD
      refine lv_aload_n hx hb dX8_rule_111 rfl (lv_at hl 0 rfl) ?_
      refine va_get (D := D) (ci := 8) (v := .ref q_isKept) (C := RX8) (T := TX8) (N := 22) hx hb hts in_X8_rule_X8 hown hK hP 0 rfl rfl 3 (by decide) (k_X8_rule_f13 hts) (fun _ h9 => h9) rfl dX8_rule_112 ?_
      refine lv_iconst (v := 1) hx hb dX8_rule_115 (by decide) ?_
      refine lv_iconst (v := 0) hx hb dX8_rule_116 (by decide) ?_
      obtain ⟨hin, h⟩ := h
      refine va_zast hx hb hK hP hD hS 4 1 rfl rfl hin dX8_rule_117 (fun H locs hP hD hS => ?_)
      have hP : va_P D vwCl (w_X8_rule Y q q_row q_isKept q_text q_seenFold q_seenSpan q_readLong q_marks q_isMeasured q_waysAre q_haveSpan g_links (0 : Int32) g_length (0 : Int32) g_trace g_at g_behind g_number g_readLinks g_readFolded g_readStiff g_wayMany g_text g_readLong (upd (upd g_row ((9 : Int32)).toNatClampNeg g_readFolded) ((10 : Int32)).toNatClampNeg g_readStiff) (upd (upd g_isKept ((0 : Int32)).toNatClampNeg (vp_nar .boolean (0 : Int32))) ((1 : Int32)).toNatClampNeg (vp_nar .boolean (0 : Int32)))) H := hP
      have hD : va_D A (w_X8_rule Y q q_row q_isKept q_text q_seenFold q_seenSpan q_readLong q_marks q_isMeasured q_waysAre q_haveSpan g_links (0 : Int32) g_length (0 : Int32) g_trace g_at g_behind g_number g_readLinks g_readFolded g_readStiff g_wayMany g_text g_readLong (upd (upd g_row ((9 : Int32)).toNatClampNeg g_readFolded) ((10 : Int32)).toNatClampNeg g_readStiff) (upd (upd g_isKept ((0 : Int32)).toNatClampNeg (vp_nar .boolean (0 : Int32))) ((1 : Int32)).toNatClampNeg (vp_nar .boolean (0 : Int32)))) := hD
      refine lv_iload_n hx hb dX8_rule_118 rfl (lv_at hl 1 rfl) ?_
      exact ret_i (g_links, (0 : Int32), g_length, (0 : Int32), g_at, g_behind, g_number, g_readLinks, g_readFolded, g_readStiff, g_readLong, (upd (upd g_row ((9 : Int32)).toNatClampNeg g_readFolded) ((10 : Int32)).toNatClampNeg g_readStiff), (upd (upd g_isKept ((0 : Int32)).toNatClampNeg (vp_nar .boolean (0 : Int32))) ((1 : Int32)).toNatClampNeg (vp_nar .boolean (0 : Int32)))) hx hb hr hlocks hK hP hD hS h dX8_rule_119
    · have h := h.2 c12
      refine lv_aload_n hx hb dX8_rule_40 rfl (lv_at hl 0 rfl) ?_
      refine va_get (D := D) (ci := 8) (v := .ref q_row) (C := RX8) (T := TX8) (N := 22) hx hb hts in_X8_rule_X8 hown hK hP 0 rfl rfl 0 (by decide) (k_X8_rule_f7 hts) (fun _ h9 => h9) rfl dX8_rule_41 ?_
      refine lv_iconst (v := 0) hx hb dX8_rule_44 (by decide) ?_
      refine lv_iload_n hx hb dX8_rule_45 rfl (lv_at hl 2 rfl) ?_
      refine lv_iadd hx hb dX8_rule_46 ?_
      refine lv_iload_n hx hb dX8_rule_47 rfl (lv_at hl 2 rfl) ?_
      refine lv_aload_n hx hb dX8_rule_48 rfl (lv_at hl 0 rfl) ?_
      refine va_get (D := D) (ci := 8) (v := .int g_links) (C := RX8) (T := TX8) (N := 22) hx hb hts in_X8_rule_X8 hown hK hP 0 rfl rfl 1 (by decide) (k_X8_rule_f41 hts) (fun _ h9 => h9) rfl dX8_rule_49 ?_
      refine lv_icmp_ge (tgt := 64) hx hb dX8_rule_52 (by decide) (fun c13 => ?_) (fun c13 => ?_)
      · have h := h.1 c13
        refine lv_iconst (v := 0) hx hb dX8_rule_64 (by decide) ?_
        obtain ⟨hin, h⟩ := h
        refine va_iast hx hb hK hP hD hS 3 0 rfl rfl hin dX8_rule_65 (fun H locs hP hD hS => ?_)
        have hP : va_P D vwCl (w_X8_rule Y q q_row q_isKept q_text q_seenFold q_seenSpan q_readLong q_marks q_isMeasured q_waysAre q_haveSpan g_links g_undos g_length g_seenMany g_trace g_at g_behind g_number g_readLinks g_readFolded g_readStiff g_wayMany g_text g_readLong (upd g_row (((0 : Int32) + x2)).toNatClampNeg (0 : Int32)) g_isKept) H := hP
        have hD : va_D A (w_X8_rule Y q q_row q_isKept q_text q_seenFold q_seenSpan q_readLong q_marks q_isMeasured q_waysAre q_haveSpan g_links g_undos g_length g_seenMany g_trace g_at g_behind g_number g_readLinks g_readFolded g_readStiff g_wayMany g_text g_readLong (upd g_row (((0 : Int32) + x2)).toNatClampNeg (0 : Int32)) g_isKept) := hD
        obtain ⟨z14, ez14⟩ : ∃ y : Int32, y = (x2 + (1 : Int32)) := ⟨_, rfl⟩
        have h := h z14 ez14
        refine lv_iinc (v := z14) (lv' := [(2, .int z14), (0, .ref q), (1, .int x1)]) hx hb dX8_rule_66 hl (k := 2) rfl (by rw [ez14]; rfl) (by decide) rfl (fun ls hl => ?_)
        refine lv_goto (tgt := 34) hx hb dX8_rule_69 (by decide) ?_
        exact ih _ _ h _ _ _ hP hD hS (lv_sub hl [1, 2, 0] rfl)
      · have h := h.2 c13
        refine lv_aload_n hx hb dX8_rule_55 rfl (lv_at hl 0 rfl) ?_
        refine va_get (D := D) (ci := 8) (v := .ref q_readLong) (C := RX8) (T := TX8) (N := 22) hx hb hts in_X8_rule_X8 hown hK hP 0 rfl rfl 14 (by decide) (k_X8_rule_f26 hts) (fun _ h9 => h9) rfl dX8_rule_56 ?_
        refine lv_iload_n hx hb dX8_rule_59 rfl (lv_at hl 2 rfl) ?_
        obtain ⟨hin, h⟩ := h
        refine va_iald hx hb hK hP 2 0 rfl rfl hin dX8_rule_60 ?_
        refine lv_goto (tgt := 65) hx hb dX8_rule_61 (by decide) ?_
        refine lv_topi (fun z15 ez15 => ?_)
        have h := h z15 ez15
        obtain ⟨hin, h⟩ := h
        refine va_iast hx hb hK hP hD hS 3 0 rfl rfl hin dX8_rule_65 (fun H locs hP hD hS => ?_)
        have hP : va_P D vwCl (w_X8_rule Y q q_row q_isKept q_text q_seenFold q_seenSpan q_readLong q_marks q_isMeasured q_waysAre q_haveSpan g_links g_undos g_length g_seenMany g_trace g_at g_behind g_number g_readLinks g_readFolded g_readStiff g_wayMany g_text g_readLong (upd g_row (((0 : Int32) + x2)).toNatClampNeg z15) g_isKept) H := hP
        have hD : va_D A (w_X8_rule Y q q_row q_isKept q_text q_seenFold q_seenSpan q_readLong q_marks q_isMeasured q_waysAre q_haveSpan g_links g_undos g_length g_seenMany g_trace g_at g_behind g_number g_readLinks g_readFolded g_readStiff g_wayMany g_text g_readLong (upd g_row (((0 : Int32) + x2)).toNatClampNeg z15) g_isKept) := hD
        obtain ⟨z16, ez16⟩ : ∃ y : Int32, y = (x2 + (1 : Int32)) := ⟨_, rfl⟩
        have h := h z16 ez16
        refine lv_iinc (v := z16) (lv' := [(2, .int z16), (0, .ref q), (1, .int x1)]) hx hb dX8_rule_66 hl (k := 2) rfl (by rw [ez16]; rfl) (by decide) rfl (fun ls hl => ?_)
        refine lv_goto (tgt := 34) hx hb dX8_rule_69 (by decide) ?_
        exact ih _ _ h _ _ _ hP hD hS (lv_sub hl [1, 2, 0] rfl)
set_option maxHeartbeats 4000000 in
set_option maxRecDepth 100000 in
theorem c_X8_rule {l : Launch} {D : va_G} {Y : ClassId × ClassId × ClassId} {q q_row q_isKept q_text q_seenFold q_seenSpan q_readLong q_marks q_isMeasured q_waysAre q_haveSpan : Nat} {g_links g_undos g_length g_seenMany : Int32} {g_trace : Int64} {g_at g_behind g_number g_readLinks g_readFolded g_readStiff g_wayMany : Int32} {g_text g_readLong g_row g_isKept : Nat → Int32} {Q : Int32 → Int32 → Int32 → Int32 → Int32 → Int32 → Int32 → Int32 → Int32 → Int32 → Int32 → (Nat → Int32) → (Nat → Int32) → (Nat → Int32) → Prop} (h : wp_X8_rule g_links g_undos g_length g_seenMany g_at g_behind g_number g_readLinks g_readFolded g_readStiff g_text g_readLong g_row g_isKept Q) (sz : Nat) : MtI l yX8_rule wsX8_rule rm_X8_rule [.ref q] D Y (w_X8_rule Y q q_row q_isKept q_text q_seenFold q_seenSpan q_readLong q_marks q_isMeasured q_waysAre q_haveSpan g_links g_undos g_length g_seenMany g_trace g_at g_behind g_number g_readLinks g_readFolded g_readStiff g_wayMany g_text g_readLong g_row g_isKept) (fun r (u : Int32 × Int32 × Int32 × Int32 × Int32 × Int32 × Int32 × Int32 × Int32 × Int32 × (Nat → Int32) × (Nat → Int32) × (Nat → Int32)) => Q r u.1 u.2.1 u.2.2.1 u.2.2.2.1 u.2.2.2.2.1 u.2.2.2.2.2.1 u.2.2.2.2.2.2.1 u.2.2.2.2.2.2.2.1 u.2.2.2.2.2.2.2.2.1 u.2.2.2.2.2.2.2.2.2.1 u.2.2.2.2.2.2.2.2.2.2.1 u.2.2.2.2.2.2.2.2.2.2.2.1 u.2.2.2.2.2.2.2.2.2.2.2.2) (fun u : Int32 × Int32 × Int32 × Int32 × Int32 × Int32 × Int32 × Int32 × Int32 × Int32 × (Nat → Int32) × (Nat → Int32) × (Nat → Int32) => (w_X8_rule Y q q_row q_isKept q_text q_seenFold q_seenSpan q_readLong q_marks q_isMeasured q_waysAre q_haveSpan u.1 u.2.1 u.2.2.1 u.2.2.2.1 g_trace u.2.2.2.2.1 u.2.2.2.2.2.1 u.2.2.2.2.2.2.1 u.2.2.2.2.2.2.2.1 u.2.2.2.2.2.2.2.2.1 u.2.2.2.2.2.2.2.2.2.1 g_wayMany g_text u.2.2.2.2.2.2.2.2.2.2.1 u.2.2.2.2.2.2.2.2.2.2.2.1 u.2.2.2.2.2.2.2.2.2.2.2.2)) sz := by
  refine ct_i (cc := cX8_rule) (nL := 3) (ret := (some .int)) (by decide) rfl (Nat.le_of_ble_eq_true rfl) ?_ sz
  intro p e s m below meth c A ls C hK hA hP hD hS hl
  obtain ⟨⟨hx, hb, hml, hown, hts⟩, hr, hlocks, hN⟩ := id C
  have hown : s.vm.findClass RX8 = some m.cls := hown
  have hl : lv_has ls 3 [(0, .ref q)] := hl
  unfold wp_X8_rule at h
  refine lv_aload_n hx hb dX8_rule_0 rfl (lv_at hl 0 rfl) ?_
  have hp : Pt (w_X8_rule Y q q_row q_isKept q_text q_seenFold q_seenSpan q_readLong q_marks q_isMeasured q_waysAre q_haveSpan g_links g_undos g_length g_seenMany g_trace g_at g_behind g_number g_readLinks g_readFolded g_readStiff g_wayMany g_text g_readLong g_row g_isKept) (w_X8_readItems Y q q_row q_isKept q_text q_seenFold q_seenSpan q_readLong q_marks q_isMeasured q_waysAre q_haveSpan g_links g_undos g_length g_seenMany g_trace g_at g_behind g_number g_readLinks g_readFolded g_readStiff g_wayMany g_text g_readLong) [0, 1, 2] := ⟨rfl, by decide +kernel⟩
  refine go_i hp hP hD hS hA (fun _ => rfl) (va_runV (As := []) (rest := []) ⟨hx, hb, hml, hown, hts⟩ (c_X8_readItems h _) (cwV 0 hts gX8_rule_X8_readItems rfl rfl rfl (by decide +kernel) ⟨Nat.le_of_ble_eq_true rfl, Nat.le_of_ble_eq_true rfl⟩) (pre_V (b := q) (q0 := 0) (ci := 8) (q := (RX8, TX8, 22)) hp hK hN hP hD rfl rfl) rfl rfl hl.1 rfl (lv_room (Nat.le_of_ble_eq_true rfl)) dX8_rule_1 ⟨Nat.le_of_ble_eq_true rfl, Nat.le_of_ble_eq_true rfl⟩) (fun r17 u H locs h hP hD hS => ?_)
  obtain ⟨u18, u19, u20, u21, u22, u23, u24⟩ := u
  try dsimp only at h
  have hP : va_P D vwCl (w_X8_rule Y q q_row q_isKept q_text q_seenFold q_seenSpan q_readLong q_marks q_isMeasured q_waysAre q_haveSpan g_links g_undos g_length g_seenMany g_trace u18 u19 u20 u21 u22 u23 g_wayMany g_text u24 g_row g_isKept) H := hP
  have hD : va_D A (w_X8_rule Y q q_row q_isKept q_text q_seenFold q_seenSpan q_readLong q_marks q_isMeasured q_waysAre q_haveSpan g_links g_undos g_length g_seenMany g_trace u18 u19 u20 u21 u22 u23 g_wayMany g_text u24 g_row g_isKept) := hD
  refine lv_istore_n (lv' := [(1, .int r17), (0, .ref q)]) hx hb dX8_rule_4 rfl hl (by decide) rfl (fun ls hl => ?_)
  refine lv_iload_n hx hb dX8_rule_5 rfl (lv_at hl 0 rfl) ?_
  refine lv_bipush (v := (-9)) hx hb dX8_rule_6 (by decide) ?_
  refine lv_icmp_ne (tgt := 19) hx hb dX8_rule_8 (by decide) (fun c25 => ?_) (fun c25 => ?_)
  · have h := h.1 c25
    refine lv_aload_n hx hb dX8_rule_19 rfl (lv_at hl 1 rfl) ?_
    refine lv_iconst (v := 0) hx hb dX8_rule_20 (by decide) ?_
    refine va_put (D := D) (ci := 8) (v := .int (0 : Int32)) (ty := .int) (C := RX8) (T := TX8) (N := 22) hx hb hts in_X8_rule_X8 tyX8 tyX8_ok nmX8 hown hK hP hD hS 0 rfl rfl 5 (by decide) (k_X8_rule_f49 hts) (fun _ h9 => h9) rfl (by decide +kernel) rfl rfl (Nat.le_of_ble_eq_true rfl) dX8_rule_21 (fun H locs hP hD hS => ?_)
    have hP : va_P D vwCl (w_X8_rule Y q q_row q_isKept q_text q_seenFold q_seenSpan q_readLong q_marks q_isMeasured q_waysAre q_haveSpan g_links g_undos (0 : Int32) g_seenMany g_trace u18 u19 u20 u21 u22 u23 g_wayMany g_text u24 g_row g_isKept) H := hP
    have hD : va_D A (w_X8_rule Y q q_row q_isKept q_text q_seenFold q_seenSpan q_readLong q_marks q_isMeasured q_waysAre q_haveSpan g_links g_undos (0 : Int32) g_seenMany g_trace u18 u19 u20 u21 u22 u23 g_wayMany g_text u24 g_row g_isKept) := hD
    refine lv_aload_n hx hb dX8_rule_24 rfl (lv_at hl 1 rfl) ?_
    refine lv_aload_n hx hb dX8_rule_25 rfl (lv_at hl 1 rfl) ?_
    refine va_get (D := D) (ci := 8) (v := .int u21) (C := RX8) (T := TX8) (N := 22) hx hb hts in_X8_rule_X8 hown hK hP 0 rfl rfl 13 (by decide) (k_X8_rule_f68 hts) (fun _ h9 => h9) rfl dX8_rule_26 ?_
    refine va_put (D := D) (ci := 8) (v := .int u21) (ty := .int) (C := RX8) (T := TX8) (N := 22) hx hb hts in_X8_rule_X8 tyX8 tyX8_ok nmX8 hown hK hP hD hS 0 rfl rfl 1 (by decide) (k_X8_rule_f41 hts) (fun _ h9 => h9) rfl (by decide +kernel) rfl rfl (Nat.le_of_ble_eq_true rfl) dX8_rule_29 (fun H locs hP hD hS => ?_)
    have hP : va_P D vwCl (w_X8_rule Y q q_row q_isKept q_text q_seenFold q_seenSpan q_readLong q_marks q_isMeasured q_waysAre q_haveSpan u21 g_undos (0 : Int32) g_seenMany g_trace u18 u19 u20 u21 u22 u23 g_wayMany g_text u24 g_row g_isKept) H := hP
    have hD : va_D A (w_X8_rule Y q q_row q_isKept q_text q_seenFold q_seenSpan q_readLong q_marks q_isMeasured q_waysAre q_haveSpan u21 g_undos (0 : Int32) g_seenMany g_trace u18 u19 u20 u21 u22 u23 g_wayMany g_text u24 g_row g_isKept) := hD
    refine lv_iconst (v := 0) hx hb dX8_rule_32 (by decide) ?_
    refine lv_istore_n (lv' := [(2, .int (0 : Int32)), (1, .int r17), (0, .ref q)]) hx hb dX8_rule_33 rfl hl (by decide) rfl (fun ls hl => ?_)
    obtain ⟨n, h⟩ := h
    exact L_X8_rule_34 C hK hA  n _ _ h _ _ _ hP hD hS (lv_sub hl [2, 1, 0] rfl)
  · have h := h.2 c25
    refine lv_bipush (v := (-10)) hx hb dX8_rule_11 (by decide) ?_
    refine lv_aload_n hx hb dX8_rule_13 rfl (lv_at hl 1 rfl) ?_
    refine va_get (D := D) (ci := 8) (v := .int u18) (C := RX8) (T := TX8) (N := 22) hx hb hts in_X8_rule_X8 hown hK hP 0 rfl rfl 10 (by decide) (k_X8_rule_f55 hts) (fun _ h9 => h9) rfl dX8_rule_14 ?_
    refine lv_isub hx hb dX8_rule_17 ?_
    exact ret_i (g_links, g_undos, g_length, g_seenMany, u18, u19, u20, u21, u22, u23, u24, g_row, g_isKept) hx hb hr hlocks hK hP hD hS h dX8_rule_18
