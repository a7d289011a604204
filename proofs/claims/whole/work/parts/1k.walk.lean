abbrev rm_X8_undo : Room := { frames := 1, cells := 0, slots := 0, locals := 23 }
theorem in_X8_undo_X8 : ∀ w ∈ wsX80, w ∈ wsX8_undo := fun _ h => List.mem_cons_of_mem _ (List.mem_append_right _ h)
theorem k_X8_undo_f102 {s : State} {args : Array Value} (hts : ∀ w ∈ wsX8_undo, w.before args s = true) : (Cond.fieldLink RX8 102 "FoldRuleModel" "undos" "I").before args s = true := hts _ (by decide +kernel)
set_option maxHeartbeats 4000000 in
set_option maxRecDepth 100000 in
theorem c_X8_undo {l : Launch} {D : va_G} {Y : ClassId × ClassId × ClassId} {q q_row q_isKept q_text q_seenFold q_seenSpan q_readLong q_marks q_isMeasured q_waysAre q_haveSpan : Nat} {g_links g_undos g_length g_seenMany : Int32} {g_trace : Int64} {g_at g_behind g_number g_readLinks g_readFolded g_readStiff g_wayMany : Int32} {g_row : Nat → Int32} {Q : Int32 → Int32 → (Nat → Int32) → Prop} (h : wp_X8_undo g_undos g_row Q) (sz : Nat) : MtI l yX8_undo wsX8_undo rm_X8_undo [.ref q] D Y (w_X8_undo Y q q_row q_isKept q_text q_seenFold q_seenSpan q_readLong q_marks q_isMeasured q_waysAre q_haveSpan g_links g_undos g_length g_seenMany g_trace g_at g_behind g_number g_readLinks g_readFolded g_readStiff g_wayMany g_row) (fun r (u : Int32 × (Nat → Int32)) => Q r u.1 u.2) (fun u : Int32 × (Nat → Int32) => (w_X8_undo Y q q_row q_isKept q_text q_seenFold q_seenSpan q_readLong q_marks q_isMeasured q_waysAre q_haveSpan g_links u.1 g_length g_seenMany g_trace g_at g_behind g_number g_readLinks g_readFolded g_readStiff g_wayMany u.2)) sz := by
  refine ct_i (cc := cX8_undo) (nL := 1) (ret := (some .int)) (by decide) rfl (Nat.le_of_ble_eq_true rfl) ?_ sz
  intro p e s m below meth c A ls C hK hA hP hD hS hl
  obtain ⟨⟨hx, hb, hml, hown, hts⟩, hr, hlocks, hN⟩ := id C
  have hown : s.vm.findClass RX8 = some m.cls := hown
  have hl : lv_has ls 1 [(0, .ref q)] := hl
  unfold wp_X8_undo at h
  refine lv_aload_n hx hb dX8_undo_0 rfl (lv_at hl 0 rfl) ?_
  refine va_get (D := D) (ci := 8) (v := .int g_undos) (C := RX8) (T := TX8) (N := 22) hx hb hts in_X8_undo_X8 hown hK hP 0 rfl rfl 2 (by decide) (k_X8_undo_f102 hts) (fun _ h9 => h9) rfl dX8_undo_1 ?_
  refine lv_if_ne (tgt := 10) hx hb dX8_undo_4 (by decide) (fun c3 => ?_) (fun c3 => ?_)
  · have h := h.1 c3
    refine lv_aload_n hx hb dX8_undo_10 rfl (lv_at hl 0 rfl) ?_
    refine lv_dup hx hb dX8_undo_11 rfl ?_
    refine va_get (D := D) (ci := 8) (v := .int g_undos) (C := RX8) (T := TX8) (N := 22) hx hb hts in_X8_undo_X8 hown hK hP 0 rfl rfl 2 (by decide) (k_X8_undo_f102 hts) (fun _ h9 => h9) rfl dX8_undo_12 ?_
    refine lv_iconst (v := 1) hx hb dX8_undo_15 (by decide) ?_
    refine lv_isub hx hb dX8_undo_16 ?_
    refine lv_topi (fun z4 ez4 => ?_)
    have h := h z4 ez4
    refine va_put (D := D) (ci := 8) (v := .int z4) (ty := .int) (C := RX8) (T := TX8) (N := 22) hx hb hts in_X8_undo_X8 tyX8 tyX8_ok nmX8 hown hK hP hD hS 0 rfl rfl 2 (by decide) (k_X8_undo_f102 hts) (fun _ h9 => h9) rfl (by decide +kernel) rfl rfl (Nat.le_of_ble_eq_true rfl) dX8_undo_17 (fun H locs hP hD hS => ?_)
    have hP : va_P D vwCl (w_X8_undo Y q q_row q_isKept q_text q_seenFold q_seenSpan q_readLong q_marks q_isMeasured q_waysAre q_haveSpan g_links z4 g_length g_seenMany g_trace g_at g_behind g_number g_readLinks g_readFolded g_readStiff g_wayMany g_row) H := hP
    have hD : va_D A (w_X8_undo Y q q_row q_isKept q_text q_seenFold q_seenSpan q_readLong q_marks q_isMeasured q_waysAre q_haveSpan g_links z4 g_length g_seenMany g_trace g_at g_behind g_number g_readLinks g_readFolded g_readStiff g_wayMany g_row) := hD
    refine lv_aload_n hx hb dX8_undo_20 rfl (lv_at hl 0 rfl) ?_
    refine lv_bipush (v := 11) hx hb dX8_undo_21 (by decide) ?_
    refine lv_bipush (v := 11) hx hb dX8_undo_23 (by decide) ?_
    refine lv_aload_n hx hb dX8_undo_25 rfl (lv_at hl 0 rfl) ?_
    refine va_get (D := D) (ci := 8) (v := .int z4) (C := RX8) (T := TX8) (N := 22) hx hb hts in_X8_undo_X8 hown hK hP 0 rfl rfl 2 (by decide) (k_X8_undo_f102 hts) (fun _ h9 => h9) rfl dX8_undo_26 ?_
    refine lv_imul hx hb dX8_undo_29 ?_
    refine lv_iadd hx hb dX8_undo_30 ?_
    refine lv_iconst (v := 0) hx hb dX8_undo_31 (by decide) ?_
    have hp : Pt (w_X8_undo Y q q_row q_isKept q_text q_seenFold q_seenSpan q_readLong q_marks q_isMeasured q_waysAre q_haveSpan g_links z4 g_length g_seenMany g_trace g_at g_behind g_number g_readLinks g_readFolded g_readStiff g_wayMany g_row) (w_X8_copyRow Y q q_row q_isKept q_text q_seenFold q_seenSpan q_readLong q_marks q_isMeasured q_waysAre q_haveSpan g_links z4 g_length g_seenMany g_trace g_at g_behind g_number g_readLinks g_readFolded g_readStiff g_wayMany g_row) [0, 1] := ⟨rfl, by decide +kernel⟩
    refine go_v hp hP hD hS hA (fun _ => rfl) (va_runV (As := [.int ((11 : Int32) + ((11 : Int32) * z4)), .int (0 : Int32)]) (rest := []) ⟨hx, hb, hml, hown, hts⟩ (c_X8_copyRow h _) (cwV 2 hts gX8_undo_X8_copyRow rfl rfl rfl (by decide +kernel) ⟨Nat.le_of_ble_eq_true rfl, Nat.le_of_ble_eq_true rfl⟩) (pre_V (b := q) (q0 := 0) (ci := 8) (q := (RX8, TX8, 22)) hp hK hN hP hD rfl rfl) rfl rfl hl.1 rfl (lv_room (Nat.le_of_ble_eq_true rfl)) dX8_undo_32 ⟨Nat.le_of_ble_eq_true rfl, Nat.le_of_ble_eq_true rfl⟩) (fun u H locs h hP hD hS => ?_)
    obtain ⟨u6, rfl⟩ : ∃ z, z = u := ⟨_, rfl⟩
    try dsimp only at h
    have hP : va_P D vwCl (w_X8_undo Y q q_row q_isKept q_text q_seenFold q_seenSpan q_readLong q_marks q_isMeasured q_waysAre q_haveSpan g_links z4 g_length g_seenMany g_trace g_at g_behind g_number g_readLinks g_readFolded g_readStiff g_wayMany u6) H := hP
    have hD : va_D A (w_X8_undo Y q q_row q_isKept q_text q_seenFold q_seenSpan q_readLong q_marks q_isMeasured q_waysAre q_haveSpan g_links z4 g_length g_seenMany g_trace g_at g_behind g_number g_readLinks g_readFolded g_readStiff g_wayMany u6) := hD
    refine lv_aload_n hx hb dX8_undo_35 rfl (lv_at hl 0 rfl) ?_
    refine va_get (D := D) (ci := 8) (v := .int z4) (C := RX8) (T := TX8) (N := 22) hx hb hts in_X8_undo_X8 hown hK hP 0 rfl rfl 2 (by decide) (k_X8_undo_f102 hts) (fun _ h9 => h9) rfl dX8_undo_36 ?_
    exact ret_i (z4, u6) hx hb hr hlocks hK hP hD hS h dX8_undo_39
  · have h := h.2 c3
    refine lv_bipush (v := (-2)) hx hb dX8_undo_7 (by decide) ?_
    exact ret_i (g_undos, g_row) hx hb hr hlocks hK hP hD hS h dX8_undo_9
abbrev rm_X8_box : Room := { frames := 3, cells := 0, slots := 0, locals := 67 }
theorem in_X8_box_X8 : ∀ w ∈ wsX80, w ∈ wsX8_box := fun _ h => List.mem_cons_of_mem _ (List.mem_append_right _ h)
theorem k_X8_box_f7 {s : State} {args : Array Value} (hts : ∀ w ∈ wsX8_box, w.before args s = true) : (Cond.fieldLink RX8 7 "FoldRuleModel" "row" "[I").before args s = true := hts _ (by decide +kernel)
theorem k_X8_box_c138 {s : State} {args : Array Value} (hts : ∀ w ∈ wsX8_box, w.before args s = true) : (Cond.constant RX8 138 (99999)).before args s = true := hts _ (by decide +kernel)
set_option maxHeartbeats 4000000 in
set_option maxRecDepth 100000 in
theorem L_X8_box_35 {p : Program} {l : Launch} {e : Env} {s : State} {m : MethodId} {args : Array Value} {below : List Frame} {meth : Method} {c : Code} {D : va_G} {Y : ClassId × ClassId × ClassId} {A : Nat → Prop} {q q_row q_isKept q_text q_seenFold q_seenSpan q_readLong q_marks q_isMeasured q_waysAre q_haveSpan : Nat} {g_links g_undos g_length g_seenMany : Int32} {g_trace : Int64} {g_at g_behind g_number g_readLinks g_readFolded g_readStiff g_wayMany : Int32} {g_row : Nat → Int32} {x1 x2 : Int32} {Q : Int32 → (Nat → Int32) → Prop} (C : Ctx p s m args meth c cX8_box 8 (some .int) wsX8_box RX8) (hK : va_K D vwCl (tyS Y) s) (hA : ∀ q, s.heap.size ≤ q → A q) : ∀ (n : Nat) (x3 x4 x5 x6 : Int32) (g_marks : Nat → Int32), itr5 (B_X8_box_35 g_links g_row x1 x2 Q) n x3 x4 x5 x6 g_marks → ∀ (H : Heap) (locs : List Loc) (ls : Array Slot), va_P D vwCl (w_X8_box Y q q_row q_isKept q_text q_seenFold q_seenSpan q_readLong q_marks q_isMeasured q_waysAre q_haveSpan g_links g_undos g_length g_seenMany g_trace g_at g_behind g_number g_readLinks g_readFolded g_readStiff g_wayMany g_row g_marks) H → va_D A (w_X8_box Y q q_row q_isKept q_text q_seenFold q_seenSpan q_readLong q_marks q_isMeasured q_waysAre q_haveSpan g_links g_undos g_length g_seenMany g_trace g_at g_behind g_number g_readLinks g_readFolded g_readStiff g_wayMany g_row g_marks) → va_S A s.heap H locs → lv_has ls 8 [(0, .ref q), (1, .int x1), (2, .int x2), (3, .int x3), (4, .int x4), (5, .int x5), (6, .int x6)] → W p l e rm_X8_box s m args below meth c H locs 0 0 (QI below args s D Y A (fun r (u : (Nat → Int32)) => Q r u) (fun u : (Nat → Int32) => (w_X8_box Y q q_row q_isKept q_text q_seenFold q_seenSpan q_readLong q_marks q_isMeasured q_waysAre q_haveSpan g_links g_undos g_length g_seenMany g_trace g_at g_behind g_number g_readLinks g_readFolded g_readStiff g_wayMany g_row u))) (F0 m 35 ls []) := by
  intro n
  induction n with
  | zero => intro x3 x4 x5 x6 g_marks h; exact False.elim h
  | succ n ih =>
    intro x3 x4 x5 x6 g_marks h H locs ls hP hD hS hl
    obtain ⟨⟨hx, hb, hml, hown, hts⟩, hr, hlocks, hN⟩ := id C
    have h : B_X8_box_35 g_links g_row x1 x2 Q (itr5 (B_X8_box_35 g_links g_row x1 x2 Q) n) x3 x4 x5 x6 g_marks := h
    unfold B_X8_box_35 at h
    refine lv_iload hx hb dX8_box_35 (lv_at hl 6 rfl) ?_
    refine lv_aload_n hx hb dX8_box_37 rfl (lv_at hl 0 rfl) ?_
    have hp : Pt (w_X8_box Y q q_row q_isKept q_text q_seenFold q_seenSpan q_readLong q_marks q_isMeasured q_waysAre q_haveSpan g_links g_undos g_length g_seenMany g_trace g_at g_behind g_number g_readLinks g_readFolded g_readStiff g_wayMany g_row g_marks) (w_X8_folds Y q q_row q_isKept q_text q_seenFold q_seenSpan q_readLong q_marks q_isMeasured q_waysAre q_haveSpan g_links g_undos g_length g_seenMany g_trace g_at g_behind g_number g_readLinks g_readFolded g_readStiff g_wayMany) [0] := ⟨rfl, by decide +kernel⟩
    refine go_i hp hP hD hS hA (fun _ => rfl) (va_runV (As := []) (rest := [.int x6]) ⟨hx, hb, hml, hown, hts⟩ (c_X8_folds h _) (cwV 0 hts gX8_box_X8_folds rfl rfl rfl (by decide +kernel) ⟨Nat.le_of_ble_eq_true rfl, Nat.le_of_ble_eq_true rfl⟩) (pre_V (b := q) (q0 := 0) (ci := 8) (q := (RX8, TX8, 22)) hp hK hN hP hD rfl rfl) rfl rfl hl.1 rfl (lv_room (Nat.le_of_ble_eq_true rfl)) dX8_box_38 ⟨Nat.le_of_ble_eq_true rfl, Nat.le_of_ble_eq_true rfl⟩) (fun r15 u H locs h hP hD hS => ?_)
    try dsimp only at h
    have hP : va_P D vwCl (w_X8_box Y q q_row q_isKept q_text q_seenFold q_seenSpan q_readLong q_marks q_isMeasured q_waysAre q_haveSpan g_links g_undos g_length g_seenMany g_trace g_at g_behind g_number g_readLinks g_readFolded g_readStiff g_wayMany g_row g_marks) H := hP
    have hD : va_D A (w_X8_box Y q q_row q_isKept q_text q_seenFold q_seenSpan q_readLong q_marks q_isMeasured q_waysAre q_haveSpan g_links g_undos g_length g_seenMany g_trace g_at g_behind g_number g_readLinks g_readFolded g_readStiff g_wayMany g_row g_marks) := hD
    refine lv_icmp_ge (tgt := 119) hx hb dX8_box_41 (by decide) (fun c16 => ?_) (fun c16 => ?_)
    · have h := h.1 c16
      refine lv_iload_n hx hb dX8_box_119 rfl (lv_at hl 2 rfl) ?_
      refine lv_if_ne (tgt := 127) hx hb dX8_box_120 (by decide) (fun c17 => ?_) (fun c17 => ?_)
      · have h := h.1 c17
        refine lv_iload_n hx hb dX8_box_127 rfl (lv_at hl 2 rfl) ?_
        refine lv_iconst (v := 1) hx hb dX8_box_128 (by decide) ?_
        refine lv_icmp_eq (tgt := 139) hx hb dX8_box_129 (by decide) (fun c18 => ?_) (fun c18 => ?_)
        · have h := h.1 c18
          refine lv_iload hx hb dX8_box_139 (lv_at hl 4 rfl) ?_
          refine lv_goto (tgt := 146) hx hb dX8_box_141 (by decide) ?_
          exact ret_i (g_marks) hx hb hr hlocks hK hP hD hS h dX8_box_146
        · have h := h.2 c18
          refine lv_iload hx hb dX8_box_132 (lv_at hl 4 rfl) ?_
          refine lv_bipush (v := (-9)) hx hb dX8_box_134 (by decide) ?_
          refine lv_icmp_ne (tgt := 144) hx hb dX8_box_136 (by decide) (fun c19 => ?_) (fun c19 => ?_)
          · have h := h.1 c19
            refine lv_iload hx hb dX8_box_144 (lv_at hl 5 rfl) ?_
            exact ret_i (g_marks) hx hb hr hlocks hK hP hD hS h dX8_box_146
          · have h := h.2 c19
            refine lv_iload hx hb dX8_box_139 (lv_at hl 4 rfl) ?_
            refine lv_goto (tgt := 146) hx hb dX8_box_141 (by decide) ?_
            exact ret_i (g_marks) hx hb hr hlocks hK hP hD hS h dX8_box_146
      · have h := h.2 c17
        refine lv_iload_n hx hb dX8_box_123 rfl (lv_at hl 3 rfl) ?_
        refine lv_goto (tgt := 146) hx hb dX8_box_124 (by decide) ?_
        exact ret_i (g_marks) hx hb hr hlocks hK hP hD hS h dX8_box_146
    · have h := h.2 c16
      refine lv_aload_n hx hb dX8_box_44 rfl (lv_at hl 0 rfl) ?_
      refine lv_iload hx hb dX8_box_45 (lv_at hl 6 rfl) ?_
      have hp : Pt (w_X8_box Y q q_row q_isKept q_text q_seenFold q_seenSpan q_readLong q_marks q_isMeasured q_waysAre q_haveSpan g_links g_undos g_length g_seenMany g_trace g_at g_behind g_number g_readLinks g_readFolded g_readStiff g_wayMany g_row g_marks) (w_X8_isFold Y q q_row q_isKept q_text q_seenFold q_seenSpan q_readLong q_marks q_isMeasured q_waysAre q_haveSpan g_links g_undos g_length g_seenMany g_trace g_at g_behind g_number g_readLinks g_readFolded g_readStiff g_wayMany g_row) [0, 1] := ⟨rfl, by decide +kernel⟩
      refine go_i hp hP hD hS hA (fun _ => rfl) (va_runV (As := [.int x6]) (rest := []) ⟨hx, hb, hml, hown, hts⟩ (c_X8_isFold h _) (cwV 1 hts gX8_box_X8_isFold rfl rfl rfl (by decide +kernel) ⟨Nat.le_of_ble_eq_true rfl, Nat.le_of_ble_eq_true rfl⟩) (pre_V (b := q) (q0 := 0) (ci := 8) (q := (RX8, TX8, 22)) hp hK hN hP hD rfl rfl) rfl rfl hl.1 rfl (lv_room (Nat.le_of_ble_eq_true rfl)) dX8_box_47 ⟨Nat.le_of_ble_eq_true rfl, Nat.le_of_ble_eq_true rfl⟩) (fun r20 u H locs h hP hD hS => ?_)
      try dsimp only at h
      have hP : va_P D vwCl (w_X8_box Y q q_row q_isKept q_text q_seenFold q_seenSpan q_readLong q_marks q_isMeasured q_waysAre q_haveSpan g_links g_undos g_length g_seenMany g_trace g_at g_behind g_number g_readLinks g_readFolded g_readStiff g_wayMany g_row g_marks) H := hP
      have hD : va_D A (w_X8_box Y q q_row q_isKept q_text q_seenFold q_seenSpan q_readLong q_marks q_isMeasured q_waysAre q_haveSpan g_links g_undos g_length g_seenMany g_trace g_at g_behind g_number g_readLinks g_readFolded g_readStiff g_wayMany g_row g_marks) := hD
      refine lv_if_eq (tgt := 113) hx hb dX8_box_50 (by decide) (fun c21 => ?_) (fun c21 => ?_)
      · have h := h.1 c21
        obtain ⟨z22, ez22⟩ : ∃ y : Int32, y = (x6 + (1 : Int32)) := ⟨_, rfl⟩
        have h := h z22 ez22
        refine lv_iinc (v := z22) (lv' := [(6, .int z22), (0, .ref q), (1, .int x1), (2, .int x2), (3, .int x3), (4, .int x4), (5, .int x5)]) hx hb dX8_box_113 hl (k := 6) rfl (by rw [ez22]; rfl) (by decide) rfl (fun ls hl => ?_)
        refine lv_goto (tgt := 35) hx hb dX8_box_116 (by decide) ?_
        exact ih _ _ _ _ _ h _ _ _ hP hD hS (lv_sub hl [1, 2, 3, 4, 5, 6, 0] rfl)
      · have h := h.2 c21
        refine lv_aload_n hx hb dX8_box_53 rfl (lv_at hl 0 rfl) ?_
        refine lv_iload hx hb dX8_box_54 (lv_at hl 6 rfl) ?_
        have hp : Pt (w_X8_box Y q q_row q_isKept q_text q_seenFold q_seenSpan q_readLong q_marks q_isMeasured q_waysAre q_haveSpan g_links g_undos g_length g_seenMany g_trace g_at g_behind g_number g_readLinks g_readFolded g_readStiff g_wayMany g_row g_marks) (w_X8_spanBy Y q q_row q_isKept q_text q_seenFold q_seenSpan q_readLong q_marks q_isMeasured q_waysAre q_haveSpan g_links g_undos g_length g_seenMany g_trace g_at g_behind g_number g_readLinks g_readFolded g_readStiff g_wayMany g_marks g_row) [0, 2, 1] := ⟨rfl, by decide +kernel⟩
        refine go_i hp hP hD hS hA (fun _ => rfl) (va_runV (As := [.int x6]) (rest := []) ⟨hx, hb, hml, hown, hts⟩ (c_X8_spanBy h _) (cwV 1 hts gX8_box_X8_spanBy rfl rfl rfl (by decide +kernel) ⟨Nat.le_of_ble_eq_true rfl, Nat.le_of_ble_eq_true rfl⟩) (pre_V (b := q) (q0 := 0) (ci := 8) (q := (RX8, TX8, 22)) hp hK hN hP hD rfl rfl) rfl rfl hl.1 rfl (lv_room (Nat.le_of_ble_eq_true rfl)) dX8_box_56 ⟨Nat.le_of_ble_eq_true rfl, Nat.le_of_ble_eq_true rfl⟩) (fun r23 u H locs h hP hD hS => ?_)
        obtain ⟨u24, rfl⟩ : ∃ z, z = u := ⟨_, rfl⟩
        try dsimp only at h
        have hP : va_P D vwCl (w_X8_box Y q q_row q_isKept q_text q_seenFold q_seenSpan q_readLong q_marks q_isMeasured q_waysAre q_haveSpan g_links g_undos g_length g_seenMany g_trace g_at g_behind g_number g_readLinks g_readFolded g_readStiff g_wayMany g_row u24) H := hP
        have hD : va_D A (w_X8_box Y q q_row q_isKept q_text q_seenFold q_seenSpan q_readLong q_marks q_isMeasured q_waysAre q_haveSpan g_links g_undos g_length g_seenMany g_trace g_at g_behind g_number g_readLinks g_readFolded g_readStiff g_wayMany g_row u24) := hD
        refine lv_iload_n hx hb dX8_box_59 rfl (lv_at hl 1 rfl) ?_
        refine lv_icmp_gt (tgt := 113) hx hb dX8_box_60 (by decide) (fun c25 => ?_) (fun c25 => ?_)
        · have h := h.1 c25
          obtain ⟨z26, ez26⟩ : ∃ y : Int32, y = (x6 + (1 : Int32)) := ⟨_, rfl⟩
          have h := h z26 ez26
          refine lv_iinc (v := z26) (lv' := [(6, .int z26), (0, .ref q), (1, .int x1), (2, .int x2), (3, .int x3), (4, .int x4), (5, .int x5)]) hx hb dX8_box_113 hl (k := 6) rfl (by rw [ez26]; rfl) (by decide) rfl (fun ls hl => ?_)
          refine lv_goto (tgt := 35) hx hb dX8_box_116 (by decide) ?_
          exact ih _ _ _ _ _ h _ _ _ hP hD hS (lv_sub hl [1, 2, 3, 4, 5, 6, 0] rfl)
        · have h := h.2 c25
          obtain ⟨z27, ez27⟩ : ∃ y : Int32, y = (x3 + (1 : Int32)) := ⟨_, rfl⟩
          have h := h z27 ez27
          refine lv_iinc (v := z27) (lv' := [(3, .int z27), (0, .ref q), (1, .int x1), (2, .int x2), (4, .int x4), (5, .int x5), (6, .int x6)]) hx hb dX8_box_63 hl (k := 3) rfl (by rw [ez27]; rfl) (by decide) rfl (fun ls hl => ?_)
          refine lv_iload hx hb dX8_box_66 (lv_at hl 6 rfl) ?_
          refine lv_aload_n hx hb dX8_box_68 rfl (lv_at hl 1 rfl) ?_
          refine va_get (D := D) (ci := 8) (v := .ref q_row) (C := RX8) (T := TX8) (N := 22) hx hb hts in_X8_box_X8 hown hK hP 0 rfl rfl 0 (by decide) (k_X8_box_f7 hts) (fun _ h9 => h9) rfl dX8_box_69 ?_
          refine lv_bipush (v := 9) hx hb dX8_box_72 (by decide) ?_
          obtain ⟨hin, h⟩ := h
          refine va_iald hx hb hK hP 1 0 rfl rfl hin dX8_box_74 ?_
          refine lv_ixor hx hb dX8_box_75 ?_
          have hp : Pt (w_X8_box Y q q_row q_isKept q_text q_seenFold q_seenSpan q_readLong q_marks q_isMeasured q_waysAre q_haveSpan g_links g_undos g_length g_seenMany g_trace g_at g_behind g_number g_readLinks g_readFolded g_readStiff g_wayMany g_row u24) (w_X8_bits Y ) [] := ⟨rfl, by decide +kernel⟩
          refine go_i hp hP hD hS hA (fun _ => rfl) (va_runS (As := [.int (x6 ^^^ (g_row ((9 : Int32)).toNatClampNeg))]) (rest := []) ⟨hx, hb, hml, hown, hts⟩ (c_X8_bits h _) (va_cwS 1 hts gX8_box_X8_bits rfl rfl rfl (by decide +kernel) ⟨Nat.le_of_ble_eq_true rfl, Nat.le_of_ble_eq_true rfl⟩) (pre_S hp hK hN hP hD) rfl rfl hl.1 rfl (lv_room (Nat.le_of_ble_eq_true rfl)) dX8_box_76 ⟨Nat.le_of_ble_eq_true rfl, Nat.le_of_ble_eq_true rfl⟩) (fun r28 u H locs h hP hD hS => ?_)
          try dsimp only at h
          have hP : va_P D vwCl (w_X8_box Y q q_row q_isKept q_text q_seenFold q_seenSpan q_readLong q_marks q_isMeasured q_waysAre q_haveSpan g_links g_undos g_length g_seenMany g_trace g_at g_behind g_number g_readLinks g_readFolded g_readStiff g_wayMany g_row u24) H := hP
          have hD : va_D A (w_X8_box Y q q_row q_isKept q_text q_seenFold q_seenSpan q_readLong q_marks q_isMeasured q_waysAre q_haveSpan g_links g_undos g_length g_seenMany g_trace g_at g_behind g_number g_readLinks g_readFolded g_readStiff g_wayMany g_row u24) := hD
          refine lv_istore (lv' := [(7, .int r28), (3, .int z27), (0, .ref q), (1, .int x1), (2, .int x2), (4, .int x4), (5, .int x5), (6, .int x6)]) hx hb dX8_box_79 hl (by decide) rfl (fun ls hl => ?_)
          refine lv_iload hx hb dX8_box_81 (lv_at hl 0 rfl) ?_
          refine lv_iload hx hb dX8_box_83 (lv_at hl 6 rfl) ?_
          refine lv_icmp_ge (tgt := 93) hx hb dX8_box_85 (by decide) (fun c29 => ?_) (fun c29 => ?_)
          · have h := h.1 c29
            refine lv_iload hx hb dX8_box_93 (lv_at hl 5 rfl) ?_
            refine lv_istore (lv' := [(4, .int x4), (7, .int r28), (3, .int z27), (0, .ref q), (1, .int x1), (2, .int x2), (5, .int x5), (6, .int x6)]) hx hb dX8_box_95 hl (by decide) rfl (fun ls hl => ?_)
            refine lv_iload hx hb dX8_box_97 (lv_at hl 1 rfl) ?_
            refine lv_iload hx hb dX8_box_99 (lv_at hl 6 rfl) ?_
            refine lv_icmp_ge (tgt := 109) hx hb dX8_box_101 (by decide) (fun c30 => ?_) (fun c30 => ?_)
            · have h := h.1 c30
              refine lv_iload hx hb dX8_box_109 (lv_at hl 6 rfl) ?_
              refine lv_istore (lv' := [(5, .int x5), (4, .int x4), (7, .int r28), (3, .int z27), (0, .ref q), (1, .int x1), (2, .int x2), (6, .int x6)]) hx hb dX8_box_111 hl (by decide) rfl (fun ls hl => ?_)
              obtain ⟨z31, ez31⟩ : ∃ y : Int32, y = (x6 + (1 : Int32)) := ⟨_, rfl⟩
              have h := h z31 ez31
              refine lv_iinc (v := z31) (lv' := [(6, .int z31), (5, .int x5), (4, .int x4), (7, .int r28), (3, .int z27), (0, .ref q), (1, .int x1), (2, .int x2)]) hx hb dX8_box_113 hl (k := 7) rfl (by rw [ez31]; rfl) (by decide) rfl (fun ls hl => ?_)
              refine lv_goto (tgt := 35) hx hb dX8_box_116 (by decide) ?_
              exact ih _ _ _ _ _ h _ _ _ hP hD hS (lv_sub hl [5, 6, 7, 4, 2, 1, 0] rfl)
            · have h := h.2 c30
              refine lv_iload hx hb dX8_box_104 (lv_at hl 1 rfl) ?_
              refine lv_goto (tgt := 111) hx hb dX8_box_106 (by decide) ?_
              refine lv_istore (lv' := [(5, .int r28), (4, .int x4), (7, .int r28), (3, .int z27), (0, .ref q), (1, .int x1), (2, .int x2), (6, .int x6)]) hx hb dX8_box_111 hl (by decide) rfl (fun ls hl => ?_)
              obtain ⟨z32, ez32⟩ : ∃ y : Int32, y = (x6 + (1 : Int32)) := ⟨_, rfl⟩
              have h := h z32 ez32
              refine lv_iinc (v := z32) (lv' := [(6, .int z32), (5, .int r28), (4, .int x4), (7, .int r28), (3, .int z27), (0, .ref q), (1, .int x1), (2, .int x2)]) hx hb dX8_box_113 hl (k := 7) rfl (by rw [ez32]; rfl) (by decide) rfl (fun ls hl => ?_)
              refine lv_goto (tgt := 35) hx hb dX8_box_116 (by decide) ?_
              exact ih _ _ _ _ _ h _ _ _ hP hD hS (lv_sub hl [5, 6, 7, 4, 2, 1, 0] rfl)
          · have h := h.2 c29
            refine lv_iload hx hb dX8_box_88 (lv_at hl 7 rfl) ?_
            refine lv_goto (tgt := 95) hx hb dX8_box_90 (by decide) ?_
            refine lv_istore (lv' := [(4, .int x6), (7, .int r28), (3, .int z27), (0, .ref q), (1, .int x1), (2, .int x2), (5, .int x5), (6, .int x6)]) hx hb dX8_box_95 hl (by decide) rfl (fun ls hl => ?_)
            refine lv_iload hx hb dX8_box_97 (lv_at hl 1 rfl) ?_
            refine lv_iload hx hb dX8_box_99 (lv_at hl 6 rfl) ?_
            refine lv_icmp_ge (tgt := 109) hx hb dX8_box_101 (by decide) (fun c33 => ?_) (fun c33 => ?_)
            · have h := h.1 c33
              refine lv_iload hx hb dX8_box_109 (lv_at hl 6 rfl) ?_
              refine lv_istore (lv' := [(5, .int x5), (4, .int x6), (7, .int r28), (3, .int z27), (0, .ref q), (1, .int x1), (2, .int x2), (6, .int x6)]) hx hb dX8_box_111 hl (by decide) rfl (fun ls hl => ?_)
              obtain ⟨z34, ez34⟩ : ∃ y : Int32, y = (x6 + (1 : Int32)) := ⟨_, rfl⟩
              have h := h z34 ez34
              refine lv_iinc (v := z34) (lv' := [(6, .int z34), (5, .int x5), (4, .int x6), (7, .int r28), (3, .int z27), (0, .ref q), (1, .int x1), (2, .int x2)]) hx hb dX8_box_113 hl (k := 7) rfl (by rw [ez34]; rfl) (by decide) rfl (fun ls hl => ?_)
              refine lv_goto (tgt := 35) hx hb dX8_box_116 (by decide) ?_
              exact ih _ _ _ _ _ h _ _ _ hP hD hS (lv_sub hl [5, 6, 7, 4, 2, 1, 0] rfl)
            · have h := h.2 c33
              refine lv_iload hx hb dX8_box_104 (lv_at hl 1 rfl) ?_
              refine lv_goto (tgt := 111) hx hb dX8_box_106 (by decide) ?_
              refine lv_istore (lv' := [(5, .int r28), (4, .int x6), (7, .int r28), (3, .int z27), (0, .ref q), (1, .int x1), (2, .int x2), (6, .int x6)]) hx hb dX8_box_111 hl (by decide) rfl (fun ls hl => ?_)
              obtain ⟨z35, ez35⟩ : ∃ y : Int32, y = (x6 + (1 : Int32)) := ⟨_, rfl⟩
              have h := h z35 ez35
              refine lv_iinc (v := z35) (lv' := [(6, .int z35), (5, .int r28), (4, .int x6), (7, .int r28), (3, .int z27), (0, .ref q), (1, .int x1), (2, .int x2)]) hx hb dX8_box_113 hl (k := 7) rfl (by rw [ez35]; rfl) (by decide) rfl (fun ls hl => ?_)
              refine lv_goto (tgt := 35) hx hb dX8_box_116 (by decide) ?_
              exact ih _ _ _ _ _ h _ _ _ hP hD hS (lv_sub hl [5, 6, 7, 4, 2, 1, 0] rfl)
set_option maxHeartbeats 4000000 in
set_option maxRecDepth 100000 in
theorem c_X8_box {l : Launch} {D : va_G} {Y : ClassId × ClassId × ClassId} {q q_row q_isKept q_text q_seenFold q_seenSpan q_readLong q_marks q_isMeasured q_waysAre q_haveSpan : Nat} {g_links g_undos g_length g_seenMany : Int32} {g_trace : Int64} {g_at g_behind g_number g_readLinks g_readFolded g_readStiff g_wayMany : Int32} {g_row g_marks : Nat → Int32} {x1 x2 : Int32} {Q : Int32 → (Nat → Int32) → Prop} (h : wp_X8_box g_links g_row g_marks x1 x2 Q) (sz : Nat) : MtI l yX8_box wsX8_box rm_X8_box [.ref q, .int x1, .int x2] D Y (w_X8_box Y q q_row q_isKept q_text q_seenFold q_seenSpan q_readLong q_marks q_isMeasured q_waysAre q_haveSpan g_links g_undos g_length g_seenMany g_trace g_at g_behind g_number g_readLinks g_readFolded g_readStiff g_wayMany g_row g_marks) (fun r (u : (Nat → Int32)) => Q r u) (fun u : (Nat → Int32) => (w_X8_box Y q q_row q_isKept q_text q_seenFold q_seenSpan q_readLong q_marks q_isMeasured q_waysAre q_haveSpan g_links g_undos g_length g_seenMany g_trace g_at g_behind g_number g_readLinks g_readFolded g_readStiff g_wayMany g_row u)) sz := by
  refine ct_i (cc := cX8_box) (nL := 8) (ret := (some .int)) (by decide) rfl (Nat.le_of_ble_eq_true rfl) ?_ sz
  intro p e s m below meth c A ls C hK hA hP hD hS hl
  obtain ⟨⟨hx, hb, hml, hown, hts⟩, hr, hlocks, hN⟩ := id C
  have hown : s.vm.findClass RX8 = some m.cls := hown
  have hl : lv_has ls 8 [(0, .ref q), (1, .int x1), (2, .int x2)] := hl
  unfold wp_X8_box at h
  refine lv_iload_n hx hb dX8_box_0 rfl (lv_at hl 1 rfl) ?_
  refine lv_iconst (v := 1) hx hb dX8_box_1 (by decide) ?_
  refine lv_sipush (v := 180) hx hb dX8_box_2 (by decide) ?_
  have hp : Pt (w_X8_box Y q q_row q_isKept q_text q_seenFold q_seenSpan q_readLong q_marks q_isMeasured q_waysAre q_haveSpan g_links g_undos g_length g_seenMany g_trace g_at g_behind g_number g_readLinks g_readFolded g_readStiff g_wayMany g_row g_marks) (w_X8_in Y ) [] := ⟨rfl, by decide +kernel⟩
  refine go_i hp hP hD hS hA (fun _ => rfl) (va_runS (As := [.int x1, .int (1 : Int32), .int (180 : Int32)]) (rest := []) ⟨hx, hb, hml, hown, hts⟩ (c_X8_in h _) (va_cwS 3 hts gX8_box_X8_in rfl rfl rfl (by decide +kernel) ⟨Nat.le_of_ble_eq_true rfl, Nat.le_of_ble_eq_true rfl⟩) (pre_S hp hK hN hP hD) rfl rfl hl.1 rfl (lv_room (Nat.le_of_ble_eq_true rfl)) dX8_box_5 ⟨Nat.le_of_ble_eq_true rfl, Nat.le_of_ble_eq_true rfl⟩) (fun r36 u H locs h hP hD hS => ?_)
  try dsimp only at h
  have hP : va_P D vwCl (w_X8_box Y q q_row q_isKept q_text q_seenFold q_seenSpan q_readLong q_marks q_isMeasured q_waysAre q_haveSpan g_links g_undos g_length g_seenMany g_trace g_at g_behind g_number g_readLinks g_readFolded g_readStiff g_wayMany g_row g_marks) H := hP
  have hD : va_D A (w_X8_box Y q q_row q_isKept q_text q_seenFold q_seenSpan q_readLong q_marks q_isMeasured q_waysAre q_haveSpan g_links g_undos g_length g_seenMany g_trace g_at g_behind g_number g_readLinks g_readFolded g_readStiff g_wayMany g_row g_marks) := hD
  refine lv_if_eq (tgt := 20) hx hb dX8_box_8 (by decide) (fun c37 => ?_) (fun c37 => ?_)
  · have h := h.1 c37
    refine lv_iconst (v := (-1)) hx hb dX8_box_20 (by decide) ?_
    exact ret_i (g_marks) hx hb hr hlocks hK hP hD hS h dX8_box_21
  · have h := h.2 c37
    refine lv_iload_n hx hb dX8_box_11 rfl (lv_at hl 2 rfl) ?_
    refine lv_iconst (v := 0) hx hb dX8_box_12 (by decide) ?_
    refine lv_iconst (v := 2) hx hb dX8_box_13 (by decide) ?_
    have hp : Pt (w_X8_box Y q q_row q_isKept q_text q_seenFold q_seenSpan q_readLong q_marks q_isMeasured q_waysAre q_haveSpan g_links g_undos g_length g_seenMany g_trace g_at g_behind g_number g_readLinks g_readFolded g_readStiff g_wayMany g_row g_marks) (w_X8_in Y ) [] := ⟨rfl, by decide +kernel⟩
    refine go_i hp hP hD hS hA (fun _ => rfl) (va_runS (As := [.int x2, .int (0 : Int32), .int (2 : Int32)]) (rest := []) ⟨hx, hb, hml, hown, hts⟩ (c_X8_in h _) (va_cwS 3 hts gX8_box_X8_in rfl rfl rfl (by decide +kernel) ⟨Nat.le_of_ble_eq_true rfl, Nat.le_of_ble_eq_true rfl⟩) (pre_S hp hK hN hP hD) rfl rfl hl.1 rfl (lv_room (Nat.le_of_ble_eq_true rfl)) dX8_box_14 ⟨Nat.le_of_ble_eq_true rfl, Nat.le_of_ble_eq_true rfl⟩) (fun r38 u H locs h hP hD hS => ?_)
    try dsimp only at h
    have hP : va_P D vwCl (w_X8_box Y q q_row q_isKept q_text q_seenFold q_seenSpan q_readLong q_marks q_isMeasured q_waysAre q_haveSpan g_links g_undos g_length g_seenMany g_trace g_at g_behind g_number g_readLinks g_readFolded g_readStiff g_wayMany g_row g_marks) H := hP
    have hD : va_D A (w_X8_box Y q q_row q_isKept q_text q_seenFold q_seenSpan q_readLong q_marks q_isMeasured q_waysAre q_haveSpan g_links g_undos g_length g_seenMany g_trace g_at g_behind g_number g_readLinks g_readFolded g_readStiff g_wayMany g_row g_marks) := hD
    refine lv_if_ne (tgt := 22) hx hb dX8_box_17 (by decide) (fun c39 => ?_) (fun c39 => ?_)
    · have h := h.1 c39
      refine lv_iconst (v := 0) hx hb dX8_box_22 (by decide) ?_
      refine lv_istore_n (lv' := [(3, .int (0 : Int32)), (0, .ref q), (1, .int x1), (2, .int x2)]) hx hb dX8_box_23 rfl hl (by decide) rfl (fun ls hl => ?_)
      refine lv_bipush (v := (-9)) hx hb dX8_box_24 (by decide) ?_
      refine lv_istore (lv' := [(4, .int (-9 : Int32)), (3, .int (0 : Int32)), (0, .ref q), (1, .int x1), (2, .int x2)]) hx hb dX8_box_26 hl (by decide) rfl (fun ls hl => ?_)
      refine lv_ldc hx hb hown (k_X8_box_c138 hts) dX8_box_28 ?_
      refine lv_istore (lv' := [(5, .int (99999 : Int32)), (4, .int (-9 : Int32)), (3, .int (0 : Int32)), (0, .ref q), (1, .int x1), (2, .int x2)]) hx hb dX8_box_30 hl (by decide) rfl (fun ls hl => ?_)
      refine lv_iconst (v := 0) hx hb dX8_box_32 (by decide) ?_
      refine lv_istore (lv' := [(6, .int (0 : Int32)), (5, .int (99999 : Int32)), (4, .int (-9 : Int32)), (3, .int (0 : Int32)), (0, .ref q), (1, .int x1), (2, .int x2)]) hx hb dX8_box_33 hl (by decide) rfl (fun ls hl => ?_)
      obtain ⟨n, h⟩ := h
      exact L_X8_box_35 C hK hA  n _ _ _ _ _ h _ _ _ hP hD hS (lv_sub hl [4, 5, 6, 3, 2, 1, 0] rfl)
    · have h := h.2 c39
      refine lv_iconst (v := (-1)) hx hb dX8_box_20 (by decide) ?_
      exact ret_i (g_marks) hx hb hr hlocks hK hP hD hS h dX8_box_21
abbrev rm_X8_end : Room := { frames := 2, cells := 0, slots := 0, locals := 46 }
theorem in_X8_end_X8 : ∀ w ∈ wsX80, w ∈ wsX8_end := fun _ h => List.mem_cons_of_mem _ (List.mem_append_right _ h)
theorem k_X8_end_f29 {s : State} {args : Array Value} (hts : ∀ w ∈ wsX8_end, w.before args s = true) : (Cond.fieldLink RX8 29 "FoldRuleModel" "marks" "[I").before args s = true := hts _ (by decide +kernel)
theorem k_X8_end_f41 {s : State} {args : Array Value} (hts : ∀ w ∈ wsX8_end, w.before args s = true) : (Cond.fieldLink RX8 41 "FoldRuleModel" "links" "I").before args s = true := hts _ (by decide +kernel)
theorem k_X8_end_c138 {s : State} {args : Array Value} (hts : ∀ w ∈ wsX8_end, w.before args s = true) : (Cond.constant RX8 138 (99999)).before args s = true := hts _ (by decide +kernel)
theorem k_X8_end_f7 {s : State} {args : Array Value} (hts : ∀ w ∈ wsX8_end, w.before args s = true) : (Cond.fieldLink RX8 7 "FoldRuleModel" "row" "[I").before args s = true := hts _ (by decide +kernel)
set_option maxHeartbeats 4000000 in
set_option maxRecDepth 100000 in
theorem L_X8_end_24 {p : Program} {l : Launch} {e : Env} {s : State} {m : MethodId} {args : Array Value} {below : List Frame} {meth : Method} {c : Code} {D : va_G} {Y : ClassId × ClassId × ClassId} {A : Nat → Prop} {q q_row q_isKept q_text q_seenFold q_seenSpan q_readLong q_marks q_isMeasured q_waysAre q_haveSpan : Nat} {g_links g_undos g_length g_seenMany : Int32} {g_trace : Int64} {g_at g_behind g_number g_readLinks g_readFolded g_readStiff g_wayMany : Int32} {g_row : Nat → Int32} {x1 : Int32} {Q : Int32 → (Nat → Int32) → Prop} (C : Ctx p s m args meth c cX8_end 6 (some .int) wsX8_end RX8) (hK : va_K D vwCl (tyS Y) s) (hA : ∀ q, s.heap.size ≤ q → A q) : ∀ (n : Nat) (x2 x3 x4 : Int32) (g_marks : Nat → Int32), itr4 (B_X8_end_24 g_links g_row x1 Q) n x2 x3 x4 g_marks → ∀ (H : Heap) (locs : List Loc) (ls : Array Slot), va_P D vwCl (w_X8_end Y q q_row q_isKept q_text q_seenFold q_seenSpan q_readLong q_marks q_isMeasured q_waysAre q_haveSpan g_links g_undos g_length g_seenMany g_trace g_at g_behind g_number g_readLinks g_readFolded g_readStiff g_wayMany g_row g_marks) H → va_D A (w_X8_end Y q q_row q_isKept q_text q_seenFold q_seenSpan q_readLong q_marks q_isMeasured q_waysAre q_haveSpan g_links g_undos g_length g_seenMany g_trace g_at g_behind g_number g_readLinks g_readFolded g_readStiff g_wayMany g_row g_marks) → va_S A s.heap H locs → lv_has ls 6 [(0, .ref q), (1, .int x1), (2, .int x2), (3, .int x3), (4, .int x4)] → W p l e rm_X8_end s m args below meth c H locs 0 0 (QI below args s D Y A (fun r (u : (Nat → Int32)) => Q r u) (fun u : (Nat → Int32) => (w_X8_end Y q q_row q_isKept q_text q_seenFold q_seenSpan q_readLong q_marks q_isMeasured q_waysAre q_haveSpan g_links g_undos g_length g_seenMany g_trace g_at g_behind g_number g_readLinks g_readFolded g_readStiff g_wayMany g_row u))) (F0 m 24 ls []) := by
  intro n
  induction n with
  | zero => intro x2 x3 x4 g_marks h; exact False.elim h
  | succ n ih =>
    intro x2 x3 x4 g_marks h H locs ls hP hD hS hl
    obtain ⟨⟨hx, hb, hml, hown, hts⟩, hr, hlocks, hN⟩ := id C
    have h : B_X8_end_24 g_links g_row x1 Q (itr4 (B_X8_end_24 g_links g_row x1 Q) n) x2 x3 x4 g_marks := h
    unfold B_X8_end_24 at h
    refine lv_iload hx hb dX8_end_24 (lv_at hl 4 rfl) ?_
    refine lv_aload_n hx hb dX8_end_26 rfl (lv_at hl 0 rfl) ?_
    have hp : Pt (w_X8_end Y q q_row q_isKept q_text q_seenFold q_seenSpan q_readLong q_marks q_isMeasured q_waysAre q_haveSpan g_links g_undos g_length g_seenMany g_trace g_at g_behind g_number g_readLinks g_readFolded g_readStiff g_wayMany g_row g_marks) (w_X8_folds Y q q_row q_isKept q_text q_seenFold q_seenSpan q_readLong q_marks q_isMeasured q_waysAre q_haveSpan g_links g_undos g_length g_seenMany g_trace g_at g_behind g_number g_readLinks g_readFolded g_readStiff g_wayMany) [0] := ⟨rfl, by decide +kernel⟩
    refine go_i hp hP hD hS hA (fun _ => rfl) (va_runV (As := []) (rest := [.int x4]) ⟨hx, hb, hml, hown, hts⟩ (c_X8_folds h _) (cwV 0 hts gX8_end_X8_folds rfl rfl rfl (by decide +kernel) ⟨Nat.le_of_ble_eq_true rfl, Nat.le_of_ble_eq_true rfl⟩) (pre_V (b := q) (q0 := 0) (ci := 8) (q := (RX8, TX8, 22)) hp hK hN hP hD rfl rfl) rfl rfl hl.1 rfl (lv_room (Nat.le_of_ble_eq_true rfl)) dX8_end_27 ⟨Nat.le_of_ble_eq_true rfl, Nat.le_of_ble_eq_true rfl⟩) (fun r15 u H locs h hP hD hS => ?_)
    try dsimp only at h
    have hP : va_P D vwCl (w_X8_end Y q q_row q_isKept q_text q_seenFold q_seenSpan q_readLong q_marks q_isMeasured q_waysAre q_haveSpan g_links g_undos g_length g_seenMany g_trace g_at g_behind g_number g_readLinks g_readFolded g_readStiff g_wayMany g_row g_marks) H := hP
    have hD : va_D A (w_X8_end Y q q_row q_isKept q_text q_seenFold q_seenSpan q_readLong q_marks q_isMeasured q_waysAre q_haveSpan g_links g_undos g_length g_seenMany g_trace g_at g_behind g_number g_readLinks g_readFolded g_readStiff g_wayMany g_row g_marks) := hD
    refine lv_icmp_ge (tgt := 116) hx hb dX8_end_30 (by decide) (fun c16 => ?_) (fun c16 => ?_)
    · have h := h.1 c16
      refine lv_iload_n hx hb dX8_end_116 rfl (lv_at hl 2 rfl) ?_
      exact ret_i (g_marks) hx hb hr hlocks hK hP hD hS h dX8_end_117
    · have h := h.2 c16
      refine lv_aload_n hx hb dX8_end_33 rfl (lv_at hl 0 rfl) ?_
      refine lv_iload hx hb dX8_end_34 (lv_at hl 4 rfl) ?_
      have hp : Pt (w_X8_end Y q q_row q_isKept q_text q_seenFold q_seenSpan q_readLong q_marks q_isMeasured q_waysAre q_haveSpan g_links g_undos g_length g_seenMany g_trace g_at g_behind g_number g_readLinks g_readFolded g_readStiff g_wayMany g_row g_marks) (w_X8_isFold Y q q_row q_isKept q_text q_seenFold q_seenSpan q_readLong q_marks q_isMeasured q_waysAre q_haveSpan g_links g_undos g_length g_seenMany g_trace g_at g_behind g_number g_readLinks g_readFolded g_readStiff g_wayMany g_row) [0, 1] := ⟨rfl, by decide +kernel⟩
      refine go_i hp hP hD hS hA (fun _ => rfl) (va_runV (As := [.int x4]) (rest := []) ⟨hx, hb, hml, hown, hts⟩ (c_X8_isFold h _) (cwV 1 hts gX8_end_X8_isFold rfl rfl rfl (by decide +kernel) ⟨Nat.le_of_ble_eq_true rfl, Nat.le_of_ble_eq_true rfl⟩) (pre_V (b := q) (q0 := 0) (ci := 8) (q := (RX8, TX8, 22)) hp hK hN hP hD rfl rfl) rfl rfl hl.1 rfl (lv_room (Nat.le_of_ble_eq_true rfl)) dX8_end_36 ⟨Nat.le_of_ble_eq_true rfl, Nat.le_of_ble_eq_true rfl⟩) (fun r17 u H locs h hP hD hS => ?_)
      try dsimp only at h
      have hP : va_P D vwCl (w_X8_end Y q q_row q_isKept q_text q_seenFold q_seenSpan q_readLong q_marks q_isMeasured q_waysAre q_haveSpan g_links g_undos g_length g_seenMany g_trace g_at g_behind g_number g_readLinks g_readFolded g_readStiff g_wayMany g_row g_marks) H := hP
      have hD : va_D A (w_X8_end Y q q_row q_isKept q_text q_seenFold q_seenSpan q_readLong q_marks q_isMeasured q_waysAre q_haveSpan g_links g_undos g_length g_seenMany g_trace g_at g_behind g_number g_readLinks g_readFolded g_readStiff g_wayMany g_row g_marks) := hD
      refine lv_if_eq (tgt := 110) hx hb dX8_end_39 (by decide) (fun c18 => ?_) (fun c18 => ?_)
      · have h := h.1 c18
        obtain ⟨z19, ez19⟩ : ∃ y : Int32, y = (x4 + (1 : Int32)) := ⟨_, rfl⟩
        have h := h z19 ez19
        refine lv_iinc (v := z19) (lv' := [(4, .int z19), (0, .ref q), (1, .int x1), (2, .int x2), (3, .int x3)]) hx hb dX8_end_110 hl (k := 4) rfl (by rw [ez19]; rfl) (by decide) rfl (fun ls hl => ?_)
        refine lv_goto (tgt := 24) hx hb dX8_end_113 (by decide) ?_
        exact ih _ _ _ _ h _ _ _ hP hD hS (lv_sub hl [1, 2, 3, 4, 0] rfl)
      · have h := h.2 c18
        refine lv_aload_n hx hb dX8_end_42 rfl (lv_at hl 0 rfl) ?_
        refine lv_iload hx hb dX8_end_43 (lv_at hl 4 rfl) ?_
        refine lv_bipush (v := (-9)) hx hb dX8_end_45 (by decide) ?_
        refine lv_iconst (v := 0) hx hb dX8_end_47 (by decide) ?_
        have hp : Pt (w_X8_end Y q q_row q_isKept q_text q_seenFold q_seenSpan q_readLong q_marks q_isMeasured q_waysAre q_haveSpan g_links g_undos g_length g_seenMany g_trace g_at g_behind g_number g_readLinks g_readFolded g_readStiff g_wayMany g_row g_marks) (w_X8_lies Y q q_row q_isKept q_text q_seenFold q_seenSpan q_readLong q_marks q_isMeasured q_waysAre q_haveSpan g_links g_undos g_length g_seenMany g_trace g_at g_behind g_number g_readLinks g_readFolded g_readStiff g_wayMany g_marks g_row) [0, 2, 1] := ⟨rfl, by decide +kernel⟩
        refine go_v hp hP hD hS hA (fun _ => rfl) (va_runV (As := [.int x4, .int (-9 : Int32), .int (0 : Int32)]) (rest := []) ⟨hx, hb, hml, hown, hts⟩ (c_X8_lies h _) (cwV 3 hts gX8_end_X8_lies rfl rfl rfl (by decide +kernel) ⟨Nat.le_of_ble_eq_true rfl, Nat.le_of_ble_eq_true rfl⟩) (pre_V (b := q) (q0 := 0) (ci := 8) (q := (RX8, TX8, 22)) hp hK hN hP hD rfl rfl) rfl rfl hl.1 rfl (lv_room (Nat.le_of_ble_eq_true rfl)) dX8_end_48 ⟨Nat.le_of_ble_eq_true rfl, Nat.le_of_ble_eq_true rfl⟩) (fun u H locs h hP hD hS => ?_)
        obtain ⟨u21, rfl⟩ : ∃ z, z = u := ⟨_, rfl⟩
        try dsimp only at h
        have hP : va_P D vwCl (w_X8_end Y q q_row q_isKept q_text q_seenFold q_seenSpan q_readLong q_marks q_isMeasured q_waysAre q_haveSpan g_links g_undos g_length g_seenMany g_trace g_at g_behind g_number g_readLinks g_readFolded g_readStiff g_wayMany g_row u21) H := hP
        have hD : va_D A (w_X8_end Y q q_row q_isKept q_text q_seenFold q_seenSpan q_readLong q_marks q_isMeasured q_waysAre q_haveSpan g_links g_undos g_length g_seenMany g_trace g_at g_behind g_number g_readLinks g_readFolded g_readStiff g_wayMany g_row u21) := hD
        refine lv_aload_n hx hb dX8_end_51 rfl (lv_at hl 0 rfl) ?_
        refine va_get (D := D) (ci := 8) (v := .ref q_marks) (C := RX8) (T := TX8) (N := 22) hx hb hts in_X8_end_X8 hown hK hP 0 rfl rfl 17 (by decide) (k_X8_end_f29 hts) (fun _ h9 => h9) rfl dX8_end_52 ?_
        refine lv_aload_n hx hb dX8_end_55 rfl (lv_at hl 0 rfl) ?_
        refine va_get (D := D) (ci := 8) (v := .int g_links) (C := RX8) (T := TX8) (N := 22) hx hb hts in_X8_end_X8 hown hK hP 0 rfl rfl 1 (by decide) (k_X8_end_f41 hts) (fun _ h9 => h9) rfl dX8_end_56 ?_
        obtain ⟨hin, h⟩ := h
        refine va_iald hx hb hK hP 2 0 rfl rfl hin dX8_end_59 ?_
        refine lv_iload_n hx hb dX8_end_60 rfl (lv_at hl 1 rfl) ?_
        refine lv_icmp_ne (tgt := 80) hx hb dX8_end_61 (by decide) (fun c22 => ?_) (fun c22 => ?_)
        · have h := h.1 c22
          refine lv_ldc hx hb hown (k_X8_end_c138 hts) dX8_end_80 ?_
          refine lv_istore (lv' := [(5, .int (99999 : Int32)), (0, .ref q), (1, .int x1), (2, .int x2), (3, .int x3), (4, .int x4)]) hx hb dX8_end_82 hl (by decide) rfl (fun ls hl => ?_)
          refine lv_iload hx hb dX8_end_84 (lv_at hl 0 rfl) ?_
          refine lv_iload_n hx hb dX8_end_86 rfl (lv_at hl 4 rfl) ?_
          refine lv_icmp_ge (tgt := 95) hx hb dX8_end_87 (by decide) (fun c23 => ?_) (fun c23 => ?_)
          · have h := h.1 c23
            refine lv_iload_n hx hb dX8_end_95 rfl (lv_at hl 3 rfl) ?_
            refine lv_istore_n (lv' := [(2, .int x2), (5, .int (99999 : Int32)), (0, .ref q), (1, .int x1), (3, .int x3), (4, .int x4)]) hx hb dX8_end_96 rfl hl (by decide) rfl (fun ls hl => ?_)
            refine lv_iload hx hb dX8_end_97 (lv_at hl 1 rfl) ?_
            refine lv_iload_n hx hb dX8_end_99 rfl (lv_at hl 4 rfl) ?_
            refine lv_icmp_ge (tgt := 108) hx hb dX8_end_100 (by decide) (fun c24 => ?_) (fun c24 => ?_)
            · have h := h.1 c24
              refine lv_iload_n hx hb dX8_end_108 rfl (lv_at hl 4 rfl) ?_
              refine lv_istore_n (lv' := [(3, .int x3), (2, .int x2), (5, .int (99999 : Int32)), (0, .ref q), (1, .int x1), (4, .int x4)]) hx hb dX8_end_109 rfl hl (by decide) rfl (fun ls hl => ?_)
              obtain ⟨z25, ez25⟩ : ∃ y : Int32, y = (x4 + (1 : Int32)) := ⟨_, rfl⟩
              have h := h z25 ez25
              refine lv_iinc (v := z25) (lv' := [(4, .int z25), (3, .int x3), (2, .int x2), (5, .int (99999 : Int32)), (0, .ref q), (1, .int x1)]) hx hb dX8_end_110 hl (k := 5) rfl (by rw [ez25]; rfl) (by decide) rfl (fun ls hl => ?_)
              refine lv_goto (tgt := 24) hx hb dX8_end_113 (by decide) ?_
              exact ih _ _ _ _ h _ _ _ hP hD hS (lv_sub hl [4, 5, 2, 1, 0] rfl)
            · have h := h.2 c24
              refine lv_iload hx hb dX8_end_103 (lv_at hl 1 rfl) ?_
              refine lv_goto (tgt := 109) hx hb dX8_end_105 (by decide) ?_
              refine lv_istore_n (lv' := [(3, .int (99999 : Int32)), (2, .int x2), (5, .int (99999 : Int32)), (0, .ref q), (1, .int x1), (4, .int x4)]) hx hb dX8_end_109 rfl hl (by decide) rfl (fun ls hl => ?_)
              obtain ⟨z26, ez26⟩ : ∃ y : Int32, y = (x4 + (1 : Int32)) := ⟨_, rfl⟩
              have h := h z26 ez26
              refine lv_iinc (v := z26) (lv' := [(4, .int z26), (3, .int (99999 : Int32)), (2, .int x2), (5, .int (99999 : Int32)), (0, .ref q), (1, .int x1)]) hx hb dX8_end_110 hl (k := 5) rfl (by rw [ez26]; rfl) (by decide) rfl (fun ls hl => ?_)
              refine lv_goto (tgt := 24) hx hb dX8_end_113 (by decide) ?_
              exact ih _ _ _ _ h _ _ _ hP hD hS (lv_sub hl [4, 5, 2, 1, 0] rfl)
          · have h := h.2 c23
            refine lv_iload hx hb dX8_end_90 (lv_at hl 5 rfl) ?_
            refine lv_goto (tgt := 96) hx hb dX8_end_92 (by decide) ?_
            refine lv_istore_n (lv' := [(2, .int x4), (5, .int (99999 : Int32)), (0, .ref q), (1, .int x1), (3, .int x3), (4, .int x4)]) hx hb dX8_end_96 rfl hl (by decide) rfl (fun ls hl => ?_)
            refine lv_iload hx hb dX8_end_97 (lv_at hl 1 rfl) ?_
            refine lv_iload_n hx hb dX8_end_99 rfl (lv_at hl 4 rfl) ?_
            refine lv_icmp_ge (tgt := 108) hx hb dX8_end_100 (by decide) (fun c27 => ?_) (fun c27 => ?_)
            · have h := h.1 c27
              refine lv_iload_n hx hb dX8_end_108 rfl (lv_at hl 4 rfl) ?_
              refine lv_istore_n (lv' := [(3, .int x3), (2, .int x4), (5, .int (99999 : Int32)), (0, .ref q), (1, .int x1), (4, .int x4)]) hx hb dX8_end_109 rfl hl (by decide) rfl (fun ls hl => ?_)
              obtain ⟨z28, ez28⟩ : ∃ y : Int32, y = (x4 + (1 : Int32)) := ⟨_, rfl⟩
              have h := h z28 ez28
              refine lv_iinc (v := z28) (lv' := [(4, .int z28), (3, .int x3), (2, .int x4), (5, .int (99999 : Int32)), (0, .ref q), (1, .int x1)]) hx hb dX8_end_110 hl (k := 5) rfl (by rw [ez28]; rfl) (by decide) rfl (fun ls hl => ?_)
              refine lv_goto (tgt := 24) hx hb dX8_end_113 (by decide) ?_
              exact ih _ _ _ _ h _ _ _ hP hD hS (lv_sub hl [4, 5, 2, 1, 0] rfl)
            · have h := h.2 c27
              refine lv_iload hx hb dX8_end_103 (lv_at hl 1 rfl) ?_
              refine lv_goto (tgt := 109) hx hb dX8_end_105 (by decide) ?_
              refine lv_istore_n (lv' := [(3, .int (99999 : Int32)), (2, .int x4), (5, .int (99999 : Int32)), (0, .ref q), (1, .int x1), (4, .int x4)]) hx hb dX8_end_109 rfl hl (by decide) rfl (fun ls hl => ?_)
              obtain ⟨z29, ez29⟩ : ∃ y : Int32, y = (x4 + (1 : Int32)) := ⟨_, rfl⟩
              have h := h z29 ez29
              refine lv_iinc (v := z29) (lv' := [(4, .int z29), (3, .int (99999 : Int32)), (2, .int x4), (5, .int (99999 : Int32)), (0, .ref q), (1, .int x1)]) hx hb dX8_end_110 hl (k := 5) rfl (by rw [ez29]; rfl) (by decide) rfl (fun ls hl => ?_)
              refine lv_goto (tgt := 24) hx hb dX8_end_113 (by decide) ?_
              exact ih _ _ _ _ h _ _ _ hP hD hS (lv_sub hl [4, 5, 2, 1, 0] rfl)
        · have h := h.2 c22
          refine lv_iload hx hb dX8_end_64 (lv_at hl 4 rfl) ?_
          refine lv_aload_n hx hb dX8_end_66 rfl (lv_at hl 0 rfl) ?_
          refine va_get (D := D) (ci := 8) (v := .ref q_row) (C := RX8) (T := TX8) (N := 22) hx hb hts in_X8_end_X8 hown hK hP 0 rfl rfl 0 (by decide) (k_X8_end_f7 hts) (fun _ h9 => h9) rfl dX8_end_67 ?_
          refine lv_bipush (v := 9) hx hb dX8_end_70 (by decide) ?_
          obtain ⟨hin, h⟩ := h
          refine va_iald hx hb hK hP 1 0 rfl rfl hin dX8_end_72 ?_
          refine lv_ixor hx hb dX8_end_73 ?_
          have hp : Pt (w_X8_end Y q q_row q_isKept q_text q_seenFold q_seenSpan q_readLong q_marks q_isMeasured q_waysAre q_haveSpan g_links g_undos g_length g_seenMany g_trace g_at g_behind g_number g_readLinks g_readFolded g_readStiff g_wayMany g_row u21) (w_X8_bits Y ) [] := ⟨rfl, by decide +kernel⟩
          refine go_i hp hP hD hS hA (fun _ => rfl) (va_runS (As := [.int (x4 ^^^ (g_row ((9 : Int32)).toNatClampNeg))]) (rest := []) ⟨hx, hb, hml, hown, hts⟩ (c_X8_bits h _) (va_cwS 1 hts gX8_end_X8_bits rfl rfl rfl (by decide +kernel) ⟨Nat.le_of_ble_eq_true rfl, Nat.le_of_ble_eq_true rfl⟩) (pre_S hp hK hN hP hD) rfl rfl hl.1 rfl (lv_room (Nat.le_of_ble_eq_true rfl)) dX8_end_74 ⟨Nat.le_of_ble_eq_true rfl, Nat.le_of_ble_eq_true rfl⟩) (fun r30 u H locs h hP hD hS => ?_)
          try dsimp only at h
          have hP : va_P D vwCl (w_X8_end Y q q_row q_isKept q_text q_seenFold q_seenSpan q_readLong q_marks q_isMeasured q_waysAre q_haveSpan g_links g_undos g_length g_seenMany g_trace g_at g_behind g_number g_readLinks g_readFolded g_readStiff g_wayMany g_row u21) H := hP
          have hD : va_D A (w_X8_end Y q q_row q_isKept q_text q_seenFold q_seenSpan q_readLong q_marks q_isMeasured q_waysAre q_haveSpan g_links g_undos g_length g_seenMany g_trace g_at g_behind g_number g_readLinks g_readFolded g_readStiff g_wayMany g_row u21) := hD
          refine lv_goto (tgt := 82) hx hb dX8_end_77 (by decide) ?_
          refine lv_istore (lv' := [(5, .int r30), (0, .ref q), (1, .int x1), (2, .int x2), (3, .int x3), (4, .int x4)]) hx hb dX8_end_82 hl (by decide) rfl (fun ls hl => ?_)
          refine lv_iload hx hb dX8_end_84 (lv_at hl 0 rfl) ?_
          refine lv_iload_n hx hb dX8_end_86 rfl (lv_at hl 4 rfl) ?_
          refine lv_icmp_ge (tgt := 95) hx hb dX8_end_87 (by decide) (fun c31 => ?_) (fun c31 => ?_)
          · have h := h.1 c31
            refine lv_iload_n hx hb dX8_end_95 rfl (lv_at hl 3 rfl) ?_
            refine lv_istore_n (lv' := [(2, .int x2), (5, .int r30), (0, .ref q), (1, .int x1), (3, .int x3), (4, .int x4)]) hx hb dX8_end_96 rfl hl (by decide) rfl (fun ls hl => ?_)
            refine lv_iload hx hb dX8_end_97 (lv_at hl 1 rfl) ?_
            refine lv_iload_n hx hb dX8_end_99 rfl (lv_at hl 4 rfl) ?_
            refine lv_icmp_ge (tgt := 108) hx hb dX8_end_100 (by decide) (fun c32 => ?_) (fun c32 => ?_)
            · have h := h.1 c32
              refine lv_iload_n hx hb dX8_end_108 rfl (lv_at hl 4 rfl) ?_
              refine lv_istore_n (lv' := [(3, .int x3), (2, .int x2), (5, .int r30), (0, .ref q), (1, .int x1), (4, .int x4)]) hx hb dX8_end_109 rfl hl (by decide) rfl (fun ls hl => ?_)
              obtain ⟨z33, ez33⟩ : ∃ y : Int32, y = (x4 + (1 : Int32)) := ⟨_, rfl⟩
              have h := h z33 ez33
              refine lv_iinc (v := z33) (lv' := [(4, .int z33), (3, .int x3), (2, .int x2), (5, .int r30), (0, .ref q), (1, .int x1)]) hx hb dX8_end_110 hl (k := 5) rfl (by rw [ez33]; rfl) (by decide) rfl (fun ls hl => ?_)
              refine lv_goto (tgt := 24) hx hb dX8_end_113 (by decide) ?_
              exact ih _ _ _ _ h _ _ _ hP hD hS (lv_sub hl [4, 5, 2, 1, 0] rfl)
            · have h := h.2 c32
              refine lv_iload hx hb dX8_end_103 (lv_at hl 1 rfl) ?_
              refine lv_goto (tgt := 109) hx hb dX8_end_105 (by decide) ?_
              refine lv_istore_n (lv' := [(3, .int r30), (2, .int x2), (5, .int r30), (0, .ref q), (1, .int x1), (4, .int x4)]) hx hb dX8_end_109 rfl hl (by decide) rfl (fun ls hl => ?_)
              obtain ⟨z34, ez34⟩ : ∃ y : Int32, y = (x4 + (1 : Int32)) := ⟨_, rfl⟩
              have h := h z34 ez34
              refine lv_iinc (v := z34) (lv' := [(4, .int z34), (3, .int r30), (2, .int x2), (5, .int r30), (0, .ref q), (1, .int x1)]) hx hb dX8_end_110 hl (k := 5) rfl (by rw [ez34]; rfl) (by decide) rfl (fun ls hl => ?_)
              refine lv_goto (tgt := 24) hx hb dX8_end_113 (by decide) ?_
              exact ih _ _ _ _ h _ _ _ hP hD hS (lv_sub hl [4, 5, 2, 1, 0] rfl)
          · have h := h.2 c31
            refine lv_iload hx hb dX8_end_90 (lv_at hl 5 rfl) ?_
            refine lv_goto (tgt := 96) hx hb dX8_end_92 (by decide) ?_
            refine lv_istore_n (lv' := [(2, .int x4), (5, .int r30), (0, .ref q), (1, .int x1), (3, .int x3), (4, .int x4)]) hx hb dX8_end_96 rfl hl (by decide) rfl (fun ls hl => ?_)
            refine lv_iload hx hb dX8_end_97 (lv_at hl 1 rfl) ?_
            refine lv_iload_n hx hb dX8_end_99 rfl (lv_at hl 4 rfl) ?_
            refine lv_icmp_ge (tgt := 108) hx hb dX8_end_100 (by decide) (fun c35 => ?_) (fun c35 => ?_)
            · have h := h.1 c35
              refine lv_iload_n hx hb dX8_end_108 rfl (lv_at hl 4 rfl) ?_
              refine lv_istore_n (lv' := [(3, .int x3), (2, .int x4), (5, .int r30), (0, .ref q), (1, .int x1), (4, .int x4)]) hx hb dX8_end_109 rfl hl (by decide) rfl (fun ls hl => ?_)
              obtain ⟨z36, ez36⟩ : ∃ y : Int32, y = (x4 + (1 : Int32)) := ⟨_, rfl⟩
              have h := h z36 ez36
              refine lv_iinc (v := z36) (lv' := [(4, .int z36), (3, .int x3), (2, .int x4), (5, .int r30), (0, .ref q), (1, .int x1)]) hx hb dX8_end_110 hl (k := 5) rfl (by rw [ez36]; rfl) (by decide) rfl (fun ls hl => ?_)
              refine lv_goto (tgt := 24) hx hb dX8_end_113 (by decide) ?_
              exact ih _ _ _ _ h _ _ _ hP hD hS (lv_sub hl [4, 5, 2, 1, 0] rfl)
            · have h := h.2 c35
              refine lv_iload hx hb dX8_end_103 (lv_at hl 1 rfl) ?_
              refine lv_goto (tgt := 109) hx hb dX8_end_105 (by decide) ?_
              refine lv_istore_n (lv' := [(3, .int r30), (2, .int x4), (5, .int r30), (0, .ref q), (1, .int x1), (4, .int x4)]) hx hb dX8_end_109 rfl hl (by decide) rfl (fun ls hl => ?_)
              obtain ⟨z37, ez37⟩ : ∃ y : Int32, y = (x4 + (1 : Int32)) := ⟨_, rfl⟩
              have h := h z37 ez37
              refine lv_iinc (v := z37) (lv' := [(4, .int z37), (3, .int r30), (2, .int x4), (5, .int r30), (0, .ref q), (1, .int x1)]) hx hb dX8_end_110 hl (k := 5) rfl (by rw [ez37]; rfl) (by decide) rfl (fun ls hl => ?_)
              refine lv_goto (tgt := 24) hx hb dX8_end_113 (by decide) ?_
              exact ih _ _ _ _ h _ _ _ hP hD hS (lv_sub hl [4, 5, 2, 1, 0] rfl)
set_option maxHeartbeats 4000000 in
set_option maxRecDepth 100000 in
theorem c_X8_end {l : Launch} {D : va_G} {Y : ClassId × ClassId × ClassId} {q q_row q_isKept q_text q_seenFold q_seenSpan q_readLong q_marks q_isMeasured q_waysAre q_haveSpan : Nat} {g_links g_undos g_length g_seenMany : Int32} {g_trace : Int64} {g_at g_behind g_number g_readLinks g_readFolded g_readStiff g_wayMany : Int32} {g_row g_marks : Nat → Int32} {x1 : Int32} {Q : Int32 → (Nat → Int32) → Prop} (h : wp_X8_end g_links g_row g_marks x1 Q) (sz : Nat) : MtI l yX8_end wsX8_end rm_X8_end [.ref q, .int x1] D Y (w_X8_end Y q q_row q_isKept q_text q_seenFold q_seenSpan q_readLong q_marks q_isMeasured q_waysAre q_haveSpan g_links g_undos g_length g_seenMany g_trace g_at g_behind g_number g_readLinks g_readFolded g_readStiff g_wayMany g_row g_marks) (fun r (u : (Nat → Int32)) => Q r u) (fun u : (Nat → Int32) => (w_X8_end Y q q_row q_isKept q_text q_seenFold q_seenSpan q_readLong q_marks q_isMeasured q_waysAre q_haveSpan g_links g_undos g_length g_seenMany g_trace g_at g_behind g_number g_readLinks g_readFolded g_readStiff g_wayMany g_row u)) sz := by
  refine ct_i (cc := cX8_end) (nL := 6) (ret := (some .int)) (by decide) rfl (Nat.le_of_ble_eq_true rfl) ?_ sz
  intro p e s m below meth c A ls C hK hA hP hD hS hl
  obtain ⟨⟨hx, hb, hml, hown, hts⟩, hr, hlocks, hN⟩ := id C
  have hown : s.vm.findClass RX8 = some m.cls := hown
  have hl : lv_has ls 6 [(0, .ref q), (1, .int x1)] := hl
  unfold wp_X8_end at h
  refine lv_iload_n hx hb dX8_end_0 rfl (lv_at hl 1 rfl) ?_
  refine lv_sipush (v := (-180)) hx hb dX8_end_1 (by decide) ?_
  refine lv_sipush (v := 180) hx hb dX8_end_4 (by decide) ?_
  have hp : Pt (w_X8_end Y q q_row q_isKept q_text q_seenFold q_seenSpan q_readLong q_marks q_isMeasured q_waysAre q_haveSpan g_links g_undos g_length g_seenMany g_trace g_at g_behind g_number g_readLinks g_readFolded g_readStiff g_wayMany g_row g_marks) (w_X8_in Y ) [] := ⟨rfl, by decide +kernel⟩
  refine go_i hp hP hD hS hA (fun _ => rfl) (va_runS (As := [.int x1, .int (-180 : Int32), .int (180 : Int32)]) (rest := []) ⟨hx, hb, hml, hown, hts⟩ (c_X8_in h _) (va_cwS 3 hts gX8_end_X8_in rfl rfl rfl (by decide +kernel) ⟨Nat.le_of_ble_eq_true rfl, Nat.le_of_ble_eq_true rfl⟩) (pre_S hp hK hN hP hD) rfl rfl hl.1 rfl (lv_room (Nat.le_of_ble_eq_true rfl)) dX8_end_7 ⟨Nat.le_of_ble_eq_true rfl, Nat.le_of_ble_eq_true rfl⟩) (fun r38 u H locs h hP hD hS => ?_)
  try dsimp only at h
  have hP : va_P D vwCl (w_X8_end Y q q_row q_isKept q_text q_seenFold q_seenSpan q_readLong q_marks q_isMeasured q_waysAre q_haveSpan g_links g_undos g_length g_seenMany g_trace g_at g_behind g_number g_readLinks g_readFolded g_readStiff g_wayMany g_row g_marks) H := hP
  have hD : va_D A (w_X8_end Y q q_row q_isKept q_text q_seenFold q_seenSpan q_readLong q_marks q_isMeasured q_waysAre q_haveSpan g_links g_undos g_length g_seenMany g_trace g_at g_behind g_number g_readLinks g_readFolded g_readStiff g_wayMany g_row g_marks) := hD
  refine lv_if_ne (tgt := 15) hx hb dX8_end_10 (by decide) (fun c39 => ?_) (fun c39 => ?_)
  · have h := h.1 c39
    refine lv_bipush (v := (-9)) hx hb dX8_end_15 (by decide) ?_
    refine lv_istore_n (lv' := [(2, .int (-9 : Int32)), (0, .ref q), (1, .int x1)]) hx hb dX8_end_17 rfl hl (by decide) rfl (fun ls hl => ?_)
    refine lv_ldc hx hb hown (k_X8_end_c138 hts) dX8_end_18 ?_
    refine lv_istore_n (lv' := [(3, .int (99999 : Int32)), (2, .int (-9 : Int32)), (0, .ref q), (1, .int x1)]) hx hb dX8_end_20 rfl hl (by decide) rfl (fun ls hl => ?_)
    refine lv_iconst (v := 0) hx hb dX8_end_21 (by decide) ?_
    refine lv_istore (lv' := [(4, .int (0 : Int32)), (3, .int (99999 : Int32)), (2, .int (-9 : Int32)), (0, .ref q), (1, .int x1)]) hx hb dX8_end_22 hl (by decide) rfl (fun ls hl => ?_)
    obtain ⟨n, h⟩ := h
    exact L_X8_end_24 C hK hA  n _ _ _ _ h _ _ _ hP hD hS (lv_sub hl [3, 4, 2, 1, 0] rfl)
  · have h := h.2 c39
    refine lv_iconst (v := (-1)) hx hb dX8_end_13 (by decide) ?_
    exact ret_i (g_marks) hx hb hr hlocks hK hP hD hS h dX8_end_14
abbrev rm_X8_measures : Room := { frames := 3, cells := 0, slots := 0, locals := 70 }
theorem in_X8_measures_X8 : ∀ w ∈ wsX80, w ∈ wsX8_measures := fun _ h => List.mem_cons_of_mem _ (List.mem_append_right _ h)
theorem k_X8_measures_f32 {s : State} {args : Array Value} (hts : ∀ w ∈ wsX8_measures, w.before args s = true) : (Cond.fieldLink RX8 32 "FoldRuleModel" "isMeasured" "[Z").before args s = true := hts _ (by decide +kernel)
set_option maxHeartbeats 4000000 in
set_option maxRecDepth 100000 in
theorem c_X8_measures {l : Launch} {D : va_G} {Y : ClassId × ClassId × ClassId} {q q_row q_isKept q_text q_seenFold q_seenSpan q_readLong q_marks q_isMeasured q_waysAre q_haveSpan : Nat} {g_links g_undos g_length g_seenMany : Int32} {g_trace : Int64} {g_at g_behind g_number g_readLinks g_readFolded g_readStiff g_wayMany : Int32} {g_isMeasured g_row g_marks : Nat → Int32} {x1 : Int32} {Q : Int32 → (Nat → Int32) → (Nat → Int32) → Prop} (h : wp_X8_measures g_links g_isMeasured g_row g_marks x1 Q) (sz : Nat) : MtI l yX8_measures wsX8_measures rm_X8_measures [.ref q, .int x1] D Y (w_X8_measures Y q q_row q_isKept q_text q_seenFold q_seenSpan q_readLong q_marks q_isMeasured q_waysAre q_haveSpan g_links g_undos g_length g_seenMany g_trace g_at g_behind g_number g_readLinks g_readFolded g_readStiff g_wayMany g_isMeasured g_row g_marks) (fun r (u : (Nat → Int32) × (Nat → Int32)) => Q r u.1 u.2) (fun u : (Nat → Int32) × (Nat → Int32) => (w_X8_measures Y q q_row q_isKept q_text q_seenFold q_seenSpan q_readLong q_marks q_isMeasured q_waysAre q_haveSpan g_links g_undos g_length g_seenMany g_trace g_at g_behind g_number g_readLinks g_readFolded g_readStiff g_wayMany u.1 g_row u.2)) sz := by
  refine ct_i (cc := cX8_measures) (nL := 2) (ret := (some .int)) (by decide) rfl (Nat.le_of_ble_eq_true rfl) ?_ sz
  intro p e s m below meth c A ls C hK hA hP hD hS hl
  obtain ⟨⟨hx, hb, hml, hown, hts⟩, hr, hlocks, hN⟩ := id C
  have hown : s.vm.findClass RX8 = some m.cls := hown
  have hl : lv_has ls 2 [(0, .ref q), (1, .int x1)] := hl
  unfold wp_X8_measures at h
  refine lv_iload_n hx hb dX8_measures_0 rfl (lv_at hl 1 rfl) ?_
  refine lv_iconst (v := 1) hx hb dX8_measures_1 (by decide) ?_
  refine lv_sipush (v := 180) hx hb dX8_measures_2 (by decide) ?_
  have hp : Pt (w_X8_measures Y q q_row q_isKept q_text q_seenFold q_seenSpan q_readLong q_marks q_isMeasured q_waysAre q_haveSpan g_links g_undos g_length g_seenMany g_trace g_at g_behind g_number g_readLinks g_readFolded g_readStiff g_wayMany g_isMeasured g_row g_marks) (w_X8_in Y ) [] := ⟨rfl, by decide +kernel⟩
  refine go_i hp hP hD hS hA (fun _ => rfl) (va_runS (As := [.int x1, .int (1 : Int32), .int (180 : Int32)]) (rest := []) ⟨hx, hb, hml, hown, hts⟩ (c_X8_in h _) (va_cwS 3 hts gX8_measures_X8_in rfl rfl rfl (by decide +kernel) ⟨Nat.le_of_ble_eq_true rfl, Nat.le_of_ble_eq_true rfl⟩) (pre_S hp hK hN hP hD) rfl rfl hl.1 rfl (lv_room (Nat.le_of_ble_eq_true rfl)) dX8_measures_5 ⟨Nat.le_of_ble_eq_true rfl, Nat.le_of_ble_eq_true rfl⟩) (fun r4 u H locs h hP hD hS => ?_)
  try dsimp only at h
  have hP : va_P D vwCl (w_X8_measures Y q q_row q_isKept q_text q_seenFold q_seenSpan q_readLong q_marks q_isMeasured q_waysAre q_haveSpan g_links g_undos g_length g_seenMany g_trace g_at g_behind g_number g_readLinks g_readFolded g_readStiff g_wayMany g_isMeasured g_row g_marks) H := hP
  have hD : va_D A (w_X8_measures Y q q_row q_isKept q_text q_seenFold q_seenSpan q_readLong q_marks q_isMeasured q_waysAre q_haveSpan g_links g_undos g_length g_seenMany g_trace g_at g_behind g_number g_readLinks g_readFolded g_readStiff g_wayMany g_isMeasured g_row g_marks) := hD
  refine lv_if_ne (tgt := 13) hx hb dX8_measures_8 (by decide) (fun c5 => ?_) (fun c5 => ?_)
  · have h := h.1 c5
    refine lv_aload_n hx hb dX8_measures_13 rfl (lv_at hl 0 rfl) ?_
    have hp : Pt (w_X8_measures Y q q_row q_isKept q_text q_seenFold q_seenSpan q_readLong q_marks q_isMeasured q_waysAre q_haveSpan g_links g_undos g_length g_seenMany g_trace g_at g_behind g_number g_readLinks g_readFolded g_readStiff g_wayMany g_isMeasured g_row g_marks) (w_X8_measure Y q q_row q_isKept q_text q_seenFold q_seenSpan q_readLong q_marks q_isMeasured q_waysAre q_haveSpan g_links g_undos g_length g_seenMany g_trace g_at g_behind g_number g_readLinks g_readFolded g_readStiff g_wayMany g_isMeasured g_row g_marks) [0, 1, 2, 3] := ⟨rfl, by decide +kernel⟩
    refine go_v hp hP hD hS hA (fun _ => rfl) (va_runV (As := []) (rest := []) ⟨hx, hb, hml, hown, hts⟩ (c_X8_measure h _) (cwV 0 hts gX8_measures_X8_measure rfl rfl rfl (by decide +kernel) ⟨Nat.le_of_ble_eq_true rfl, Nat.le_of_ble_eq_true rfl⟩) (pre_V (b := q) (q0 := 0) (ci := 8) (q := (RX8, TX8, 22)) hp hK hN hP hD rfl rfl) rfl rfl hl.1 rfl (lv_room (Nat.le_of_ble_eq_true rfl)) dX8_measures_14 ⟨Nat.le_of_ble_eq_true rfl, Nat.le_of_ble_eq_true rfl⟩) (fun u H locs h hP hD hS => ?_)
    obtain ⟨u7, u8⟩ := u
    try dsimp only at h
    have hP : va_P D vwCl (w_X8_measures Y q q_row q_isKept q_text q_seenFold q_seenSpan q_readLong q_marks q_isMeasured q_waysAre q_haveSpan g_links g_undos g_length g_seenMany g_trace g_at g_behind g_number g_readLinks g_readFolded g_readStiff g_wayMany u7 g_row u8) H := hP
    have hD : va_D A (w_X8_measures Y q q_row q_isKept q_text q_seenFold q_seenSpan q_readLong q_marks q_isMeasured q_waysAre q_haveSpan g_links g_undos g_length g_seenMany g_trace g_at g_behind g_number g_readLinks g_readFolded g_readStiff g_wayMany u7 g_row u8) := hD
    refine lv_aload_n hx hb dX8_measures_17 rfl (lv_at hl 0 rfl) ?_
    refine va_get (D := D) (ci := 8) (v := .ref q_isMeasured) (C := RX8) (T := TX8) (N := 22) hx hb hts in_X8_measures_X8 hown hK hP 0 rfl rfl 18 (by decide) (k_X8_measures_f32 hts) (fun _ h9 => h9) rfl dX8_measures_18 ?_
    refine lv_iload_n hx hb dX8_measures_21 rfl (lv_at hl 1 rfl) ?_
    obtain ⟨hin, h⟩ := h
    refine va_zald hx hb hK hP 1 1 rfl rfl hin dX8_measures_22 ?_
    refine lv_if_eq (tgt := 30) hx hb dX8_measures_23 (by decide) (fun c9 => ?_) (fun c9 => ?_)
    · have h := h.1 c9
      refine lv_iconst (v := 0) hx hb dX8_measures_30 (by decide) ?_
      exact ret_i (u7, u8) hx hb hr hlocks hK hP hD hS h dX8_measures_31
    · have h := h.2 c9
      refine lv_iconst (v := 1) hx hb dX8_measures_26 (by decide) ?_
      refine lv_goto (tgt := 31) hx hb dX8_measures_27 (by decide) ?_
      exact ret_i (u7, u8) hx hb hr hlocks hK hP hD hS h dX8_measures_31
  · have h := h.2 c5
    refine lv_iconst (v := (-1)) hx hb dX8_measures_11 (by decide) ?_
    exact ret_i (g_isMeasured, g_marks) hx hb hr hlocks hK hP hD hS h dX8_measures_12
abbrev rm_X8_odds : Room := { frames := 3, cells := 0, slots := 0, locals := 67 }
theorem in_X8_odds_X8 : ∀ w ∈ wsX80, w ∈ wsX8_odds := fun _ h => List.mem_cons_of_mem _ (List.mem_append_right _ h)
theorem k_X8_odds_f41 {s : State} {args : Array Value} (hts : ∀ w ∈ wsX8_odds, w.before args s = true) : (Cond.fieldLink RX8 41 "FoldRuleModel" "links" "I").before args s = true := hts _ (by decide +kernel)
theorem k_X8_odds_f7 {s : State} {args : Array Value} (hts : ∀ w ∈ wsX8_odds, w.before args s = true) : (Cond.fieldLink RX8 7 "FoldRuleModel" "row" "[I").before args s = true := hts _ (by decide +kernel)
set_option maxHeartbeats 4000000 in
set_option maxRecDepth 100000 in
theorem L_X8_odds_168 {p : Program} {l : Launch} {e : Env} {s : State} {m : MethodId} {args : Array Value} {below : List Frame} {meth : Method} {c : Code} {D : va_G} {Y : ClassId × ClassId × ClassId} {A : Nat → Prop} {q q_row q_isKept q_text q_seenFold q_seenSpan q_readLong q_marks q_isMeasured q_waysAre q_haveSpan : Nat} {g_links g_undos g_length g_seenMany : Int32} {g_trace : Int64} {g_at g_behind g_number g_readLinks g_readFolded g_readStiff g_wayMany : Int32} {g_row g_marks : Nat → Int32} {x3 : Int32} {xl4 xl6 : Int64} {Q : Int32 → (Nat → Int32) → Prop} (C : Ctx p s m args meth c cX8_odds 14 (some .int) wsX8_odds RX8) (hK : va_K D vwCl (tyS Y) s) (hA : ∀ q, s.heap.size ≤ q → A q) : ∀ (n : Nat) (xl8 xl10 : Int64), itr2 (B_X8_odds_168 g_marks x3 xl4 xl6 Q) n xl8 xl10 → ∀ (H : Heap) (locs : List Loc) (ls : Array Slot), va_P D vwCl (w_X8_odds Y q q_row q_isKept q_text q_seenFold q_seenSpan q_readLong q_marks q_isMeasured q_waysAre q_haveSpan g_links g_undos g_length g_seenMany g_trace g_at g_behind g_number g_readLinks g_readFolded g_readStiff g_wayMany g_row g_marks) H → va_D A (w_X8_odds Y q q_row q_isKept q_text q_seenFold q_seenSpan q_readLong q_marks q_isMeasured q_waysAre q_haveSpan g_links g_undos g_length g_seenMany g_trace g_at g_behind g_number g_readLinks g_readFolded g_readStiff g_wayMany g_row g_marks) → va_S A s.heap H locs → lv_has ls 14 [(3, .int x3), (4, .long xl4), (6, .long xl6), (8, .long xl8), (10, .long xl10)] → W p l e rm_X8_odds s m args below meth c H locs 0 0 (QI below args s D Y A (fun r (u : (Nat → Int32)) => Q r u) (fun u : (Nat → Int32) => (w_X8_odds Y q q_row q_isKept q_text q_seenFold q_seenSpan q_readLong q_marks q_isMeasured q_waysAre q_haveSpan g_links g_undos g_length g_seenMany g_trace g_at g_behind g_number g_readLinks g_readFolded g_readStiff g_wayMany g_row u))) (F0 m 168 ls []) := by
  intro n
  induction n with
  | zero => intro xl8 xl10 h; exact False.elim h
  | succ n ih =>
    intro xl8 xl10 h H locs ls hP hD hS hl
    obtain ⟨⟨hx, hb, hml, hown, hts⟩, hr, hlocks, hN⟩ := id C
    have h : B_X8_odds_168 g_marks x3 xl4 xl6 Q (itr2 (B_X8_odds_168 g_marks x3 xl4 xl6 Q) n) xl8 xl10 := h
    unfold B_X8_odds_168 at h
    refine lv_lload hx hb dX8_odds_168 (lv_at hl 4 rfl) ?_
    refine lv_lconst (v := 0) hx hb dX8_odds_170 (by decide) ?_
    refine W.lcmp hx hb dX8_odds_171 ?_
    refine lv_if_eq (tgt := 193) hx hb dX8_odds_172 (by decide) (fun c24 => ?_) (fun c24 => ?_)
    · have h := h.1 c24
      refine lv_iload_n hx hb dX8_odds_193 rfl (lv_at hl 0 rfl) ?_
      refine lv_if_ne (tgt := 205) hx hb dX8_odds_194 (by decide) (fun c25 => ?_) (fun c25 => ?_)
      · have h := h.1 c25
        refine lv_lload hx hb dX8_odds_205 (lv_at hl 2 rfl) ?_
        refine lv_lload hx hb dX8_odds_207 (lv_at hl 3 rfl) ?_
        obtain ⟨hne, h⟩ := h
        refine lv_ldiv hx hb dX8_odds_209 hne ?_
        refine lv_l2i hx hb dX8_odds_210 rfl ?_
        exact ret_i (g_marks) hx hb hr hlocks hK hP hD hS h dX8_odds_211
      · have h := h.2 c25
        refine lv_lload hx hb dX8_odds_197 (lv_at hl 1 rfl) ?_
        refine lv_lload hx hb dX8_odds_199 (lv_at hl 3 rfl) ?_
        obtain ⟨hne, h⟩ := h
        refine lv_ldiv hx hb dX8_odds_201 hne ?_
        refine lv_goto (tgt := 210) hx hb dX8_odds_202 (by decide) ?_
        refine lv_l2i hx hb dX8_odds_210 rfl ?_
        exact ret_i (g_marks) hx hb hr hlocks hK hP hD hS h dX8_odds_211
    · have h := h.2 c24
      refine lv_lload hx hb dX8_odds_175 (lv_at hl 3 rfl) ?_
      refine lv_lload hx hb dX8_odds_177 (lv_at hl 4 rfl) ?_
      obtain ⟨hne, h⟩ := h
      refine lv_lrem hx hb dX8_odds_179 hne ?_
      refine lv_topl (fun z26 ez26 => ?_)
      have h := h z26 ez26
      refine lv_lstore (lv' := [(12, .long z26), (3, .int x3), (4, .long xl4), (6, .long xl6), (8, .long xl8), (10, .long xl10)]) hx hb dX8_odds_180 hl (by decide) rfl (fun ls hl => ?_)
      refine lv_lload hx hb dX8_odds_182 (lv_at hl 5 rfl) ?_
      refine lv_lstore (lv' := [(8, .long xl10), (12, .long z26), (3, .int x3), (4, .long xl4), (6, .long xl6), (10, .long xl10)]) hx hb dX8_odds_184 hl (by decide) rfl (fun ls hl => ?_)
      refine lv_lload hx hb dX8_odds_186 (lv_at hl 1 rfl) ?_
      refine lv_lstore (lv' := [(10, .long z26), (8, .long xl10), (12, .long z26), (3, .int x3), (4, .long xl4), (6, .long xl6)]) hx hb dX8_odds_188 hl (by decide) rfl (fun ls hl => ?_)
      refine lv_goto (tgt := 168) hx hb dX8_odds_190 (by decide) ?_
      exact ih _ _ h _ _ _ hP hD hS (lv_sub hl [3, 4, 5, 1, 0] rfl)
set_option maxHeartbeats 4000000 in
set_option maxRecDepth 100000 in
theorem L_X8_odds_65 {p : Program} {l : Launch} {e : Env} {s : State} {m : MethodId} {args : Array Value} {below : List Frame} {meth : Method} {c : Code} {D : va_G} {Y : ClassId × ClassId × ClassId} {A : Nat → Prop} {q q_row q_isKept q_text q_seenFold q_seenSpan q_readLong q_marks q_isMeasured q_waysAre q_haveSpan : Nat} {g_links g_undos g_length g_seenMany : Int32} {g_trace : Int64} {g_at g_behind g_number g_readLinks g_readFolded g_readStiff g_wayMany : Int32} {g_row g_marks : Nat → Int32} {x1 x2 x3 : Int32} {xl4 xl6 : Int64} {x8 : Int32} {Q : Int32 → (Nat → Int32) → Prop} {K41 : Int64 → Int64 → Int32 → (Nat → Int32) → Prop} (C : Ctx p s m args meth c cX8_odds 14 (some .int) wsX8_odds RX8) (hK : va_K D vwCl (tyS Y) s) (hA : ∀ q, s.heap.size ≤ q → A q) (hk41 : ∀ (xl4 xl6 : Int64) (x8 : Int32) (g_marks : Nat → Int32), K41 xl4 xl6 x8 g_marks → ∀ (H : Heap) (locs : List Loc) (ls : Array Slot), va_P D vwCl (w_X8_odds Y q q_row q_isKept q_text q_seenFold q_seenSpan q_readLong q_marks q_isMeasured q_waysAre q_haveSpan g_links g_undos g_length g_seenMany g_trace g_at g_behind g_number g_readLinks g_readFolded g_readStiff g_wayMany g_row g_marks) H → va_D A (w_X8_odds Y q q_row q_isKept q_text q_seenFold q_seenSpan q_readLong q_marks q_isMeasured q_waysAre q_haveSpan g_links g_undos g_length g_seenMany g_trace g_at g_behind g_number g_readLinks g_readFolded g_readStiff g_wayMany g_row g_marks) → va_S A s.heap H locs → lv_has ls 14 [(0, .ref q), (1, .int x1), (2, .int x2), (3, .int x3), (4, .long xl4), (6, .long xl6), (8, .int x8)] → W p l e rm_X8_odds s m args below meth c H locs 0 0 (QI below args s D Y A (fun r (u : (Nat → Int32)) => Q r u) (fun u : (Nat → Int32) => (w_X8_odds Y q q_row q_isKept q_text q_seenFold q_seenSpan q_readLong q_marks q_isMeasured q_waysAre q_haveSpan g_links g_undos g_length g_seenMany g_trace g_at g_behind g_number g_readLinks g_readFolded g_readStiff g_wayMany g_row u))) (F0 m 41 ls [])) : ∀ (n : Nat) (xl9 : Int64) (x11 : Int32), itr2 (B_X8_odds_65 g_links g_row g_marks x1 x2 xl4 xl6 x8 K41) n xl9 x11 → ∀ (H : Heap) (locs : List Loc) (ls : Array Slot), va_P D vwCl (w_X8_odds Y q q_row q_isKept q_text q_seenFold q_seenSpan q_readLong q_marks q_isMeasured q_waysAre q_haveSpan g_links g_undos g_length g_seenMany g_trace g_at g_behind g_number g_readLinks g_readFolded g_readStiff g_wayMany g_row g_marks) H → va_D A (w_X8_odds Y q q_row q_isKept q_text q_seenFold q_seenSpan q_readLong q_marks q_isMeasured q_waysAre q_haveSpan g_links g_undos g_length g_seenMany g_trace g_at g_behind g_number g_readLinks g_readFolded g_readStiff g_wayMany g_row g_marks) → va_S A s.heap H locs → lv_has ls 14 [(0, .ref q), (1, .int x1), (2, .int x2), (3, .int x3), (4, .long xl4), (6, .long xl6), (8, .int x8), (9, .long xl9), (11, .int x11)] → W p l e rm_X8_odds s m args below meth c H locs 0 0 (QI below args s D Y A (fun r (u : (Nat → Int32)) => Q r u) (fun u : (Nat → Int32) => (w_X8_odds Y q q_row q_isKept q_text q_seenFold q_seenSpan q_readLong q_marks q_isMeasured q_waysAre q_haveSpan g_links g_undos g_length g_seenMany g_trace g_at g_behind g_number g_readLinks g_readFolded g_readStiff g_wayMany g_row u))) (F0 m 65 ls []) := by
  intro n
  induction n with
  | zero => intro xl9 x11 h; exact False.elim h
  | succ n ih =>
    intro xl9 x11 h H locs ls hP hD hS hl
    obtain ⟨⟨hx, hb, hml, hown, hts⟩, hr, hlocks, hN⟩ := id C
    have h : B_X8_odds_65 g_links g_row g_marks x1 x2 xl4 xl6 x8 K41 (itr2 (B_X8_odds_65 g_links g_row g_marks x1 x2 xl4 xl6 x8 K41) n) xl9 x11 := h
    unfold B_X8_odds_65 at h
    refine lv_iload hx hb dX8_odds_65 (lv_at hl 8 rfl) ?_
    refine lv_aload_n hx hb dX8_odds_67 rfl (lv_at hl 0 rfl) ?_
    refine va_get (D := D) (ci := 8) (v := .int g_links) (C := RX8) (T := TX8) (N := 22) hx hb hts in_X8_odds_X8 hown hK hP 0 rfl rfl 1 (by decide) (k_X8_odds_f41 hts) (fun _ h9 => h9) rfl dX8_odds_68 ?_
    refine lv_iconst (v := 1) hx hb dX8_odds_71 (by decide) ?_
    refine lv_isub hx hb dX8_odds_72 ?_
    refine lv_icmp_ge (tgt := 126) hx hb dX8_odds_73 (by decide) (fun c27 => ?_) (fun c27 => ?_)
    · have h := h.1 c27
      refine lv_lload hx hb dX8_odds_126 (lv_at hl 4 rfl) ?_
      refine lv_aload_n hx hb dX8_odds_128 rfl (lv_at hl 0 rfl) ?_
      refine lv_iload hx hb dX8_odds_129 (lv_at hl 6 rfl) ?_
      have hp : Pt (w_X8_odds Y q q_row q_isKept q_text q_seenFold q_seenSpan q_readLong q_marks q_isMeasured q_waysAre q_haveSpan g_links g_undos g_length g_seenMany g_trace g_at g_behind g_number g_readLinks g_readFolded g_readStiff g_wayMany g_row g_marks) (w_X8_spanBy Y q q_row q_isKept q_text q_seenFold q_seenSpan q_readLong q_marks q_isMeasured q_waysAre q_haveSpan g_links g_undos g_length g_seenMany g_trace g_at g_behind g_number g_readLinks g_readFolded g_readStiff g_wayMany g_marks g_row) [0, 2, 1] := ⟨rfl, by decide +kernel⟩
      refine go_i hp hP hD hS hA (fun _ => rfl) (va_runV (As := [.int x8]) (rest := [.long xl4]) ⟨hx, hb, hml, hown, hts⟩ (c_X8_spanBy h _) (cwV 1 hts gX8_odds_X8_spanBy rfl rfl rfl (by decide +kernel) ⟨Nat.le_of_ble_eq_true rfl, Nat.le_of_ble_eq_true rfl⟩) (pre_V (b := q) (q0 := 0) (ci := 8) (q := (RX8, TX8, 22)) hp hK hN hP hD rfl rfl) rfl rfl hl.1 rfl (lv_room (Nat.le_of_ble_eq_true rfl)) dX8_odds_131 ⟨Nat.le_of_ble_eq_true rfl, Nat.le_of_ble_eq_true rfl⟩) (fun r28 u H locs h hP hD hS => ?_)
      obtain ⟨u29, rfl⟩ : ∃ z, z = u := ⟨_, rfl⟩
      try dsimp only at h
      have hP : va_P D vwCl (w_X8_odds Y q q_row q_isKept q_text q_seenFold q_seenSpan q_readLong q_marks q_isMeasured q_waysAre q_haveSpan g_links g_undos g_length g_seenMany g_trace g_at g_behind g_number g_readLinks g_readFolded g_readStiff g_wayMany g_row u29) H := hP
      have hD : va_D A (w_X8_odds Y q q_row q_isKept q_text q_seenFold q_seenSpan q_readLong q_marks q_isMeasured q_waysAre q_haveSpan g_links g_undos g_length g_seenMany g_trace g_at g_behind g_number g_readLinks g_readFolded g_readStiff g_wayMany g_row u29) := hD
      refine lv_iload_n hx hb dX8_odds_134 rfl (lv_at hl 2 rfl) ?_
      refine lv_icmp_gt (tgt := 143) hx hb dX8_odds_135 (by decide) (fun c30 => ?_) (fun c30 => ?_)
      · have h := h.1 c30
        refine lv_lconst (v := 0) hx hb dX8_odds_143 (by decide) ?_
        refine lv_ladd hx hb dX8_odds_144 ?_
        refine lv_topl (fun z31 ez31 => ?_)
        have h := h z31 ez31
        refine lv_lstore (lv' := [(4, .long z31), (0, .ref q), (1, .int x1), (2, .int x2), (3, .int x3), (6, .long xl6), (8, .int x8), (9, .long xl9), (11, .int x11)]) hx hb dX8_odds_145 hl (by decide) rfl (fun ls hl => ?_)
        refine lv_lload hx hb dX8_odds_147 (lv_at hl 5 rfl) ?_
        refine lv_lload hx hb dX8_odds_149 (lv_at hl 7 rfl) ?_
        refine lv_ladd hx hb dX8_odds_151 ?_
        refine lv_topl (fun z32 ez32 => ?_)
        have h := h z32 ez32
        refine lv_lstore (lv' := [(6, .long z32), (4, .long z31), (0, .ref q), (1, .int x1), (2, .int x2), (3, .int x3), (8, .int x8), (9, .long xl9), (11, .int x11)]) hx hb dX8_odds_152 hl (by decide) rfl (fun ls hl => ?_)
        obtain ⟨z33, ez33⟩ : ∃ y : Int32, y = (x8 + (1 : Int32)) := ⟨_, rfl⟩
        have h := h z33 ez33
        refine lv_iinc (v := z33) (lv' := [(8, .int z33), (6, .long z32), (4, .long z31), (0, .ref q), (1, .int x1), (2, .int x2), (3, .int x3), (9, .long xl9), (11, .int x11)]) hx hb dX8_odds_154 hl (k := 6) rfl (by rw [ez33]; rfl) (by decide) rfl (fun ls hl => ?_)
        refine lv_goto (tgt := 41) hx hb dX8_odds_157 (by decide) ?_
        exact hk41 _ _ _ _ h _ _ _ hP hD hS (lv_sub hl [3, 4, 5, 6, 2, 1, 0] rfl)
      · have h := h.2 c30
        refine lv_lload hx hb dX8_odds_138 (lv_at hl 7 rfl) ?_
        refine lv_goto (tgt := 144) hx hb dX8_odds_140 (by decide) ?_
        refine lv_ladd hx hb dX8_odds_144 ?_
        refine lv_topl (fun z34 ez34 => ?_)
        have h := h z34 ez34
        refine lv_lstore (lv' := [(4, .long z34), (0, .ref q), (1, .int x1), (2, .int x2), (3, .int x3), (6, .long xl6), (8, .int x8), (9, .long xl9), (11, .int x11)]) hx hb dX8_odds_145 hl (by decide) rfl (fun ls hl => ?_)
        refine lv_lload hx hb dX8_odds_147 (lv_at hl 5 rfl) ?_
        refine lv_lload hx hb dX8_odds_149 (lv_at hl 7 rfl) ?_
        refine lv_ladd hx hb dX8_odds_151 ?_
        refine lv_topl (fun z35 ez35 => ?_)
        have h := h z35 ez35
        refine lv_lstore (lv' := [(6, .long z35), (4, .long z34), (0, .ref q), (1, .int x1), (2, .int x2), (3, .int x3), (8, .int x8), (9, .long xl9), (11, .int x11)]) hx hb dX8_odds_152 hl (by decide) rfl (fun ls hl => ?_)
        obtain ⟨z36, ez36⟩ : ∃ y : Int32, y = (x8 + (1 : Int32)) := ⟨_, rfl⟩
        have h := h z36 ez36
        refine lv_iinc (v := z36) (lv' := [(8, .int z36), (6, .long z35), (4, .long z34), (0, .ref q), (1, .int x1), (2, .int x2), (3, .int x3), (9, .long xl9), (11, .int x11)]) hx hb dX8_odds_154 hl (k := 6) rfl (by rw [ez36]; rfl) (by decide) rfl (fun ls hl => ?_)
        refine lv_goto (tgt := 41) hx hb dX8_odds_157 (by decide) ?_
        exact hk41 _ _ _ _ h _ _ _ hP hD hS (lv_sub hl [3, 4, 5, 6, 2, 1, 0] rfl)
    · have h := h.2 c27
      refine lv_lload hx hb dX8_odds_76 (lv_at hl 7 rfl) ?_
      refine lv_aload_n hx hb dX8_odds_78 rfl (lv_at hl 0 rfl) ?_
      refine va_get (D := D) (ci := 8) (v := .ref q_row) (C := RX8) (T := TX8) (N := 22) hx hb hts in_X8_odds_X8 hown hK hP 0 rfl rfl 0 (by decide) (k_X8_odds_f7 hts) (fun _ h9 => h9) rfl dX8_odds_79 ?_
      refine lv_bipush (v := 10) hx hb dX8_odds_82 (by decide) ?_
      obtain ⟨hin, h⟩ := h
      refine va_iald hx hb hK hP 1 0 rfl rfl hin dX8_odds_84 ?_
      refine lv_iload hx hb dX8_odds_85 (lv_at hl 8 rfl) ?_
      have hp : Pt (w_X8_odds Y q q_row q_isKept q_text q_seenFold q_seenSpan q_readLong q_marks q_isMeasured q_waysAre q_haveSpan g_links g_undos g_length g_seenMany g_trace g_at g_behind g_number g_readLinks g_readFolded g_readStiff g_wayMany g_row g_marks) (w_X8_has Y ) [] := ⟨rfl, by decide +kernel⟩
      refine go_i hp hP hD hS hA (fun _ => rfl) (va_runS (As := [.int (g_row ((10 : Int32)).toNatClampNeg), .int x11]) (rest := [.long xl9]) ⟨hx, hb, hml, hown, hts⟩ (c_X8_has h _) (va_cwS 2 hts gX8_odds_X8_has rfl rfl rfl (by decide +kernel) ⟨Nat.le_of_ble_eq_true rfl, Nat.le_of_ble_eq_true rfl⟩) (pre_S hp hK hN hP hD) rfl rfl hl.1 rfl (lv_room (Nat.le_of_ble_eq_true rfl)) dX8_odds_87 ⟨Nat.le_of_ble_eq_true rfl, Nat.le_of_ble_eq_true rfl⟩) (fun r37 u H locs h hP hD hS => ?_)
      try dsimp only at h
      have hP : va_P D vwCl (w_X8_odds Y q q_row q_isKept q_text q_seenFold q_seenSpan q_readLong q_marks q_isMeasured q_waysAre q_haveSpan g_links g_undos g_length g_seenMany g_trace g_at g_behind g_number g_readLinks g_readFolded g_readStiff g_wayMany g_row g_marks) H := hP
      have hD : va_D A (w_X8_odds Y q q_row q_isKept q_text q_seenFold q_seenSpan q_readLong q_marks q_isMeasured q_waysAre q_haveSpan g_links g_undos g_length g_seenMany g_trace g_at g_behind g_number g_readLinks g_readFolded g_readStiff g_wayMany g_row g_marks) := hD
      refine lv_if_eq (tgt := 97) hx hb dX8_odds_90 (by decide) (fun c38 => ?_) (fun c38 => ?_)
      · have h := h.1 c38
        refine lv_iload hx hb dX8_odds_97 (lv_at hl 6 rfl) ?_
        refine lv_iload hx hb dX8_odds_99 (lv_at hl 8 rfl) ?_
        have hp : Pt (w_X8_odds Y q q_row q_isKept q_text q_seenFold q_seenSpan q_readLong q_marks q_isMeasured q_waysAre q_haveSpan g_links g_undos g_length g_seenMany g_trace g_at g_behind g_number g_readLinks g_readFolded g_readStiff g_wayMany g_row g_marks) (w_X8_has Y ) [] := ⟨rfl, by decide +kernel⟩
        refine go_i hp hP hD hS hA (fun _ => rfl) (va_runS (As := [.int x8, .int x11]) (rest := [.long xl9]) ⟨hx, hb, hml, hown, hts⟩ (c_X8_has h _) (va_cwS 2 hts gX8_odds_X8_has rfl rfl rfl (by decide +kernel) ⟨Nat.le_of_ble_eq_true rfl, Nat.le_of_ble_eq_true rfl⟩) (pre_S hp hK hN hP hD) rfl rfl hl.1 rfl (lv_room (Nat.le_of_ble_eq_true rfl)) dX8_odds_101 ⟨Nat.le_of_ble_eq_true rfl, Nat.le_of_ble_eq_true rfl⟩) (fun r39 u H locs h hP hD hS => ?_)
        try dsimp only at h
        have hP : va_P D vwCl (w_X8_odds Y q q_row q_isKept q_text q_seenFold q_seenSpan q_readLong q_marks q_isMeasured q_waysAre q_haveSpan g_links g_undos g_length g_seenMany g_trace g_at g_behind g_number g_readLinks g_readFolded g_readStiff g_wayMany g_row g_marks) H := hP
        have hD : va_D A (w_X8_odds Y q q_row q_isKept q_text q_seenFold q_seenSpan q_readLong q_marks q_isMeasured q_waysAre q_haveSpan g_links g_undos g_length g_seenMany g_trace g_at g_behind g_number g_readLinks g_readFolded g_readStiff g_wayMany g_row g_marks) := hD
        refine lv_if_eq (tgt := 112) hx hb dX8_odds_104 (by decide) (fun c40 => ?_) (fun c40 => ?_)
        · have h := h.1 c40
          refine lv_bipush (v := 10) hx hb dX8_odds_112 (by decide) ?_
          refine lv_iload_n hx hb dX8_odds_114 rfl (lv_at hl 1 rfl) ?_
          refine lv_isub hx hb dX8_odds_115 ?_
          refine lv_i2l hx hb dX8_odds_116 rfl ?_
          refine lv_lmul hx hb dX8_odds_117 ?_
          refine lv_topl (fun z41 ez41 => ?_)
          have h := h z41 ez41
          refine lv_lstore (lv' := [(9, .long z41), (0, .ref q), (1, .int x1), (2, .int x2), (3, .int x3), (4, .long xl4), (6, .long xl6), (8, .int x8), (11, .int x11)]) hx hb dX8_odds_118 hl (by decide) rfl (fun ls hl => ?_)
          obtain ⟨z42, ez42⟩ : ∃ y : Int32, y = (x11 + (1 : Int32)) := ⟨_, rfl⟩
          have h := h z42 ez42
          refine lv_iinc (v := z42) (lv' := [(11, .int z42), (9, .long z41), (0, .ref q), (1, .int x1), (2, .int x2), (3, .int x3), (4, .long xl4), (6, .long xl6), (8, .int x8)]) hx hb dX8_odds_120 hl (k := 8) rfl (by rw [ez42]; rfl) (by decide) rfl (fun ls hl => ?_)
          refine lv_goto (tgt := 65) hx hb dX8_odds_123 (by decide) ?_
          exact ih _ _ h _ _ _ hP hD hS (lv_sub hl [2, 3, 4, 5, 6, 7, 8, 1, 0] rfl)
        · have h := h.2 c40
          refine lv_iload_n hx hb dX8_odds_107 rfl (lv_at hl 1 rfl) ?_
          refine lv_i2l hx hb dX8_odds_108 rfl ?_
          refine lv_goto (tgt := 117) hx hb dX8_odds_109 (by decide) ?_
          refine lv_lmul hx hb dX8_odds_117 ?_
          refine lv_topl (fun z43 ez43 => ?_)
          have h := h z43 ez43
          refine lv_lstore (lv' := [(9, .long z43), (0, .ref q), (1, .int x1), (2, .int x2), (3, .int x3), (4, .long xl4), (6, .long xl6), (8, .int x8), (11, .int x11)]) hx hb dX8_odds_118 hl (by decide) rfl (fun ls hl => ?_)
          obtain ⟨z44, ez44⟩ : ∃ y : Int32, y = (x11 + (1 : Int32)) := ⟨_, rfl⟩
          have h := h z44 ez44
          refine lv_iinc (v := z44) (lv' := [(11, .int z44), (9, .long z43), (0, .ref q), (1, .int x1), (2, .int x2), (3, .int x3), (4, .long xl4), (6, .long xl6), (8, .int x8)]) hx hb dX8_odds_120 hl (k := 8) rfl (by rw [ez44]; rfl) (by decide) rfl (fun ls hl => ?_)
          refine lv_goto (tgt := 65) hx hb dX8_odds_123 (by decide) ?_
          exact ih _ _ h _ _ _ hP hD hS (lv_sub hl [2, 3, 4, 5, 6, 7, 8, 1, 0] rfl)
      · have h := h.2 c38
        refine lv_lconst (v := 1) hx hb dX8_odds_93 (by decide) ?_
        refine lv_goto (tgt := 117) hx hb dX8_odds_94 (by decide) ?_
        refine lv_lmul hx hb dX8_odds_117 ?_
        refine lv_topl (fun z45 ez45 => ?_)
        have h := h z45 ez45
        refine lv_lstore (lv' := [(9, .long z45), (0, .ref q), (1, .int x1), (2, .int x2), (3, .int x3), (4, .long xl4), (6, .long xl6), (8, .int x8), (11, .int x11)]) hx hb dX8_odds_118 hl (by decide) rfl (fun ls hl => ?_)
        obtain ⟨z46, ez46⟩ : ∃ y : Int32, y = (x11 + (1 : Int32)) := ⟨_, rfl⟩
        have h := h z46 ez46
        refine lv_iinc (v := z46) (lv' := [(11, .int z46), (9, .long z45), (0, .ref q), (1, .int x1), (2, .int x2), (3, .int x3), (4, .long xl4), (6, .long xl6), (8, .int x8)]) hx hb dX8_odds_120 hl (k := 8) rfl (by rw [ez46]; rfl) (by decide) rfl (fun ls hl => ?_)
        refine lv_goto (tgt := 65) hx hb dX8_odds_123 (by decide) ?_
        exact ih _ _ h _ _ _ hP hD hS (lv_sub hl [2, 3, 4, 5, 6, 7, 8, 1, 0] rfl)
set_option maxHeartbeats 4000000 in
set_option maxRecDepth 100000 in
theorem L_X8_odds_41 {p : Program} {l : Launch} {e : Env} {s : State} {m : MethodId} {args : Array Value} {below : List Frame} {meth : Method} {c : Code} {D : va_G} {Y : ClassId × ClassId × ClassId} {A : Nat → Prop} {q q_row q_isKept q_text q_seenFold q_seenSpan q_readLong q_marks q_isMeasured q_waysAre q_haveSpan : Nat} {g_links g_undos g_length g_seenMany : Int32} {g_trace : Int64} {g_at g_behind g_number g_readLinks g_readFolded g_readStiff g_wayMany : Int32} {g_row : Nat → Int32} {x1 x2 x3 : Int32} {Q : Int32 → (Nat → Int32) → Prop} (C : Ctx p s m args meth c cX8_odds 14 (some .int) wsX8_odds RX8) (hK : va_K D vwCl (tyS Y) s) (hA : ∀ q, s.heap.size ≤ q → A q) : ∀ (n : Nat) (xl4 xl6 : Int64) (x8 : Int32) (g_marks : Nat → Int32), itr4 (B_X8_odds_41 g_links g_row x1 x2 x3 Q) n xl4 xl6 x8 g_marks → ∀ (H : Heap) (locs : List Loc) (ls : Array Slot), va_P D vwCl (w_X8_odds Y q q_row q_isKept q_text q_seenFold q_seenSpan q_readLong q_marks q_isMeasured q_waysAre q_haveSpan g_links g_undos g_length g_seenMany g_trace g_at g_behind g_number g_readLinks g_readFolded g_readStiff g_wayMany g_row g_marks) H → va_D A (w_X8_odds Y q q_row q_isKept q_text q_seenFold q_seenSpan q_readLong q_marks q_isMeasured q_waysAre q_haveSpan g_links g_undos g_length g_seenMany g_trace g_at g_behind g_number g_readLinks g_readFolded g_readStiff g_wayMany g_row g_marks) → va_S A s.heap H locs → lv_has ls 14 [(0, .ref q), (1, .int x1), (2, .int x2), (3, .int x3), (4, .long xl4), (6, .long xl6), (8, .int x8)] → W p l e rm_X8_odds s m args below meth c H locs 0 0 (QI below args s D Y A (fun r (u : (Nat → Int32)) => Q r u) (fun u : (Nat → Int32) => (w_X8_odds Y q q_row q_isKept q_text q_seenFold q_seenSpan q_readLong q_marks q_isMeasured q_waysAre q_haveSpan g_links g_undos g_length g_seenMany g_trace g_at g_behind g_number g_readLinks g_readFolded g_readStiff g_wayMany g_row u))) (F0 m 41 ls []) := by
  intro n
  induction n with
  | zero => intro xl4 xl6 x8 g_marks h; exact False.elim h
  | succ n ih =>
    intro xl4 xl6 x8 g_marks h H locs ls hP hD hS hl
    obtain ⟨⟨hx, hb, hml, hown, hts⟩, hr, hlocks, hN⟩ := id C
    have h : B_X8_odds_41 g_links g_row x1 x2 x3 Q (itr4 (B_X8_odds_41 g_links g_row x1 x2 x3 Q) n) xl4 xl6 x8 g_marks := h
    unfold B_X8_odds_41 at h
    refine lv_iload hx hb dX8_odds_41 (lv_at hl 6 rfl) ?_
    refine lv_aload_n hx hb dX8_odds_43 rfl (lv_at hl 0 rfl) ?_
    have hp : Pt (w_X8_odds Y q q_row q_isKept q_text q_seenFold q_seenSpan q_readLong q_marks q_isMeasured q_waysAre q_haveSpan g_links g_undos g_length g_seenMany g_trace g_at g_behind g_number g_readLinks g_readFolded g_readStiff g_wayMany g_row g_marks) (w_X8_folds Y q q_row q_isKept q_text q_seenFold q_seenSpan q_readLong q_marks q_isMeasured q_waysAre q_haveSpan g_links g_undos g_length g_seenMany g_trace g_at g_behind g_number g_readLinks g_readFolded g_readStiff g_wayMany) [0] := ⟨rfl, by decide +kernel⟩
    refine go_i hp hP hD hS hA (fun _ => rfl) (va_runV (As := []) (rest := [.int x8]) ⟨hx, hb, hml, hown, hts⟩ (c_X8_folds h _) (cwV 0 hts gX8_odds_X8_folds rfl rfl rfl (by decide +kernel) ⟨Nat.le_of_ble_eq_true rfl, Nat.le_of_ble_eq_true rfl⟩) (pre_V (b := q) (q0 := 0) (ci := 8) (q := (RX8, TX8, 22)) hp hK hN hP hD rfl rfl) rfl rfl hl.1 rfl (lv_room (Nat.le_of_ble_eq_true rfl)) dX8_odds_44 ⟨Nat.le_of_ble_eq_true rfl, Nat.le_of_ble_eq_true rfl⟩) (fun r47 u H locs h hP hD hS => ?_)
    try dsimp only at h
    have hP : va_P D vwCl (w_X8_odds Y q q_row q_isKept q_text q_seenFold q_seenSpan q_readLong q_marks q_isMeasured q_waysAre q_haveSpan g_links g_undos g_length g_seenMany g_trace g_at g_behind g_number g_readLinks g_readFolded g_readStiff g_wayMany g_row g_marks) H := hP
    have hD : va_D A (w_X8_odds Y q q_row q_isKept q_text q_seenFold q_seenSpan q_readLong q_marks q_isMeasured q_waysAre q_haveSpan g_links g_undos g_length g_seenMany g_trace g_at g_behind g_number g_readLinks g_readFolded g_readStiff g_wayMany g_row g_marks) := hD
    refine lv_icmp_ge (tgt := 160) hx hb dX8_odds_47 (by decide) (fun c48 => ?_) (fun c48 => ?_)
    · have h := h.1 c48
      refine lv_lload hx hb dX8_odds_160 (lv_at hl 4 rfl) ?_
      refine lv_lstore (lv' := [(8, .long xl4), (0, .ref q), (1, .int x1), (2, .int x2), (3, .int x3), (4, .long xl4), (6, .long xl6)]) hx hb dX8_odds_162 hl (by decide) rfl (fun ls hl => ?_)
      refine lv_lload hx hb dX8_odds_164 (lv_at hl 6 rfl) ?_
      refine lv_lstore (lv' := [(10, .long xl6), (8, .long xl4), (0, .ref q), (1, .int x1), (2, .int x2), (3, .int x3), (4, .long xl4), (6, .long xl6)]) hx hb dX8_odds_166 hl (by decide) rfl (fun ls hl => ?_)
      obtain ⟨n, h⟩ := h
      exact L_X8_odds_168 C hK hA  n _ _ h _ _ _ hP hD hS (lv_sub hl [5, 6, 7, 1, 0] rfl)
    · have h := h.2 c48
      refine lv_aload_n hx hb dX8_odds_50 rfl (lv_at hl 0 rfl) ?_
      refine lv_iload hx hb dX8_odds_51 (lv_at hl 6 rfl) ?_
      have hp : Pt (w_X8_odds Y q q_row q_isKept q_text q_seenFold q_seenSpan q_readLong q_marks q_isMeasured q_waysAre q_haveSpan g_links g_undos g_length g_seenMany g_trace g_at g_behind g_number g_readLinks g_readFolded g_readStiff g_wayMany g_row g_marks) (w_X8_isFold Y q q_row q_isKept q_text q_seenFold q_seenSpan q_readLong q_marks q_isMeasured q_waysAre q_haveSpan g_links g_undos g_length g_seenMany g_trace g_at g_behind g_number g_readLinks g_readFolded g_readStiff g_wayMany g_row) [0, 1] := ⟨rfl, by decide +kernel⟩
      refine go_i hp hP hD hS hA (fun _ => rfl) (va_runV (As := [.int x8]) (rest := []) ⟨hx, hb, hml, hown, hts⟩ (c_X8_isFold h _) (cwV 1 hts gX8_odds_X8_isFold rfl rfl rfl (by decide +kernel) ⟨Nat.le_of_ble_eq_true rfl, Nat.le_of_ble_eq_true rfl⟩) (pre_V (b := q) (q0 := 0) (ci := 8) (q := (RX8, TX8, 22)) hp hK hN hP hD rfl rfl) rfl rfl hl.1 rfl (lv_room (Nat.le_of_ble_eq_true rfl)) dX8_odds_53 ⟨Nat.le_of_ble_eq_true rfl, Nat.le_of_ble_eq_true rfl⟩) (fun r49 u H locs h hP hD hS => ?_)
      try dsimp only at h
      have hP : va_P D vwCl (w_X8_odds Y q q_row q_isKept q_text q_seenFold q_seenSpan q_readLong q_marks q_isMeasured q_waysAre q_haveSpan g_links g_undos g_length g_seenMany g_trace g_at g_behind g_number g_readLinks g_readFolded g_readStiff g_wayMany g_row g_marks) H := hP
      have hD : va_D A (w_X8_odds Y q q_row q_isKept q_text q_seenFold q_seenSpan q_readLong q_marks q_isMeasured q_waysAre q_haveSpan g_links g_undos g_length g_seenMany g_trace g_at g_behind g_number g_readLinks g_readFolded g_readStiff g_wayMany g_row g_marks) := hD
      refine lv_if_eq (tgt := 154) hx hb dX8_odds_56 (by decide) (fun c50 => ?_) (fun c50 => ?_)
      · have h := h.1 c50
        obtain ⟨z51, ez51⟩ : ∃ y : Int32, y = (x8 + (1 : Int32)) := ⟨_, rfl⟩
        have h := h z51 ez51
        refine lv_iinc (v := z51) (lv' := [(8, .int z51), (0, .ref q), (1, .int x1), (2, .int x2), (3, .int x3), (4, .long xl4), (6, .long xl6)]) hx hb dX8_odds_154 hl (k := 6) rfl (by rw [ez51]; rfl) (by decide) rfl (fun ls hl => ?_)
        refine lv_goto (tgt := 41) hx hb dX8_odds_157 (by decide) ?_
        exact ih _ _ _ _ h _ _ _ hP hD hS (lv_sub hl [1, 2, 3, 4, 5, 6, 0] rfl)
      · have h := h.2 c50
        refine lv_lconst (v := 1) hx hb dX8_odds_59 (by decide) ?_
        refine lv_lstore (lv' := [(9, .long (1 : Int64)), (0, .ref q), (1, .int x1), (2, .int x2), (3, .int x3), (4, .long xl4), (6, .long xl6), (8, .int x8)]) hx hb dX8_odds_60 hl (by decide) rfl (fun ls hl => ?_)
        refine lv_iconst (v := 0) hx hb dX8_odds_62 (by decide) ?_
        refine lv_istore (lv' := [(11, .int (0 : Int32)), (9, .long (1 : Int64)), (0, .ref q), (1, .int x1), (2, .int x2), (3, .int x3), (4, .long xl4), (6, .long xl6), (8, .int x8)]) hx hb dX8_odds_63 hl (by decide) rfl (fun ls hl => ?_)
        obtain ⟨n, h⟩ := h
        exact L_X8_odds_65 C hK hA ih n _ _ h _ _ _ hP hD hS (lv_sub hl [2, 3, 4, 5, 6, 7, 8, 1, 0] rfl)
set_option maxHeartbeats 4000000 in
set_option maxRecDepth 100000 in
theorem c_X8_odds {l : Launch} {D : va_G} {Y : ClassId × ClassId × ClassId} {q q_row q_isKept q_text q_seenFold q_seenSpan q_readLong q_marks q_isMeasured q_waysAre q_haveSpan : Nat} {g_links g_undos g_length g_seenMany : Int32} {g_trace : Int64} {g_at g_behind g_number g_readLinks g_readFolded g_readStiff g_wayMany : Int32} {g_row g_marks : Nat → Int32} {x1 x2 x3 : Int32} {Q : Int32 → (Nat → Int32) → Prop} (h : wp_X8_odds g_links g_row g_marks x1 x2 x3 Q) (sz : Nat) : MtI l yX8_odds wsX8_odds rm_X8_odds [.ref q, .int x1, .int x2, .int x3] D Y (w_X8_odds Y q q_row q_isKept q_text q_seenFold q_seenSpan q_readLong q_marks q_isMeasured q_waysAre q_haveSpan g_links g_undos g_length g_seenMany g_trace g_at g_behind g_number g_readLinks g_readFolded g_readStiff g_wayMany g_row g_marks) (fun r (u : (Nat → Int32)) => Q r u) (fun u : (Nat → Int32) => (w_X8_odds Y q q_row q_isKept q_text q_seenFold q_seenSpan q_readLong q_marks q_isMeasured q_waysAre q_haveSpan g_links g_undos g_length g_seenMany g_trace g_at g_behind g_number g_readLinks g_readFolded g_readStiff g_wayMany g_row u)) sz := by
  refine ct_i (cc := cX8_odds) (nL := 14) (ret := (some .int)) (by decide) rfl (Nat.le_of_ble_eq_true rfl) ?_ sz
  intro p e s m below meth c A ls C hK hA hP hD hS hl
  obtain ⟨⟨hx, hb, hml, hown, hts⟩, hr, hlocks, hN⟩ := id C
  have hown : s.vm.findClass RX8 = some m.cls := hown
  have hl : lv_has ls 14 [(0, .ref q), (1, .int x1), (2, .int x2), (3, .int x3)] := hl
  unfold wp_X8_odds at h
  refine lv_iload_n hx hb dX8_odds_0 rfl (lv_at hl 1 rfl) ?_
  refine lv_iconst (v := 0) hx hb dX8_odds_1 (by decide) ?_
  refine lv_bipush (v := 10) hx hb dX8_odds_2 (by decide) ?_
  have hp : Pt (w_X8_odds Y q q_row q_isKept q_text q_seenFold q_seenSpan q_readLong q_marks q_isMeasured q_waysAre q_haveSpan g_links g_undos g_length g_seenMany g_trace g_at g_behind g_number g_readLinks g_readFolded g_readStiff g_wayMany g_row g_marks) (w_X8_in Y ) [] := ⟨rfl, by decide +kernel⟩
  refine go_i hp hP hD hS hA (fun _ => rfl) (va_runS (As := [.int x1, .int (0 : Int32), .int (10 : Int32)]) (rest := []) ⟨hx, hb, hml, hown, hts⟩ (c_X8_in h _) (va_cwS 3 hts gX8_odds_X8_in rfl rfl rfl (by decide +kernel) ⟨Nat.le_of_ble_eq_true rfl, Nat.le_of_ble_eq_true rfl⟩) (pre_S hp hK hN hP hD) rfl rfl hl.1 rfl (lv_room (Nat.le_of_ble_eq_true rfl)) dX8_odds_4 ⟨Nat.le_of_ble_eq_true rfl, Nat.le_of_ble_eq_true rfl⟩) (fun r52 u H locs h hP hD hS => ?_)
  try dsimp only at h
  have hP : va_P D vwCl (w_X8_odds Y q q_row q_isKept q_text q_seenFold q_seenSpan q_readLong q_marks q_isMeasured q_waysAre q_haveSpan g_links g_undos g_length g_seenMany g_trace g_at g_behind g_number g_readLinks g_readFolded g_readStiff g_wayMany g_row g_marks) H := hP
  have hD : va_D A (w_X8_odds Y q q_row q_isKept q_text q_seenFold q_seenSpan q_readLong q_marks q_isMeasured q_waysAre q_haveSpan g_links g_undos g_length g_seenMany g_trace g_at g_behind g_number g_readLinks g_readFolded g_readStiff g_wayMany g_row g_marks) := hD
  refine lv_if_eq (tgt := 30) hx hb dX8_odds_7 (by decide) (fun c53 => ?_) (fun c53 => ?_)
  · have h := h.1 c53
    refine lv_iconst (v := (-1)) hx hb dX8_odds_30 (by decide) ?_
    exact ret_i (g_marks) hx hb hr hlocks hK hP hD hS h dX8_odds_31
  · have h := h.2 c53
    refine lv_iload_n hx hb dX8_odds_10 rfl (lv_at hl 2 rfl) ?_
    refine lv_iconst (v := 1) hx hb dX8_odds_11 (by decide) ?_
    refine lv_sipush (v := 180) hx hb dX8_odds_12 (by decide) ?_
    have hp : Pt (w_X8_odds Y q q_row q_isKept q_text q_seenFold q_seenSpan q_readLong q_marks q_isMeasured q_waysAre q_haveSpan g_links g_undos g_length g_seenMany g_trace g_at g_behind g_number g_readLinks g_readFolded g_readStiff g_wayMany g_row g_marks) (w_X8_in Y ) [] := ⟨rfl, by decide +kernel⟩
    refine go_i hp hP hD hS hA (fun _ => rfl) (va_runS (As := [.int x2, .int (1 : Int32), .int (180 : Int32)]) (rest := []) ⟨hx, hb, hml, hown, hts⟩ (c_X8_in h _) (va_cwS 3 hts gX8_odds_X8_in rfl rfl rfl (by decide +kernel) ⟨Nat.le_of_ble_eq_true rfl, Nat.le_of_ble_eq_true rfl⟩) (pre_S hp hK hN hP hD) rfl rfl hl.1 rfl (lv_room (Nat.le_of_ble_eq_true rfl)) dX8_odds_15 ⟨Nat.le_of_ble_eq_true rfl, Nat.le_of_ble_eq_true rfl⟩) (fun r54 u H locs h hP hD hS => ?_)
    try dsimp only at h
    have hP : va_P D vwCl (w_X8_odds Y q q_row q_isKept q_text q_seenFold q_seenSpan q_readLong q_marks q_isMeasured q_waysAre q_haveSpan g_links g_undos g_length g_seenMany g_trace g_at g_behind g_number g_readLinks g_readFolded g_readStiff g_wayMany g_row g_marks) H := hP
    have hD : va_D A (w_X8_odds Y q q_row q_isKept q_text q_seenFold q_seenSpan q_readLong q_marks q_isMeasured q_waysAre q_haveSpan g_links g_undos g_length g_seenMany g_trace g_at g_behind g_number g_readLinks g_readFolded g_readStiff g_wayMany g_row g_marks) := hD
    refine lv_if_eq (tgt := 30) hx hb dX8_odds_18 (by decide) (fun c55 => ?_) (fun c55 => ?_)
    · have h := h.1 c55
      refine lv_iconst (v := (-1)) hx hb dX8_odds_30 (by decide) ?_
      exact ret_i (g_marks) hx hb hr hlocks hK hP hD hS h dX8_odds_31
    · have h := h.2 c55
      refine lv_iload_n hx hb dX8_odds_21 rfl (lv_at hl 3 rfl) ?_
      refine lv_iconst (v := 0) hx hb dX8_odds_22 (by decide) ?_
      refine lv_iconst (v := 1) hx hb dX8_odds_23 (by decide) ?_
      have hp : Pt (w_X8_odds Y q q_row q_isKept q_text q_seenFold q_seenSpan q_readLong q_marks q_isMeasured q_waysAre q_haveSpan g_links g_undos g_length g_seenMany g_trace g_at g_behind g_number g_readLinks g_readFolded g_readStiff g_wayMany g_row g_marks) (w_X8_in Y ) [] := ⟨rfl, by decide +kernel⟩
      refine go_i hp hP hD hS hA (fun _ => rfl) (va_runS (As := [.int x3, .int (0 : Int32), .int (1 : Int32)]) (rest := []) ⟨hx, hb, hml, hown, hts⟩ (c_X8_in h _) (va_cwS 3 hts gX8_odds_X8_in rfl rfl rfl (by decide +kernel) ⟨Nat.le_of_ble_eq_true rfl, Nat.le_of_ble_eq_true rfl⟩) (pre_S hp hK hN hP hD) rfl rfl hl.1 rfl (lv_room (Nat.le_of_ble_eq_true rfl)) dX8_odds_24 ⟨Nat.le_of_ble_eq_true rfl, Nat.le_of_ble_eq_true rfl⟩) (fun r56 u H locs h hP hD hS => ?_)
      try dsimp only at h
      have hP : va_P D vwCl (w_X8_odds Y q q_row q_isKept q_text q_seenFold q_seenSpan q_readLong q_marks q_isMeasured q_waysAre q_haveSpan g_links g_undos g_length g_seenMany g_trace g_at g_behind g_number g_readLinks g_readFolded g_readStiff g_wayMany g_row g_marks) H := hP
      have hD : va_D A (w_X8_odds Y q q_row q_isKept q_text q_seenFold q_seenSpan q_readLong q_marks q_isMeasured q_waysAre q_haveSpan g_links g_undos g_length g_seenMany g_trace g_at g_behind g_number g_readLinks g_readFolded g_readStiff g_wayMany g_row g_marks) := hD
      refine lv_if_ne (tgt := 32) hx hb dX8_odds_27 (by decide) (fun c57 => ?_) (fun c57 => ?_)
      · have h := h.1 c57
        refine lv_lconst (v := 0) hx hb dX8_odds_32 (by decide) ?_
        refine lv_lstore (lv' := [(4, .long (0 : Int64)), (0, .ref q), (1, .int x1), (2, .int x2), (3, .int x3)]) hx hb dX8_odds_33 hl (by decide) rfl (fun ls hl => ?_)
        refine lv_lconst (v := 0) hx hb dX8_odds_35 (by decide) ?_
        refine lv_lstore (lv' := [(6, .long (0 : Int64)), (4, .long (0 : Int64)), (0, .ref q), (1, .int x1), (2, .int x2), (3, .int x3)]) hx hb dX8_odds_36 hl (by decide) rfl (fun ls hl => ?_)
        refine lv_iconst (v := 0) hx hb dX8_odds_38 (by decide) ?_
        refine lv_istore (lv' := [(8, .int (0 : Int32)), (6, .long (0 : Int64)), (4, .long (0 : Int64)), (0, .ref q), (1, .int x1), (2, .int x2), (3, .int x3)]) hx hb dX8_odds_39 hl (by decide) rfl (fun ls hl => ?_)
        obtain ⟨n, h⟩ := h
        exact L_X8_odds_41 C hK hA  n _ _ _ _ h _ _ _ hP hD hS (lv_sub hl [3, 4, 5, 6, 2, 1, 0] rfl)
      · have h := h.2 c57
        refine lv_iconst (v := (-1)) hx hb dX8_odds_30 (by decide) ?_
        exact ret_i (g_marks) hx hb hr hlocks hK hP hD hS h dX8_odds_31
abbrev rm_X8_sees : Room := { frames := 2, cells := 0, slots := 0, locals := 43 }
theorem in_X8_sees_X8 : ∀ w ∈ wsX80, w ∈ wsX8_sees := fun _ h => List.mem_cons_of_mem _ (List.mem_append_right _ h)
theorem k_X8_sees_f105 {s : State} {args : Array Value} (hts : ∀ w ∈ wsX8_sees, w.before args s = true) : (Cond.fieldLink RX8 105 "FoldRuleModel" "seenMany" "I").before args s = true := hts _ (by decide +kernel)
theorem k_X8_sees_f20 {s : State} {args : Array Value} (hts : ∀ w ∈ wsX8_sees, w.before args s = true) : (Cond.fieldLink RX8 20 "FoldRuleModel" "seenFold" "[I").before args s = true := hts _ (by decide +kernel)
theorem k_X8_sees_f23 {s : State} {args : Array Value} (hts : ∀ w ∈ wsX8_sees, w.before args s = true) : (Cond.fieldLink RX8 23 "FoldRuleModel" "seenSpan" "[I").before args s = true := hts _ (by decide +kernel)
set_option maxHeartbeats 4000000 in
set_option maxRecDepth 100000 in
theorem c_X8_sees {l : Launch} {D : va_G} {Y : ClassId × ClassId × ClassId} {q q_row q_isKept q_text q_seenFold q_seenSpan q_readLong q_marks q_isMeasured q_waysAre q_haveSpan : Nat} {g_links g_undos g_length g_seenMany : Int32} {g_trace : Int64} {g_at g_behind g_number g_readLinks g_readFolded g_readStiff g_wayMany : Int32} {g_row g_seenFold g_seenSpan : Nat → Int32} {x1 x2 : Int32} {Q : Int32 → Int32 → (Nat → Int32) → (Nat → Int32) → Prop} (h : wp_X8_sees g_links g_seenMany g_row g_seenFold g_seenSpan x1 x2 Q) (sz : Nat) : MtI l yX8_sees wsX8_sees rm_X8_sees [.ref q, .int x1, .int x2] D Y (w_X8_sees Y q q_row q_isKept q_text q_seenFold q_seenSpan q_readLong q_marks q_isMeasured q_waysAre q_haveSpan g_links g_undos g_length g_seenMany g_trace g_at g_behind g_number g_readLinks g_readFolded g_readStiff g_wayMany g_row g_seenFold g_seenSpan) (fun r (u : Int32 × (Nat → Int32) × (Nat → Int32)) => Q r u.1 u.2.1 u.2.2) (fun u : Int32 × (Nat → Int32) × (Nat → Int32) => (w_X8_sees Y q q_row q_isKept q_text q_seenFold q_seenSpan q_readLong q_marks q_isMeasured q_waysAre q_haveSpan g_links g_undos g_length u.1 g_trace g_at g_behind g_number g_readLinks g_readFolded g_readStiff g_wayMany g_row u.2.1 u.2.2)) sz := by
  refine ct_i (cc := cX8_sees) (nL := 3) (ret := (some .int)) (by decide) rfl (Nat.le_of_ble_eq_true rfl) ?_ sz
  intro p e s m below meth c A ls C hK hA hP hD hS hl
  obtain ⟨⟨hx, hb, hml, hown, hts⟩, hr, hlocks, hN⟩ := id C
  have hown : s.vm.findClass RX8 = some m.cls := hown
  have hl : lv_has ls 3 [(0, .ref q), (1, .int x1), (2, .int x2)] := hl
  unfold wp_X8_sees at h
  refine lv_aload_n hx hb dX8_sees_0 rfl (lv_at hl 0 rfl) ?_
  refine lv_iload_n hx hb dX8_sees_1 rfl (lv_at hl 1 rfl) ?_
  have hp : Pt (w_X8_sees Y q q_row q_isKept q_text q_seenFold q_seenSpan q_readLong q_marks q_isMeasured q_waysAre q_haveSpan g_links g_undos g_length g_seenMany g_trace g_at g_behind g_number g_readLinks g_readFolded g_readStiff g_wayMany g_row g_seenFold g_seenSpan) (w_X8_isFold Y q q_row q_isKept q_text q_seenFold q_seenSpan q_readLong q_marks q_isMeasured q_waysAre q_haveSpan g_links g_undos g_length g_seenMany g_trace g_at g_behind g_number g_readLinks g_readFolded g_readStiff g_wayMany g_row) [0, 1] := ⟨rfl, by decide +kernel⟩
  refine go_i hp hP hD hS hA (fun _ => rfl) (va_runV (As := [.int x1]) (rest := []) ⟨hx, hb, hml, hown, hts⟩ (c_X8_isFold h _) (cwV 1 hts gX8_sees_X8_isFold rfl rfl rfl (by decide +kernel) ⟨Nat.le_of_ble_eq_true rfl, Nat.le_of_ble_eq_true rfl⟩) (pre_V (b := q) (q0 := 0) (ci := 8) (q := (RX8, TX8, 22)) hp hK hN hP hD rfl rfl) rfl rfl hl.1 rfl (lv_room (Nat.le_of_ble_eq_true rfl)) dX8_sees_2 ⟨Nat.le_of_ble_eq_true rfl, Nat.le_of_ble_eq_true rfl⟩) (fun r4 u H locs h hP hD hS => ?_)
  try dsimp only at h
  have hP : va_P D vwCl (w_X8_sees Y q q_row q_isKept q_text q_seenFold q_seenSpan q_readLong q_marks q_isMeasured q_waysAre q_haveSpan g_links g_undos g_length g_seenMany g_trace g_at g_behind g_number g_readLinks g_readFolded g_readStiff g_wayMany g_row g_seenFold g_seenSpan) H := hP
  have hD : va_D A (w_X8_sees Y q q_row q_isKept q_text q_seenFold q_seenSpan q_readLong q_marks q_isMeasured q_waysAre q_haveSpan g_links g_undos g_length g_seenMany g_trace g_at g_behind g_number g_readLinks g_readFolded g_readStiff g_wayMany g_row g_seenFold g_seenSpan) := hD
  refine lv_if_eq (tgt := 19) hx hb dX8_sees_5 (by decide) (fun c5 => ?_) (fun c5 => ?_)
  · have h := h.1 c5
    refine lv_iconst (v := (-1)) hx hb dX8_sees_19 (by decide) ?_
    exact ret_i (g_seenMany, g_seenFold, g_seenSpan) hx hb hr hlocks hK hP hD hS h dX8_sees_20
  · have h := h.2 c5
    refine lv_iload_n hx hb dX8_sees_8 rfl (lv_at hl 2 rfl) ?_
    refine lv_iconst (v := 0) hx hb dX8_sees_9 (by decide) ?_
    refine lv_sipush (v := 180) hx hb dX8_sees_10 (by decide) ?_
    have hp : Pt (w_X8_sees Y q q_row q_isKept q_text q_seenFold q_seenSpan q_readLong q_marks q_isMeasured q_waysAre q_haveSpan g_links g_undos g_length g_seenMany g_trace g_at g_behind g_number g_readLinks g_readFolded g_readStiff g_wayMany g_row g_seenFold g_seenSpan) (w_X8_in Y ) [] := ⟨rfl, by decide +kernel⟩
    refine go_i hp hP hD hS hA (fun _ => rfl) (va_runS (As := [.int x2, .int (0 : Int32), .int (180 : Int32)]) (rest := []) ⟨hx, hb, hml, hown, hts⟩ (c_X8_in h _) (va_cwS 3 hts gX8_sees_X8_in rfl rfl rfl (by decide +kernel) ⟨Nat.le_of_ble_eq_true rfl, Nat.le_of_ble_eq_true rfl⟩) (pre_S hp hK hN hP hD) rfl rfl hl.1 rfl (lv_room (Nat.le_of_ble_eq_true rfl)) dX8_sees_13 ⟨Nat.le_of_ble_eq_true rfl, Nat.le_of_ble_eq_true rfl⟩) (fun r6 u H locs h hP hD hS => ?_)
    try dsimp only at h
    have hP : va_P D vwCl (w_X8_sees Y q q_row q_isKept q_text q_seenFold q_seenSpan q_readLong q_marks q_isMeasured q_waysAre q_haveSpan g_links g_undos g_length g_seenMany g_trace g_at g_behind g_number g_readLinks g_readFolded g_readStiff g_wayMany g_row g_seenFold g_seenSpan) H := hP
    have hD : va_D A (w_X8_sees Y q q_row q_isKept q_text q_seenFold q_seenSpan q_readLong q_marks q_isMeasured q_waysAre q_haveSpan g_links g_undos g_length g_seenMany g_trace g_at g_behind g_number g_readLinks g_readFolded g_readStiff g_wayMany g_row g_seenFold g_seenSpan) := hD
    refine lv_if_ne (tgt := 21) hx hb dX8_sees_16 (by decide) (fun c7 => ?_) (fun c7 => ?_)
    · have h := h.1 c7
      refine lv_aload_n hx hb dX8_sees_21 rfl (lv_at hl 0 rfl) ?_
      refine va_get (D := D) (ci := 8) (v := .int g_seenMany) (C := RX8) (T := TX8) (N := 22) hx hb hts in_X8_sees_X8 hown hK hP 0 rfl rfl 6 (by decide) (k_X8_sees_f105 hts) (fun _ h9 => h9) rfl dX8_sees_22 ?_
      refine lv_bipush (v := 6) hx hb dX8_sees_25 (by decide) ?_
      refine lv_icmp_ne (tgt := 33) hx hb dX8_sees_27 (by decide) (fun c8 => ?_) (fun c8 => ?_)
      · have h := h.1 c8
        refine lv_aload_n hx hb dX8_sees_33 rfl (lv_at hl 0 rfl) ?_
        refine va_get (D := D) (ci := 8) (v := .ref q_seenFold) (C := RX8) (T := TX8) (N := 22) hx hb hts in_X8_sees_X8 hown hK hP 0 rfl rfl 7 (by decide) (k_X8_sees_f20 hts) (fun _ h9 => h9) rfl dX8_sees_34 ?_
        refine lv_aload_n hx hb dX8_sees_37 rfl (lv_at hl 0 rfl) ?_
        refine va_get (D := D) (ci := 8) (v := .int g_seenMany) (C := RX8) (T := TX8) (N := 22) hx hb hts in_X8_sees_X8 hown hK hP 0 rfl rfl 6 (by decide) (k_X8_sees_f105 hts) (fun _ h9 => h9) rfl dX8_sees_38 ?_
        refine lv_iload_n hx hb dX8_sees_41 rfl (lv_at hl 1 rfl) ?_
        obtain ⟨hin, h⟩ := h
        refine va_iast hx hb hK hP hD hS 2 0 rfl rfl hin dX8_sees_42 (fun H locs hP hD hS => ?_)
        have hP : va_P D vwCl (w_X8_sees Y q q_row q_isKept q_text q_seenFold q_seenSpan q_readLong q_marks q_isMeasured q_waysAre q_haveSpan g_links g_undos g_length g_seenMany g_trace g_at g_behind g_number g_readLinks g_readFolded g_readStiff g_wayMany g_row (upd g_seenFold (g_seenMany).toNatClampNeg x1) g_seenSpan) H := hP
        have hD : va_D A (w_X8_sees Y q q_row q_isKept q_text q_seenFold q_seenSpan q_readLong q_marks q_isMeasured q_waysAre q_haveSpan g_links g_undos g_length g_seenMany g_trace g_at g_behind g_number g_readLinks g_readFolded g_readStiff g_wayMany g_row (upd g_seenFold (g_seenMany).toNatClampNeg x1) g_seenSpan) := hD
        refine lv_aload_n hx hb dX8_sees_43 rfl (lv_at hl 0 rfl) ?_
        refine va_get (D := D) (ci := 8) (v := .ref q_seenSpan) (C := RX8) (T := TX8) (N := 22) hx hb hts in_X8_sees_X8 hown hK hP 0 rfl rfl 8 (by decide) (k_X8_sees_f23 hts) (fun _ h9 => h9) rfl dX8_sees_44 ?_
        refine lv_aload_n hx hb dX8_sees_47 rfl (lv_at hl 0 rfl) ?_
        refine va_get (D := D) (ci := 8) (v := .int g_seenMany) (C := RX8) (T := TX8) (N := 22) hx hb hts in_X8_sees_X8 hown hK hP 0 rfl rfl 6 (by decide) (k_X8_sees_f105 hts) (fun _ h9 => h9) rfl dX8_sees_48 ?_
        refine lv_iload_n hx hb dX8_sees_51 rfl (lv_at hl 2 rfl) ?_
        obtain ⟨hin, h⟩ := h
        refine va_iast hx hb hK hP hD hS 3 0 rfl rfl hin dX8_sees_52 (fun H locs hP hD hS => ?_)
        have hP : va_P D vwCl (w_X8_sees Y q q_row q_isKept q_text q_seenFold q_seenSpan q_readLong q_marks q_isMeasured q_waysAre q_haveSpan g_links g_undos g_length g_seenMany g_trace g_at g_behind g_number g_readLinks g_readFolded g_readStiff g_wayMany g_row (upd g_seenFold (g_seenMany).toNatClampNeg x1) (upd g_seenSpan (g_seenMany).toNatClampNeg x2)) H := hP
        have hD : va_D A (w_X8_sees Y q q_row q_isKept q_text q_seenFold q_seenSpan q_readLong q_marks q_isMeasured q_waysAre q_haveSpan g_links g_undos g_length g_seenMany g_trace g_at g_behind g_number g_readLinks g_readFolded g_readStiff g_wayMany g_row (upd g_seenFold (g_seenMany).toNatClampNeg x1) (upd g_seenSpan (g_seenMany).toNatClampNeg x2)) := hD
        refine lv_aload_n hx hb dX8_sees_53 rfl (lv_at hl 0 rfl) ?_
        refine lv_dup hx hb dX8_sees_54 rfl ?_
        refine va_get (D := D) (ci := 8) (v := .int g_seenMany) (C := RX8) (T := TX8) (N := 22) hx hb hts in_X8_sees_X8 hown hK hP 0 rfl rfl 6 (by decide) (k_X8_sees_f105 hts) (fun _ h9 => h9) rfl dX8_sees_55 ?_
        refine lv_iconst (v := 1) hx hb dX8_sees_58 (by decide) ?_
        refine lv_iadd hx hb dX8_sees_59 ?_
        refine lv_topi (fun z9 ez9 => ?_)
        have h := h z9 ez9
        refine va_put (D := D) (ci := 8) (v := .int z9) (ty := .int) (C := RX8) (T := TX8) (N := 22) hx hb hts in_X8_sees_X8 tyX8 tyX8_ok nmX8 hown hK hP hD hS 0 rfl rfl 6 (by decide) (k_X8_sees_f105 hts) (fun _ h9 => h9) rfl (by decide +kernel) rfl rfl (Nat.le_of_ble_eq_true rfl) dX8_sees_60 (fun H locs hP hD hS => ?_)
        have hP : va_P D vwCl (w_X8_sees Y q q_row q_isKept q_text q_seenFold q_seenSpan q_readLong q_marks q_isMeasured q_waysAre q_haveSpan g_links g_undos g_length z9 g_trace g_at g_behind g_number g_readLinks g_readFolded g_readStiff g_wayMany g_row (upd g_seenFold (g_seenMany).toNatClampNeg x1) (upd g_seenSpan (g_seenMany).toNatClampNeg x2)) H := hP
        have hD : va_D A (w_X8_sees Y q q_row q_isKept q_text q_seenFold q_seenSpan q_readLong q_marks q_isMeasured q_waysAre q_haveSpan g_links g_undos g_length z9 g_trace g_at g_behind g_number g_readLinks g_readFolded g_readStiff g_wayMany g_row (upd g_seenFold (g_seenMany).toNatClampNeg x1) (upd g_seenSpan (g_seenMany).toNatClampNeg x2)) := hD
        refine lv_aload_n hx hb dX8_sees_63 rfl (lv_at hl 0 rfl) ?_
        refine va_get (D := D) (ci := 8) (v := .int z9) (C := RX8) (T := TX8) (N := 22) hx hb hts in_X8_sees_X8 hown hK hP 0 rfl rfl 6 (by decide) (k_X8_sees_f105 hts) (fun _ h9 => h9) rfl dX8_sees_64 ?_
        exact ret_i (z9, (upd g_seenFold (g_seenMany).toNatClampNeg x1), (upd g_seenSpan (g_seenMany).toNatClampNeg x2)) hx hb hr hlocks hK hP hD hS h dX8_sees_67
      · have h := h.2 c8
        refine lv_bipush (v := (-3)) hx hb dX8_sees_30 (by decide) ?_
        exact ret_i (g_seenMany, g_seenFold, g_seenSpan) hx hb hr hlocks hK hP hD hS h dX8_sees_32
    · have h := h.2 c7
      refine lv_iconst (v := (-1)) hx hb dX8_sees_19 (by decide) ?_
      exact ret_i (g_seenMany, g_seenFold, g_seenSpan) hx hb hr hlocks hK hP hD hS h dX8_sees_20
abbrev rm_X8_forget : Room := { frames := 0, cells := 0, slots := 0, locals := 0 }
theorem in_X8_forget_X8 : ∀ w ∈ wsX80, w ∈ wsX8_forget := fun _ h => List.mem_cons_of_mem _ (List.mem_append_right _ h)
theorem k_X8_forget_f105 {s : State} {args : Array Value} (hts : ∀ w ∈ wsX8_forget, w.before args s = true) : (Cond.fieldLink RX8 105 "FoldRuleModel" "seenMany" "I").before args s = true := hts _ (by decide +kernel)
set_option maxHeartbeats 4000000 in
set_option maxRecDepth 100000 in
theorem c_X8_forget {l : Launch} {D : va_G} {Y : ClassId × ClassId × ClassId} {q q_row q_isKept q_text q_seenFold q_seenSpan q_readLong q_marks q_isMeasured q_waysAre q_haveSpan : Nat} {g_links g_undos g_length g_seenMany : Int32} {g_trace : Int64} {g_at g_behind g_number g_readLinks g_readFolded g_readStiff g_wayMany : Int32} {Q : Int32 → Int32 → Prop} (h : wp_X8_forget g_seenMany Q) (sz : Nat) : MtI l yX8_forget wsX8_forget rm_X8_forget [.ref q] D Y (w_X8_forget Y q q_row q_isKept q_text q_seenFold q_seenSpan q_readLong q_marks q_isMeasured q_waysAre q_haveSpan g_links g_undos g_length g_seenMany g_trace g_at g_behind g_number g_readLinks g_readFolded g_readStiff g_wayMany) (fun r (u : Int32) => Q r u) (fun u : Int32 => (w_X8_forget Y q q_row q_isKept q_text q_seenFold q_seenSpan q_readLong q_marks q_isMeasured q_waysAre q_haveSpan g_links g_undos g_length u g_trace g_at g_behind g_number g_readLinks g_readFolded g_readStiff g_wayMany)) sz := by
  refine ct_i (cc := cX8_forget) (nL := 2) (ret := (some .int)) (by decide) rfl (Nat.le_of_ble_eq_true rfl) ?_ sz
  intro p e s m below meth c A ls C hK hA hP hD hS hl
  obtain ⟨⟨hx, hb, hml, hown, hts⟩, hr, hlocks, hN⟩ := id C
  have hown : s.vm.findClass RX8 = some m.cls := hown
  have hl : lv_has ls 2 [(0, .ref q)] := hl
  unfold wp_X8_forget at h
  refine lv_aload_n hx hb dX8_forget_0 rfl (lv_at hl 0 rfl) ?_
  refine va_get (D := D) (ci := 8) (v := .int g_seenMany) (C := RX8) (T := TX8) (N := 22) hx hb hts in_X8_forget_X8 hown hK hP 0 rfl rfl 6 (by decide) (k_X8_forget_f105 hts) (fun _ h9 => h9) rfl dX8_forget_1 ?_
  refine lv_istore_n (lv' := [(1, .int g_seenMany), (0, .ref q)]) hx hb dX8_forget_4 rfl hl (by decide) rfl (fun ls hl => ?_)
  refine lv_aload_n hx hb dX8_forget_5 rfl (lv_at hl 1 rfl) ?_
  refine lv_iconst (v := 0) hx hb dX8_forget_6 (by decide) ?_
  refine va_put (D := D) (ci := 8) (v := .int (0 : Int32)) (ty := .int) (C := RX8) (T := TX8) (N := 22) hx hb hts in_X8_forget_X8 tyX8 tyX8_ok nmX8 hown hK hP hD hS 0 rfl rfl 6 (by decide) (k_X8_forget_f105 hts) (fun _ h9 => h9) rfl (by decide +kernel) rfl rfl (Nat.le_of_ble_eq_true rfl) dX8_forget_7 (fun H locs hP hD hS => ?_)
  have hP : va_P D vwCl (w_X8_forget Y q q_row q_isKept q_text q_seenFold q_seenSpan q_readLong q_marks q_isMeasured q_waysAre q_haveSpan g_links g_undos g_length (0 : Int32) g_trace g_at g_behind g_number g_readLinks g_readFolded g_readStiff g_wayMany) H := hP
  have hD : va_D A (w_X8_forget Y q q_row q_isKept q_text q_seenFold q_seenSpan q_readLong q_marks q_isMeasured q_waysAre q_haveSpan g_links g_undos g_length (0 : Int32) g_trace g_at g_behind g_number g_readLinks g_readFolded g_readStiff g_wayMany) := hD
  refine lv_iload_n hx hb dX8_forget_10 rfl (lv_at hl 0 rfl) ?_
  exact ret_i ((0 : Int32)) hx hb hr hlocks hK hP hD hS h dX8_forget_11
abbrev rm_X8_spanFiled : Room := { frames := 2, cells := 0, slots := 0, locals := 46 }
set_option maxHeartbeats 4000000 in
set_option maxRecDepth 100000 in
theorem c_X8_spanFiled {l : Launch} {D : va_G} {Y : ClassId × ClassId × ClassId} {q q_row q_isKept q_text q_seenFold q_seenSpan q_readLong q_marks q_isMeasured q_waysAre q_haveSpan : Nat} {g_links g_undos g_length g_seenMany : Int32} {g_trace : Int64} {g_at g_behind g_number g_readLinks g_readFolded g_readStiff g_wayMany : Int32} {g_marks g_row : Nat → Int32} {x1 x2 x3 : Int32} {Q : Int32 → (Nat → Int32) → Prop} (h : wp_X8_spanFiled g_links g_marks g_row x1 x2 x3 Q) (sz : Nat) : MtI l yX8_spanFiled wsX8_spanFiled rm_X8_spanFiled [.ref q, .int x1, .int x2, .int x3] D Y (w_X8_spanFiled Y q q_row q_isKept q_text q_seenFold q_seenSpan q_readLong q_marks q_isMeasured q_waysAre q_haveSpan g_links g_undos g_length g_seenMany g_trace g_at g_behind g_number g_readLinks g_readFolded g_readStiff g_wayMany g_marks g_row) (fun r (u : (Nat → Int32)) => Q r u) (fun u : (Nat → Int32) => (w_X8_spanFiled Y q q_row q_isKept q_text q_seenFold q_seenSpan q_readLong q_marks q_isMeasured q_waysAre q_haveSpan g_links g_undos g_length g_seenMany g_trace g_at g_behind g_number g_readLinks g_readFolded g_readStiff g_wayMany u g_row)) sz := by
  refine ct_i (cc := cX8_spanFiled) (nL := 4) (ret := (some .int)) (by decide) rfl (Nat.le_of_ble_eq_true rfl) ?_ sz
  intro p e s m below meth c A ls C hK hA hP hD hS hl
  obtain ⟨⟨hx, hb, hml, hown, hts⟩, hr, hlocks, hN⟩ := id C
  have hown : s.vm.findClass RX8 = some m.cls := hown
  have hl : lv_has ls 4 [(0, .ref q), (1, .int x1), (2, .int x2), (3, .int x3)] := hl
  unfold wp_X8_spanFiled at h
  refine lv_aload_n hx hb dX8_spanFiled_0 rfl (lv_at hl 0 rfl) ?_
  refine lv_iload_n hx hb dX8_spanFiled_1 rfl (lv_at hl 1 rfl) ?_
  refine lv_iload_n hx hb dX8_spanFiled_2 rfl (lv_at hl 2 rfl) ?_
  refine lv_iload_n hx hb dX8_spanFiled_3 rfl (lv_at hl 3 rfl) ?_
  have hp : Pt (w_X8_spanFiled Y q q_row q_isKept q_text q_seenFold q_seenSpan q_readLong q_marks q_isMeasured q_waysAre q_haveSpan g_links g_undos g_length g_seenMany g_trace g_at g_behind g_number g_readLinks g_readFolded g_readStiff g_wayMany g_marks g_row) (w_X8_lies Y q q_row q_isKept q_text q_seenFold q_seenSpan q_readLong q_marks q_isMeasured q_waysAre q_haveSpan g_links g_undos g_length g_seenMany g_trace g_at g_behind g_number g_readLinks g_readFolded g_readStiff g_wayMany g_marks g_row) [0, 1, 2] := ⟨rfl, by decide +kernel⟩
  refine go_v hp hP hD hS hA (fun _ => rfl) (va_runV (As := [.int x1, .int x2, .int x3]) (rest := []) ⟨hx, hb, hml, hown, hts⟩ (c_X8_lies h _) (cwV 3 hts gX8_spanFiled_X8_lies rfl rfl rfl (by decide +kernel) ⟨Nat.le_of_ble_eq_true rfl, Nat.le_of_ble_eq_true rfl⟩) (pre_V (b := q) (q0 := 0) (ci := 8) (q := (RX8, TX8, 22)) hp hK hN hP hD rfl rfl) rfl rfl hl.1 rfl (lv_room (Nat.le_of_ble_eq_true rfl)) dX8_spanFiled_4 ⟨Nat.le_of_ble_eq_true rfl, Nat.le_of_ble_eq_true rfl⟩) (fun u H locs h hP hD hS => ?_)
  obtain ⟨u4, rfl⟩ : ∃ z, z = u := ⟨_, rfl⟩
  try dsimp only at h
  have hP : va_P D vwCl (w_X8_spanFiled Y q q_row q_isKept q_text q_seenFold q_seenSpan q_readLong q_marks q_isMeasured q_waysAre q_haveSpan g_links g_undos g_length g_seenMany g_trace g_at g_behind g_number g_readLinks g_readFolded g_readStiff g_wayMany u4 g_row) H := hP
  have hD : va_D A (w_X8_spanFiled Y q q_row q_isKept q_text q_seenFold q_seenSpan q_readLong q_marks q_isMeasured q_waysAre q_haveSpan g_links g_undos g_length g_seenMany g_trace g_at g_behind g_number g_readLinks g_readFolded g_readStiff g_wayMany u4 g_row) := hD
  refine lv_aload_n hx hb dX8_spanFiled_7 rfl (lv_at hl 0 rfl) ?_
  have hp : Pt (w_X8_spanFiled Y q q_row q_isKept q_text q_seenFold q_seenSpan q_readLong q_marks q_isMeasured q_waysAre q_haveSpan g_links g_undos g_length g_seenMany g_trace g_at g_behind g_number g_readLinks g_readFolded g_readStiff g_wayMany u4 g_row) (w_X8_spanNow Y q q_row q_isKept q_text q_seenFold q_seenSpan q_readLong q_marks q_isMeasured q_waysAre q_haveSpan g_links g_undos g_length g_seenMany g_trace g_at g_behind g_number g_readLinks g_readFolded g_readStiff g_wayMany u4) [0, 1] := ⟨rfl, by decide +kernel⟩
  refine go_i hp hP hD hS hA (fun _ => rfl) (va_runV (As := []) (rest := []) ⟨hx, hb, hml, hown, hts⟩ (c_X8_spanNow h _) (cwV 0 hts gX8_spanFiled_X8_spanNow rfl rfl rfl (by decide +kernel) ⟨Nat.le_of_ble_eq_true rfl, Nat.le_of_ble_eq_true rfl⟩) (pre_V (b := q) (q0 := 0) (ci := 8) (q := (RX8, TX8, 22)) hp hK hN hP hD rfl rfl) rfl rfl hl.1 rfl (lv_room (Nat.le_of_ble_eq_true rfl)) dX8_spanFiled_8 ⟨Nat.le_of_ble_eq_true rfl, Nat.le_of_ble_eq_true rfl⟩) (fun r5 u H locs h hP hD hS => ?_)
  try dsimp only at h
  have hP : va_P D vwCl (w_X8_spanFiled Y q q_row q_isKept q_text q_seenFold q_seenSpan q_readLong q_marks q_isMeasured q_waysAre q_haveSpan g_links g_undos g_length g_seenMany g_trace g_at g_behind g_number g_readLinks g_readFolded g_readStiff g_wayMany u4 g_row) H := hP
  have hD : va_D A (w_X8_spanFiled Y q q_row q_isKept q_text q_seenFold q_seenSpan q_readLong q_marks q_isMeasured q_waysAre q_haveSpan g_links g_undos g_length g_seenMany g_trace g_at g_behind g_number g_readLinks g_readFolded g_readStiff g_wayMany u4 g_row) := hD
  exact ret_i (u4) hx hb hr hlocks hK hP hD hS h dX8_spanFiled_11
abbrev rm_X8_isWay : Room := { frames := 3, cells := 0, slots := 0, locals := 69 }
theorem in_X8_isWay_X8 : ∀ w ∈ wsX80, w ∈ wsX8_isWay := fun _ h => List.mem_cons_of_mem _ (List.mem_append_right _ h)
theorem k_X8_isWay_f105 {s : State} {args : Array Value} (hts : ∀ w ∈ wsX8_isWay, w.before args s = true) : (Cond.fieldLink RX8 105 "FoldRuleModel" "seenMany" "I").before args s = true := hts _ (by decide +kernel)
theorem k_X8_isWay_f20 {s : State} {args : Array Value} (hts : ∀ w ∈ wsX8_isWay, w.before args s = true) : (Cond.fieldLink RX8 20 "FoldRuleModel" "seenFold" "[I").before args s = true := hts _ (by decide +kernel)
theorem k_X8_isWay_f23 {s : State} {args : Array Value} (hts : ∀ w ∈ wsX8_isWay, w.before args s = true) : (Cond.fieldLink RX8 23 "FoldRuleModel" "seenSpan" "[I").before args s = true := hts _ (by decide +kernel)
theorem k_X8_isWay_f7 {s : State} {args : Array Value} (hts : ∀ w ∈ wsX8_isWay, w.before args s = true) : (Cond.fieldLink RX8 7 "FoldRuleModel" "row" "[I").before args s = true := hts _ (by decide +kernel)
set_option maxHeartbeats 4000000 in
set_option maxRecDepth 100000 in
theorem L_X8_isWay_22 {p : Program} {l : Launch} {e : Env} {s : State} {m : MethodId} {args : Array Value} {below : List Frame} {meth : Method} {c : Code} {D : va_G} {Y : ClassId × ClassId × ClassId} {A : Nat → Prop} {q q_row q_isKept q_text q_seenFold q_seenSpan q_readLong q_marks q_isMeasured q_waysAre q_haveSpan : Nat} {g_links g_undos g_length g_seenMany : Int32} {g_trace : Int64} {g_at g_behind g_number g_readLinks g_readFolded g_readStiff g_wayMany : Int32} {g_row g_seenFold g_seenSpan : Nat → Int32} {x1 x2 : Int32} {Q : Int32 → (Nat → Int32) → Prop} (C : Ctx p s m args meth c cX8_isWay 5 (some .boolean) wsX8_isWay RX8) (hK : va_K D vwCl (tyS Y) s) (hA : ∀ q, s.heap.size ≤ q → A q) : ∀ (n : Nat) (x3 x4 : Int32) (g_marks : Nat → Int32), itr3 (B_X8_isWay_22 g_links g_seenMany g_row g_seenFold g_seenSpan x1 x2 Q) n x3 x4 g_marks → ∀ (H : Heap) (locs : List Loc) (ls : Array Slot), va_P D vwCl (w_X8_isWay Y q q_row q_isKept q_text q_seenFold q_seenSpan q_readLong q_marks q_isMeasured q_waysAre q_haveSpan g_links g_undos g_length g_seenMany g_trace g_at g_behind g_number g_readLinks g_readFolded g_readStiff g_wayMany g_row g_seenFold g_marks g_seenSpan) H → va_D A (w_X8_isWay Y q q_row q_isKept q_text q_seenFold q_seenSpan q_readLong q_marks q_isMeasured q_waysAre q_haveSpan g_links g_undos g_length g_seenMany g_trace g_at g_behind g_number g_readLinks g_readFolded g_readStiff g_wayMany g_row g_seenFold g_marks g_seenSpan) → va_S A s.heap H locs → lv_has ls 5 [(0, .ref q), (1, .int x1), (2, .int x2), (3, .int x3), (4, .int x4)] → W p l e rm_X8_isWay s m args below meth c H locs 0 0 (QI below args s D Y A (fun r (u : (Nat → Int32)) => Q r u) (fun u : (Nat → Int32) => (w_X8_isWay Y q q_row q_isKept q_text q_seenFold q_seenSpan q_readLong q_marks q_isMeasured q_waysAre q_haveSpan g_links g_undos g_length g_seenMany g_trace g_at g_behind g_number g_readLinks g_readFolded g_readStiff g_wayMany g_row g_seenFold u g_seenSpan))) (F0 m 22 ls []) := by
  intro n
  induction n with
  | zero => intro x3 x4 g_marks h; exact False.elim h
  | succ n ih =>
    intro x3 x4 g_marks h H locs ls hP hD hS hl
    obtain ⟨⟨hx, hb, hml, hown, hts⟩, hr, hlocks, hN⟩ := id C
    have h : B_X8_isWay_22 g_links g_seenMany g_row g_seenFold g_seenSpan x1 x2 Q (itr3 (B_X8_isWay_22 g_links g_seenMany g_row g_seenFold g_seenSpan x1 x2 Q) n) x3 x4 g_marks := h
    unfold B_X8_isWay_22 at h
    refine lv_iload hx hb dX8_isWay_22 (lv_at hl 4 rfl) ?_
    refine lv_aload_n hx hb dX8_isWay_24 rfl (lv_at hl 0 rfl) ?_
    refine va_get (D := D) (ci := 8) (v := .int g_seenMany) (C := RX8) (T := TX8) (N := 22) hx hb hts in_X8_isWay_X8 hown hK hP 0 rfl rfl 6 (by decide) (k_X8_isWay_f105 hts) (fun _ h9 => h9) rfl dX8_isWay_25 ?_
    refine lv_icmp_ge (tgt := 70) hx hb dX8_isWay_28 (by decide) (fun c5 => ?_) (fun c5 => ?_)
    · have h := h.1 c5
      refine lv_iload_n hx hb dX8_isWay_70 rfl (lv_at hl 3 rfl) ?_
      exact ret_z (g_marks) hx hb hr hlocks hK hP hD hS h.1 h.2 dX8_isWay_71
    · have h := h.2 c5
      refine lv_iload_n hx hb dX8_isWay_31 rfl (lv_at hl 3 rfl) ?_
      refine lv_if_eq (tgt := 70) hx hb dX8_isWay_32 (by decide) (fun c6 => ?_) (fun c6 => ?_)
      · have h := h.1 c6
        refine lv_iload_n hx hb dX8_isWay_70 rfl (lv_at hl 3 rfl) ?_
        exact ret_z (g_marks) hx hb hr hlocks hK hP hD hS h.1 h.2 dX8_isWay_71
      · have h := h.2 c6
        refine lv_aload_n hx hb dX8_isWay_35 rfl (lv_at hl 0 rfl) ?_
        refine lv_aload_n hx hb dX8_isWay_36 rfl (lv_at hl 0 rfl) ?_
        refine va_get (D := D) (ci := 8) (v := .ref q_seenFold) (C := RX8) (T := TX8) (N := 22) hx hb hts in_X8_isWay_X8 hown hK hP 0 rfl rfl 7 (by decide) (k_X8_isWay_f20 hts) (fun _ h9 => h9) rfl dX8_isWay_37 ?_
        refine lv_iload hx hb dX8_isWay_40 (lv_at hl 4 rfl) ?_
        obtain ⟨hin, h⟩ := h
        refine va_iald hx hb hK hP 2 0 rfl rfl hin dX8_isWay_42 ?_
        refine lv_iload_n hx hb dX8_isWay_43 rfl (lv_at hl 1 rfl) ?_
        refine lv_iload_n hx hb dX8_isWay_44 rfl (lv_at hl 2 rfl) ?_
        have hp : Pt (w_X8_isWay Y q q_row q_isKept q_text q_seenFold q_seenSpan q_readLong q_marks q_isMeasured q_waysAre q_haveSpan g_links g_undos g_length g_seenMany g_trace g_at g_behind g_number g_readLinks g_readFolded g_readStiff g_wayMany g_row g_seenFold g_marks g_seenSpan) (w_X8_spanFiled Y q q_row q_isKept q_text q_seenFold q_seenSpan q_readLong q_marks q_isMeasured q_waysAre q_haveSpan g_links g_undos g_length g_seenMany g_trace g_at g_behind g_number g_readLinks g_readFolded g_readStiff g_wayMany g_marks g_row) [0, 3, 1] := ⟨rfl, by decide +kernel⟩
        refine go_i hp hP hD hS hA (fun _ => rfl) (va_runV (As := [.int (g_seenFold (x4).toNatClampNeg), .int x1, .int x2]) (rest := []) ⟨hx, hb, hml, hown, hts⟩ (c_X8_spanFiled h _) (cwV 3 hts gX8_isWay_X8_spanFiled rfl rfl rfl (by decide +kernel) ⟨Nat.le_of_ble_eq_true rfl, Nat.le_of_ble_eq_true rfl⟩) (pre_V (b := q) (q0 := 0) (ci := 8) (q := (RX8, TX8, 22)) hp hK hN hP hD rfl rfl) rfl rfl hl.1 rfl (lv_room (Nat.le_of_ble_eq_true rfl)) dX8_isWay_45 ⟨Nat.le_of_ble_eq_true rfl, Nat.le_of_ble_eq_true rfl⟩) (fun r7 u H locs h hP hD hS => ?_)
        obtain ⟨u8, rfl⟩ : ∃ z, z = u := ⟨_, rfl⟩
        try dsimp only at h
        have hP : va_P D vwCl (w_X8_isWay Y q q_row q_isKept q_text q_seenFold q_seenSpan q_readLong q_marks q_isMeasured q_waysAre q_haveSpan g_links g_undos g_length g_seenMany g_trace g_at g_behind g_number g_readLinks g_readFolded g_readStiff g_wayMany g_row g_seenFold u8 g_seenSpan) H := hP
        have hD : va_D A (w_X8_isWay Y q q_row q_isKept q_text q_seenFold q_seenSpan q_readLong q_marks q_isMeasured q_waysAre q_haveSpan g_links g_undos g_length g_seenMany g_trace g_at g_behind g_number g_readLinks g_readFolded g_readStiff g_wayMany g_row g_seenFold u8 g_seenSpan) := hD
        refine lv_aload_n hx hb dX8_isWay_48 rfl (lv_at hl 0 rfl) ?_
        refine va_get (D := D) (ci := 8) (v := .ref q_seenSpan) (C := RX8) (T := TX8) (N := 22) hx hb hts in_X8_isWay_X8 hown hK hP 0 rfl rfl 8 (by decide) (k_X8_isWay_f23 hts) (fun _ h9 => h9) rfl dX8_isWay_49 ?_
        refine lv_iload hx hb dX8_isWay_52 (lv_at hl 4 rfl) ?_
        obtain ⟨hin, h⟩ := h
        refine va_iald hx hb hK hP 4 0 rfl rfl hin dX8_isWay_54 ?_
        refine lv_icmp_ne (tgt := 62) hx hb dX8_isWay_55 (by decide) (fun c9 => ?_) (fun c9 => ?_)
        · have h := h.1 c9
          refine lv_iconst (v := 0) hx hb dX8_isWay_62 (by decide) ?_
          refine lv_istore_n (lv' := [(3, .int (0 : Int32)), (0, .ref q), (1, .int x1), (2, .int x2), (4, .int x4)]) hx hb dX8_isWay_63 rfl hl (by decide) rfl (fun ls hl => ?_)
          obtain ⟨z10, ez10⟩ : ∃ y : Int32, y = (x4 + (1 : Int32)) := ⟨_, rfl⟩
          have h := h z10 ez10
          refine lv_iinc (v := z10) (lv' := [(4, .int z10), (3, .int (0 : Int32)), (0, .ref q), (1, .int x1), (2, .int x2)]) hx hb dX8_isWay_64 hl (k := 4) rfl (by rw [ez10]; rfl) (by decide) rfl (fun ls hl => ?_)
          refine lv_goto (tgt := 22) hx hb dX8_isWay_67 (by decide) ?_
          exact ih _ _ _ h _ _ _ hP hD hS (lv_sub hl [2, 3, 4, 1, 0] rfl)
        · have h := h.2 c9
          refine lv_iconst (v := 1) hx hb dX8_isWay_58 (by decide) ?_
          refine lv_goto (tgt := 63) hx hb dX8_isWay_59 (by decide) ?_
          refine lv_istore_n (lv' := [(3, .int (1 : Int32)), (0, .ref q), (1, .int x1), (2, .int x2), (4, .int x4)]) hx hb dX8_isWay_63 rfl hl (by decide) rfl (fun ls hl => ?_)
          obtain ⟨z11, ez11⟩ : ∃ y : Int32, y = (x4 + (1 : Int32)) := ⟨_, rfl⟩
          have h := h z11 ez11
          refine lv_iinc (v := z11) (lv' := [(4, .int z11), (3, .int (1 : Int32)), (0, .ref q), (1, .int x1), (2, .int x2)]) hx hb dX8_isWay_64 hl (k := 4) rfl (by rw [ez11]; rfl) (by decide) rfl (fun ls hl => ?_)
          refine lv_goto (tgt := 22) hx hb dX8_isWay_67 (by decide) ?_
          exact ih _ _ _ h _ _ _ hP hD hS (lv_sub hl [2, 3, 4, 1, 0] rfl)
set_option maxHeartbeats 4000000 in
set_option maxRecDepth 100000 in
theorem c_X8_isWay {l : Launch} {D : va_G} {Y : ClassId × ClassId × ClassId} {q q_row q_isKept q_text q_seenFold q_seenSpan q_readLong q_marks q_isMeasured q_waysAre q_haveSpan : Nat} {g_links g_undos g_length g_seenMany : Int32} {g_trace : Int64} {g_at g_behind g_number g_readLinks g_readFolded g_readStiff g_wayMany : Int32} {g_row g_seenFold g_marks g_seenSpan : Nat → Int32} {x1 x2 : Int32} {Q : Int32 → (Nat → Int32) → Prop} (h : wp_X8_isWay g_links g_seenMany g_row g_seenFold g_marks g_seenSpan x1 x2 Q) (sz : Nat) : MtI l yX8_isWay wsX8_isWay rm_X8_isWay [.ref q, .int x1, .int x2] D Y (w_X8_isWay Y q q_row q_isKept q_text q_seenFold q_seenSpan q_readLong q_marks q_isMeasured q_waysAre q_haveSpan g_links g_undos g_length g_seenMany g_trace g_at g_behind g_number g_readLinks g_readFolded g_readStiff g_wayMany g_row g_seenFold g_marks g_seenSpan) (fun r (u : (Nat → Int32)) => Q r u) (fun u : (Nat → Int32) => (w_X8_isWay Y q q_row q_isKept q_text q_seenFold q_seenSpan q_readLong q_marks q_isMeasured q_waysAre q_haveSpan g_links g_undos g_length g_seenMany g_trace g_at g_behind g_number g_readLinks g_readFolded g_readStiff g_wayMany g_row g_seenFold u g_seenSpan)) sz := by
  refine ct_i (cc := cX8_isWay) (nL := 5) (ret := (some .boolean)) (by decide) rfl (Nat.le_of_ble_eq_true rfl) ?_ sz
  intro p e s m below meth c A ls C hK hA hP hD hS hl
  obtain ⟨⟨hx, hb, hml, hown, hts⟩, hr, hlocks, hN⟩ := id C
  have hown : s.vm.findClass RX8 = some m.cls := hown
  have hl : lv_has ls 5 [(0, .ref q), (1, .int x1), (2, .int x2)] := hl
  unfold wp_X8_isWay at h
  refine lv_aload_n hx hb dX8_isWay_0 rfl (lv_at hl 0 rfl) ?_
  refine va_get (D := D) (ci := 8) (v := .ref q_row) (C := RX8) (T := TX8) (N := 22) hx hb hts in_X8_isWay_X8 hown hK hP 0 rfl rfl 0 (by decide) (k_X8_isWay_f7 hts) (fun _ h9 => h9) rfl dX8_isWay_1 ?_
  refine lv_iconst (v := 0) hx hb dX8_isWay_4 (by decide) ?_
  refine lv_iload_n hx hb dX8_isWay_5 rfl (lv_at hl 1 rfl) ?_
  refine lv_iadd hx hb dX8_isWay_6 ?_
  obtain ⟨hin, h⟩ := h
  refine va_iald hx hb hK hP 1 0 rfl rfl hin dX8_isWay_7 ?_
  refine lv_iload_n hx hb dX8_isWay_8 rfl (lv_at hl 2 rfl) ?_
  refine lv_isub hx hb dX8_isWay_9 ?_
  refine lv_if_le (tgt := 17) hx hb dX8_isWay_10 (by decide) (fun c12 => ?_) (fun c12 => ?_)
  · have h := h.1 c12
    refine lv_iconst (v := 0) hx hb dX8_isWay_17 (by decide) ?_
    refine lv_istore_n (lv' := [(3, .int (0 : Int32)), (0, .ref q), (1, .int x1), (2, .int x2)]) hx hb dX8_isWay_18 rfl hl (by decide) rfl (fun ls hl => ?_)
    refine lv_iconst (v := 0) hx hb dX8_isWay_19 (by decide) ?_
    refine lv_istore (lv' := [(4, .int (0 : Int32)), (3, .int (0 : Int32)), (0, .ref q), (1, .int x1), (2, .int x2)]) hx hb dX8_isWay_20 hl (by decide) rfl (fun ls hl => ?_)
    obtain ⟨n, h⟩ := h
    exact L_X8_isWay_22 C hK hA  n _ _ _ h _ _ _ hP hD hS (lv_sub hl [2, 3, 4, 1, 0] rfl)
  · have h := h.2 c12
    refine lv_iconst (v := 1) hx hb dX8_isWay_13 (by decide) ?_
    refine lv_goto (tgt := 18) hx hb dX8_isWay_14 (by decide) ?_
    refine lv_istore_n (lv' := [(3, .int (1 : Int32)), (0, .ref q), (1, .int x1), (2, .int x2)]) hx hb dX8_isWay_18 rfl hl (by decide) rfl (fun ls hl => ?_)
    refine lv_iconst (v := 0) hx hb dX8_isWay_19 (by decide) ?_
    refine lv_istore (lv' := [(4, .int (0 : Int32)), (3, .int (1 : Int32)), (0, .ref q), (1, .int x1), (2, .int x2)]) hx hb dX8_isWay_20 hl (by decide) rfl (fun ls hl => ?_)
    obtain ⟨n, h⟩ := h
    exact L_X8_isWay_22 C hK hA  n _ _ _ h _ _ _ hP hD hS (lv_sub hl [2, 3, 4, 1, 0] rfl)
