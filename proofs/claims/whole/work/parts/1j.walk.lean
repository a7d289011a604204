abbrev rm_X8_mostEnd : Room := { frames := 2, cells := 0, slots := 0, locals := 46 }
theorem in_X8_mostEnd_X8 : ∀ w ∈ wsX80, w ∈ wsX8_mostEnd := fun _ h => List.mem_cons_of_mem _ (List.mem_append_right _ h)
theorem k_X8_mostEnd_f29 {s : State} {args : Array Value} (hts : ∀ w ∈ wsX8_mostEnd, w.before args s = true) : (Cond.fieldLink RX8 29 "FoldRuleModel" "marks" "[I").before args s = true := hts _ (by decide +kernel)
theorem k_X8_mostEnd_f41 {s : State} {args : Array Value} (hts : ∀ w ∈ wsX8_mostEnd, w.before args s = true) : (Cond.fieldLink RX8 41 "FoldRuleModel" "links" "I").before args s = true := hts _ (by decide +kernel)
theorem k_X8_mostEnd_c142 {s : State} {args : Array Value} (hts : ∀ w ∈ wsX8_mostEnd, w.before args s = true) : (Cond.constant RX8 142 (-99999)).before args s = true := hts _ (by decide +kernel)
set_option maxHeartbeats 4000000 in
set_option maxRecDepth 100000 in
theorem L_X8_mostEnd_5 {p : Program} {l : Launch} {e : Env} {s : State} {m : MethodId} {args : Array Value} {below : List Frame} {meth : Method} {c : Code} {D : va_G} {Y : ClassId × ClassId × ClassId} {A : Nat → Prop} {q q_row q_isKept q_text q_seenFold q_seenSpan q_readLong q_marks q_isMeasured q_waysAre q_haveSpan : Nat} {g_links g_undos g_length g_seenMany : Int32} {g_trace : Int64} {g_at g_behind g_number g_readLinks g_readFolded g_readStiff g_wayMany : Int32} {g_row : Nat → Int32} {Q : Int32 → (Nat → Int32) → Prop} (C : Ctx p s m args meth c cX8_mostEnd 3 (some .int) wsX8_mostEnd RX8) (hK : va_K D vwCl (tyS Y) s) (hA : ∀ q, s.heap.size ≤ q → A q) : ∀ (n : Nat) (x1 x2 : Int32) (g_marks : Nat → Int32), itr3 (B_X8_mostEnd_5 g_links g_row Q) n x1 x2 g_marks → ∀ (H : Heap) (locs : List Loc) (ls : Array Slot), va_P D vwCl (w_X8_mostEnd Y q q_row q_isKept q_text q_seenFold q_seenSpan q_readLong q_marks q_isMeasured q_waysAre q_haveSpan g_links g_undos g_length g_seenMany g_trace g_at g_behind g_number g_readLinks g_readFolded g_readStiff g_wayMany g_row g_marks) H → va_D A (w_X8_mostEnd Y q q_row q_isKept q_text q_seenFold q_seenSpan q_readLong q_marks q_isMeasured q_waysAre q_haveSpan g_links g_undos g_length g_seenMany g_trace g_at g_behind g_number g_readLinks g_readFolded g_readStiff g_wayMany g_row g_marks) → va_S A s.heap H locs → lv_has ls 3 [(0, .ref q), (1, .int x1), (2, .int x2)] → W p l e rm_X8_mostEnd s m args below meth c H locs 0 0 (QI below args s D Y A (fun r (u : (Nat → Int32)) => Q r u) (fun u : (Nat → Int32) => (w_X8_mostEnd Y q q_row q_isKept q_text q_seenFold q_seenSpan q_readLong q_marks q_isMeasured q_waysAre q_haveSpan g_links g_undos g_length g_seenMany g_trace g_at g_behind g_number g_readLinks g_readFolded g_readStiff g_wayMany g_row u))) (F0 m 5 ls []) := by
  intro n
  induction n with
  | zero => intro x1 x2 g_marks h; exact False.elim h
  | succ n ih =>
    intro x1 x2 g_marks h H locs ls hP hD hS hl
    obtain ⟨⟨hx, hb, hml, hown, hts⟩, hr, hlocks, hN⟩ := id C
    have h : B_X8_mostEnd_5 g_links g_row Q (itr3 (B_X8_mostEnd_5 g_links g_row Q) n) x1 x2 g_marks := h
    unfold B_X8_mostEnd_5 at h
    refine lv_iload_n hx hb dX8_mostEnd_5 rfl (lv_at hl 2 rfl) ?_
    refine lv_aload_n hx hb dX8_mostEnd_6 rfl (lv_at hl 0 rfl) ?_
    have hp : Pt (w_X8_mostEnd Y q q_row q_isKept q_text q_seenFold q_seenSpan q_readLong q_marks q_isMeasured q_waysAre q_haveSpan g_links g_undos g_length g_seenMany g_trace g_at g_behind g_number g_readLinks g_readFolded g_readStiff g_wayMany g_row g_marks) (w_X8_folds Y q q_row q_isKept q_text q_seenFold q_seenSpan q_readLong q_marks q_isMeasured q_waysAre q_haveSpan g_links g_undos g_length g_seenMany g_trace g_at g_behind g_number g_readLinks g_readFolded g_readStiff g_wayMany) [0] := ⟨rfl, by decide +kernel⟩
    refine go_i hp hP hD hS hA (fun _ => rfl) (va_runV (As := []) (rest := [.int x2]) ⟨hx, hb, hml, hown, hts⟩ (c_X8_folds h _) (cwV 0 hts gX8_mostEnd_X8_folds rfl rfl rfl (by decide +kernel) ⟨Nat.le_of_ble_eq_true rfl, Nat.le_of_ble_eq_true rfl⟩) (pre_V (b := q) (q0 := 0) (ci := 8) (q := (RX8, TX8, 22)) hp hK hN hP hD rfl rfl) rfl rfl hl.1 rfl (lv_room (Nat.le_of_ble_eq_true rfl)) dX8_mostEnd_7 ⟨Nat.le_of_ble_eq_true rfl, Nat.le_of_ble_eq_true rfl⟩) (fun r8 u H locs h hP hD hS => ?_)
    try dsimp only at h
    have hP : va_P D vwCl (w_X8_mostEnd Y q q_row q_isKept q_text q_seenFold q_seenSpan q_readLong q_marks q_isMeasured q_waysAre q_haveSpan g_links g_undos g_length g_seenMany g_trace g_at g_behind g_number g_readLinks g_readFolded g_readStiff g_wayMany g_row g_marks) H := hP
    have hD : va_D A (w_X8_mostEnd Y q q_row q_isKept q_text q_seenFold q_seenSpan q_readLong q_marks q_isMeasured q_waysAre q_haveSpan g_links g_undos g_length g_seenMany g_trace g_at g_behind g_number g_readLinks g_readFolded g_readStiff g_wayMany g_row g_marks) := hD
    refine lv_icmp_ge (tgt := 62) hx hb dX8_mostEnd_10 (by decide) (fun c9 => ?_) (fun c9 => ?_)
    · have h := h.1 c9
      refine lv_iload_n hx hb dX8_mostEnd_62 rfl (lv_at hl 1 rfl) ?_
      exact ret_i (g_marks) hx hb hr hlocks hK hP hD hS h dX8_mostEnd_63
    · have h := h.2 c9
      refine lv_aload_n hx hb dX8_mostEnd_13 rfl (lv_at hl 0 rfl) ?_
      refine lv_iload_n hx hb dX8_mostEnd_14 rfl (lv_at hl 2 rfl) ?_
      have hp : Pt (w_X8_mostEnd Y q q_row q_isKept q_text q_seenFold q_seenSpan q_readLong q_marks q_isMeasured q_waysAre q_haveSpan g_links g_undos g_length g_seenMany g_trace g_at g_behind g_number g_readLinks g_readFolded g_readStiff g_wayMany g_row g_marks) (w_X8_isFold Y q q_row q_isKept q_text q_seenFold q_seenSpan q_readLong q_marks q_isMeasured q_waysAre q_haveSpan g_links g_undos g_length g_seenMany g_trace g_at g_behind g_number g_readLinks g_readFolded g_readStiff g_wayMany g_row) [0, 1] := ⟨rfl, by decide +kernel⟩
      refine go_i hp hP hD hS hA (fun _ => rfl) (va_runV (As := [.int x2]) (rest := []) ⟨hx, hb, hml, hown, hts⟩ (c_X8_isFold h _) (cwV 1 hts gX8_mostEnd_X8_isFold rfl rfl rfl (by decide +kernel) ⟨Nat.le_of_ble_eq_true rfl, Nat.le_of_ble_eq_true rfl⟩) (pre_V (b := q) (q0 := 0) (ci := 8) (q := (RX8, TX8, 22)) hp hK hN hP hD rfl rfl) rfl rfl hl.1 rfl (lv_room (Nat.le_of_ble_eq_true rfl)) dX8_mostEnd_15 ⟨Nat.le_of_ble_eq_true rfl, Nat.le_of_ble_eq_true rfl⟩) (fun r10 u H locs h hP hD hS => ?_)
      try dsimp only at h
      have hP : va_P D vwCl (w_X8_mostEnd Y q q_row q_isKept q_text q_seenFold q_seenSpan q_readLong q_marks q_isMeasured q_waysAre q_haveSpan g_links g_undos g_length g_seenMany g_trace g_at g_behind g_number g_readLinks g_readFolded g_readStiff g_wayMany g_row g_marks) H := hP
      have hD : va_D A (w_X8_mostEnd Y q q_row q_isKept q_text q_seenFold q_seenSpan q_readLong q_marks q_isMeasured q_waysAre q_haveSpan g_links g_undos g_length g_seenMany g_trace g_at g_behind g_number g_readLinks g_readFolded g_readStiff g_wayMany g_row g_marks) := hD
      refine lv_if_eq (tgt := 56) hx hb dX8_mostEnd_18 (by decide) (fun c11 => ?_) (fun c11 => ?_)
      · have h := h.1 c11
        obtain ⟨z12, ez12⟩ : ∃ y : Int32, y = (x2 + (1 : Int32)) := ⟨_, rfl⟩
        have h := h z12 ez12
        refine lv_iinc (v := z12) (lv' := [(2, .int z12), (0, .ref q), (1, .int x1)]) hx hb dX8_mostEnd_56 hl (k := 2) rfl (by rw [ez12]; rfl) (by decide) rfl (fun ls hl => ?_)
        refine lv_goto (tgt := 5) hx hb dX8_mostEnd_59 (by decide) ?_
        exact ih _ _ _ h _ _ _ hP hD hS (lv_sub hl [1, 2, 0] rfl)
      · have h := h.2 c11
        refine lv_aload_n hx hb dX8_mostEnd_21 rfl (lv_at hl 0 rfl) ?_
        refine lv_iload_n hx hb dX8_mostEnd_22 rfl (lv_at hl 2 rfl) ?_
        refine lv_bipush (v := (-9)) hx hb dX8_mostEnd_23 (by decide) ?_
        refine lv_iconst (v := 0) hx hb dX8_mostEnd_25 (by decide) ?_
        have hp : Pt (w_X8_mostEnd Y q q_row q_isKept q_text q_seenFold q_seenSpan q_readLong q_marks q_isMeasured q_waysAre q_haveSpan g_links g_undos g_length g_seenMany g_trace g_at g_behind g_number g_readLinks g_readFolded g_readStiff g_wayMany g_row g_marks) (w_X8_lies Y q q_row q_isKept q_text q_seenFold q_seenSpan q_readLong q_marks q_isMeasured q_waysAre q_haveSpan g_links g_undos g_length g_seenMany g_trace g_at g_behind g_number g_readLinks g_readFolded g_readStiff g_wayMany g_marks g_row) [0, 2, 1] := ⟨rfl, by decide +kernel⟩
        refine go_v hp hP hD hS hA (fun _ => rfl) (va_runV (As := [.int x2, .int (-9 : Int32), .int (0 : Int32)]) (rest := []) ⟨hx, hb, hml, hown, hts⟩ (c_X8_lies h _) (cwV 3 hts gX8_mostEnd_X8_lies rfl rfl rfl (by decide +kernel) ⟨Nat.le_of_ble_eq_true rfl, Nat.le_of_ble_eq_true rfl⟩) (pre_V (b := q) (q0 := 0) (ci := 8) (q := (RX8, TX8, 22)) hp hK hN hP hD rfl rfl) rfl rfl hl.1 rfl (lv_room (Nat.le_of_ble_eq_true rfl)) dX8_mostEnd_26 ⟨Nat.le_of_ble_eq_true rfl, Nat.le_of_ble_eq_true rfl⟩) (fun u H locs h hP hD hS => ?_)
        obtain ⟨u14, rfl⟩ : ∃ z, z = u := ⟨_, rfl⟩
        try dsimp only at h
        have hP : va_P D vwCl (w_X8_mostEnd Y q q_row q_isKept q_text q_seenFold q_seenSpan q_readLong q_marks q_isMeasured q_waysAre q_haveSpan g_links g_undos g_length g_seenMany g_trace g_at g_behind g_number g_readLinks g_readFolded g_readStiff g_wayMany g_row u14) H := hP
        have hD : va_D A (w_X8_mostEnd Y q q_row q_isKept q_text q_seenFold q_seenSpan q_readLong q_marks q_isMeasured q_waysAre q_haveSpan g_links g_undos g_length g_seenMany g_trace g_at g_behind g_number g_readLinks g_readFolded g_readStiff g_wayMany g_row u14) := hD
        refine lv_aload_n hx hb dX8_mostEnd_29 rfl (lv_at hl 0 rfl) ?_
        refine va_get (D := D) (ci := 8) (v := .ref q_marks) (C := RX8) (T := TX8) (N := 22) hx hb hts in_X8_mostEnd_X8 hown hK hP 0 rfl rfl 17 (by decide) (k_X8_mostEnd_f29 hts) (fun _ h9 => h9) rfl dX8_mostEnd_30 ?_
        refine lv_aload_n hx hb dX8_mostEnd_33 rfl (lv_at hl 0 rfl) ?_
        refine va_get (D := D) (ci := 8) (v := .int g_links) (C := RX8) (T := TX8) (N := 22) hx hb hts in_X8_mostEnd_X8 hown hK hP 0 rfl rfl 1 (by decide) (k_X8_mostEnd_f41 hts) (fun _ h9 => h9) rfl dX8_mostEnd_34 ?_
        obtain ⟨hin, h⟩ := h
        refine va_iald hx hb hK hP 2 0 rfl rfl hin dX8_mostEnd_37 ?_
        refine lv_iload_n hx hb dX8_mostEnd_38 rfl (lv_at hl 1 rfl) ?_
        refine lv_icmp_le (tgt := 54) hx hb dX8_mostEnd_39 (by decide) (fun c15 => ?_) (fun c15 => ?_)
        · have h := h.1 c15
          refine lv_iload_n hx hb dX8_mostEnd_54 rfl (lv_at hl 1 rfl) ?_
          refine lv_istore_n (lv' := [(1, .int x1), (0, .ref q), (2, .int x2)]) hx hb dX8_mostEnd_55 rfl hl (by decide) rfl (fun ls hl => ?_)
          obtain ⟨z16, ez16⟩ : ∃ y : Int32, y = (x2 + (1 : Int32)) := ⟨_, rfl⟩
          have h := h z16 ez16
          refine lv_iinc (v := z16) (lv' := [(2, .int z16), (1, .int x1), (0, .ref q)]) hx hb dX8_mostEnd_56 hl (k := 2) rfl (by rw [ez16]; rfl) (by decide) rfl (fun ls hl => ?_)
          refine lv_goto (tgt := 5) hx hb dX8_mostEnd_59 (by decide) ?_
          exact ih _ _ _ h _ _ _ hP hD hS (lv_sub hl [2, 1, 0] rfl)
        · have h := h.2 c15
          refine lv_aload_n hx hb dX8_mostEnd_42 rfl (lv_at hl 0 rfl) ?_
          refine va_get (D := D) (ci := 8) (v := .ref q_marks) (C := RX8) (T := TX8) (N := 22) hx hb hts in_X8_mostEnd_X8 hown hK hP 0 rfl rfl 17 (by decide) (k_X8_mostEnd_f29 hts) (fun _ h9 => h9) rfl dX8_mostEnd_43 ?_
          refine lv_aload_n hx hb dX8_mostEnd_46 rfl (lv_at hl 0 rfl) ?_
          refine va_get (D := D) (ci := 8) (v := .int g_links) (C := RX8) (T := TX8) (N := 22) hx hb hts in_X8_mostEnd_X8 hown hK hP 0 rfl rfl 1 (by decide) (k_X8_mostEnd_f41 hts) (fun _ h9 => h9) rfl dX8_mostEnd_47 ?_
          obtain ⟨hin, h⟩ := h
          refine va_iald hx hb hK hP 2 0 rfl rfl hin dX8_mostEnd_50 ?_
          refine lv_goto (tgt := 55) hx hb dX8_mostEnd_51 (by decide) ?_
          refine lv_topi (fun z17 ez17 => ?_)
          have h := h z17 ez17
          refine lv_istore_n (lv' := [(1, .int z17), (0, .ref q), (2, .int x2)]) hx hb dX8_mostEnd_55 rfl hl (by decide) rfl (fun ls hl => ?_)
          obtain ⟨z18, ez18⟩ : ∃ y : Int32, y = (x2 + (1 : Int32)) := ⟨_, rfl⟩
          have h := h z18 ez18
          refine lv_iinc (v := z18) (lv' := [(2, .int z18), (1, .int z17), (0, .ref q)]) hx hb dX8_mostEnd_56 hl (k := 2) rfl (by rw [ez18]; rfl) (by decide) rfl (fun ls hl => ?_)
          refine lv_goto (tgt := 5) hx hb dX8_mostEnd_59 (by decide) ?_
          exact ih _ _ _ h _ _ _ hP hD hS (lv_sub hl [2, 1, 0] rfl)
set_option maxHeartbeats 4000000 in
set_option maxRecDepth 100000 in
theorem c_X8_mostEnd {l : Launch} {D : va_G} {Y : ClassId × ClassId × ClassId} {q q_row q_isKept q_text q_seenFold q_seenSpan q_readLong q_marks q_isMeasured q_waysAre q_haveSpan : Nat} {g_links g_undos g_length g_seenMany : Int32} {g_trace : Int64} {g_at g_behind g_number g_readLinks g_readFolded g_readStiff g_wayMany : Int32} {g_row g_marks : Nat → Int32} {Q : Int32 → (Nat → Int32) → Prop} (h : wp_X8_mostEnd g_links g_row g_marks Q) (sz : Nat) : MtI l yX8_mostEnd wsX8_mostEnd rm_X8_mostEnd [.ref q] D Y (w_X8_mostEnd Y q q_row q_isKept q_text q_seenFold q_seenSpan q_readLong q_marks q_isMeasured q_waysAre q_haveSpan g_links g_undos g_length g_seenMany g_trace g_at g_behind g_number g_readLinks g_readFolded g_readStiff g_wayMany g_row g_marks) (fun r (u : (Nat → Int32)) => Q r u) (fun u : (Nat → Int32) => (w_X8_mostEnd Y q q_row q_isKept q_text q_seenFold q_seenSpan q_readLong q_marks q_isMeasured q_waysAre q_haveSpan g_links g_undos g_length g_seenMany g_trace g_at g_behind g_number g_readLinks g_readFolded g_readStiff g_wayMany g_row u)) sz := by
  refine ct_i (cc := cX8_mostEnd) (nL := 3) (ret := (some .int)) (by decide) rfl (Nat.le_of_ble_eq_true rfl) ?_ sz
  intro p e s m below meth c A ls C hK hA hP hD hS hl
  obtain ⟨⟨hx, hb, hml, hown, hts⟩, hr, hlocks, hN⟩ := id C
  have hown : s.vm.findClass RX8 = some m.cls := hown
  have hl : lv_has ls 3 [(0, .ref q)] := hl
  unfold wp_X8_mostEnd at h
  refine lv_ldc hx hb hown (k_X8_mostEnd_c142 hts) dX8_mostEnd_0 ?_
  refine lv_istore_n (lv' := [(1, .int (-99999 : Int32)), (0, .ref q)]) hx hb dX8_mostEnd_2 rfl hl (by decide) rfl (fun ls hl => ?_)
  refine lv_iconst (v := 0) hx hb dX8_mostEnd_3 (by decide) ?_
  refine lv_istore_n (lv' := [(2, .int (0 : Int32)), (1, .int (-99999 : Int32)), (0, .ref q)]) hx hb dX8_mostEnd_4 rfl hl (by decide) rfl (fun ls hl => ?_)
  obtain ⟨n, h⟩ := h
  exact L_X8_mostEnd_5 C hK hA  n _ _ _ h _ _ _ hP hD hS (lv_sub hl [2, 1, 0] rfl)
abbrev rm_X8_measure : Room := { frames := 2, cells := 0, slots := 0, locals := 46 }
theorem in_X8_measure_X8 : ∀ w ∈ wsX80, w ∈ wsX8_measure := fun _ h => List.mem_cons_of_mem _ (List.mem_append_right _ h)
theorem k_X8_measure_f41 {s : State} {args : Array Value} (hts : ∀ w ∈ wsX8_measure, w.before args s = true) : (Cond.fieldLink RX8 41 "FoldRuleModel" "links" "I").before args s = true := hts _ (by decide +kernel)
theorem k_X8_measure_f29 {s : State} {args : Array Value} (hts : ∀ w ∈ wsX8_measure, w.before args s = true) : (Cond.fieldLink RX8 29 "FoldRuleModel" "marks" "[I").before args s = true := hts _ (by decide +kernel)
theorem k_X8_measure_f32 {s : State} {args : Array Value} (hts : ∀ w ∈ wsX8_measure, w.before args s = true) : (Cond.fieldLink RX8 32 "FoldRuleModel" "isMeasured" "[Z").before args s = true := hts _ (by decide +kernel)
set_option maxHeartbeats 4000000 in
set_option maxRecDepth 100000 in
theorem L_X8_measure_50 {p : Program} {l : Launch} {e : Env} {s : State} {m : MethodId} {args : Array Value} {below : List Frame} {meth : Method} {c : Code} {D : va_G} {Y : ClassId × ClassId × ClassId} {A : Nat → Prop} {q q_row q_isKept q_text q_seenFold q_seenSpan q_readLong q_marks q_isMeasured q_waysAre q_haveSpan : Nat} {g_links g_undos g_length g_seenMany : Int32} {g_trace : Int64} {g_at g_behind g_number g_readLinks g_readFolded g_readStiff g_wayMany : Int32} {g_row g_marks : Nat → Int32} {x1 : Int32} {Q : (Nat → Int32) → (Nat → Int32) → Prop} {K24 : Int32 → (Nat → Int32) → (Nat → Int32) → Prop} (C : Ctx p s m args meth c cX8_measure 5 none wsX8_measure RX8) (hK : va_K D vwCl (tyS Y) s) (hA : ∀ q, s.heap.size ≤ q → A q) (hk24 : ∀ (x1 : Int32) (g_isMeasured g_marks : Nat → Int32), K24 x1 g_isMeasured g_marks → ∀ (H : Heap) (locs : List Loc) (ls : Array Slot), va_P D vwCl (w_X8_measure Y q q_row q_isKept q_text q_seenFold q_seenSpan q_readLong q_marks q_isMeasured q_waysAre q_haveSpan g_links g_undos g_length g_seenMany g_trace g_at g_behind g_number g_readLinks g_readFolded g_readStiff g_wayMany g_isMeasured g_row g_marks) H → va_D A (w_X8_measure Y q q_row q_isKept q_text q_seenFold q_seenSpan q_readLong q_marks q_isMeasured q_waysAre q_haveSpan g_links g_undos g_length g_seenMany g_trace g_at g_behind g_number g_readLinks g_readFolded g_readStiff g_wayMany g_isMeasured g_row g_marks) → va_S A s.heap H locs → lv_has ls 5 [(0, .ref q), (1, .int x1)] → W p l e rm_X8_measure s m args below meth c H locs 0 0 (QV below args s D Y A (fun (u : (Nat → Int32) × (Nat → Int32)) => Q u.1 u.2) (fun u : (Nat → Int32) × (Nat → Int32) => (w_X8_measure Y q q_row q_isKept q_text q_seenFold q_seenSpan q_readLong q_marks q_isMeasured q_waysAre q_haveSpan g_links g_undos g_length g_seenMany g_trace g_at g_behind g_number g_readLinks g_readFolded g_readStiff g_wayMany u.1 g_row u.2))) (F0 m 24 ls [])) : ∀ (n : Nat) (x2 : Int32) (g_isMeasured : Nat → Int32), itr2 (B_X8_measure_50 g_links g_marks x1 K24) n x2 g_isMeasured → ∀ (H : Heap) (locs : List Loc) (ls : Array Slot), va_P D vwCl (w_X8_measure Y q q_row q_isKept q_text q_seenFold q_seenSpan q_readLong q_marks q_isMeasured q_waysAre q_haveSpan g_links g_undos g_length g_seenMany g_trace g_at g_behind g_number g_readLinks g_readFolded g_readStiff g_wayMany g_isMeasured g_row g_marks) H → va_D A (w_X8_measure Y q q_row q_isKept q_text q_seenFold q_seenSpan q_readLong q_marks q_isMeasured q_waysAre q_haveSpan g_links g_undos g_length g_seenMany g_trace g_at g_behind g_number g_readLinks g_readFolded g_readStiff g_wayMany g_isMeasured g_row g_marks) → va_S A s.heap H locs → lv_has ls 5 [(0, .ref q), (1, .int x1), (2, .int x2)] → W p l e rm_X8_measure s m args below meth c H locs 0 0 (QV below args s D Y A (fun (u : (Nat → Int32) × (Nat → Int32)) => Q u.1 u.2) (fun u : (Nat → Int32) × (Nat → Int32) => (w_X8_measure Y q q_row q_isKept q_text q_seenFold q_seenSpan q_readLong q_marks q_isMeasured q_waysAre q_haveSpan g_links g_undos g_length g_seenMany g_trace g_at g_behind g_number g_readLinks g_readFolded g_readStiff g_wayMany u.1 g_row u.2))) (F0 m 50 ls []) := by
  intro n
  induction n with
  | zero => intro x2 g_isMeasured h; exact False.elim h
  | succ n ih =>
    intro x2 g_isMeasured h H locs ls hP hD hS hl
    obtain ⟨⟨hx, hb, hml, hown, hts⟩, hr, hlocks, hN⟩ := id C
    have h : B_X8_measure_50 g_links g_marks x1 K24 (itr2 (B_X8_measure_50 g_links g_marks x1 K24) n) x2 g_isMeasured := h
    unfold B_X8_measure_50 at h
    refine lv_iload_n hx hb dX8_measure_50 rfl (lv_at hl 2 rfl) ?_
    refine lv_bipush (v := 100) hx hb dX8_measure_51 (by decide) ?_
    refine lv_icmp_ge (tgt := 126) hx hb dX8_measure_53 (by decide) (fun c13 => ?_) (fun c13 => ?_)
    · have h := h.1 c13
      obtain ⟨z14, ez14⟩ : ∃ y : Int32, y = (x1 + (1 : Int32)) := ⟨_, rfl⟩
      have h := h z14 ez14
      refine lv_iinc (v := z14) (lv' := [(1, .int z14), (0, .ref q), (2, .int x2)]) hx hb dX8_measure_126 hl (k := 1) rfl (by rw [ez14]; rfl) (by decide) rfl (fun ls hl => ?_)
      refine lv_goto (tgt := 24) hx hb dX8_measure_129 (by decide) ?_
      exact hk24 _ _ _ h _ _ _ hP hD hS (lv_sub hl [1, 0] rfl)
    · have h := h.2 c13
      refine lv_iload_n hx hb dX8_measure_56 rfl (lv_at hl 2 rfl) ?_
      refine lv_bipush (v := 10) hx hb dX8_measure_57 (by decide) ?_
      obtain ⟨hne, h⟩ := h
      refine lv_idiv hx hb dX8_measure_59 hne ?_
      refine lv_topi (fun z15 ez15 => ?_)
      have h := h z15 ez15
      refine lv_istore_n (lv' := [(3, .int z15), (0, .ref q), (1, .int x1), (2, .int x2)]) hx hb dX8_measure_60 rfl hl (by decide) rfl (fun ls hl => ?_)
      refine lv_iload_n hx hb dX8_measure_61 rfl (lv_at hl 3 rfl) ?_
      refine lv_bipush (v := 10) hx hb dX8_measure_62 (by decide) ?_
      obtain ⟨hne, h⟩ := h
      refine lv_irem hx hb dX8_measure_64 hne ?_
      refine lv_topi (fun z16 ez16 => ?_)
      have h := h z16 ez16
      refine lv_istore (lv' := [(4, .int z16), (3, .int z15), (0, .ref q), (1, .int x1), (2, .int x2)]) hx hb dX8_measure_65 hl (by decide) rfl (fun ls hl => ?_)
      refine lv_iload_n hx hb dX8_measure_67 rfl (lv_at hl 1 rfl) ?_
      refine lv_aload_n hx hb dX8_measure_68 rfl (lv_at hl 2 rfl) ?_
      refine va_get (D := D) (ci := 8) (v := .int g_links) (C := RX8) (T := TX8) (N := 22) hx hb hts in_X8_measure_X8 hown hK hP 0 rfl rfl 1 (by decide) (k_X8_measure_f41 hts) (fun _ h9 => h9) rfl dX8_measure_69 ?_
      refine lv_icmp_gt (tgt := 120) hx hb dX8_measure_72 (by decide) (fun c17 => ?_) (fun c17 => ?_)
      · have h := h.1 c17
        obtain ⟨z18, ez18⟩ : ∃ y : Int32, y = (x2 + (1 : Int32)) := ⟨_, rfl⟩
        have h := h z18 ez18
        refine lv_iinc (v := z18) (lv' := [(2, .int z18), (4, .int z16), (3, .int z15), (0, .ref q), (1, .int x1)]) hx hb dX8_measure_120 hl (k := 4) rfl (by rw [ez18]; rfl) (by decide) rfl (fun ls hl => ?_)
        refine lv_goto (tgt := 50) hx hb dX8_measure_123 (by decide) ?_
        exact ih _ _ h _ _ _ hP hD hS (lv_sub hl [3, 4, 0] rfl)
      · have h := h.2 c17
        refine lv_iload hx hb dX8_measure_75 (lv_at hl 0 rfl) ?_
        refine lv_aload_n hx hb dX8_measure_77 rfl (lv_at hl 2 rfl) ?_
        refine va_get (D := D) (ci := 8) (v := .int g_links) (C := RX8) (T := TX8) (N := 22) hx hb hts in_X8_measure_X8 hown hK hP 0 rfl rfl 1 (by decide) (k_X8_measure_f41 hts) (fun _ h9 => h9) rfl dX8_measure_78 ?_
        refine lv_icmp_gt (tgt := 120) hx hb dX8_measure_81 (by decide) (fun c19 => ?_) (fun c19 => ?_)
        · have h := h.1 c19
          obtain ⟨z20, ez20⟩ : ∃ y : Int32, y = (x2 + (1 : Int32)) := ⟨_, rfl⟩
          have h := h z20 ez20
          refine lv_iinc (v := z20) (lv' := [(2, .int z20), (4, .int z16), (3, .int z15), (0, .ref q), (1, .int x1)]) hx hb dX8_measure_120 hl (k := 4) rfl (by rw [ez20]; rfl) (by decide) rfl (fun ls hl => ?_)
          refine lv_goto (tgt := 50) hx hb dX8_measure_123 (by decide) ?_
          exact ih _ _ h _ _ _ hP hD hS (lv_sub hl [3, 4, 0] rfl)
        · have h := h.2 c19
          refine lv_aload_n hx hb dX8_measure_84 rfl (lv_at hl 2 rfl) ?_
          refine va_get (D := D) (ci := 8) (v := .ref q_marks) (C := RX8) (T := TX8) (N := 22) hx hb hts in_X8_measure_X8 hown hK hP 0 rfl rfl 17 (by decide) (k_X8_measure_f29 hts) (fun _ h9 => h9) rfl dX8_measure_85 ?_
          refine lv_iload_n hx hb dX8_measure_88 rfl (lv_at hl 1 rfl) ?_
          obtain ⟨hin, h⟩ := h
          refine va_iald hx hb hK hP 3 0 rfl rfl hin dX8_measure_89 ?_
          refine lv_aload_n hx hb dX8_measure_90 rfl (lv_at hl 2 rfl) ?_
          refine va_get (D := D) (ci := 8) (v := .ref q_marks) (C := RX8) (T := TX8) (N := 22) hx hb hts in_X8_measure_X8 hown hK hP 0 rfl rfl 17 (by decide) (k_X8_measure_f29 hts) (fun _ h9 => h9) rfl dX8_measure_91 ?_
          refine lv_iload hx hb dX8_measure_94 (lv_at hl 0 rfl) ?_
          obtain ⟨hin, h⟩ := h
          refine va_iald hx hb hK hP 3 0 rfl rfl hin dX8_measure_96 ?_
          refine lv_icmp_le (tgt := 120) hx hb dX8_measure_97 (by decide) (fun c21 => ?_) (fun c21 => ?_)
          · have h := h.1 c21
            obtain ⟨z22, ez22⟩ : ∃ y : Int32, y = (x2 + (1 : Int32)) := ⟨_, rfl⟩
            have h := h z22 ez22
            refine lv_iinc (v := z22) (lv' := [(2, .int z22), (4, .int z16), (3, .int z15), (0, .ref q), (1, .int x1)]) hx hb dX8_measure_120 hl (k := 4) rfl (by rw [ez22]; rfl) (by decide) rfl (fun ls hl => ?_)
            refine lv_goto (tgt := 50) hx hb dX8_measure_123 (by decide) ?_
            exact ih _ _ h _ _ _ hP hD hS (lv_sub hl [3, 4, 0] rfl)
          · have h := h.2 c21
            refine lv_aload_n hx hb dX8_measure_100 rfl (lv_at hl 2 rfl) ?_
            refine va_get (D := D) (ci := 8) (v := .ref q_isMeasured) (C := RX8) (T := TX8) (N := 22) hx hb hts in_X8_measure_X8 hown hK hP 0 rfl rfl 18 (by decide) (k_X8_measure_f32 hts) (fun _ h9 => h9) rfl dX8_measure_101 ?_
            refine lv_aload_n hx hb dX8_measure_104 rfl (lv_at hl 2 rfl) ?_
            refine va_get (D := D) (ci := 8) (v := .ref q_marks) (C := RX8) (T := TX8) (N := 22) hx hb hts in_X8_measure_X8 hown hK hP 0 rfl rfl 17 (by decide) (k_X8_measure_f29 hts) (fun _ h9 => h9) rfl dX8_measure_105 ?_
            refine lv_iload_n hx hb dX8_measure_108 rfl (lv_at hl 1 rfl) ?_
            obtain ⟨hin, h⟩ := h
            refine va_iald hx hb hK hP 3 0 rfl rfl hin dX8_measure_109 ?_
            refine lv_aload_n hx hb dX8_measure_110 rfl (lv_at hl 2 rfl) ?_
            refine va_get (D := D) (ci := 8) (v := .ref q_marks) (C := RX8) (T := TX8) (N := 22) hx hb hts in_X8_measure_X8 hown hK hP 0 rfl rfl 17 (by decide) (k_X8_measure_f29 hts) (fun _ h9 => h9) rfl dX8_measure_111 ?_
            refine lv_iload hx hb dX8_measure_114 (lv_at hl 0 rfl) ?_
            obtain ⟨hin, h⟩ := h
            refine va_iald hx hb hK hP 3 0 rfl rfl hin dX8_measure_116 ?_
            refine lv_isub hx hb dX8_measure_117 ?_
            refine lv_iconst (v := 1) hx hb dX8_measure_118 (by decide) ?_
            obtain ⟨hin, h⟩ := h
            refine va_zast hx hb hK hP hD hS 1 1 rfl rfl hin dX8_measure_119 (fun H locs hP hD hS => ?_)
            have hP : va_P D vwCl (w_X8_measure Y q q_row q_isKept q_text q_seenFold q_seenSpan q_readLong q_marks q_isMeasured q_waysAre q_haveSpan g_links g_undos g_length g_seenMany g_trace g_at g_behind g_number g_readLinks g_readFolded g_readStiff g_wayMany (upd g_isMeasured (((g_marks (z15).toNatClampNeg) - (g_marks (z16).toNatClampNeg))).toNatClampNeg (vp_nar .boolean (1 : Int32))) g_row g_marks) H := hP
            have hD : va_D A (w_X8_measure Y q q_row q_isKept q_text q_seenFold q_seenSpan q_readLong q_marks q_isMeasured q_waysAre q_haveSpan g_links g_undos g_length g_seenMany g_trace g_at g_behind g_number g_readLinks g_readFolded g_readStiff g_wayMany (upd g_isMeasured (((g_marks (z15).toNatClampNeg) - (g_marks (z16).toNatClampNeg))).toNatClampNeg (vp_nar .boolean (1 : Int32))) g_row g_marks) := hD
            obtain ⟨z23, ez23⟩ : ∃ y : Int32, y = (x2 + (1 : Int32)) := ⟨_, rfl⟩
            have h := h z23 ez23
            refine lv_iinc (v := z23) (lv' := [(2, .int z23), (4, .int z16), (3, .int z15), (0, .ref q), (1, .int x1)]) hx hb dX8_measure_120 hl (k := 4) rfl (by rw [ez23]; rfl) (by decide) rfl (fun ls hl => ?_)
            refine lv_goto (tgt := 50) hx hb dX8_measure_123 (by decide) ?_
            exact ih _ _ h _ _ _ hP hD hS (lv_sub hl [3, 4, 0] rfl)
set_option maxHeartbeats 4000000 in
set_option maxRecDepth 100000 in
theorem L_X8_measure_24 {p : Program} {l : Launch} {e : Env} {s : State} {m : MethodId} {args : Array Value} {below : List Frame} {meth : Method} {c : Code} {D : va_G} {Y : ClassId × ClassId × ClassId} {A : Nat → Prop} {q q_row q_isKept q_text q_seenFold q_seenSpan q_readLong q_marks q_isMeasured q_waysAre q_haveSpan : Nat} {g_links g_undos g_length g_seenMany : Int32} {g_trace : Int64} {g_at g_behind g_number g_readLinks g_readFolded g_readStiff g_wayMany : Int32} {g_row : Nat → Int32} {Q : (Nat → Int32) → (Nat → Int32) → Prop} (C : Ctx p s m args meth c cX8_measure 5 none wsX8_measure RX8) (hK : va_K D vwCl (tyS Y) s) (hA : ∀ q, s.heap.size ≤ q → A q) : ∀ (n : Nat) (x1 : Int32) (g_isMeasured g_marks : Nat → Int32), itr3 (B_X8_measure_24 g_links g_row Q) n x1 g_isMeasured g_marks → ∀ (H : Heap) (locs : List Loc) (ls : Array Slot), va_P D vwCl (w_X8_measure Y q q_row q_isKept q_text q_seenFold q_seenSpan q_readLong q_marks q_isMeasured q_waysAre q_haveSpan g_links g_undos g_length g_seenMany g_trace g_at g_behind g_number g_readLinks g_readFolded g_readStiff g_wayMany g_isMeasured g_row g_marks) H → va_D A (w_X8_measure Y q q_row q_isKept q_text q_seenFold q_seenSpan q_readLong q_marks q_isMeasured q_waysAre q_haveSpan g_links g_undos g_length g_seenMany g_trace g_at g_behind g_number g_readLinks g_readFolded g_readStiff g_wayMany g_isMeasured g_row g_marks) → va_S A s.heap H locs → lv_has ls 5 [(0, .ref q), (1, .int x1)] → W p l e rm_X8_measure s m args below meth c H locs 0 0 (QV below args s D Y A (fun (u : (Nat → Int32) × (Nat → Int32)) => Q u.1 u.2) (fun u : (Nat → Int32) × (Nat → Int32) => (w_X8_measure Y q q_row q_isKept q_text q_seenFold q_seenSpan q_readLong q_marks q_isMeasured q_waysAre q_haveSpan g_links g_undos g_length g_seenMany g_trace g_at g_behind g_number g_readLinks g_readFolded g_readStiff g_wayMany u.1 g_row u.2))) (F0 m 24 ls []) := by
  intro n
  induction n with
  | zero => intro x1 g_isMeasured g_marks h; exact False.elim h
  | succ n ih =>
    intro x1 g_isMeasured g_marks h H locs ls hP hD hS hl
    obtain ⟨⟨hx, hb, hml, hown, hts⟩, hr, hlocks, hN⟩ := id C
    have h : B_X8_measure_24 g_links g_row Q (itr3 (B_X8_measure_24 g_links g_row Q) n) x1 g_isMeasured g_marks := h
    unfold B_X8_measure_24 at h
    refine lv_iload_n hx hb dX8_measure_24 rfl (lv_at hl 1 rfl) ?_
    refine lv_aload_n hx hb dX8_measure_25 rfl (lv_at hl 0 rfl) ?_
    have hp : Pt (w_X8_measure Y q q_row q_isKept q_text q_seenFold q_seenSpan q_readLong q_marks q_isMeasured q_waysAre q_haveSpan g_links g_undos g_length g_seenMany g_trace g_at g_behind g_number g_readLinks g_readFolded g_readStiff g_wayMany g_isMeasured g_row g_marks) (w_X8_folds Y q q_row q_isKept q_text q_seenFold q_seenSpan q_readLong q_marks q_isMeasured q_waysAre q_haveSpan g_links g_undos g_length g_seenMany g_trace g_at g_behind g_number g_readLinks g_readFolded g_readStiff g_wayMany) [0] := ⟨rfl, by decide +kernel⟩
    refine go_i hp hP hD hS hA (fun _ => rfl) (va_runV (As := []) (rest := [.int x1]) ⟨hx, hb, hml, hown, hts⟩ (c_X8_folds h _) (cwV 0 hts gX8_measure_X8_folds rfl rfl rfl (by decide +kernel) ⟨Nat.le_of_ble_eq_true rfl, Nat.le_of_ble_eq_true rfl⟩) (pre_V (b := q) (q0 := 0) (ci := 8) (q := (RX8, TX8, 22)) hp hK hN hP hD rfl rfl) rfl rfl hl.1 rfl (lv_room (Nat.le_of_ble_eq_true rfl)) dX8_measure_26 ⟨Nat.le_of_ble_eq_true rfl, Nat.le_of_ble_eq_true rfl⟩) (fun r24 u H locs h hP hD hS => ?_)
    try dsimp only at h
    have hP : va_P D vwCl (w_X8_measure Y q q_row q_isKept q_text q_seenFold q_seenSpan q_readLong q_marks q_isMeasured q_waysAre q_haveSpan g_links g_undos g_length g_seenMany g_trace g_at g_behind g_number g_readLinks g_readFolded g_readStiff g_wayMany g_isMeasured g_row g_marks) H := hP
    have hD : va_D A (w_X8_measure Y q q_row q_isKept q_text q_seenFold q_seenSpan q_readLong q_marks q_isMeasured q_waysAre q_haveSpan g_links g_undos g_length g_seenMany g_trace g_at g_behind g_number g_readLinks g_readFolded g_readStiff g_wayMany g_isMeasured g_row g_marks) := hD
    refine lv_icmp_ge (tgt := 132) hx hb dX8_measure_29 (by decide) (fun c25 => ?_) (fun c25 => ?_)
    · have h := h.1 c25
      exact ret_v (g_isMeasured, g_marks) hx hb hr hlocks hK hP hD hS h dX8_measure_132
    · have h := h.2 c25
      refine lv_aload_n hx hb dX8_measure_32 rfl (lv_at hl 0 rfl) ?_
      refine lv_iload_n hx hb dX8_measure_33 rfl (lv_at hl 1 rfl) ?_
      have hp : Pt (w_X8_measure Y q q_row q_isKept q_text q_seenFold q_seenSpan q_readLong q_marks q_isMeasured q_waysAre q_haveSpan g_links g_undos g_length g_seenMany g_trace g_at g_behind g_number g_readLinks g_readFolded g_readStiff g_wayMany g_isMeasured g_row g_marks) (w_X8_isFold Y q q_row q_isKept q_text q_seenFold q_seenSpan q_readLong q_marks q_isMeasured q_waysAre q_haveSpan g_links g_undos g_length g_seenMany g_trace g_at g_behind g_number g_readLinks g_readFolded g_readStiff g_wayMany g_row) [0, 2] := ⟨rfl, by decide +kernel⟩
      refine go_i hp hP hD hS hA (fun _ => rfl) (va_runV (As := [.int x1]) (rest := []) ⟨hx, hb, hml, hown, hts⟩ (c_X8_isFold h _) (cwV 1 hts gX8_measure_X8_isFold rfl rfl rfl (by decide +kernel) ⟨Nat.le_of_ble_eq_true rfl, Nat.le_of_ble_eq_true rfl⟩) (pre_V (b := q) (q0 := 0) (ci := 8) (q := (RX8, TX8, 22)) hp hK hN hP hD rfl rfl) rfl rfl hl.1 rfl (lv_room (Nat.le_of_ble_eq_true rfl)) dX8_measure_34 ⟨Nat.le_of_ble_eq_true rfl, Nat.le_of_ble_eq_true rfl⟩) (fun r26 u H locs h hP hD hS => ?_)
      try dsimp only at h
      have hP : va_P D vwCl (w_X8_measure Y q q_row q_isKept q_text q_seenFold q_seenSpan q_readLong q_marks q_isMeasured q_waysAre q_haveSpan g_links g_undos g_length g_seenMany g_trace g_at g_behind g_number g_readLinks g_readFolded g_readStiff g_wayMany g_isMeasured g_row g_marks) H := hP
      have hD : va_D A (w_X8_measure Y q q_row q_isKept q_text q_seenFold q_seenSpan q_readLong q_marks q_isMeasured q_waysAre q_haveSpan g_links g_undos g_length g_seenMany g_trace g_at g_behind g_number g_readLinks g_readFolded g_readStiff g_wayMany g_isMeasured g_row g_marks) := hD
      refine lv_if_eq (tgt := 126) hx hb dX8_measure_37 (by decide) (fun c27 => ?_) (fun c27 => ?_)
      · have h := h.1 c27
        obtain ⟨z28, ez28⟩ : ∃ y : Int32, y = (x1 + (1 : Int32)) := ⟨_, rfl⟩
        have h := h z28 ez28
        refine lv_iinc (v := z28) (lv' := [(1, .int z28), (0, .ref q)]) hx hb dX8_measure_126 hl (k := 1) rfl (by rw [ez28]; rfl) (by decide) rfl (fun ls hl => ?_)
        refine lv_goto (tgt := 24) hx hb dX8_measure_129 (by decide) ?_
        exact ih _ _ _ h _ _ _ hP hD hS (lv_sub hl [1, 0] rfl)
      · have h := h.2 c27
        refine lv_aload_n hx hb dX8_measure_40 rfl (lv_at hl 0 rfl) ?_
        refine lv_iload_n hx hb dX8_measure_41 rfl (lv_at hl 1 rfl) ?_
        refine lv_bipush (v := (-9)) hx hb dX8_measure_42 (by decide) ?_
        refine lv_iconst (v := 0) hx hb dX8_measure_44 (by decide) ?_
        have hp : Pt (w_X8_measure Y q q_row q_isKept q_text q_seenFold q_seenSpan q_readLong q_marks q_isMeasured q_waysAre q_haveSpan g_links g_undos g_length g_seenMany g_trace g_at g_behind g_number g_readLinks g_readFolded g_readStiff g_wayMany g_isMeasured g_row g_marks) (w_X8_lies Y q q_row q_isKept q_text q_seenFold q_seenSpan q_readLong q_marks q_isMeasured q_waysAre q_haveSpan g_links g_undos g_length g_seenMany g_trace g_at g_behind g_number g_readLinks g_readFolded g_readStiff g_wayMany g_marks g_row) [0, 3, 2] := ⟨rfl, by decide +kernel⟩
        refine go_v hp hP hD hS hA (fun _ => rfl) (va_runV (As := [.int x1, .int (-9 : Int32), .int (0 : Int32)]) (rest := []) ⟨hx, hb, hml, hown, hts⟩ (c_X8_lies h _) (cwV 3 hts gX8_measure_X8_lies rfl rfl rfl (by decide +kernel) ⟨Nat.le_of_ble_eq_true rfl, Nat.le_of_ble_eq_true rfl⟩) (pre_V (b := q) (q0 := 0) (ci := 8) (q := (RX8, TX8, 22)) hp hK hN hP hD rfl rfl) rfl rfl hl.1 rfl (lv_room (Nat.le_of_ble_eq_true rfl)) dX8_measure_45 ⟨Nat.le_of_ble_eq_true rfl, Nat.le_of_ble_eq_true rfl⟩) (fun u H locs h hP hD hS => ?_)
        obtain ⟨u30, rfl⟩ : ∃ z, z = u := ⟨_, rfl⟩
        try dsimp only at h
        have hP : va_P D vwCl (w_X8_measure Y q q_row q_isKept q_text q_seenFold q_seenSpan q_readLong q_marks q_isMeasured q_waysAre q_haveSpan g_links g_undos g_length g_seenMany g_trace g_at g_behind g_number g_readLinks g_readFolded g_readStiff g_wayMany g_isMeasured g_row u30) H := hP
        have hD : va_D A (w_X8_measure Y q q_row q_isKept q_text q_seenFold q_seenSpan q_readLong q_marks q_isMeasured q_waysAre q_haveSpan g_links g_undos g_length g_seenMany g_trace g_at g_behind g_number g_readLinks g_readFolded g_readStiff g_wayMany g_isMeasured g_row u30) := hD
        refine lv_iconst (v := 0) hx hb dX8_measure_48 (by decide) ?_
        refine lv_istore_n (lv' := [(2, .int (0 : Int32)), (0, .ref q), (1, .int x1)]) hx hb dX8_measure_49 rfl hl (by decide) rfl (fun ls hl => ?_)
        obtain ⟨n, h⟩ := h
        exact L_X8_measure_50 C hK hA ih n _ _ h _ _ _ hP hD hS (lv_sub hl [1, 2, 0] rfl)
set_option maxHeartbeats 4000000 in
set_option maxRecDepth 100000 in
theorem L_X8_measure_2 {p : Program} {l : Launch} {e : Env} {s : State} {m : MethodId} {args : Array Value} {below : List Frame} {meth : Method} {c : Code} {D : va_G} {Y : ClassId × ClassId × ClassId} {A : Nat → Prop} {q q_row q_isKept q_text q_seenFold q_seenSpan q_readLong q_marks q_isMeasured q_waysAre q_haveSpan : Nat} {g_links g_undos g_length g_seenMany : Int32} {g_trace : Int64} {g_at g_behind g_number g_readLinks g_readFolded g_readStiff g_wayMany : Int32} {g_row g_marks : Nat → Int32} {Q : (Nat → Int32) → (Nat → Int32) → Prop} (C : Ctx p s m args meth c cX8_measure 5 none wsX8_measure RX8) (hK : va_K D vwCl (tyS Y) s) (hA : ∀ q, s.heap.size ≤ q → A q) : ∀ (n : Nat) (x1 : Int32) (g_isMeasured : Nat → Int32), itr2 (B_X8_measure_2 g_links g_row g_marks Q) n x1 g_isMeasured → ∀ (H : Heap) (locs : List Loc) (ls : Array Slot), va_P D vwCl (w_X8_measure Y q q_row q_isKept q_text q_seenFold q_seenSpan q_readLong q_marks q_isMeasured q_waysAre q_haveSpan g_links g_undos g_length g_seenMany g_trace g_at g_behind g_number g_readLinks g_readFolded g_readStiff g_wayMany g_isMeasured g_row g_marks) H → va_D A (w_X8_measure Y q q_row q_isKept q_text q_seenFold q_seenSpan q_readLong q_marks q_isMeasured q_waysAre q_haveSpan g_links g_undos g_length g_seenMany g_trace g_at g_behind g_number g_readLinks g_readFolded g_readStiff g_wayMany g_isMeasured g_row g_marks) → va_S A s.heap H locs → lv_has ls 5 [(0, .ref q), (1, .int x1)] → W p l e rm_X8_measure s m args below meth c H locs 0 0 (QV below args s D Y A (fun (u : (Nat → Int32) × (Nat → Int32)) => Q u.1 u.2) (fun u : (Nat → Int32) × (Nat → Int32) => (w_X8_measure Y q q_row q_isKept q_text q_seenFold q_seenSpan q_readLong q_marks q_isMeasured q_waysAre q_haveSpan g_links g_undos g_length g_seenMany g_trace g_at g_behind g_number g_readLinks g_readFolded g_readStiff g_wayMany u.1 g_row u.2))) (F0 m 2 ls []) := by
  intro n
  induction n with
  | zero => intro x1 g_isMeasured h; exact False.elim h
  | succ n ih =>
    intro x1 g_isMeasured h H locs ls hP hD hS hl
    obtain ⟨⟨hx, hb, hml, hown, hts⟩, hr, hlocks, hN⟩ := id C
    have h : B_X8_measure_2 g_links g_row g_marks Q (itr2 (B_X8_measure_2 g_links g_row g_marks Q) n) x1 g_isMeasured := h
    unfold B_X8_measure_2 at h
    refine lv_iload_n hx hb dX8_measure_2 rfl (lv_at hl 1 rfl) ?_
    refine lv_sipush (v := 182) hx hb dX8_measure_3 (by decide) ?_
    refine lv_icmp_ge (tgt := 22) hx hb dX8_measure_6 (by decide) (fun c31 => ?_) (fun c31 => ?_)
    · have h := h.1 c31
      refine lv_iconst (v := 0) hx hb dX8_measure_22 (by decide) ?_
      refine lv_istore_n (lv' := [(1, .int (0 : Int32)), (0, .ref q)]) hx hb dX8_measure_23 rfl hl (by decide) rfl (fun ls hl => ?_)
      obtain ⟨n, h⟩ := h
      exact L_X8_measure_24 C hK hA  n _ _ _ h _ _ _ hP hD hS (lv_sub hl [1, 0] rfl)
    · have h := h.2 c31
      refine lv_aload_n hx hb dX8_measure_9 rfl (lv_at hl 0 rfl) ?_
      refine va_get (D := D) (ci := 8) (v := .ref q_isMeasured) (C := RX8) (T := TX8) (N := 22) hx hb hts in_X8_measure_X8 hown hK hP 0 rfl rfl 18 (by decide) (k_X8_measure_f32 hts) (fun _ h9 => h9) rfl dX8_measure_10 ?_
      refine lv_iload_n hx hb dX8_measure_13 rfl (lv_at hl 1 rfl) ?_
      refine lv_iconst (v := 0) hx hb dX8_measure_14 (by decide) ?_
      obtain ⟨hin, h⟩ := h
      refine va_zast hx hb hK hP hD hS 1 1 rfl rfl hin dX8_measure_15 (fun H locs hP hD hS => ?_)
      have hP : va_P D vwCl (w_X8_measure Y q q_row q_isKept q_text q_seenFold q_seenSpan q_readLong q_marks q_isMeasured q_waysAre q_haveSpan g_links g_undos g_length g_seenMany g_trace g_at g_behind g_number g_readLinks g_readFolded g_readStiff g_wayMany (upd g_isMeasured (x1).toNatClampNeg (vp_nar .boolean (0 : Int32))) g_row g_marks) H := hP
      have hD : va_D A (w_X8_measure Y q q_row q_isKept q_text q_seenFold q_seenSpan q_readLong q_marks q_isMeasured q_waysAre q_haveSpan g_links g_undos g_length g_seenMany g_trace g_at g_behind g_number g_readLinks g_readFolded g_readStiff g_wayMany (upd g_isMeasured (x1).toNatClampNeg (vp_nar .boolean (0 : Int32))) g_row g_marks) := hD
      obtain ⟨z32, ez32⟩ : ∃ y : Int32, y = (x1 + (1 : Int32)) := ⟨_, rfl⟩
      have h := h z32 ez32
      refine lv_iinc (v := z32) (lv' := [(1, .int z32), (0, .ref q)]) hx hb dX8_measure_16 hl (k := 1) rfl (by rw [ez32]; rfl) (by decide) rfl (fun ls hl => ?_)
      refine lv_goto (tgt := 2) hx hb dX8_measure_19 (by decide) ?_
      exact ih _ _ h _ _ _ hP hD hS (lv_sub hl [1, 0] rfl)
set_option maxHeartbeats 4000000 in
set_option maxRecDepth 100000 in
theorem c_X8_measure {l : Launch} {D : va_G} {Y : ClassId × ClassId × ClassId} {q q_row q_isKept q_text q_seenFold q_seenSpan q_readLong q_marks q_isMeasured q_waysAre q_haveSpan : Nat} {g_links g_undos g_length g_seenMany : Int32} {g_trace : Int64} {g_at g_behind g_number g_readLinks g_readFolded g_readStiff g_wayMany : Int32} {g_isMeasured g_row g_marks : Nat → Int32} {Q : (Nat → Int32) → (Nat → Int32) → Prop} (h : wp_X8_measure g_links g_isMeasured g_row g_marks Q) (sz : Nat) : MtV l yX8_measure wsX8_measure rm_X8_measure [.ref q] D Y (w_X8_measure Y q q_row q_isKept q_text q_seenFold q_seenSpan q_readLong q_marks q_isMeasured q_waysAre q_haveSpan g_links g_undos g_length g_seenMany g_trace g_at g_behind g_number g_readLinks g_readFolded g_readStiff g_wayMany g_isMeasured g_row g_marks) (fun (u : (Nat → Int32) × (Nat → Int32)) => Q u.1 u.2) (fun u : (Nat → Int32) × (Nat → Int32) => (w_X8_measure Y q q_row q_isKept q_text q_seenFold q_seenSpan q_readLong q_marks q_isMeasured q_waysAre q_haveSpan g_links g_undos g_length g_seenMany g_trace g_at g_behind g_number g_readLinks g_readFolded g_readStiff g_wayMany u.1 g_row u.2)) sz := by
  refine ct_v (cc := cX8_measure) (nL := 5) (ret := none) (by decide) rfl (Nat.le_of_ble_eq_true rfl) ?_ sz
  intro p e s m below meth c A ls C hK hA hP hD hS hl
  obtain ⟨⟨hx, hb, hml, hown, hts⟩, hr, hlocks, hN⟩ := id C
  have hown : s.vm.findClass RX8 = some m.cls := hown
  have hl : lv_has ls 5 [(0, .ref q)] := hl
  unfold wp_X8_measure at h
  refine lv_iconst (v := 0) hx hb dX8_measure_0 (by decide) ?_
  refine lv_istore_n (lv' := [(1, .int (0 : Int32)), (0, .ref q)]) hx hb dX8_measure_1 rfl hl (by decide) rfl (fun ls hl => ?_)
  obtain ⟨n, h⟩ := h
  exact L_X8_measure_2 C hK hA  n _ _ h _ _ _ hP hD hS (lv_sub hl [1, 0] rfl)
abbrev rm_X8_gap : Room := { frames := 3, cells := 0, slots := 0, locals := 70 }
theorem in_X8_gap_X8 : ∀ w ∈ wsX80, w ∈ wsX8_gap := fun _ h => List.mem_cons_of_mem _ (List.mem_append_right _ h)
theorem k_X8_gap_f32 {s : State} {args : Array Value} (hts : ∀ w ∈ wsX8_gap, w.before args s = true) : (Cond.fieldLink RX8 32 "FoldRuleModel" "isMeasured" "[Z").before args s = true := hts _ (by decide +kernel)
set_option maxHeartbeats 4000000 in
set_option maxRecDepth 100000 in
theorem L_X8_gap_6 {p : Program} {l : Launch} {e : Env} {s : State} {m : MethodId} {args : Array Value} {below : List Frame} {meth : Method} {c : Code} {D : va_G} {Y : ClassId × ClassId × ClassId} {A : Nat → Prop} {q q_row q_isKept q_text q_seenFold q_seenSpan q_readLong q_marks q_isMeasured q_waysAre q_haveSpan : Nat} {g_links g_undos g_length g_seenMany : Int32} {g_trace : Int64} {g_at g_behind g_number g_readLinks g_readFolded g_readStiff g_wayMany : Int32} {g_isMeasured g_row g_marks : Nat → Int32} {Q : Int32 → (Nat → Int32) → (Nat → Int32) → Prop} (C : Ctx p s m args meth c cX8_gap 2 (some .int) wsX8_gap RX8) (hK : va_K D vwCl (tyS Y) s) (hA : ∀ q, s.heap.size ≤ q → A q) : ∀ (n : Nat) (x1 : Int32), itr1 (B_X8_gap_6 g_isMeasured g_marks Q) n x1 → ∀ (H : Heap) (locs : List Loc) (ls : Array Slot), va_P D vwCl (w_X8_gap Y q q_row q_isKept q_text q_seenFold q_seenSpan q_readLong q_marks q_isMeasured q_waysAre q_haveSpan g_links g_undos g_length g_seenMany g_trace g_at g_behind g_number g_readLinks g_readFolded g_readStiff g_wayMany g_isMeasured g_row g_marks) H → va_D A (w_X8_gap Y q q_row q_isKept q_text q_seenFold q_seenSpan q_readLong q_marks q_isMeasured q_waysAre q_haveSpan g_links g_undos g_length g_seenMany g_trace g_at g_behind g_number g_readLinks g_readFolded g_readStiff g_wayMany g_isMeasured g_row g_marks) → va_S A s.heap H locs → lv_has ls 2 [(0, .ref q), (1, .int x1)] → W p l e rm_X8_gap s m args below meth c H locs 0 0 (QI below args s D Y A (fun r (u : (Nat → Int32) × (Nat → Int32)) => Q r u.1 u.2) (fun u : (Nat → Int32) × (Nat → Int32) => (w_X8_gap Y q q_row q_isKept q_text q_seenFold q_seenSpan q_readLong q_marks q_isMeasured q_waysAre q_haveSpan g_links g_undos g_length g_seenMany g_trace g_at g_behind g_number g_readLinks g_readFolded g_readStiff g_wayMany u.1 g_row u.2))) (F0 m 6 ls []) := by
  intro n
  induction n with
  | zero => intro x1 h; exact False.elim h
  | succ n ih =>
    intro x1 h H locs ls hP hD hS hl
    obtain ⟨⟨hx, hb, hml, hown, hts⟩, hr, hlocks, hN⟩ := id C
    have h : B_X8_gap_6 g_isMeasured g_marks Q (itr1 (B_X8_gap_6 g_isMeasured g_marks Q) n) x1 := h
    unfold B_X8_gap_6 at h
    refine lv_aload_n hx hb dX8_gap_6 rfl (lv_at hl 0 rfl) ?_
    refine va_get (D := D) (ci := 8) (v := .ref q_isMeasured) (C := RX8) (T := TX8) (N := 22) hx hb hts in_X8_gap_X8 hown hK hP 0 rfl rfl 18 (by decide) (k_X8_gap_f32 hts) (fun _ h9 => h9) rfl dX8_gap_7 ?_
    refine lv_iload_n hx hb dX8_gap_10 rfl (lv_at hl 1 rfl) ?_
    obtain ⟨hin, h⟩ := h
    refine va_zald hx hb hK hP 1 1 rfl rfl hin dX8_gap_11 ?_
    refine lv_if_eq (tgt := 21) hx hb dX8_gap_12 (by decide) (fun c4 => ?_) (fun c4 => ?_)
    · have h := h.1 c4
      refine lv_iload_n hx hb dX8_gap_21 rfl (lv_at hl 1 rfl) ?_
      exact ret_i (g_isMeasured, g_marks) hx hb hr hlocks hK hP hD hS h dX8_gap_22
    · have h := h.2 c4
      obtain ⟨z5, ez5⟩ : ∃ y : Int32, y = (x1 + (1 : Int32)) := ⟨_, rfl⟩
      have h := h z5 ez5
      refine lv_iinc (v := z5) (lv' := [(1, .int z5), (0, .ref q)]) hx hb dX8_gap_15 hl (k := 1) rfl (by rw [ez5]; rfl) (by decide) rfl (fun ls hl => ?_)
      refine lv_goto (tgt := 6) hx hb dX8_gap_18 (by decide) ?_
      exact ih _ h _ _ _ hP hD hS (lv_sub hl [1, 0] rfl)
set_option maxHeartbeats 4000000 in
set_option maxRecDepth 100000 in
theorem c_X8_gap {l : Launch} {D : va_G} {Y : ClassId × ClassId × ClassId} {q q_row q_isKept q_text q_seenFold q_seenSpan q_readLong q_marks q_isMeasured q_waysAre q_haveSpan : Nat} {g_links g_undos g_length g_seenMany : Int32} {g_trace : Int64} {g_at g_behind g_number g_readLinks g_readFolded g_readStiff g_wayMany : Int32} {g_isMeasured g_row g_marks : Nat → Int32} {Q : Int32 → (Nat → Int32) → (Nat → Int32) → Prop} (h : wp_X8_gap g_links g_isMeasured g_row g_marks Q) (sz : Nat) : MtI l yX8_gap wsX8_gap rm_X8_gap [.ref q] D Y (w_X8_gap Y q q_row q_isKept q_text q_seenFold q_seenSpan q_readLong q_marks q_isMeasured q_waysAre q_haveSpan g_links g_undos g_length g_seenMany g_trace g_at g_behind g_number g_readLinks g_readFolded g_readStiff g_wayMany g_isMeasured g_row g_marks) (fun r (u : (Nat → Int32) × (Nat → Int32)) => Q r u.1 u.2) (fun u : (Nat → Int32) × (Nat → Int32) => (w_X8_gap Y q q_row q_isKept q_text q_seenFold q_seenSpan q_readLong q_marks q_isMeasured q_waysAre q_haveSpan g_links g_undos g_length g_seenMany g_trace g_at g_behind g_number g_readLinks g_readFolded g_readStiff g_wayMany u.1 g_row u.2)) sz := by
  refine ct_i (cc := cX8_gap) (nL := 2) (ret := (some .int)) (by decide) rfl (Nat.le_of_ble_eq_true rfl) ?_ sz
  intro p e s m below meth c A ls C hK hA hP hD hS hl
  obtain ⟨⟨hx, hb, hml, hown, hts⟩, hr, hlocks, hN⟩ := id C
  have hown : s.vm.findClass RX8 = some m.cls := hown
  have hl : lv_has ls 2 [(0, .ref q)] := hl
  unfold wp_X8_gap at h
  refine lv_aload_n hx hb dX8_gap_0 rfl (lv_at hl 0 rfl) ?_
  have hp : Pt (w_X8_gap Y q q_row q_isKept q_text q_seenFold q_seenSpan q_readLong q_marks q_isMeasured q_waysAre q_haveSpan g_links g_undos g_length g_seenMany g_trace g_at g_behind g_number g_readLinks g_readFolded g_readStiff g_wayMany g_isMeasured g_row g_marks) (w_X8_measure Y q q_row q_isKept q_text q_seenFold q_seenSpan q_readLong q_marks q_isMeasured q_waysAre q_haveSpan g_links g_undos g_length g_seenMany g_trace g_at g_behind g_number g_readLinks g_readFolded g_readStiff g_wayMany g_isMeasured g_row g_marks) [0, 1, 2, 3] := ⟨rfl, by decide +kernel⟩
  refine go_v hp hP hD hS hA (fun _ => rfl) (va_runV (As := []) (rest := []) ⟨hx, hb, hml, hown, hts⟩ (c_X8_measure h _) (cwV 0 hts gX8_gap_X8_measure rfl rfl rfl (by decide +kernel) ⟨Nat.le_of_ble_eq_true rfl, Nat.le_of_ble_eq_true rfl⟩) (pre_V (b := q) (q0 := 0) (ci := 8) (q := (RX8, TX8, 22)) hp hK hN hP hD rfl rfl) rfl rfl hl.1 rfl (lv_room (Nat.le_of_ble_eq_true rfl)) dX8_gap_1 ⟨Nat.le_of_ble_eq_true rfl, Nat.le_of_ble_eq_true rfl⟩) (fun u H locs h hP hD hS => ?_)
  obtain ⟨u7, u8⟩ := u
  try dsimp only at h
  have hP : va_P D vwCl (w_X8_gap Y q q_row q_isKept q_text q_seenFold q_seenSpan q_readLong q_marks q_isMeasured q_waysAre q_haveSpan g_links g_undos g_length g_seenMany g_trace g_at g_behind g_number g_readLinks g_readFolded g_readStiff g_wayMany u7 g_row u8) H := hP
  have hD : va_D A (w_X8_gap Y q q_row q_isKept q_text q_seenFold q_seenSpan q_readLong q_marks q_isMeasured q_waysAre q_haveSpan g_links g_undos g_length g_seenMany g_trace g_at g_behind g_number g_readLinks g_readFolded g_readStiff g_wayMany u7 g_row u8) := hD
  refine lv_iconst (v := 1) hx hb dX8_gap_4 (by decide) ?_
  refine lv_istore_n (lv' := [(1, .int (1 : Int32)), (0, .ref q)]) hx hb dX8_gap_5 rfl hl (by decide) rfl (fun ls hl => ?_)
  obtain ⟨n, h⟩ := h
  exact L_X8_gap_6 C hK hA  n _ h _ _ _ hP hD hS (lv_sub hl [1, 0] rfl)
abbrev rm_X8_now : Room := { frames := 4, cells := 0, slots := 0, locals := 93 }
theorem in_X8_now_X8 : ∀ w ∈ wsX80, w ∈ wsX8_now := fun _ h => List.mem_cons_of_mem _ (List.mem_append_right _ h)
theorem k_X8_now_f7 {s : State} {args : Array Value} (hts : ∀ w ∈ wsX8_now, w.before args s = true) : (Cond.fieldLink RX8 7 "FoldRuleModel" "row" "[I").before args s = true := hts _ (by decide +kernel)
theorem k_X8_now_f102 {s : State} {args : Array Value} (hts : ∀ w ∈ wsX8_now, w.before args s = true) : (Cond.fieldLink RX8 102 "FoldRuleModel" "undos" "I").before args s = true := hts _ (by decide +kernel)
set_option maxHeartbeats 4000000 in
set_option maxRecDepth 100000 in
theorem c_X8_now {l : Launch} {D : va_G} {Y : ClassId × ClassId × ClassId} {q q_row q_isKept q_text q_seenFold q_seenSpan q_readLong q_marks q_isMeasured q_waysAre q_haveSpan : Nat} {g_links g_undos g_length g_seenMany : Int32} {g_trace : Int64} {g_at g_behind g_number g_readLinks g_readFolded g_readStiff g_wayMany : Int32} {g_isMeasured g_row g_marks : Nat → Int32} {x1 : Int32} {Q : Int32 → (Nat → Int32) → (Nat → Int32) → Prop} (h : wp_X8_now g_links g_undos g_isMeasured g_row g_marks x1 Q) (sz : Nat) : MtI l yX8_now wsX8_now rm_X8_now [.ref q, .int x1] D Y (w_X8_now Y q q_row q_isKept q_text q_seenFold q_seenSpan q_readLong q_marks q_isMeasured q_waysAre q_haveSpan g_links g_undos g_length g_seenMany g_trace g_at g_behind g_number g_readLinks g_readFolded g_readStiff g_wayMany g_isMeasured g_row g_marks) (fun r (u : (Nat → Int32) × (Nat → Int32)) => Q r u.1 u.2) (fun u : (Nat → Int32) × (Nat → Int32) => (w_X8_now Y q q_row q_isKept q_text q_seenFold q_seenSpan q_readLong q_marks q_isMeasured q_waysAre q_haveSpan g_links g_undos g_length g_seenMany g_trace g_at g_behind g_number g_readLinks g_readFolded g_readStiff g_wayMany u.1 g_row u.2)) sz := by
  refine ct_i (cc := cX8_now) (nL := 2) (ret := (some .int)) (by decide) rfl (Nat.le_of_ble_eq_true rfl) ?_ sz
  intro p e s m below meth c A ls C hK hA hP hD hS hl
  obtain ⟨⟨hx, hb, hml, hown, hts⟩, hr, hlocks, hN⟩ := id C
  have hown : s.vm.findClass RX8 = some m.cls := hown
  have hl : lv_has ls 2 [(0, .ref q), (1, .int x1)] := hl
  unfold wp_X8_now at h
  refine lv_iload_n hx hb dX8_now_0 rfl (lv_at hl 1 rfl) ?_
  by_cases c16_0 : x1 = (0 : Int32)
  · have h := h.1 c16_0
    refine lv_tableIn (off := (47)) (tgt := 48) hx hb dX8_now_1 (by rw [c16_0]; decide) (by rw [c16_0]; decide) (by rw [c16_0]; rfl) (by decide) ?_
    refine lv_aload_n hx hb dX8_now_48 rfl (lv_at hl 0 rfl) ?_
    refine lv_aload_n hx hb dX8_now_49 rfl (lv_at hl 0 rfl) ?_
    refine va_get (D := D) (ci := 8) (v := .ref q_row) (C := RX8) (T := TX8) (N := 22) hx hb hts in_X8_now_X8 hown hK hP 0 rfl rfl 0 (by decide) (k_X8_now_f7 hts) (fun _ h9 => h9) rfl dX8_now_50 ?_
    refine lv_bipush (v := 9) hx hb dX8_now_53 (by decide) ?_
    obtain ⟨hin, h⟩ := h
    refine va_iald hx hb hK hP 2 0 rfl rfl hin dX8_now_55 ?_
    have hp : Pt (w_X8_now Y q q_row q_isKept q_text q_seenFold q_seenSpan q_readLong q_marks q_isMeasured q_waysAre q_haveSpan g_links g_undos g_length g_seenMany g_trace g_at g_behind g_number g_readLinks g_readFolded g_readStiff g_wayMany g_isMeasured g_row g_marks) (w_X8_spanBy Y q q_row q_isKept q_text q_seenFold q_seenSpan q_readLong q_marks q_isMeasured q_waysAre q_haveSpan g_links g_undos g_length g_seenMany g_trace g_at g_behind g_number g_readLinks g_readFolded g_readStiff g_wayMany g_marks g_row) [0, 3, 2] := ⟨rfl, by decide +kernel⟩
    refine go_i hp hP hD hS hA (fun _ => rfl) (va_runV (As := [.int (g_row ((9 : Int32)).toNatClampNeg)]) (rest := []) ⟨hx, hb, hml, hown, hts⟩ (c_X8_spanBy h _) (cwV 1 hts gX8_now_X8_spanBy rfl rfl rfl (by decide +kernel) ⟨Nat.le_of_ble_eq_true rfl, Nat.le_of_ble_eq_true rfl⟩) (pre_V (b := q) (q0 := 0) (ci := 8) (q := (RX8, TX8, 22)) hp hK hN hP hD rfl rfl) rfl rfl hl.1 rfl (lv_room (Nat.le_of_ble_eq_true rfl)) dX8_now_56 ⟨Nat.le_of_ble_eq_true rfl, Nat.le_of_ble_eq_true rfl⟩) (fun r17 u H locs h hP hD hS => ?_)
    obtain ⟨u18, rfl⟩ : ∃ z, z = u := ⟨_, rfl⟩
    try dsimp only at h
    have hP : va_P D vwCl (w_X8_now Y q q_row q_isKept q_text q_seenFold q_seenSpan q_readLong q_marks q_isMeasured q_waysAre q_haveSpan g_links g_undos g_length g_seenMany g_trace g_at g_behind g_number g_readLinks g_readFolded g_readStiff g_wayMany g_isMeasured g_row u18) H := hP
    have hD : va_D A (w_X8_now Y q q_row q_isKept q_text q_seenFold q_seenSpan q_readLong q_marks q_isMeasured q_waysAre q_haveSpan g_links g_undos g_length g_seenMany g_trace g_at g_behind g_number g_readLinks g_readFolded g_readStiff g_wayMany g_isMeasured g_row u18) := hD
    exact ret_i (g_isMeasured, u18) hx hb hr hlocks hK hP hD hS h dX8_now_59
  by_cases c16_1 : x1 = (1 : Int32)
  · have h := h.2.1 c16_1
    refine lv_tableIn (off := (59)) (tgt := 60) hx hb dX8_now_1 (by rw [c16_1]; decide) (by rw [c16_1]; decide) (by rw [c16_1]; rfl) (by decide) ?_
    refine lv_aload_n hx hb dX8_now_60 rfl (lv_at hl 0 rfl) ?_
    have hp : Pt (w_X8_now Y q q_row q_isKept q_text q_seenFold q_seenSpan q_readLong q_marks q_isMeasured q_waysAre q_haveSpan g_links g_undos g_length g_seenMany g_trace g_at g_behind g_number g_readLinks g_readFolded g_readStiff g_wayMany g_isMeasured g_row g_marks) (w_X8_stack Y q q_row q_isKept q_text q_seenFold q_seenSpan q_readLong q_marks q_isMeasured q_waysAre q_haveSpan g_links g_undos g_length g_seenMany g_trace g_at g_behind g_number g_readLinks g_readFolded g_readStiff g_wayMany g_row g_marks) [0, 2, 3] := ⟨rfl, by decide +kernel⟩
    refine go_i hp hP hD hS hA (fun _ => rfl) (va_runV (As := []) (rest := []) ⟨hx, hb, hml, hown, hts⟩ (c_X8_stack h _) (cwV 0 hts gX8_now_X8_stack rfl rfl rfl (by decide +kernel) ⟨Nat.le_of_ble_eq_true rfl, Nat.le_of_ble_eq_true rfl⟩) (pre_V (b := q) (q0 := 0) (ci := 8) (q := (RX8, TX8, 22)) hp hK hN hP hD rfl rfl) rfl rfl hl.1 rfl (lv_room (Nat.le_of_ble_eq_true rfl)) dX8_now_61 ⟨Nat.le_of_ble_eq_true rfl, Nat.le_of_ble_eq_true rfl⟩) (fun r19 u H locs h hP hD hS => ?_)
    obtain ⟨u20, rfl⟩ : ∃ z, z = u := ⟨_, rfl⟩
    try dsimp only at h
    have hP : va_P D vwCl (w_X8_now Y q q_row q_isKept q_text q_seenFold q_seenSpan q_readLong q_marks q_isMeasured q_waysAre q_haveSpan g_links g_undos g_length g_seenMany g_trace g_at g_behind g_number g_readLinks g_readFolded g_readStiff g_wayMany g_isMeasured g_row u20) H := hP
    have hD : va_D A (w_X8_now Y q q_row q_isKept q_text q_seenFold q_seenSpan q_readLong q_marks q_isMeasured q_waysAre q_haveSpan g_links g_undos g_length g_seenMany g_trace g_at g_behind g_number g_readLinks g_readFolded g_readStiff g_wayMany g_isMeasured g_row u20) := hD
    exact ret_i (g_isMeasured, u20) hx hb hr hlocks hK hP hD hS h dX8_now_64
  by_cases c16_2 : x1 = (2 : Int32)
  · have h := h.2.2.1 c16_2
    refine lv_tableIn (off := (64)) (tgt := 65) hx hb dX8_now_1 (by rw [c16_2]; decide) (by rw [c16_2]; decide) (by rw [c16_2]; rfl) (by decide) ?_
    refine lv_aload_n hx hb dX8_now_65 rfl (lv_at hl 0 rfl) ?_
    refine va_get (D := D) (ci := 8) (v := .ref q_row) (C := RX8) (T := TX8) (N := 22) hx hb hts in_X8_now_X8 hown hK hP 0 rfl rfl 0 (by decide) (k_X8_now_f7 hts) (fun _ h9 => h9) rfl dX8_now_66 ?_
    refine lv_bipush (v := 9) hx hb dX8_now_69 (by decide) ?_
    obtain ⟨hin, h⟩ := h
    refine va_iald hx hb hK hP 2 0 rfl rfl hin dX8_now_71 ?_
    exact ret_i (g_isMeasured, g_marks) hx hb hr hlocks hK hP hD hS h dX8_now_72
  by_cases c16_3 : x1 = (3 : Int32)
  · have h := h.2.2.2.1 c16_3
    refine lv_tableIn (off := (72)) (tgt := 73) hx hb dX8_now_1 (by rw [c16_3]; decide) (by rw [c16_3]; decide) (by rw [c16_3]; rfl) (by decide) ?_
    refine lv_aload_n hx hb dX8_now_73 rfl (lv_at hl 0 rfl) ?_
    refine lv_aload_n hx hb dX8_now_74 rfl (lv_at hl 0 rfl) ?_
    have hp : Pt (w_X8_now Y q q_row q_isKept q_text q_seenFold q_seenSpan q_readLong q_marks q_isMeasured q_waysAre q_haveSpan g_links g_undos g_length g_seenMany g_trace g_at g_behind g_number g_readLinks g_readFolded g_readStiff g_wayMany g_isMeasured g_row g_marks) (w_X8_leastFold Y q q_row q_isKept q_text q_seenFold q_seenSpan q_readLong q_marks q_isMeasured q_waysAre q_haveSpan g_links g_undos g_length g_seenMany g_trace g_at g_behind g_number g_readLinks g_readFolded g_readStiff g_wayMany g_row g_marks) [0, 2, 3] := ⟨rfl, by decide +kernel⟩
    refine go_i hp hP hD hS hA (fun _ => rfl) (va_runV (As := []) (rest := [.ref q]) ⟨hx, hb, hml, hown, hts⟩ (c_X8_leastFold h _) (cwV 0 hts gX8_now_X8_leastFold rfl rfl rfl (by decide +kernel) ⟨Nat.le_of_ble_eq_true rfl, Nat.le_of_ble_eq_true rfl⟩) (pre_V (b := q) (q0 := 0) (ci := 8) (q := (RX8, TX8, 22)) hp hK hN hP hD rfl rfl) rfl rfl hl.1 rfl (lv_room (Nat.le_of_ble_eq_true rfl)) dX8_now_75 ⟨Nat.le_of_ble_eq_true rfl, Nat.le_of_ble_eq_true rfl⟩) (fun r21 u H locs h hP hD hS => ?_)
    obtain ⟨u22, rfl⟩ : ∃ z, z = u := ⟨_, rfl⟩
    try dsimp only at h
    have hP : va_P D vwCl (w_X8_now Y q q_row q_isKept q_text q_seenFold q_seenSpan q_readLong q_marks q_isMeasured q_waysAre q_haveSpan g_links g_undos g_length g_seenMany g_trace g_at g_behind g_number g_readLinks g_readFolded g_readStiff g_wayMany g_isMeasured g_row u22) H := hP
    have hD : va_D A (w_X8_now Y q q_row q_isKept q_text q_seenFold q_seenSpan q_readLong q_marks q_isMeasured q_waysAre q_haveSpan g_links g_undos g_length g_seenMany g_trace g_at g_behind g_number g_readLinks g_readFolded g_readStiff g_wayMany g_isMeasured g_row u22) := hD
    have hp : Pt (w_X8_now Y q q_row q_isKept q_text q_seenFold q_seenSpan q_readLong q_marks q_isMeasured q_waysAre q_haveSpan g_links g_undos g_length g_seenMany g_trace g_at g_behind g_number g_readLinks g_readFolded g_readStiff g_wayMany g_isMeasured g_row u22) (w_X8_spanBy Y q q_row q_isKept q_text q_seenFold q_seenSpan q_readLong q_marks q_isMeasured q_waysAre q_haveSpan g_links g_undos g_length g_seenMany g_trace g_at g_behind g_number g_readLinks g_readFolded g_readStiff g_wayMany u22 g_row) [0, 3, 2] := ⟨rfl, by decide +kernel⟩
    refine go_i hp hP hD hS hA (fun _ => rfl) (va_runV (As := [.int r21]) (rest := []) ⟨hx, hb, hml, hown, hts⟩ (c_X8_spanBy h _) (cwV 1 hts gX8_now_X8_spanBy rfl rfl rfl (by decide +kernel) ⟨Nat.le_of_ble_eq_true rfl, Nat.le_of_ble_eq_true rfl⟩) (pre_V (b := q) (q0 := 0) (ci := 8) (q := (RX8, TX8, 22)) hp hK hN hP hD rfl rfl) rfl rfl hl.1 rfl (lv_room (Nat.le_of_ble_eq_true rfl)) dX8_now_78 ⟨Nat.le_of_ble_eq_true rfl, Nat.le_of_ble_eq_true rfl⟩) (fun r23 u H locs h hP hD hS => ?_)
    obtain ⟨u24, rfl⟩ : ∃ z, z = u := ⟨_, rfl⟩
    try dsimp only at h
    have hP : va_P D vwCl (w_X8_now Y q q_row q_isKept q_text q_seenFold q_seenSpan q_readLong q_marks q_isMeasured q_waysAre q_haveSpan g_links g_undos g_length g_seenMany g_trace g_at g_behind g_number g_readLinks g_readFolded g_readStiff g_wayMany g_isMeasured g_row u24) H := hP
    have hD : va_D A (w_X8_now Y q q_row q_isKept q_text q_seenFold q_seenSpan q_readLong q_marks q_isMeasured q_waysAre q_haveSpan g_links g_undos g_length g_seenMany g_trace g_at g_behind g_number g_readLinks g_readFolded g_readStiff g_wayMany g_isMeasured g_row u24) := hD
    exact ret_i (g_isMeasured, u24) hx hb hr hlocks hK hP hD hS h dX8_now_81
  by_cases c16_4 : x1 = (4 : Int32)
  · have h := h.2.2.2.2.1 c16_4
    refine lv_tableIn (off := (81)) (tgt := 82) hx hb dX8_now_1 (by rw [c16_4]; decide) (by rw [c16_4]; decide) (by rw [c16_4]; rfl) (by decide) ?_
    refine lv_aload_n hx hb dX8_now_82 rfl (lv_at hl 0 rfl) ?_
    have hp : Pt (w_X8_now Y q q_row q_isKept q_text q_seenFold q_seenSpan q_readLong q_marks q_isMeasured q_waysAre q_haveSpan g_links g_undos g_length g_seenMany g_trace g_at g_behind g_number g_readLinks g_readFolded g_readStiff g_wayMany g_isMeasured g_row g_marks) (w_X8_leastFold Y q q_row q_isKept q_text q_seenFold q_seenSpan q_readLong q_marks q_isMeasured q_waysAre q_haveSpan g_links g_undos g_length g_seenMany g_trace g_at g_behind g_number g_readLinks g_readFolded g_readStiff g_wayMany g_row g_marks) [0, 2, 3] := ⟨rfl, by decide +kernel⟩
    refine go_i hp hP hD hS hA (fun _ => rfl) (va_runV (As := []) (rest := []) ⟨hx, hb, hml, hown, hts⟩ (c_X8_leastFold h _) (cwV 0 hts gX8_now_X8_leastFold rfl rfl rfl (by decide +kernel) ⟨Nat.le_of_ble_eq_true rfl, Nat.le_of_ble_eq_true rfl⟩) (pre_V (b := q) (q0 := 0) (ci := 8) (q := (RX8, TX8, 22)) hp hK hN hP hD rfl rfl) rfl rfl hl.1 rfl (lv_room (Nat.le_of_ble_eq_true rfl)) dX8_now_83 ⟨Nat.le_of_ble_eq_true rfl, Nat.le_of_ble_eq_true rfl⟩) (fun r25 u H locs h hP hD hS => ?_)
    obtain ⟨u26, rfl⟩ : ∃ z, z = u := ⟨_, rfl⟩
    try dsimp only at h
    have hP : va_P D vwCl (w_X8_now Y q q_row q_isKept q_text q_seenFold q_seenSpan q_readLong q_marks q_isMeasured q_waysAre q_haveSpan g_links g_undos g_length g_seenMany g_trace g_at g_behind g_number g_readLinks g_readFolded g_readStiff g_wayMany g_isMeasured g_row u26) H := hP
    have hD : va_D A (w_X8_now Y q q_row q_isKept q_text q_seenFold q_seenSpan q_readLong q_marks q_isMeasured q_waysAre q_haveSpan g_links g_undos g_length g_seenMany g_trace g_at g_behind g_number g_readLinks g_readFolded g_readStiff g_wayMany g_isMeasured g_row u26) := hD
    exact ret_i (g_isMeasured, u26) hx hb hr hlocks hK hP hD hS h dX8_now_86
  by_cases c16_5 : x1 = (5 : Int32)
  · have h := h.2.2.2.2.2.1 c16_5
    refine lv_tableIn (off := (86)) (tgt := 87) hx hb dX8_now_1 (by rw [c16_5]; decide) (by rw [c16_5]; decide) (by rw [c16_5]; rfl) (by decide) ?_
    refine lv_aload_n hx hb dX8_now_87 rfl (lv_at hl 0 rfl) ?_
    have hp : Pt (w_X8_now Y q q_row q_isKept q_text q_seenFold q_seenSpan q_readLong q_marks q_isMeasured q_waysAre q_haveSpan g_links g_undos g_length g_seenMany g_trace g_at g_behind g_number g_readLinks g_readFolded g_readStiff g_wayMany g_isMeasured g_row g_marks) (w_X8_mostEnd Y q q_row q_isKept q_text q_seenFold q_seenSpan q_readLong q_marks q_isMeasured q_waysAre q_haveSpan g_links g_undos g_length g_seenMany g_trace g_at g_behind g_number g_readLinks g_readFolded g_readStiff g_wayMany g_row g_marks) [0, 2, 3] := ⟨rfl, by decide +kernel⟩
    refine go_i hp hP hD hS hA (fun _ => rfl) (va_runV (As := []) (rest := []) ⟨hx, hb, hml, hown, hts⟩ (c_X8_mostEnd h _) (cwV 0 hts gX8_now_X8_mostEnd rfl rfl rfl (by decide +kernel) ⟨Nat.le_of_ble_eq_true rfl, Nat.le_of_ble_eq_true rfl⟩) (pre_V (b := q) (q0 := 0) (ci := 8) (q := (RX8, TX8, 22)) hp hK hN hP hD rfl rfl) rfl rfl hl.1 rfl (lv_room (Nat.le_of_ble_eq_true rfl)) dX8_now_88 ⟨Nat.le_of_ble_eq_true rfl, Nat.le_of_ble_eq_true rfl⟩) (fun r27 u H locs h hP hD hS => ?_)
    obtain ⟨u28, rfl⟩ : ∃ z, z = u := ⟨_, rfl⟩
    try dsimp only at h
    have hP : va_P D vwCl (w_X8_now Y q q_row q_isKept q_text q_seenFold q_seenSpan q_readLong q_marks q_isMeasured q_waysAre q_haveSpan g_links g_undos g_length g_seenMany g_trace g_at g_behind g_number g_readLinks g_readFolded g_readStiff g_wayMany g_isMeasured g_row u28) H := hP
    have hD : va_D A (w_X8_now Y q q_row q_isKept q_text q_seenFold q_seenSpan q_readLong q_marks q_isMeasured q_waysAre q_haveSpan g_links g_undos g_length g_seenMany g_trace g_at g_behind g_number g_readLinks g_readFolded g_readStiff g_wayMany g_isMeasured g_row u28) := hD
    exact ret_i (g_isMeasured, u28) hx hb hr hlocks hK hP hD hS h dX8_now_91
  by_cases c16_6 : x1 = (6 : Int32)
  · have h := h.2.2.2.2.2.2.1 c16_6
    refine lv_tableIn (off := (91)) (tgt := 92) hx hb dX8_now_1 (by rw [c16_6]; decide) (by rw [c16_6]; decide) (by rw [c16_6]; rfl) (by decide) ?_
    refine lv_aload_n hx hb dX8_now_92 rfl (lv_at hl 0 rfl) ?_
    have hp : Pt (w_X8_now Y q q_row q_isKept q_text q_seenFold q_seenSpan q_readLong q_marks q_isMeasured q_waysAre q_haveSpan g_links g_undos g_length g_seenMany g_trace g_at g_behind g_number g_readLinks g_readFolded g_readStiff g_wayMany g_isMeasured g_row g_marks) (w_X8_gap Y q q_row q_isKept q_text q_seenFold q_seenSpan q_readLong q_marks q_isMeasured q_waysAre q_haveSpan g_links g_undos g_length g_seenMany g_trace g_at g_behind g_number g_readLinks g_readFolded g_readStiff g_wayMany g_isMeasured g_row g_marks) [0, 1, 2, 3] := ⟨rfl, by decide +kernel⟩
    refine go_i hp hP hD hS hA (fun _ => rfl) (va_runV (As := []) (rest := []) ⟨hx, hb, hml, hown, hts⟩ (c_X8_gap h _) (cwV 0 hts gX8_now_X8_gap rfl rfl rfl (by decide +kernel) ⟨Nat.le_of_ble_eq_true rfl, Nat.le_of_ble_eq_true rfl⟩) (pre_V (b := q) (q0 := 0) (ci := 8) (q := (RX8, TX8, 22)) hp hK hN hP hD rfl rfl) rfl rfl hl.1 rfl (lv_room (Nat.le_of_ble_eq_true rfl)) dX8_now_93 ⟨Nat.le_of_ble_eq_true rfl, Nat.le_of_ble_eq_true rfl⟩) (fun r29 u H locs h hP hD hS => ?_)
    obtain ⟨u30, u31⟩ := u
    try dsimp only at h
    have hP : va_P D vwCl (w_X8_now Y q q_row q_isKept q_text q_seenFold q_seenSpan q_readLong q_marks q_isMeasured q_waysAre q_haveSpan g_links g_undos g_length g_seenMany g_trace g_at g_behind g_number g_readLinks g_readFolded g_readStiff g_wayMany u30 g_row u31) H := hP
    have hD : va_D A (w_X8_now Y q q_row q_isKept q_text q_seenFold q_seenSpan q_readLong q_marks q_isMeasured q_waysAre q_haveSpan g_links g_undos g_length g_seenMany g_trace g_at g_behind g_number g_readLinks g_readFolded g_readStiff g_wayMany u30 g_row u31) := hD
    exact ret_i (u30, u31) hx hb hr hlocks hK hP hD hS h dX8_now_96
  by_cases c16_7 : x1 = (7 : Int32)
  · have h := h.2.2.2.2.2.2.2.1 c16_7
    refine lv_tableIn (off := (96)) (tgt := 97) hx hb dX8_now_1 (by rw [c16_7]; decide) (by rw [c16_7]; decide) (by rw [c16_7]; rfl) (by decide) ?_
    refine lv_aload_n hx hb dX8_now_97 rfl (lv_at hl 0 rfl) ?_
    refine va_get (D := D) (ci := 8) (v := .int g_undos) (C := RX8) (T := TX8) (N := 22) hx hb hts in_X8_now_X8 hown hK hP 0 rfl rfl 2 (by decide) (k_X8_now_f102 hts) (fun _ h9 => h9) rfl dX8_now_98 ?_
    exact ret_i (g_isMeasured, g_marks) hx hb hr hlocks hK hP hD hS h dX8_now_101
  have h := h.2.2.2.2.2.2.2.2 c16_0 c16_1 c16_2 c16_3 c16_4 c16_5 c16_6 c16_7
  refine lv_tableOut (tgt := 102) hx hb dX8_now_1 (by have := lv_neT (a := 0) c16_0 (by decide); have := lv_neT (a := 1) c16_1 (by decide); have := lv_neT (a := 2) c16_2 (by decide); have := lv_neT (a := 3) c16_3 (by decide); have := lv_neT (a := 4) c16_4 (by decide); have := lv_neT (a := 5) c16_5 (by decide); have := lv_neT (a := 6) c16_6 (by decide); have := lv_neT (a := 7) c16_7 (by decide); omega) (by decide) ?_
  refine lv_iconst (v := (-1)) hx hb dX8_now_102 (by decide) ?_
  exact ret_i (g_isMeasured, g_marks) hx hb hr hlocks hK hP hD hS h dX8_now_103
abbrev rm_X8_keepPast : Room := { frames := 1, cells := 0, slots := 0, locals := 23 }
theorem in_X8_keepPast_X8 : ∀ w ∈ wsX80, w ∈ wsX8_keepPast := fun _ h => List.mem_cons_of_mem _ (List.mem_append_right _ h)
theorem k_X8_keepPast_f102 {s : State} {args : Array Value} (hts : ∀ w ∈ wsX8_keepPast, w.before args s = true) : (Cond.fieldLink RX8 102 "FoldRuleModel" "undos" "I").before args s = true := hts _ (by decide +kernel)
theorem k_X8_keepPast_f7 {s : State} {args : Array Value} (hts : ∀ w ∈ wsX8_keepPast, w.before args s = true) : (Cond.fieldLink RX8 7 "FoldRuleModel" "row" "[I").before args s = true := hts _ (by decide +kernel)
set_option maxHeartbeats 4000000 in
set_option maxRecDepth 100000 in
theorem L_X8_keepPast_11 {p : Program} {l : Launch} {e : Env} {s : State} {m : MethodId} {args : Array Value} {below : List Frame} {meth : Method} {c : Code} {D : va_G} {Y : ClassId × ClassId × ClassId} {A : Nat → Prop} {q q_row q_isKept q_text q_seenFold q_seenSpan q_readLong q_marks q_isMeasured q_waysAre q_haveSpan : Nat} {g_links g_undos g_length g_seenMany : Int32} {g_trace : Int64} {g_at g_behind g_number g_readLinks g_readFolded g_readStiff g_wayMany : Int32} {Q : Int32 → (Nat → Int32) → Prop} (C : Ctx p s m args meth c cX8_keepPast 2 none wsX8_keepPast RX8) (hK : va_K D vwCl (tyS Y) s) (hA : ∀ q, s.heap.size ≤ q → A q) : ∀ (n : Nat) (x1 : Int32) (g_row : Nat → Int32), itr2 (B_X8_keepPast_11 g_undos Q) n x1 g_row → ∀ (H : Heap) (locs : List Loc) (ls : Array Slot), va_P D vwCl (w_X8_keepPast Y q q_row q_isKept q_text q_seenFold q_seenSpan q_readLong q_marks q_isMeasured q_waysAre q_haveSpan g_links g_undos g_length g_seenMany g_trace g_at g_behind g_number g_readLinks g_readFolded g_readStiff g_wayMany g_row) H → va_D A (w_X8_keepPast Y q q_row q_isKept q_text q_seenFold q_seenSpan q_readLong q_marks q_isMeasured q_waysAre q_haveSpan g_links g_undos g_length g_seenMany g_trace g_at g_behind g_number g_readLinks g_readFolded g_readStiff g_wayMany g_row) → va_S A s.heap H locs → lv_has ls 2 [(0, .ref q), (1, .int x1)] → W p l e rm_X8_keepPast s m args below meth c H locs 0 0 (QV below args s D Y A (fun (u : Int32 × (Nat → Int32)) => Q u.1 u.2) (fun u : Int32 × (Nat → Int32) => (w_X8_keepPast Y q q_row q_isKept q_text q_seenFold q_seenSpan q_readLong q_marks q_isMeasured q_waysAre q_haveSpan g_links u.1 g_length g_seenMany g_trace g_at g_behind g_number g_readLinks g_readFolded g_readStiff g_wayMany u.2))) (F0 m 11 ls []) := by
  intro n
  induction n with
  | zero => intro x1 g_row h; exact False.elim h
  | succ n ih =>
    intro x1 g_row h H locs ls hP hD hS hl
    obtain ⟨⟨hx, hb, hml, hown, hts⟩, hr, hlocks, hN⟩ := id C
    have h : B_X8_keepPast_11 g_undos Q (itr2 (B_X8_keepPast_11 g_undos Q) n) x1 g_row := h
    unfold B_X8_keepPast_11 at h
    refine lv_iload_n hx hb dX8_keepPast_11 rfl (lv_at hl 1 rfl) ?_
    refine lv_bipush (v := 99) hx hb dX8_keepPast_12 (by decide) ?_
    refine lv_icmp_ge (tgt := 41) hx hb dX8_keepPast_14 (by decide) (fun c8 => ?_) (fun c8 => ?_)
    · have h := h.1 c8
      refine lv_aload_n hx hb dX8_keepPast_41 rfl (lv_at hl 0 rfl) ?_
      refine lv_dup hx hb dX8_keepPast_42 rfl ?_
      refine va_get (D := D) (ci := 8) (v := .int g_undos) (C := RX8) (T := TX8) (N := 22) hx hb hts in_X8_keepPast_X8 hown hK hP 0 rfl rfl 2 (by decide) (k_X8_keepPast_f102 hts) (fun _ h9 => h9) rfl dX8_keepPast_43 ?_
      refine lv_iconst (v := 1) hx hb dX8_keepPast_46 (by decide) ?_
      refine lv_isub hx hb dX8_keepPast_47 ?_
      refine lv_topi (fun z9 ez9 => ?_)
      have h := h z9 ez9
      refine va_put (D := D) (ci := 8) (v := .int z9) (ty := .int) (C := RX8) (T := TX8) (N := 22) hx hb hts in_X8_keepPast_X8 tyX8 tyX8_ok nmX8 hown hK hP hD hS 0 rfl rfl 2 (by decide) (k_X8_keepPast_f102 hts) (fun _ h9 => h9) rfl (by decide +kernel) rfl rfl (Nat.le_of_ble_eq_true rfl) dX8_keepPast_48 (fun H locs hP hD hS => ?_)
      have hP : va_P D vwCl (w_X8_keepPast Y q q_row q_isKept q_text q_seenFold q_seenSpan q_readLong q_marks q_isMeasured q_waysAre q_haveSpan g_links z9 g_length g_seenMany g_trace g_at g_behind g_number g_readLinks g_readFolded g_readStiff g_wayMany g_row) H := hP
      have hD : va_D A (w_X8_keepPast Y q q_row q_isKept q_text q_seenFold q_seenSpan q_readLong q_marks q_isMeasured q_waysAre q_haveSpan g_links z9 g_length g_seenMany g_trace g_at g_behind g_number g_readLinks g_readFolded g_readStiff g_wayMany g_row) := hD
      refine lv_aload_n hx hb dX8_keepPast_51 rfl (lv_at hl 0 rfl) ?_
      refine lv_iconst (v := 0) hx hb dX8_keepPast_52 (by decide) ?_
      refine lv_bipush (v := 11) hx hb dX8_keepPast_53 (by decide) ?_
      refine lv_bipush (v := 11) hx hb dX8_keepPast_55 (by decide) ?_
      refine lv_aload_n hx hb dX8_keepPast_57 rfl (lv_at hl 0 rfl) ?_
      refine va_get (D := D) (ci := 8) (v := .int z9) (C := RX8) (T := TX8) (N := 22) hx hb hts in_X8_keepPast_X8 hown hK hP 0 rfl rfl 2 (by decide) (k_X8_keepPast_f102 hts) (fun _ h9 => h9) rfl dX8_keepPast_58 ?_
      refine lv_imul hx hb dX8_keepPast_61 ?_
      refine lv_iadd hx hb dX8_keepPast_62 ?_
      have hp : Pt (w_X8_keepPast Y q q_row q_isKept q_text q_seenFold q_seenSpan q_readLong q_marks q_isMeasured q_waysAre q_haveSpan g_links z9 g_length g_seenMany g_trace g_at g_behind g_number g_readLinks g_readFolded g_readStiff g_wayMany g_row) (w_X8_copyRow Y q q_row q_isKept q_text q_seenFold q_seenSpan q_readLong q_marks q_isMeasured q_waysAre q_haveSpan g_links z9 g_length g_seenMany g_trace g_at g_behind g_number g_readLinks g_readFolded g_readStiff g_wayMany g_row) [0, 1] := ⟨rfl, by decide +kernel⟩
      refine go_v hp hP hD hS hA (fun _ => rfl) (va_runV (As := [.int (0 : Int32), .int ((11 : Int32) + ((11 : Int32) * z9))]) (rest := []) ⟨hx, hb, hml, hown, hts⟩ (c_X8_copyRow h _) (cwV 2 hts gX8_keepPast_X8_copyRow rfl rfl rfl (by decide +kernel) ⟨Nat.le_of_ble_eq_true rfl, Nat.le_of_ble_eq_true rfl⟩) (pre_V (b := q) (q0 := 0) (ci := 8) (q := (RX8, TX8, 22)) hp hK hN hP hD rfl rfl) rfl rfl hl.1 rfl (lv_room (Nat.le_of_ble_eq_true rfl)) dX8_keepPast_63 ⟨Nat.le_of_ble_eq_true rfl, Nat.le_of_ble_eq_true rfl⟩) (fun u H locs h hP hD hS => ?_)
      obtain ⟨u11, rfl⟩ : ∃ z, z = u := ⟨_, rfl⟩
      try dsimp only at h
      have hP : va_P D vwCl (w_X8_keepPast Y q q_row q_isKept q_text q_seenFold q_seenSpan q_readLong q_marks q_isMeasured q_waysAre q_haveSpan g_links z9 g_length g_seenMany g_trace g_at g_behind g_number g_readLinks g_readFolded g_readStiff g_wayMany u11) H := hP
      have hD : va_D A (w_X8_keepPast Y q q_row q_isKept q_text q_seenFold q_seenSpan q_readLong q_marks q_isMeasured q_waysAre q_haveSpan g_links z9 g_length g_seenMany g_trace g_at g_behind g_number g_readLinks g_readFolded g_readStiff g_wayMany u11) := hD
      refine lv_aload_n hx hb dX8_keepPast_66 rfl (lv_at hl 0 rfl) ?_
      refine lv_dup hx hb dX8_keepPast_67 rfl ?_
      refine va_get (D := D) (ci := 8) (v := .int z9) (C := RX8) (T := TX8) (N := 22) hx hb hts in_X8_keepPast_X8 hown hK hP 0 rfl rfl 2 (by decide) (k_X8_keepPast_f102 hts) (fun _ h9 => h9) rfl dX8_keepPast_68 ?_
      refine lv_iconst (v := 1) hx hb dX8_keepPast_71 (by decide) ?_
      refine lv_iadd hx hb dX8_keepPast_72 ?_
      refine lv_topi (fun z12 ez12 => ?_)
      have h := h z12 ez12
      refine va_put (D := D) (ci := 8) (v := .int z12) (ty := .int) (C := RX8) (T := TX8) (N := 22) hx hb hts in_X8_keepPast_X8 tyX8 tyX8_ok nmX8 hown hK hP hD hS 0 rfl rfl 2 (by decide) (k_X8_keepPast_f102 hts) (fun _ h9 => h9) rfl (by decide +kernel) rfl rfl (Nat.le_of_ble_eq_true rfl) dX8_keepPast_73 (fun H locs hP hD hS => ?_)
      have hP : va_P D vwCl (w_X8_keepPast Y q q_row q_isKept q_text q_seenFold q_seenSpan q_readLong q_marks q_isMeasured q_waysAre q_haveSpan g_links z12 g_length g_seenMany g_trace g_at g_behind g_number g_readLinks g_readFolded g_readStiff g_wayMany u11) H := hP
      have hD : va_D A (w_X8_keepPast Y q q_row q_isKept q_text q_seenFold q_seenSpan q_readLong q_marks q_isMeasured q_waysAre q_haveSpan g_links z12 g_length g_seenMany g_trace g_at g_behind g_number g_readLinks g_readFolded g_readStiff g_wayMany u11) := hD
      exact ret_v (z12, u11) hx hb hr hlocks hK hP hD hS h dX8_keepPast_76
    · have h := h.2 c8
      refine lv_aload_n hx hb dX8_keepPast_17 rfl (lv_at hl 0 rfl) ?_
      refine va_get (D := D) (ci := 8) (v := .ref q_row) (C := RX8) (T := TX8) (N := 22) hx hb hts in_X8_keepPast_X8 hown hK hP 0 rfl rfl 0 (by decide) (k_X8_keepPast_f7 hts) (fun _ h9 => h9) rfl dX8_keepPast_18 ?_
      refine lv_bipush (v := 11) hx hb dX8_keepPast_21 (by decide) ?_
      refine lv_iload_n hx hb dX8_keepPast_23 rfl (lv_at hl 1 rfl) ?_
      refine lv_iadd hx hb dX8_keepPast_24 ?_
      refine lv_aload_n hx hb dX8_keepPast_25 rfl (lv_at hl 0 rfl) ?_
      refine va_get (D := D) (ci := 8) (v := .ref q_row) (C := RX8) (T := TX8) (N := 22) hx hb hts in_X8_keepPast_X8 hown hK hP 0 rfl rfl 0 (by decide) (k_X8_keepPast_f7 hts) (fun _ h9 => h9) rfl dX8_keepPast_26 ?_
      refine lv_bipush (v := 22) hx hb dX8_keepPast_29 (by decide) ?_
      refine lv_iload_n hx hb dX8_keepPast_31 rfl (lv_at hl 1 rfl) ?_
      refine lv_iadd hx hb dX8_keepPast_32 ?_
      obtain ⟨hin, h⟩ := h
      refine va_iald hx hb hK hP 1 0 rfl rfl hin dX8_keepPast_33 ?_
      refine lv_topi (fun z13 ez13 => ?_)
      have h := h z13 ez13
      obtain ⟨hin, h⟩ := h
      refine va_iast hx hb hK hP hD hS 1 0 rfl rfl hin dX8_keepPast_34 (fun H locs hP hD hS => ?_)
      have hP : va_P D vwCl (w_X8_keepPast Y q q_row q_isKept q_text q_seenFold q_seenSpan q_readLong q_marks q_isMeasured q_waysAre q_haveSpan g_links g_undos g_length g_seenMany g_trace g_at g_behind g_number g_readLinks g_readFolded g_readStiff g_wayMany (upd g_row (((11 : Int32) + x1)).toNatClampNeg z13)) H := hP
      have hD : va_D A (w_X8_keepPast Y q q_row q_isKept q_text q_seenFold q_seenSpan q_readLong q_marks q_isMeasured q_waysAre q_haveSpan g_links g_undos g_length g_seenMany g_trace g_at g_behind g_number g_readLinks g_readFolded g_readStiff g_wayMany (upd g_row (((11 : Int32) + x1)).toNatClampNeg z13)) := hD
      obtain ⟨z14, ez14⟩ : ∃ y : Int32, y = (x1 + (1 : Int32)) := ⟨_, rfl⟩
      have h := h z14 ez14
      refine lv_iinc (v := z14) (lv' := [(1, .int z14), (0, .ref q)]) hx hb dX8_keepPast_35 hl (k := 1) rfl (by rw [ez14]; rfl) (by decide) rfl (fun ls hl => ?_)
      refine lv_goto (tgt := 11) hx hb dX8_keepPast_38 (by decide) ?_
      exact ih _ _ h _ _ _ hP hD hS (lv_sub hl [1, 0] rfl)
set_option maxHeartbeats 4000000 in
set_option maxRecDepth 100000 in
theorem c_X8_keepPast {l : Launch} {D : va_G} {Y : ClassId × ClassId × ClassId} {q q_row q_isKept q_text q_seenFold q_seenSpan q_readLong q_marks q_isMeasured q_waysAre q_haveSpan : Nat} {g_links g_undos g_length g_seenMany : Int32} {g_trace : Int64} {g_at g_behind g_number g_readLinks g_readFolded g_readStiff g_wayMany : Int32} {g_row : Nat → Int32} {Q : Int32 → (Nat → Int32) → Prop} (h : wp_X8_keepPast g_undos g_row Q) (sz : Nat) : MtV l yX8_keepPast wsX8_keepPast rm_X8_keepPast [.ref q] D Y (w_X8_keepPast Y q q_row q_isKept q_text q_seenFold q_seenSpan q_readLong q_marks q_isMeasured q_waysAre q_haveSpan g_links g_undos g_length g_seenMany g_trace g_at g_behind g_number g_readLinks g_readFolded g_readStiff g_wayMany g_row) (fun (u : Int32 × (Nat → Int32)) => Q u.1 u.2) (fun u : Int32 × (Nat → Int32) => (w_X8_keepPast Y q q_row q_isKept q_text q_seenFold q_seenSpan q_readLong q_marks q_isMeasured q_waysAre q_haveSpan g_links u.1 g_length g_seenMany g_trace g_at g_behind g_number g_readLinks g_readFolded g_readStiff g_wayMany u.2)) sz := by
  refine ct_v (cc := cX8_keepPast) (nL := 2) (ret := none) (by decide) rfl (Nat.le_of_ble_eq_true rfl) ?_ sz
  intro p e s m below meth c A ls C hK hA hP hD hS hl
  obtain ⟨⟨hx, hb, hml, hown, hts⟩, hr, hlocks, hN⟩ := id C
  have hown : s.vm.findClass RX8 = some m.cls := hown
  have hl : lv_has ls 2 [(0, .ref q)] := hl
  unfold wp_X8_keepPast at h
  refine lv_aload_n hx hb dX8_keepPast_0 rfl (lv_at hl 0 rfl) ?_
  refine va_get (D := D) (ci := 8) (v := .int g_undos) (C := RX8) (T := TX8) (N := 22) hx hb hts in_X8_keepPast_X8 hown hK hP 0 rfl rfl 2 (by decide) (k_X8_keepPast_f102 hts) (fun _ h9 => h9) rfl dX8_keepPast_1 ?_
  refine lv_bipush (v := 10) hx hb dX8_keepPast_4 (by decide) ?_
  refine lv_icmp_ne (tgt := 51) hx hb dX8_keepPast_6 (by decide) (fun c15 => ?_) (fun c15 => ?_)
  · have h := h.1 c15
    refine lv_aload_n hx hb dX8_keepPast_51 rfl (lv_at hl 0 rfl) ?_
    refine lv_iconst (v := 0) hx hb dX8_keepPast_52 (by decide) ?_
    refine lv_bipush (v := 11) hx hb dX8_keepPast_53 (by decide) ?_
    refine lv_bipush (v := 11) hx hb dX8_keepPast_55 (by decide) ?_
    refine lv_aload_n hx hb dX8_keepPast_57 rfl (lv_at hl 0 rfl) ?_
    refine va_get (D := D) (ci := 8) (v := .int g_undos) (C := RX8) (T := TX8) (N := 22) hx hb hts in_X8_keepPast_X8 hown hK hP 0 rfl rfl 2 (by decide) (k_X8_keepPast_f102 hts) (fun _ h9 => h9) rfl dX8_keepPast_58 ?_
    refine lv_imul hx hb dX8_keepPast_61 ?_
    refine lv_iadd hx hb dX8_keepPast_62 ?_
    have hp : Pt (w_X8_keepPast Y q q_row q_isKept q_text q_seenFold q_seenSpan q_readLong q_marks q_isMeasured q_waysAre q_haveSpan g_links g_undos g_length g_seenMany g_trace g_at g_behind g_number g_readLinks g_readFolded g_readStiff g_wayMany g_row) (w_X8_copyRow Y q q_row q_isKept q_text q_seenFold q_seenSpan q_readLong q_marks q_isMeasured q_waysAre q_haveSpan g_links g_undos g_length g_seenMany g_trace g_at g_behind g_number g_readLinks g_readFolded g_readStiff g_wayMany g_row) [0, 1] := ⟨rfl, by decide +kernel⟩
    refine go_v hp hP hD hS hA (fun _ => rfl) (va_runV (As := [.int (0 : Int32), .int ((11 : Int32) + ((11 : Int32) * g_undos))]) (rest := []) ⟨hx, hb, hml, hown, hts⟩ (c_X8_copyRow h _) (cwV 2 hts gX8_keepPast_X8_copyRow rfl rfl rfl (by decide +kernel) ⟨Nat.le_of_ble_eq_true rfl, Nat.le_of_ble_eq_true rfl⟩) (pre_V (b := q) (q0 := 0) (ci := 8) (q := (RX8, TX8, 22)) hp hK hN hP hD rfl rfl) rfl rfl hl.1 rfl (lv_room (Nat.le_of_ble_eq_true rfl)) dX8_keepPast_63 ⟨Nat.le_of_ble_eq_true rfl, Nat.le_of_ble_eq_true rfl⟩) (fun u H locs h hP hD hS => ?_)
    obtain ⟨u17, rfl⟩ : ∃ z, z = u := ⟨_, rfl⟩
    try dsimp only at h
    have hP : va_P D vwCl (w_X8_keepPast Y q q_row q_isKept q_text q_seenFold q_seenSpan q_readLong q_marks q_isMeasured q_waysAre q_haveSpan g_links g_undos g_length g_seenMany g_trace g_at g_behind g_number g_readLinks g_readFolded g_readStiff g_wayMany u17) H := hP
    have hD : va_D A (w_X8_keepPast Y q q_row q_isKept q_text q_seenFold q_seenSpan q_readLong q_marks q_isMeasured q_waysAre q_haveSpan g_links g_undos g_length g_seenMany g_trace g_at g_behind g_number g_readLinks g_readFolded g_readStiff g_wayMany u17) := hD
    refine lv_aload_n hx hb dX8_keepPast_66 rfl (lv_at hl 0 rfl) ?_
    refine lv_dup hx hb dX8_keepPast_67 rfl ?_
    refine va_get (D := D) (ci := 8) (v := .int g_undos) (C := RX8) (T := TX8) (N := 22) hx hb hts in_X8_keepPast_X8 hown hK hP 0 rfl rfl 2 (by decide) (k_X8_keepPast_f102 hts) (fun _ h9 => h9) rfl dX8_keepPast_68 ?_
    refine lv_iconst (v := 1) hx hb dX8_keepPast_71 (by decide) ?_
    refine lv_iadd hx hb dX8_keepPast_72 ?_
    refine lv_topi (fun z18 ez18 => ?_)
    have h := h z18 ez18
    refine va_put (D := D) (ci := 8) (v := .int z18) (ty := .int) (C := RX8) (T := TX8) (N := 22) hx hb hts in_X8_keepPast_X8 tyX8 tyX8_ok nmX8 hown hK hP hD hS 0 rfl rfl 2 (by decide) (k_X8_keepPast_f102 hts) (fun _ h9 => h9) rfl (by decide +kernel) rfl rfl (Nat.le_of_ble_eq_true rfl) dX8_keepPast_73 (fun H locs hP hD hS => ?_)
    have hP : va_P D vwCl (w_X8_keepPast Y q q_row q_isKept q_text q_seenFold q_seenSpan q_readLong q_marks q_isMeasured q_waysAre q_haveSpan g_links z18 g_length g_seenMany g_trace g_at g_behind g_number g_readLinks g_readFolded g_readStiff g_wayMany u17) H := hP
    have hD : va_D A (w_X8_keepPast Y q q_row q_isKept q_text q_seenFold q_seenSpan q_readLong q_marks q_isMeasured q_waysAre q_haveSpan g_links z18 g_length g_seenMany g_trace g_at g_behind g_number g_readLinks g_readFolded g_readStiff g_wayMany u17) := hD
    exact ret_v (z18, u17) hx hb hr hlocks hK hP hD hS h dX8_keepPast_76
  · have h := h.2 c15
    refine lv_iconst (v := 0) hx hb dX8_keepPast_9 (by decide) ?_
    refine lv_istore_n (lv' := [(1, .int (0 : Int32)), (0, .ref q)]) hx hb dX8_keepPast_10 rfl hl (by decide) rfl (fun ls hl => ?_)
    obtain ⟨n, h⟩ := h
    exact L_X8_keepPast_11 C hK hA  n _ _ h _ _ _ hP hD hS (lv_sub hl [1, 0] rfl)
abbrev rm_X8_bends : Room := { frames := 3, cells := 0, slots := 0, locals := 67 }
theorem in_X8_bends_X8 : ∀ w ∈ wsX80, w ∈ wsX8_bends := fun _ h => List.mem_cons_of_mem _ (List.mem_append_right _ h)
theorem k_X8_bends_f7 {s : State} {args : Array Value} (hts : ∀ w ∈ wsX8_bends, w.before args s = true) : (Cond.fieldLink RX8 7 "FoldRuleModel" "row" "[I").before args s = true := hts _ (by decide +kernel)
set_option maxHeartbeats 4000000 in
set_option maxRecDepth 100000 in
theorem c_X8_bends {l : Launch} {D : va_G} {Y : ClassId × ClassId × ClassId} {q q_row q_isKept q_text q_seenFold q_seenSpan q_readLong q_marks q_isMeasured q_waysAre q_haveSpan : Nat} {g_links g_undos g_length g_seenMany : Int32} {g_trace : Int64} {g_at g_behind g_number g_readLinks g_readFolded g_readStiff g_wayMany : Int32} {g_row g_marks : Nat → Int32} {x1 : Int32} {Q : Int32 → Int32 → (Nat → Int32) → (Nat → Int32) → Prop} (h : wp_X8_bends g_links g_undos g_row g_marks x1 Q) (sz : Nat) : MtI l yX8_bends wsX8_bends rm_X8_bends [.ref q, .int x1] D Y (w_X8_bends Y q q_row q_isKept q_text q_seenFold q_seenSpan q_readLong q_marks q_isMeasured q_waysAre q_haveSpan g_links g_undos g_length g_seenMany g_trace g_at g_behind g_number g_readLinks g_readFolded g_readStiff g_wayMany g_row g_marks) (fun r (u : Int32 × (Nat → Int32) × (Nat → Int32)) => Q r u.1 u.2.1 u.2.2) (fun u : Int32 × (Nat → Int32) × (Nat → Int32) => (w_X8_bends Y q q_row q_isKept q_text q_seenFold q_seenSpan q_readLong q_marks q_isMeasured q_waysAre q_haveSpan g_links u.1 g_length g_seenMany g_trace g_at g_behind g_number g_readLinks g_readFolded g_readStiff g_wayMany u.2.1 u.2.2)) sz := by
  refine ct_i (cc := cX8_bends) (nL := 2) (ret := (some .int)) (by decide) rfl (Nat.le_of_ble_eq_true rfl) ?_ sz
  intro p e s m below meth c A ls C hK hA hP hD hS hl
  obtain ⟨⟨hx, hb, hml, hown, hts⟩, hr, hlocks, hN⟩ := id C
  have hown : s.vm.findClass RX8 = some m.cls := hown
  have hl : lv_has ls 2 [(0, .ref q), (1, .int x1)] := hl
  unfold wp_X8_bends at h
  refine lv_aload_n hx hb dX8_bends_0 rfl (lv_at hl 0 rfl) ?_
  refine lv_iload_n hx hb dX8_bends_1 rfl (lv_at hl 1 rfl) ?_
  have hp : Pt (w_X8_bends Y q q_row q_isKept q_text q_seenFold q_seenSpan q_readLong q_marks q_isMeasured q_waysAre q_haveSpan g_links g_undos g_length g_seenMany g_trace g_at g_behind g_number g_readLinks g_readFolded g_readStiff g_wayMany g_row g_marks) (w_X8_isJoint Y q q_row q_isKept q_text q_seenFold q_seenSpan q_readLong q_marks q_isMeasured q_waysAre q_haveSpan g_links g_undos g_length g_seenMany g_trace g_at g_behind g_number g_readLinks g_readFolded g_readStiff g_wayMany) [0] := ⟨rfl, by decide +kernel⟩
  refine go_i hp hP hD hS hA (fun _ => rfl) (va_runV (As := [.int x1]) (rest := []) ⟨hx, hb, hml, hown, hts⟩ (c_X8_isJoint h _) (cwV 1 hts gX8_bends_X8_isJoint rfl rfl rfl (by decide +kernel) ⟨Nat.le_of_ble_eq_true rfl, Nat.le_of_ble_eq_true rfl⟩) (pre_V (b := q) (q0 := 0) (ci := 8) (q := (RX8, TX8, 22)) hp hK hN hP hD rfl rfl) rfl rfl hl.1 rfl (lv_room (Nat.le_of_ble_eq_true rfl)) dX8_bends_2 ⟨Nat.le_of_ble_eq_true rfl, Nat.le_of_ble_eq_true rfl⟩) (fun r8 u H locs h hP hD hS => ?_)
  try dsimp only at h
  have hP : va_P D vwCl (w_X8_bends Y q q_row q_isKept q_text q_seenFold q_seenSpan q_readLong q_marks q_isMeasured q_waysAre q_haveSpan g_links g_undos g_length g_seenMany g_trace g_at g_behind g_number g_readLinks g_readFolded g_readStiff g_wayMany g_row g_marks) H := hP
  have hD : va_D A (w_X8_bends Y q q_row q_isKept q_text q_seenFold q_seenSpan q_readLong q_marks q_isMeasured q_waysAre q_haveSpan g_links g_undos g_length g_seenMany g_trace g_at g_behind g_number g_readLinks g_readFolded g_readStiff g_wayMany g_row g_marks) := hD
  refine lv_if_ne (tgt := 10) hx hb dX8_bends_5 (by decide) (fun c9 => ?_) (fun c9 => ?_)
  · have h := h.1 c9
    refine lv_aload_n hx hb dX8_bends_10 rfl (lv_at hl 0 rfl) ?_
    refine va_get (D := D) (ci := 8) (v := .ref q_row) (C := RX8) (T := TX8) (N := 22) hx hb hts in_X8_bends_X8 hown hK hP 0 rfl rfl 0 (by decide) (k_X8_bends_f7 hts) (fun _ h9 => h9) rfl dX8_bends_11 ?_
    refine lv_bipush (v := 10) hx hb dX8_bends_14 (by decide) ?_
    obtain ⟨hin, h⟩ := h
    refine va_iald hx hb hK hP 1 0 rfl rfl hin dX8_bends_16 ?_
    refine lv_iload_n hx hb dX8_bends_17 rfl (lv_at hl 1 rfl) ?_
    have hp : Pt (w_X8_bends Y q q_row q_isKept q_text q_seenFold q_seenSpan q_readLong q_marks q_isMeasured q_waysAre q_haveSpan g_links g_undos g_length g_seenMany g_trace g_at g_behind g_number g_readLinks g_readFolded g_readStiff g_wayMany g_row g_marks) (w_X8_has Y ) [] := ⟨rfl, by decide +kernel⟩
    refine go_i hp hP hD hS hA (fun _ => rfl) (va_runS (As := [.int (g_row ((10 : Int32)).toNatClampNeg), .int x1]) (rest := []) ⟨hx, hb, hml, hown, hts⟩ (c_X8_has h _) (va_cwS 2 hts gX8_bends_X8_has rfl rfl rfl (by decide +kernel) ⟨Nat.le_of_ble_eq_true rfl, Nat.le_of_ble_eq_true rfl⟩) (pre_S hp hK hN hP hD) rfl rfl hl.1 rfl (lv_room (Nat.le_of_ble_eq_true rfl)) dX8_bends_18 ⟨Nat.le_of_ble_eq_true rfl, Nat.le_of_ble_eq_true rfl⟩) (fun r10 u H locs h hP hD hS => ?_)
    try dsimp only at h
    have hP : va_P D vwCl (w_X8_bends Y q q_row q_isKept q_text q_seenFold q_seenSpan q_readLong q_marks q_isMeasured q_waysAre q_haveSpan g_links g_undos g_length g_seenMany g_trace g_at g_behind g_number g_readLinks g_readFolded g_readStiff g_wayMany g_row g_marks) H := hP
    have hD : va_D A (w_X8_bends Y q q_row q_isKept q_text q_seenFold q_seenSpan q_readLong q_marks q_isMeasured q_waysAre q_haveSpan g_links g_undos g_length g_seenMany g_trace g_at g_behind g_number g_readLinks g_readFolded g_readStiff g_wayMany g_row g_marks) := hD
    refine lv_if_eq (tgt := 27) hx hb dX8_bends_21 (by decide) (fun c11 => ?_) (fun c11 => ?_)
    · have h := h.1 c11
      refine lv_aload_n hx hb dX8_bends_27 rfl (lv_at hl 0 rfl) ?_
      have hp : Pt (w_X8_bends Y q q_row q_isKept q_text q_seenFold q_seenSpan q_readLong q_marks q_isMeasured q_waysAre q_haveSpan g_links g_undos g_length g_seenMany g_trace g_at g_behind g_number g_readLinks g_readFolded g_readStiff g_wayMany g_row g_marks) (w_X8_keepPast Y q q_row q_isKept q_text q_seenFold q_seenSpan q_readLong q_marks q_isMeasured q_waysAre q_haveSpan g_links g_undos g_length g_seenMany g_trace g_at g_behind g_number g_readLinks g_readFolded g_readStiff g_wayMany g_row) [0, 1] := ⟨rfl, by decide +kernel⟩
      refine go_v hp hP hD hS hA (fun _ => rfl) (va_runV (As := []) (rest := []) ⟨hx, hb, hml, hown, hts⟩ (c_X8_keepPast h _) (cwV 0 hts gX8_bends_X8_keepPast rfl rfl rfl (by decide +kernel) ⟨Nat.le_of_ble_eq_true rfl, Nat.le_of_ble_eq_true rfl⟩) (pre_V (b := q) (q0 := 0) (ci := 8) (q := (RX8, TX8, 22)) hp hK hN hP hD rfl rfl) rfl rfl hl.1 rfl (lv_room (Nat.le_of_ble_eq_true rfl)) dX8_bends_28 ⟨Nat.le_of_ble_eq_true rfl, Nat.le_of_ble_eq_true rfl⟩) (fun u H locs h hP hD hS => ?_)
      obtain ⟨u13, u14⟩ := u
      try dsimp only at h
      have hP : va_P D vwCl (w_X8_bends Y q q_row q_isKept q_text q_seenFold q_seenSpan q_readLong q_marks q_isMeasured q_waysAre q_haveSpan g_links u13 g_length g_seenMany g_trace g_at g_behind g_number g_readLinks g_readFolded g_readStiff g_wayMany u14 g_marks) H := hP
      have hD : va_D A (w_X8_bends Y q q_row q_isKept q_text q_seenFold q_seenSpan q_readLong q_marks q_isMeasured q_waysAre q_haveSpan g_links u13 g_length g_seenMany g_trace g_at g_behind g_number g_readLinks g_readFolded g_readStiff g_wayMany u14 g_marks) := hD
      refine lv_aload_n hx hb dX8_bends_31 rfl (lv_at hl 0 rfl) ?_
      refine va_get (D := D) (ci := 8) (v := .ref q_row) (C := RX8) (T := TX8) (N := 22) hx hb hts in_X8_bends_X8 hown hK hP 0 rfl rfl 0 (by decide) (k_X8_bends_f7 hts) (fun _ h9 => h9) rfl dX8_bends_32 ?_
      refine lv_bipush (v := 9) hx hb dX8_bends_35 (by decide) ?_
      refine lv_dup2_11 hx hb dX8_bends_37 rfl rfl ?_
      obtain ⟨hin, h⟩ := h
      refine va_iald hx hb hK hP 1 0 rfl rfl hin dX8_bends_38 ?_
      refine lv_iconst (v := 1) hx hb dX8_bends_39 (by decide) ?_
      refine lv_iload_n hx hb dX8_bends_40 rfl (lv_at hl 1 rfl) ?_
      refine lv_ishl hx hb dX8_bends_41 ?_
      refine lv_ixor hx hb dX8_bends_42 ?_
      refine lv_topi (fun z15 ez15 => ?_)
      have h := h z15 ez15
      obtain ⟨hin, h⟩ := h
      refine va_iast hx hb hK hP hD hS 1 0 rfl rfl hin dX8_bends_43 (fun H locs hP hD hS => ?_)
      have hP : va_P D vwCl (w_X8_bends Y q q_row q_isKept q_text q_seenFold q_seenSpan q_readLong q_marks q_isMeasured q_waysAre q_haveSpan g_links u13 g_length g_seenMany g_trace g_at g_behind g_number g_readLinks g_readFolded g_readStiff g_wayMany (upd u14 ((9 : Int32)).toNatClampNeg z15) g_marks) H := hP
      have hD : va_D A (w_X8_bends Y q q_row q_isKept q_text q_seenFold q_seenSpan q_readLong q_marks q_isMeasured q_waysAre q_haveSpan g_links u13 g_length g_seenMany g_trace g_at g_behind g_number g_readLinks g_readFolded g_readStiff g_wayMany (upd u14 ((9 : Int32)).toNatClampNeg z15) g_marks) := hD
      refine lv_aload_n hx hb dX8_bends_44 rfl (lv_at hl 0 rfl) ?_
      refine lv_aload_n hx hb dX8_bends_45 rfl (lv_at hl 0 rfl) ?_
      refine va_get (D := D) (ci := 8) (v := .ref q_row) (C := RX8) (T := TX8) (N := 22) hx hb hts in_X8_bends_X8 hown hK hP 0 rfl rfl 0 (by decide) (k_X8_bends_f7 hts) (fun _ h9 => h9) rfl dX8_bends_46 ?_
      refine lv_bipush (v := 9) hx hb dX8_bends_49 (by decide) ?_
      obtain ⟨hin, h⟩ := h
      refine va_iald hx hb hK hP 1 0 rfl rfl hin dX8_bends_51 ?_
      have hp : Pt (w_X8_bends Y q q_row q_isKept q_text q_seenFold q_seenSpan q_readLong q_marks q_isMeasured q_waysAre q_haveSpan g_links u13 g_length g_seenMany g_trace g_at g_behind g_number g_readLinks g_readFolded g_readStiff g_wayMany (upd u14 ((9 : Int32)).toNatClampNeg z15) g_marks) (w_X8_spanBy Y q q_row q_isKept q_text q_seenFold q_seenSpan q_readLong q_marks q_isMeasured q_waysAre q_haveSpan g_links u13 g_length g_seenMany g_trace g_at g_behind g_number g_readLinks g_readFolded g_readStiff g_wayMany g_marks (upd u14 ((9 : Int32)).toNatClampNeg z15)) [0, 2, 1] := ⟨rfl, by decide +kernel⟩
      refine go_i hp hP hD hS hA (fun _ => rfl) (va_runV (As := [.int ((upd u14 ((9 : Int32)).toNatClampNeg z15) ((9 : Int32)).toNatClampNeg)]) (rest := []) ⟨hx, hb, hml, hown, hts⟩ (c_X8_spanBy h _) (cwV 1 hts gX8_bends_X8_spanBy rfl rfl rfl (by decide +kernel) ⟨Nat.le_of_ble_eq_true rfl, Nat.le_of_ble_eq_true rfl⟩) (pre_V (b := q) (q0 := 0) (ci := 8) (q := (RX8, TX8, 22)) hp hK hN hP hD rfl rfl) rfl rfl hl.1 rfl (lv_room (Nat.le_of_ble_eq_true rfl)) dX8_bends_52 ⟨Nat.le_of_ble_eq_true rfl, Nat.le_of_ble_eq_true rfl⟩) (fun r16 u H locs h hP hD hS => ?_)
      obtain ⟨u17, rfl⟩ : ∃ z, z = u := ⟨_, rfl⟩
      try dsimp only at h
      have hP : va_P D vwCl (w_X8_bends Y q q_row q_isKept q_text q_seenFold q_seenSpan q_readLong q_marks q_isMeasured q_waysAre q_haveSpan g_links u13 g_length g_seenMany g_trace g_at g_behind g_number g_readLinks g_readFolded g_readStiff g_wayMany (upd u14 ((9 : Int32)).toNatClampNeg z15) u17) H := hP
      have hD : va_D A (w_X8_bends Y q q_row q_isKept q_text q_seenFold q_seenSpan q_readLong q_marks q_isMeasured q_waysAre q_haveSpan g_links u13 g_length g_seenMany g_trace g_at g_behind g_number g_readLinks g_readFolded g_readStiff g_wayMany (upd u14 ((9 : Int32)).toNatClampNeg z15) u17) := hD
      exact ret_i (u13, (upd u14 ((9 : Int32)).toNatClampNeg z15), u17) hx hb hr hlocks hK hP hD hS h dX8_bends_55
    · have h := h.2 c11
      refine lv_bipush (v := (-2)) hx hb dX8_bends_24 (by decide) ?_
      exact ret_i (g_undos, g_row, g_marks) hx hb hr hlocks hK hP hD hS h dX8_bends_26
  · have h := h.2 c9
    refine lv_iconst (v := (-1)) hx hb dX8_bends_8 (by decide) ?_
    exact ret_i (g_undos, g_row, g_marks) hx hb hr hlocks hK hP hD hS h dX8_bends_9
abbrev rm_X8_files : Room := { frames := 2, cells := 0, slots := 0, locals := 44 }
theorem in_X8_files_X8 : ∀ w ∈ wsX80, w ∈ wsX8_files := fun _ h => List.mem_cons_of_mem _ (List.mem_append_right _ h)
theorem k_X8_files_f7 {s : State} {args : Array Value} (hts : ∀ w ∈ wsX8_files, w.before args s = true) : (Cond.fieldLink RX8 7 "FoldRuleModel" "row" "[I").before args s = true := hts _ (by decide +kernel)
set_option maxHeartbeats 4000000 in
set_option maxRecDepth 100000 in
theorem c_X8_files {l : Launch} {D : va_G} {Y : ClassId × ClassId × ClassId} {q q_row q_isKept q_text q_seenFold q_seenSpan q_readLong q_marks q_isMeasured q_waysAre q_haveSpan : Nat} {g_links g_undos g_length g_seenMany : Int32} {g_trace : Int64} {g_at g_behind g_number g_readLinks g_readFolded g_readStiff g_wayMany : Int32} {g_row : Nat → Int32} {x1 x2 : Int32} {Q : Int32 → Int32 → (Nat → Int32) → Prop} (h : wp_X8_files g_links g_undos g_row x1 x2 Q) (sz : Nat) : MtI l yX8_files wsX8_files rm_X8_files [.ref q, .int x1, .int x2] D Y (w_X8_files Y q q_row q_isKept q_text q_seenFold q_seenSpan q_readLong q_marks q_isMeasured q_waysAre q_haveSpan g_links g_undos g_length g_seenMany g_trace g_at g_behind g_number g_readLinks g_readFolded g_readStiff g_wayMany g_row) (fun r (u : Int32 × (Nat → Int32)) => Q r u.1 u.2) (fun u : Int32 × (Nat → Int32) => (w_X8_files Y q q_row q_isKept q_text q_seenFold q_seenSpan q_readLong q_marks q_isMeasured q_waysAre q_haveSpan g_links u.1 g_length g_seenMany g_trace g_at g_behind g_number g_readLinks g_readFolded g_readStiff g_wayMany u.2)) sz := by
  refine ct_i (cc := cX8_files) (nL := 3) (ret := (some .int)) (by decide) rfl (Nat.le_of_ble_eq_true rfl) ?_ sz
  intro p e s m below meth c A ls C hK hA hP hD hS hl
  obtain ⟨⟨hx, hb, hml, hown, hts⟩, hr, hlocks, hN⟩ := id C
  have hown : s.vm.findClass RX8 = some m.cls := hown
  have hl : lv_has ls 3 [(0, .ref q), (1, .int x1), (2, .int x2)] := hl
  unfold wp_X8_files at h
  refine lv_aload_n hx hb dX8_files_0 rfl (lv_at hl 0 rfl) ?_
  refine lv_iload_n hx hb dX8_files_1 rfl (lv_at hl 1 rfl) ?_
  have hp : Pt (w_X8_files Y q q_row q_isKept q_text q_seenFold q_seenSpan q_readLong q_marks q_isMeasured q_waysAre q_haveSpan g_links g_undos g_length g_seenMany g_trace g_at g_behind g_number g_readLinks g_readFolded g_readStiff g_wayMany g_row) (w_X8_isLink Y q q_row q_isKept q_text q_seenFold q_seenSpan q_readLong q_marks q_isMeasured q_waysAre q_haveSpan g_links g_undos g_length g_seenMany g_trace g_at g_behind g_number g_readLinks g_readFolded g_readStiff g_wayMany) [0] := ⟨rfl, by decide +kernel⟩
  refine go_i hp hP hD hS hA (fun _ => rfl) (va_runV (As := [.int x1]) (rest := []) ⟨hx, hb, hml, hown, hts⟩ (c_X8_isLink h _) (cwV 1 hts gX8_files_X8_isLink rfl rfl rfl (by decide +kernel) ⟨Nat.le_of_ble_eq_true rfl, Nat.le_of_ble_eq_true rfl⟩) (pre_V (b := q) (q0 := 0) (ci := 8) (q := (RX8, TX8, 22)) hp hK hN hP hD rfl rfl) rfl rfl hl.1 rfl (lv_room (Nat.le_of_ble_eq_true rfl)) dX8_files_2 ⟨Nat.le_of_ble_eq_true rfl, Nat.le_of_ble_eq_true rfl⟩) (fun r6 u H locs h hP hD hS => ?_)
  try dsimp only at h
  have hP : va_P D vwCl (w_X8_files Y q q_row q_isKept q_text q_seenFold q_seenSpan q_readLong q_marks q_isMeasured q_waysAre q_haveSpan g_links g_undos g_length g_seenMany g_trace g_at g_behind g_number g_readLinks g_readFolded g_readStiff g_wayMany g_row) H := hP
  have hD : va_D A (w_X8_files Y q q_row q_isKept q_text q_seenFold q_seenSpan q_readLong q_marks q_isMeasured q_waysAre q_haveSpan g_links g_undos g_length g_seenMany g_trace g_at g_behind g_number g_readLinks g_readFolded g_readStiff g_wayMany g_row) := hD
  refine lv_if_eq (tgt := 18) hx hb dX8_files_5 (by decide) (fun c7 => ?_) (fun c7 => ?_)
  · have h := h.1 c7
    refine lv_iconst (v := (-1)) hx hb dX8_files_18 (by decide) ?_
    exact ret_i (g_undos, g_row) hx hb hr hlocks hK hP hD hS h dX8_files_19
  · have h := h.2 c7
    refine lv_iload_n hx hb dX8_files_8 rfl (lv_at hl 2 rfl) ?_
    refine lv_iconst (v := 1) hx hb dX8_files_9 (by decide) ?_
    refine lv_bipush (v := 19) hx hb dX8_files_10 (by decide) ?_
    have hp : Pt (w_X8_files Y q q_row q_isKept q_text q_seenFold q_seenSpan q_readLong q_marks q_isMeasured q_waysAre q_haveSpan g_links g_undos g_length g_seenMany g_trace g_at g_behind g_number g_readLinks g_readFolded g_readStiff g_wayMany g_row) (w_X8_in Y ) [] := ⟨rfl, by decide +kernel⟩
    refine go_i hp hP hD hS hA (fun _ => rfl) (va_runS (As := [.int x2, .int (1 : Int32), .int (19 : Int32)]) (rest := []) ⟨hx, hb, hml, hown, hts⟩ (c_X8_in h _) (va_cwS 3 hts gX8_files_X8_in rfl rfl rfl (by decide +kernel) ⟨Nat.le_of_ble_eq_true rfl, Nat.le_of_ble_eq_true rfl⟩) (pre_S hp hK hN hP hD) rfl rfl hl.1 rfl (lv_room (Nat.le_of_ble_eq_true rfl)) dX8_files_12 ⟨Nat.le_of_ble_eq_true rfl, Nat.le_of_ble_eq_true rfl⟩) (fun r8 u H locs h hP hD hS => ?_)
    try dsimp only at h
    have hP : va_P D vwCl (w_X8_files Y q q_row q_isKept q_text q_seenFold q_seenSpan q_readLong q_marks q_isMeasured q_waysAre q_haveSpan g_links g_undos g_length g_seenMany g_trace g_at g_behind g_number g_readLinks g_readFolded g_readStiff g_wayMany g_row) H := hP
    have hD : va_D A (w_X8_files Y q q_row q_isKept q_text q_seenFold q_seenSpan q_readLong q_marks q_isMeasured q_waysAre q_haveSpan g_links g_undos g_length g_seenMany g_trace g_at g_behind g_number g_readLinks g_readFolded g_readStiff g_wayMany g_row) := hD
    refine lv_if_ne (tgt := 20) hx hb dX8_files_15 (by decide) (fun c9 => ?_) (fun c9 => ?_)
    · have h := h.1 c9
      refine lv_aload_n hx hb dX8_files_20 rfl (lv_at hl 0 rfl) ?_
      refine va_get (D := D) (ci := 8) (v := .ref q_row) (C := RX8) (T := TX8) (N := 22) hx hb hts in_X8_files_X8 hown hK hP 0 rfl rfl 0 (by decide) (k_X8_files_f7 hts) (fun _ h9 => h9) rfl dX8_files_21 ?_
      refine lv_iconst (v := 0) hx hb dX8_files_24 (by decide) ?_
      refine lv_iload_n hx hb dX8_files_25 rfl (lv_at hl 1 rfl) ?_
      refine lv_iadd hx hb dX8_files_26 ?_
      obtain ⟨hin, h⟩ := h
      refine va_iald hx hb hK hP 1 0 rfl rfl hin dX8_files_27 ?_
      refine lv_iload_n hx hb dX8_files_28 rfl (lv_at hl 2 rfl) ?_
      refine lv_isub hx hb dX8_files_29 ?_
      refine lv_iconst (v := 1) hx hb dX8_files_30 (by decide) ?_
      refine lv_icmp_ge (tgt := 37) hx hb dX8_files_31 (by decide) (fun c10 => ?_) (fun c10 => ?_)
      · have h := h.1 c10
        refine lv_aload_n hx hb dX8_files_37 rfl (lv_at hl 0 rfl) ?_
        have hp : Pt (w_X8_files Y q q_row q_isKept q_text q_seenFold q_seenSpan q_readLong q_marks q_isMeasured q_waysAre q_haveSpan g_links g_undos g_length g_seenMany g_trace g_at g_behind g_number g_readLinks g_readFolded g_readStiff g_wayMany g_row) (w_X8_keepPast Y q q_row q_isKept q_text q_seenFold q_seenSpan q_readLong q_marks q_isMeasured q_waysAre q_haveSpan g_links g_undos g_length g_seenMany g_trace g_at g_behind g_number g_readLinks g_readFolded g_readStiff g_wayMany g_row) [0, 1] := ⟨rfl, by decide +kernel⟩
        refine go_v hp hP hD hS hA (fun _ => rfl) (va_runV (As := []) (rest := []) ⟨hx, hb, hml, hown, hts⟩ (c_X8_keepPast h _) (cwV 0 hts gX8_files_X8_keepPast rfl rfl rfl (by decide +kernel) ⟨Nat.le_of_ble_eq_true rfl, Nat.le_of_ble_eq_true rfl⟩) (pre_V (b := q) (q0 := 0) (ci := 8) (q := (RX8, TX8, 22)) hp hK hN hP hD rfl rfl) rfl rfl hl.1 rfl (lv_room (Nat.le_of_ble_eq_true rfl)) dX8_files_38 ⟨Nat.le_of_ble_eq_true rfl, Nat.le_of_ble_eq_true rfl⟩) (fun u H locs h hP hD hS => ?_)
        obtain ⟨u12, u13⟩ := u
        try dsimp only at h
        have hP : va_P D vwCl (w_X8_files Y q q_row q_isKept q_text q_seenFold q_seenSpan q_readLong q_marks q_isMeasured q_waysAre q_haveSpan g_links u12 g_length g_seenMany g_trace g_at g_behind g_number g_readLinks g_readFolded g_readStiff g_wayMany u13) H := hP
        have hD : va_D A (w_X8_files Y q q_row q_isKept q_text q_seenFold q_seenSpan q_readLong q_marks q_isMeasured q_waysAre q_haveSpan g_links u12 g_length g_seenMany g_trace g_at g_behind g_number g_readLinks g_readFolded g_readStiff g_wayMany u13) := hD
        refine lv_aload_n hx hb dX8_files_41 rfl (lv_at hl 0 rfl) ?_
        refine va_get (D := D) (ci := 8) (v := .ref q_row) (C := RX8) (T := TX8) (N := 22) hx hb hts in_X8_files_X8 hown hK hP 0 rfl rfl 0 (by decide) (k_X8_files_f7 hts) (fun _ h9 => h9) rfl dX8_files_42 ?_
        refine lv_iconst (v := 0) hx hb dX8_files_45 (by decide) ?_
        refine lv_iload_n hx hb dX8_files_46 rfl (lv_at hl 1 rfl) ?_
        refine lv_iadd hx hb dX8_files_47 ?_
        refine lv_dup2_11 hx hb dX8_files_48 rfl rfl ?_
        obtain ⟨hin, h⟩ := h
        refine va_iald hx hb hK hP 1 0 rfl rfl hin dX8_files_49 ?_
        refine lv_iload_n hx hb dX8_files_50 rfl (lv_at hl 2 rfl) ?_
        refine lv_isub hx hb dX8_files_51 ?_
        refine lv_topi (fun z14 ez14 => ?_)
        have h := h z14 ez14
        obtain ⟨hin, h⟩ := h
        refine va_iast hx hb hK hP hD hS 1 0 rfl rfl hin dX8_files_52 (fun H locs hP hD hS => ?_)
        have hP : va_P D vwCl (w_X8_files Y q q_row q_isKept q_text q_seenFold q_seenSpan q_readLong q_marks q_isMeasured q_waysAre q_haveSpan g_links u12 g_length g_seenMany g_trace g_at g_behind g_number g_readLinks g_readFolded g_readStiff g_wayMany (upd u13 (((0 : Int32) + x1)).toNatClampNeg z14)) H := hP
        have hD : va_D A (w_X8_files Y q q_row q_isKept q_text q_seenFold q_seenSpan q_readLong q_marks q_isMeasured q_waysAre q_haveSpan g_links u12 g_length g_seenMany g_trace g_at g_behind g_number g_readLinks g_readFolded g_readStiff g_wayMany (upd u13 (((0 : Int32) + x1)).toNatClampNeg z14)) := hD
        refine lv_aload_n hx hb dX8_files_53 rfl (lv_at hl 0 rfl) ?_
        refine va_get (D := D) (ci := 8) (v := .ref q_row) (C := RX8) (T := TX8) (N := 22) hx hb hts in_X8_files_X8 hown hK hP 0 rfl rfl 0 (by decide) (k_X8_files_f7 hts) (fun _ h9 => h9) rfl dX8_files_54 ?_
        refine lv_iconst (v := 0) hx hb dX8_files_57 (by decide) ?_
        refine lv_iload_n hx hb dX8_files_58 rfl (lv_at hl 1 rfl) ?_
        refine lv_iadd hx hb dX8_files_59 ?_
        obtain ⟨hin, h⟩ := h
        refine va_iald hx hb hK hP 1 0 rfl rfl hin dX8_files_60 ?_
        exact ret_i (u12, (upd u13 (((0 : Int32) + x1)).toNatClampNeg z14)) hx hb hr hlocks hK hP hD hS h dX8_files_61
      · have h := h.2 c10
        refine lv_bipush (v := (-2)) hx hb dX8_files_34 (by decide) ?_
        exact ret_i (g_undos, g_row) hx hb hr hlocks hK hP hD hS h dX8_files_36
    · have h := h.2 c9
      refine lv_iconst (v := (-1)) hx hb dX8_files_18 (by decide) ?_
      exact ret_i (g_undos, g_row) hx hb hr hlocks hK hP hD hS h dX8_files_19
abbrev rm_X8_reversed : Room := { frames := 1, cells := 0, slots := 0, locals := 21 }
theorem in_X8_reversed_X8 : ∀ w ∈ wsX80, w ∈ wsX8_reversed := fun _ h => List.mem_cons_of_mem _ (List.mem_append_right _ h)
theorem k_X8_reversed_f41 {s : State} {args : Array Value} (hts : ∀ w ∈ wsX8_reversed, w.before args s = true) : (Cond.fieldLink RX8 41 "FoldRuleModel" "links" "I").before args s = true := hts _ (by decide +kernel)
set_option maxHeartbeats 4000000 in
set_option maxRecDepth 100000 in
theorem L_X8_reversed_4 {p : Program} {l : Launch} {e : Env} {s : State} {m : MethodId} {args : Array Value} {below : List Frame} {meth : Method} {c : Code} {D : va_G} {Y : ClassId × ClassId × ClassId} {A : Nat → Prop} {q q_row q_isKept q_text q_seenFold q_seenSpan q_readLong q_marks q_isMeasured q_waysAre q_haveSpan : Nat} {g_links g_undos g_length g_seenMany : Int32} {g_trace : Int64} {g_at g_behind g_number g_readLinks g_readFolded g_readStiff g_wayMany x1 : Int32} {Q : Int32 → Prop} (C : Ctx p s m args meth c cX8_reversed 4 (some .int) wsX8_reversed RX8) (hK : va_K D vwCl (tyS Y) s) (hA : ∀ q, s.heap.size ≤ q → A q) : ∀ (n : Nat) (x2 x3 : Int32), itr2 (B_X8_reversed_4 g_links x1 Q) n x2 x3 → ∀ (H : Heap) (locs : List Loc) (ls : Array Slot), va_P D vwCl (w_X8_reversed Y q q_row q_isKept q_text q_seenFold q_seenSpan q_readLong q_marks q_isMeasured q_waysAre q_haveSpan g_links g_undos g_length g_seenMany g_trace g_at g_behind g_number g_readLinks g_readFolded g_readStiff g_wayMany) H → va_D A (w_X8_reversed Y q q_row q_isKept q_text q_seenFold q_seenSpan q_readLong q_marks q_isMeasured q_waysAre q_haveSpan g_links g_undos g_length g_seenMany g_trace g_at g_behind g_number g_readLinks g_readFolded g_readStiff g_wayMany) → va_S A s.heap H locs → lv_has ls 4 [(0, .ref q), (1, .int x1), (2, .int x2), (3, .int x3)] → W p l e rm_X8_reversed s m args below meth c H locs 0 0 (QI below args s D Y A (fun r (_ : Unit) => Q r) (fun _ : Unit => (w_X8_reversed Y q q_row q_isKept q_text q_seenFold q_seenSpan q_readLong q_marks q_isMeasured q_waysAre q_haveSpan g_links g_undos g_length g_seenMany g_trace g_at g_behind g_number g_readLinks g_readFolded g_readStiff g_wayMany))) (F0 m 4 ls []) := by
  intro n
  induction n with
  | zero => intro x2 x3 h; exact False.elim h
  | succ n ih =>
    intro x2 x3 h H locs ls hP hD hS hl
    obtain ⟨⟨hx, hb, hml, hown, hts⟩, hr, hlocks, hN⟩ := id C
    have h : B_X8_reversed_4 g_links x1 Q (itr2 (B_X8_reversed_4 g_links x1 Q) n) x2 x3 := h
    unfold B_X8_reversed_4 at h
    refine lv_iload_n hx hb dX8_reversed_4 rfl (lv_at hl 3 rfl) ?_
    refine lv_aload_n hx hb dX8_reversed_5 rfl (lv_at hl 0 rfl) ?_
    refine va_get (D := D) (ci := 8) (v := .int g_links) (C := RX8) (T := TX8) (N := 22) hx hb hts in_X8_reversed_X8 hown hK hP 0 rfl rfl 1 (by decide) (k_X8_reversed_f41 hts) (fun _ h9 => h9) rfl dX8_reversed_6 ?_
    refine lv_iconst (v := 1) hx hb dX8_reversed_9 (by decide) ?_
    refine lv_isub hx hb dX8_reversed_10 ?_
    refine lv_icmp_ge (tgt := 45) hx hb dX8_reversed_11 (by decide) (fun c6 => ?_) (fun c6 => ?_)
    · have h := h.1 c6
      refine lv_iload_n hx hb dX8_reversed_45 rfl (lv_at hl 2 rfl) ?_
      exact ret_i () hx hb hr hlocks hK hP hD hS h dX8_reversed_46
    · have h := h.2 c6
      refine lv_iload_n hx hb dX8_reversed_14 rfl (lv_at hl 2 rfl) ?_
      refine lv_iload_n hx hb dX8_reversed_15 rfl (lv_at hl 1 rfl) ?_
      refine lv_iload_n hx hb dX8_reversed_16 rfl (lv_at hl 3 rfl) ?_
      have hp : Pt (w_X8_reversed Y q q_row q_isKept q_text q_seenFold q_seenSpan q_readLong q_marks q_isMeasured q_waysAre q_haveSpan g_links g_undos g_length g_seenMany g_trace g_at g_behind g_number g_readLinks g_readFolded g_readStiff g_wayMany) (w_X8_has Y ) [] := ⟨rfl, by decide +kernel⟩
      refine go_i hp hP hD hS hA (fun _ => rfl) (va_runS (As := [.int x1, .int x3]) (rest := [.int x2]) ⟨hx, hb, hml, hown, hts⟩ (c_X8_has h _) (va_cwS 2 hts gX8_reversed_X8_has rfl rfl rfl (by decide +kernel) ⟨Nat.le_of_ble_eq_true rfl, Nat.le_of_ble_eq_true rfl⟩) (pre_S hp hK hN hP hD) rfl rfl hl.1 rfl (lv_room (Nat.le_of_ble_eq_true rfl)) dX8_reversed_17 ⟨Nat.le_of_ble_eq_true rfl, Nat.le_of_ble_eq_true rfl⟩) (fun r7 u H locs h hP hD hS => ?_)
      try dsimp only at h
      have hP : va_P D vwCl (w_X8_reversed Y q q_row q_isKept q_text q_seenFold q_seenSpan q_readLong q_marks q_isMeasured q_waysAre q_haveSpan g_links g_undos g_length g_seenMany g_trace g_at g_behind g_number g_readLinks g_readFolded g_readStiff g_wayMany) H := hP
      have hD : va_D A (w_X8_reversed Y q q_row q_isKept q_text q_seenFold q_seenSpan q_readLong q_marks q_isMeasured q_waysAre q_haveSpan g_links g_undos g_length g_seenMany g_trace g_at g_behind g_number g_readLinks g_readFolded g_readStiff g_wayMany) := hD
      refine lv_if_eq (tgt := 36) hx hb dX8_reversed_20 (by decide) (fun c8 => ?_) (fun c8 => ?_)
      · have h := h.1 c8
        refine lv_iconst (v := 0) hx hb dX8_reversed_36 (by decide) ?_
        refine lv_ior hx hb dX8_reversed_37 ?_
        refine lv_topi (fun z9 ez9 => ?_)
        have h := h z9 ez9
        refine lv_istore_n (lv' := [(2, .int z9), (0, .ref q), (1, .int x1), (3, .int x3)]) hx hb dX8_reversed_38 rfl hl (by decide) rfl (fun ls hl => ?_)
        obtain ⟨z10, ez10⟩ : ∃ y : Int32, y = (x3 + (1 : Int32)) := ⟨_, rfl⟩
        have h := h z10 ez10
        refine lv_iinc (v := z10) (lv' := [(3, .int z10), (2, .int z9), (0, .ref q), (1, .int x1)]) hx hb dX8_reversed_39 hl (k := 3) rfl (by rw [ez10]; rfl) (by decide) rfl (fun ls hl => ?_)
        refine lv_goto (tgt := 4) hx hb dX8_reversed_42 (by decide) ?_
        exact ih _ _ h _ _ _ hP hD hS (lv_sub hl [2, 3, 1, 0] rfl)
      · have h := h.2 c8
        refine lv_iconst (v := 1) hx hb dX8_reversed_23 (by decide) ?_
        refine lv_aload_n hx hb dX8_reversed_24 rfl (lv_at hl 0 rfl) ?_
        refine va_get (D := D) (ci := 8) (v := .int g_links) (C := RX8) (T := TX8) (N := 22) hx hb hts in_X8_reversed_X8 hown hK hP 0 rfl rfl 1 (by decide) (k_X8_reversed_f41 hts) (fun _ h9 => h9) rfl dX8_reversed_25 ?_
        refine lv_iconst (v := 2) hx hb dX8_reversed_28 (by decide) ?_
        refine lv_isub hx hb dX8_reversed_29 ?_
        refine lv_iload_n hx hb dX8_reversed_30 rfl (lv_at hl 3 rfl) ?_
        refine lv_isub hx hb dX8_reversed_31 ?_
        refine lv_ishl hx hb dX8_reversed_32 ?_
        refine lv_goto (tgt := 37) hx hb dX8_reversed_33 (by decide) ?_
        refine lv_ior hx hb dX8_reversed_37 ?_
        refine lv_topi (fun z11 ez11 => ?_)
        have h := h z11 ez11
        refine lv_istore_n (lv' := [(2, .int z11), (0, .ref q), (1, .int x1), (3, .int x3)]) hx hb dX8_reversed_38 rfl hl (by decide) rfl (fun ls hl => ?_)
        obtain ⟨z12, ez12⟩ : ∃ y : Int32, y = (x3 + (1 : Int32)) := ⟨_, rfl⟩
        have h := h z12 ez12
        refine lv_iinc (v := z12) (lv' := [(3, .int z12), (2, .int z11), (0, .ref q), (1, .int x1)]) hx hb dX8_reversed_39 hl (k := 3) rfl (by rw [ez12]; rfl) (by decide) rfl (fun ls hl => ?_)
        refine lv_goto (tgt := 4) hx hb dX8_reversed_42 (by decide) ?_
        exact ih _ _ h _ _ _ hP hD hS (lv_sub hl [2, 3, 1, 0] rfl)
set_option maxHeartbeats 4000000 in
set_option maxRecDepth 100000 in
theorem c_X8_reversed {l : Launch} {D : va_G} {Y : ClassId × ClassId × ClassId} {q q_row q_isKept q_text q_seenFold q_seenSpan q_readLong q_marks q_isMeasured q_waysAre q_haveSpan : Nat} {g_links g_undos g_length g_seenMany : Int32} {g_trace : Int64} {g_at g_behind g_number g_readLinks g_readFolded g_readStiff g_wayMany x1 : Int32} {Q : Int32 → Prop} (h : wp_X8_reversed g_links x1 Q) (sz : Nat) : MtI l yX8_reversed wsX8_reversed rm_X8_reversed [.ref q, .int x1] D Y (w_X8_reversed Y q q_row q_isKept q_text q_seenFold q_seenSpan q_readLong q_marks q_isMeasured q_waysAre q_haveSpan g_links g_undos g_length g_seenMany g_trace g_at g_behind g_number g_readLinks g_readFolded g_readStiff g_wayMany) (fun r (_ : Unit) => Q r) (fun _ : Unit => (w_X8_reversed Y q q_row q_isKept q_text q_seenFold q_seenSpan q_readLong q_marks q_isMeasured q_waysAre q_haveSpan g_links g_undos g_length g_seenMany g_trace g_at g_behind g_number g_readLinks g_readFolded g_readStiff g_wayMany)) sz := by
  refine ct_i (cc := cX8_reversed) (nL := 4) (ret := (some .int)) (by decide) rfl (Nat.le_of_ble_eq_true rfl) ?_ sz
  intro p e s m below meth c A ls C hK hA hP hD hS hl
  obtain ⟨⟨hx, hb, hml, hown, hts⟩, hr, hlocks, hN⟩ := id C
  have hown : s.vm.findClass RX8 = some m.cls := hown
  have hl : lv_has ls 4 [(0, .ref q), (1, .int x1)] := hl
  unfold wp_X8_reversed at h
  refine lv_iconst (v := 0) hx hb dX8_reversed_0 (by decide) ?_
  refine lv_istore_n (lv' := [(2, .int (0 : Int32)), (0, .ref q), (1, .int x1)]) hx hb dX8_reversed_1 rfl hl (by decide) rfl (fun ls hl => ?_)
  refine lv_iconst (v := 0) hx hb dX8_reversed_2 (by decide) ?_
  refine lv_istore_n (lv' := [(3, .int (0 : Int32)), (2, .int (0 : Int32)), (0, .ref q), (1, .int x1)]) hx hb dX8_reversed_3 rfl hl (by decide) rfl (fun ls hl => ?_)
  obtain ⟨n, h⟩ := h
  exact L_X8_reversed_4 C hK hA  n _ _ h _ _ _ hP hD hS (lv_sub hl [2, 3, 1, 0] rfl)
abbrev rm_X8_turned : Room := { frames := 2, cells := 0, slots := 0, locals := 44 }
theorem in_X8_turned_X8 : ∀ w ∈ wsX80, w ∈ wsX8_turned := fun _ h => List.mem_cons_of_mem _ (List.mem_append_right _ h)
theorem k_X8_turned_f7 {s : State} {args : Array Value} (hts : ∀ w ∈ wsX8_turned, w.before args s = true) : (Cond.fieldLink RX8 7 "FoldRuleModel" "row" "[I").before args s = true := hts _ (by decide +kernel)
theorem k_X8_turned_f41 {s : State} {args : Array Value} (hts : ∀ w ∈ wsX8_turned, w.before args s = true) : (Cond.fieldLink RX8 41 "FoldRuleModel" "links" "I").before args s = true := hts _ (by decide +kernel)
set_option maxHeartbeats 4000000 in
set_option maxRecDepth 100000 in
theorem L_X8_turned_23 {p : Program} {l : Launch} {e : Env} {s : State} {m : MethodId} {args : Array Value} {below : List Frame} {meth : Method} {c : Code} {D : va_G} {Y : ClassId × ClassId × ClassId} {A : Nat → Prop} {q q_row q_isKept q_text q_seenFold q_seenSpan q_readLong q_marks q_isMeasured q_waysAre q_haveSpan : Nat} {g_links g_undos g_length g_seenMany : Int32} {g_trace : Int64} {g_at g_behind g_number g_readLinks g_readFolded g_readStiff g_wayMany : Int32} {Q : Int32 → Int32 → (Nat → Int32) → Prop} (C : Ctx p s m args meth c cX8_turned 4 (some .int) wsX8_turned RX8) (hK : va_K D vwCl (tyS Y) s) (hA : ∀ q, s.heap.size ≤ q → A q) : ∀ (n : Nat) (x1 x2 : Int32) (g_row : Nat → Int32), itr3 (B_X8_turned_23 g_links g_undos Q) n x1 x2 g_row → ∀ (H : Heap) (locs : List Loc) (ls : Array Slot), va_P D vwCl (w_X8_turned Y q q_row q_isKept q_text q_seenFold q_seenSpan q_readLong q_marks q_isMeasured q_waysAre q_haveSpan g_links g_undos g_length g_seenMany g_trace g_at g_behind g_number g_readLinks g_readFolded g_readStiff g_wayMany g_row) H → va_D A (w_X8_turned Y q q_row q_isKept q_text q_seenFold q_seenSpan q_readLong q_marks q_isMeasured q_waysAre q_haveSpan g_links g_undos g_length g_seenMany g_trace g_at g_behind g_number g_readLinks g_readFolded g_readStiff g_wayMany g_row) → va_S A s.heap H locs → lv_has ls 4 [(0, .ref q), (1, .int x1), (2, .int x2)] → W p l e rm_X8_turned s m args below meth c H locs 0 0 (QI below args s D Y A (fun r (u : Int32 × (Nat → Int32)) => Q r u.1 u.2) (fun u : Int32 × (Nat → Int32) => (w_X8_turned Y q q_row q_isKept q_text q_seenFold q_seenSpan q_readLong q_marks q_isMeasured q_waysAre q_haveSpan g_links u.1 g_length g_seenMany g_trace g_at g_behind g_number g_readLinks g_readFolded g_readStiff g_wayMany u.2))) (F0 m 23 ls []) := by
  intro n
  induction n with
  | zero => intro x1 x2 g_row h; exact False.elim h
  | succ n ih =>
    intro x1 x2 g_row h H locs ls hP hD hS hl
    obtain ⟨⟨hx, hb, hml, hown, hts⟩, hr, hlocks, hN⟩ := id C
    have h : B_X8_turned_23 g_links g_undos Q (itr3 (B_X8_turned_23 g_links g_undos Q) n) x1 x2 g_row := h
    unfold B_X8_turned_23 at h
    refine lv_iload_n hx hb dX8_turned_23 rfl (lv_at hl 1 rfl) ?_
    refine lv_iload_n hx hb dX8_turned_24 rfl (lv_at hl 2 rfl) ?_
    refine lv_icmp_ge (tgt := 71) hx hb dX8_turned_25 (by decide) (fun c10 => ?_) (fun c10 => ?_)
    · have h := h.1 c10
      refine lv_aload_n hx hb dX8_turned_71 rfl (lv_at hl 0 rfl) ?_
      refine va_get (D := D) (ci := 8) (v := .ref q_row) (C := RX8) (T := TX8) (N := 22) hx hb hts in_X8_turned_X8 hown hK hP 0 rfl rfl 0 (by decide) (k_X8_turned_f7 hts) (fun _ h9 => h9) rfl dX8_turned_72 ?_
      refine lv_bipush (v := 9) hx hb dX8_turned_75 (by decide) ?_
      refine lv_aload_n hx hb dX8_turned_77 rfl (lv_at hl 0 rfl) ?_
      refine lv_aload_n hx hb dX8_turned_78 rfl (lv_at hl 0 rfl) ?_
      refine va_get (D := D) (ci := 8) (v := .ref q_row) (C := RX8) (T := TX8) (N := 22) hx hb hts in_X8_turned_X8 hown hK hP 0 rfl rfl 0 (by decide) (k_X8_turned_f7 hts) (fun _ h9 => h9) rfl dX8_turned_79 ?_
      refine lv_bipush (v := 9) hx hb dX8_turned_82 (by decide) ?_
      obtain ⟨hin, h⟩ := h
      refine va_iald hx hb hK hP 1 0 rfl rfl hin dX8_turned_84 ?_
      have hp : Pt (w_X8_turned Y q q_row q_isKept q_text q_seenFold q_seenSpan q_readLong q_marks q_isMeasured q_waysAre q_haveSpan g_links g_undos g_length g_seenMany g_trace g_at g_behind g_number g_readLinks g_readFolded g_readStiff g_wayMany g_row) (w_X8_reversed Y q q_row q_isKept q_text q_seenFold q_seenSpan q_readLong q_marks q_isMeasured q_waysAre q_haveSpan g_links g_undos g_length g_seenMany g_trace g_at g_behind g_number g_readLinks g_readFolded g_readStiff g_wayMany) [0] := ⟨rfl, by decide +kernel⟩
      refine go_i hp hP hD hS hA (fun _ => rfl) (va_runV (As := [.int (g_row ((9 : Int32)).toNatClampNeg)]) (rest := [.int (9 : Int32), .ref q_row]) ⟨hx, hb, hml, hown, hts⟩ (c_X8_reversed h _) (cwV 1 hts gX8_turned_X8_reversed rfl rfl rfl (by decide +kernel) ⟨Nat.le_of_ble_eq_true rfl, Nat.le_of_ble_eq_true rfl⟩) (pre_V (b := q) (q0 := 0) (ci := 8) (q := (RX8, TX8, 22)) hp hK hN hP hD rfl rfl) rfl rfl hl.1 rfl (lv_room (Nat.le_of_ble_eq_true rfl)) dX8_turned_85 ⟨Nat.le_of_ble_eq_true rfl, Nat.le_of_ble_eq_true rfl⟩) (fun r11 u H locs h hP hD hS => ?_)
      try dsimp only at h
      have hP : va_P D vwCl (w_X8_turned Y q q_row q_isKept q_text q_seenFold q_seenSpan q_readLong q_marks q_isMeasured q_waysAre q_haveSpan g_links g_undos g_length g_seenMany g_trace g_at g_behind g_number g_readLinks g_readFolded g_readStiff g_wayMany g_row) H := hP
      have hD : va_D A (w_X8_turned Y q q_row q_isKept q_text q_seenFold q_seenSpan q_readLong q_marks q_isMeasured q_waysAre q_haveSpan g_links g_undos g_length g_seenMany g_trace g_at g_behind g_number g_readLinks g_readFolded g_readStiff g_wayMany g_row) := hD
      obtain ⟨hin, h⟩ := h
      refine va_iast hx hb hK hP hD hS 1 0 rfl rfl hin dX8_turned_88 (fun H locs hP hD hS => ?_)
      have hP : va_P D vwCl (w_X8_turned Y q q_row q_isKept q_text q_seenFold q_seenSpan q_readLong q_marks q_isMeasured q_waysAre q_haveSpan g_links g_undos g_length g_seenMany g_trace g_at g_behind g_number g_readLinks g_readFolded g_readStiff g_wayMany (upd g_row ((9 : Int32)).toNatClampNeg r11)) H := hP
      have hD : va_D A (w_X8_turned Y q q_row q_isKept q_text q_seenFold q_seenSpan q_readLong q_marks q_isMeasured q_waysAre q_haveSpan g_links g_undos g_length g_seenMany g_trace g_at g_behind g_number g_readLinks g_readFolded g_readStiff g_wayMany (upd g_row ((9 : Int32)).toNatClampNeg r11)) := hD
      refine lv_aload_n hx hb dX8_turned_89 rfl (lv_at hl 0 rfl) ?_
      refine va_get (D := D) (ci := 8) (v := .ref q_row) (C := RX8) (T := TX8) (N := 22) hx hb hts in_X8_turned_X8 hown hK hP 0 rfl rfl 0 (by decide) (k_X8_turned_f7 hts) (fun _ h9 => h9) rfl dX8_turned_90 ?_
      refine lv_bipush (v := 10) hx hb dX8_turned_93 (by decide) ?_
      refine lv_aload_n hx hb dX8_turned_95 rfl (lv_at hl 0 rfl) ?_
      refine lv_aload_n hx hb dX8_turned_96 rfl (lv_at hl 0 rfl) ?_
      refine va_get (D := D) (ci := 8) (v := .ref q_row) (C := RX8) (T := TX8) (N := 22) hx hb hts in_X8_turned_X8 hown hK hP 0 rfl rfl 0 (by decide) (k_X8_turned_f7 hts) (fun _ h9 => h9) rfl dX8_turned_97 ?_
      refine lv_bipush (v := 10) hx hb dX8_turned_100 (by decide) ?_
      obtain ⟨hin, h⟩ := h
      refine va_iald hx hb hK hP 1 0 rfl rfl hin dX8_turned_102 ?_
      have hp : Pt (w_X8_turned Y q q_row q_isKept q_text q_seenFold q_seenSpan q_readLong q_marks q_isMeasured q_waysAre q_haveSpan g_links g_undos g_length g_seenMany g_trace g_at g_behind g_number g_readLinks g_readFolded g_readStiff g_wayMany (upd g_row ((9 : Int32)).toNatClampNeg r11)) (w_X8_reversed Y q q_row q_isKept q_text q_seenFold q_seenSpan q_readLong q_marks q_isMeasured q_waysAre q_haveSpan g_links g_undos g_length g_seenMany g_trace g_at g_behind g_number g_readLinks g_readFolded g_readStiff g_wayMany) [0] := ⟨rfl, by decide +kernel⟩
      refine go_i hp hP hD hS hA (fun _ => rfl) (va_runV (As := [.int ((upd g_row ((9 : Int32)).toNatClampNeg r11) ((10 : Int32)).toNatClampNeg)]) (rest := [.int (10 : Int32), .ref q_row]) ⟨hx, hb, hml, hown, hts⟩ (c_X8_reversed h _) (cwV 1 hts gX8_turned_X8_reversed rfl rfl rfl (by decide +kernel) ⟨Nat.le_of_ble_eq_true rfl, Nat.le_of_ble_eq_true rfl⟩) (pre_V (b := q) (q0 := 0) (ci := 8) (q := (RX8, TX8, 22)) hp hK hN hP hD rfl rfl) rfl rfl hl.1 rfl (lv_room (Nat.le_of_ble_eq_true rfl)) dX8_turned_103 ⟨Nat.le_of_ble_eq_true rfl, Nat.le_of_ble_eq_true rfl⟩) (fun r12 u H locs h hP hD hS => ?_)
      try dsimp only at h
      have hP : va_P D vwCl (w_X8_turned Y q q_row q_isKept q_text q_seenFold q_seenSpan q_readLong q_marks q_isMeasured q_waysAre q_haveSpan g_links g_undos g_length g_seenMany g_trace g_at g_behind g_number g_readLinks g_readFolded g_readStiff g_wayMany (upd g_row ((9 : Int32)).toNatClampNeg r11)) H := hP
      have hD : va_D A (w_X8_turned Y q q_row q_isKept q_text q_seenFold q_seenSpan q_readLong q_marks q_isMeasured q_waysAre q_haveSpan g_links g_undos g_length g_seenMany g_trace g_at g_behind g_number g_readLinks g_readFolded g_readStiff g_wayMany (upd g_row ((9 : Int32)).toNatClampNeg r11)) := hD
      obtain ⟨hin, h⟩ := h
      refine va_iast hx hb hK hP hD hS 1 0 rfl rfl hin dX8_turned_106 (fun H locs hP hD hS => ?_)
      have hP : va_P D vwCl (w_X8_turned Y q q_row q_isKept q_text q_seenFold q_seenSpan q_readLong q_marks q_isMeasured q_waysAre q_haveSpan g_links g_undos g_length g_seenMany g_trace g_at g_behind g_number g_readLinks g_readFolded g_readStiff g_wayMany (upd (upd g_row ((9 : Int32)).toNatClampNeg r11) ((10 : Int32)).toNatClampNeg r12)) H := hP
      have hD : va_D A (w_X8_turned Y q q_row q_isKept q_text q_seenFold q_seenSpan q_readLong q_marks q_isMeasured q_waysAre q_haveSpan g_links g_undos g_length g_seenMany g_trace g_at g_behind g_number g_readLinks g_readFolded g_readStiff g_wayMany (upd (upd g_row ((9 : Int32)).toNatClampNeg r11) ((10 : Int32)).toNatClampNeg r12)) := hD
      refine lv_aload_n hx hb dX8_turned_107 rfl (lv_at hl 0 rfl) ?_
      refine va_get (D := D) (ci := 8) (v := .ref q_row) (C := RX8) (T := TX8) (N := 22) hx hb hts in_X8_turned_X8 hown hK hP 0 rfl rfl 0 (by decide) (k_X8_turned_f7 hts) (fun _ h9 => h9) rfl dX8_turned_108 ?_
      refine lv_bipush (v := 9) hx hb dX8_turned_111 (by decide) ?_
      obtain ⟨hin, h⟩ := h
      refine va_iald hx hb hK hP 1 0 rfl rfl hin dX8_turned_113 ?_
      exact ret_i (g_undos, (upd (upd g_row ((9 : Int32)).toNatClampNeg r11) ((10 : Int32)).toNatClampNeg r12)) hx hb hr hlocks hK hP hD hS h dX8_turned_114
    · have h := h.2 c10
      refine lv_aload_n hx hb dX8_turned_28 rfl (lv_at hl 0 rfl) ?_
      refine va_get (D := D) (ci := 8) (v := .ref q_row) (C := RX8) (T := TX8) (N := 22) hx hb hts in_X8_turned_X8 hown hK hP 0 rfl rfl 0 (by decide) (k_X8_turned_f7 hts) (fun _ h9 => h9) rfl dX8_turned_29 ?_
      refine lv_iconst (v := 0) hx hb dX8_turned_32 (by decide) ?_
      refine lv_iload_n hx hb dX8_turned_33 rfl (lv_at hl 1 rfl) ?_
      refine lv_iadd hx hb dX8_turned_34 ?_
      obtain ⟨hin, h⟩ := h
      refine va_iald hx hb hK hP 1 0 rfl rfl hin dX8_turned_35 ?_
      refine lv_topi (fun z13 ez13 => ?_)
      have h := h z13 ez13
      refine lv_istore_n (lv' := [(3, .int z13), (0, .ref q), (1, .int x1), (2, .int x2)]) hx hb dX8_turned_36 rfl hl (by decide) rfl (fun ls hl => ?_)
      refine lv_aload_n hx hb dX8_turned_37 rfl (lv_at hl 1 rfl) ?_
      refine va_get (D := D) (ci := 8) (v := .ref q_row) (C := RX8) (T := TX8) (N := 22) hx hb hts in_X8_turned_X8 hown hK hP 0 rfl rfl 0 (by decide) (k_X8_turned_f7 hts) (fun _ h9 => h9) rfl dX8_turned_38 ?_
      refine lv_iconst (v := 0) hx hb dX8_turned_41 (by decide) ?_
      refine lv_iload_n hx hb dX8_turned_42 rfl (lv_at hl 2 rfl) ?_
      refine lv_iadd hx hb dX8_turned_43 ?_
      refine lv_aload_n hx hb dX8_turned_44 rfl (lv_at hl 1 rfl) ?_
      refine va_get (D := D) (ci := 8) (v := .ref q_row) (C := RX8) (T := TX8) (N := 22) hx hb hts in_X8_turned_X8 hown hK hP 0 rfl rfl 0 (by decide) (k_X8_turned_f7 hts) (fun _ h9 => h9) rfl dX8_turned_45 ?_
      refine lv_iconst (v := 0) hx hb dX8_turned_48 (by decide) ?_
      refine lv_iload_n hx hb dX8_turned_49 rfl (lv_at hl 3 rfl) ?_
      refine lv_iadd hx hb dX8_turned_50 ?_
      obtain ⟨hin, h⟩ := h
      refine va_iald hx hb hK hP 1 0 rfl rfl hin dX8_turned_51 ?_
      refine lv_topi (fun z14 ez14 => ?_)
      have h := h z14 ez14
      obtain ⟨hin, h⟩ := h
      refine va_iast hx hb hK hP hD hS 1 0 rfl rfl hin dX8_turned_52 (fun H locs hP hD hS => ?_)
      have hP : va_P D vwCl (w_X8_turned Y q q_row q_isKept q_text q_seenFold q_seenSpan q_readLong q_marks q_isMeasured q_waysAre q_haveSpan g_links g_undos g_length g_seenMany g_trace g_at g_behind g_number g_readLinks g_readFolded g_readStiff g_wayMany (upd g_row (((0 : Int32) + x1)).toNatClampNeg z14)) H := hP
      have hD : va_D A (w_X8_turned Y q q_row q_isKept q_text q_seenFold q_seenSpan q_readLong q_marks q_isMeasured q_waysAre q_haveSpan g_links g_undos g_length g_seenMany g_trace g_at g_behind g_number g_readLinks g_readFolded g_readStiff g_wayMany (upd g_row (((0 : Int32) + x1)).toNatClampNeg z14)) := hD
      refine lv_aload_n hx hb dX8_turned_53 rfl (lv_at hl 1 rfl) ?_
      refine va_get (D := D) (ci := 8) (v := .ref q_row) (C := RX8) (T := TX8) (N := 22) hx hb hts in_X8_turned_X8 hown hK hP 0 rfl rfl 0 (by decide) (k_X8_turned_f7 hts) (fun _ h9 => h9) rfl dX8_turned_54 ?_
      refine lv_iconst (v := 0) hx hb dX8_turned_57 (by decide) ?_
      refine lv_iload_n hx hb dX8_turned_58 rfl (lv_at hl 3 rfl) ?_
      refine lv_iadd hx hb dX8_turned_59 ?_
      refine lv_iload_n hx hb dX8_turned_60 rfl (lv_at hl 0 rfl) ?_
      obtain ⟨hin, h⟩ := h
      refine va_iast hx hb hK hP hD hS 1 0 rfl rfl hin dX8_turned_61 (fun H locs hP hD hS => ?_)
      have hP : va_P D vwCl (w_X8_turned Y q q_row q_isKept q_text q_seenFold q_seenSpan q_readLong q_marks q_isMeasured q_waysAre q_haveSpan g_links g_undos g_length g_seenMany g_trace g_at g_behind g_number g_readLinks g_readFolded g_readStiff g_wayMany (upd (upd g_row (((0 : Int32) + x1)).toNatClampNeg z14) (((0 : Int32) + x2)).toNatClampNeg z13)) H := hP
      have hD : va_D A (w_X8_turned Y q q_row q_isKept q_text q_seenFold q_seenSpan q_readLong q_marks q_isMeasured q_waysAre q_haveSpan g_links g_undos g_length g_seenMany g_trace g_at g_behind g_number g_readLinks g_readFolded g_readStiff g_wayMany (upd (upd g_row (((0 : Int32) + x1)).toNatClampNeg z14) (((0 : Int32) + x2)).toNatClampNeg z13)) := hD
      obtain ⟨z15, ez15⟩ : ∃ y : Int32, y = (x1 + (1 : Int32)) := ⟨_, rfl⟩
      have h := h z15 ez15
      refine lv_iinc (v := z15) (lv' := [(1, .int z15), (3, .int z13), (0, .ref q), (2, .int x2)]) hx hb dX8_turned_62 hl (k := 2) rfl (by rw [ez15]; rfl) (by decide) rfl (fun ls hl => ?_)
      obtain ⟨z16, ez16⟩ : ∃ y : Int32, y = (x2 + (-1 : Int32)) := ⟨_, rfl⟩
      have h := h z16 ez16
      refine lv_iinc (v := z16) (lv' := [(2, .int z16), (1, .int z15), (3, .int z13), (0, .ref q)]) hx hb dX8_turned_65 hl (k := 3) rfl (by rw [ez16]; rfl) (by decide) rfl (fun ls hl => ?_)
      refine lv_goto (tgt := 23) hx hb dX8_turned_68 (by decide) ?_
      exact ih _ _ _ h _ _ _ hP hD hS (lv_sub hl [3, 1, 0] rfl)
set_option maxHeartbeats 4000000 in
set_option maxRecDepth 100000 in
theorem c_X8_turned {l : Launch} {D : va_G} {Y : ClassId × ClassId × ClassId} {q q_row q_isKept q_text q_seenFold q_seenSpan q_readLong q_marks q_isMeasured q_waysAre q_haveSpan : Nat} {g_links g_undos g_length g_seenMany : Int32} {g_trace : Int64} {g_at g_behind g_number g_readLinks g_readFolded g_readStiff g_wayMany : Int32} {g_row : Nat → Int32} {Q : Int32 → Int32 → (Nat → Int32) → Prop} (h : wp_X8_turned g_links g_undos g_row Q) (sz : Nat) : MtI l yX8_turned wsX8_turned rm_X8_turned [.ref q] D Y (w_X8_turned Y q q_row q_isKept q_text q_seenFold q_seenSpan q_readLong q_marks q_isMeasured q_waysAre q_haveSpan g_links g_undos g_length g_seenMany g_trace g_at g_behind g_number g_readLinks g_readFolded g_readStiff g_wayMany g_row) (fun r (u : Int32 × (Nat → Int32)) => Q r u.1 u.2) (fun u : Int32 × (Nat → Int32) => (w_X8_turned Y q q_row q_isKept q_text q_seenFold q_seenSpan q_readLong q_marks q_isMeasured q_waysAre q_haveSpan g_links u.1 g_length g_seenMany g_trace g_at g_behind g_number g_readLinks g_readFolded g_readStiff g_wayMany u.2)) sz := by
  refine ct_i (cc := cX8_turned) (nL := 4) (ret := (some .int)) (by decide) rfl (Nat.le_of_ble_eq_true rfl) ?_ sz
  intro p e s m below meth c A ls C hK hA hP hD hS hl
  obtain ⟨⟨hx, hb, hml, hown, hts⟩, hr, hlocks, hN⟩ := id C
  have hown : s.vm.findClass RX8 = some m.cls := hown
  have hl : lv_has ls 4 [(0, .ref q)] := hl
  unfold wp_X8_turned at h
  refine lv_aload_n hx hb dX8_turned_0 rfl (lv_at hl 0 rfl) ?_
  refine va_get (D := D) (ci := 8) (v := .int g_links) (C := RX8) (T := TX8) (N := 22) hx hb hts in_X8_turned_X8 hown hK hP 0 rfl rfl 1 (by decide) (k_X8_turned_f41 hts) (fun _ h9 => h9) rfl dX8_turned_1 ?_
  refine lv_if_ne (tgt := 10) hx hb dX8_turned_4 (by decide) (fun c17 => ?_) (fun c17 => ?_)
  · have h := h.1 c17
    refine lv_aload_n hx hb dX8_turned_10 rfl (lv_at hl 0 rfl) ?_
    have hp : Pt (w_X8_turned Y q q_row q_isKept q_text q_seenFold q_seenSpan q_readLong q_marks q_isMeasured q_waysAre q_haveSpan g_links g_undos g_length g_seenMany g_trace g_at g_behind g_number g_readLinks g_readFolded g_readStiff g_wayMany g_row) (w_X8_keepPast Y q q_row q_isKept q_text q_seenFold q_seenSpan q_readLong q_marks q_isMeasured q_waysAre q_haveSpan g_links g_undos g_length g_seenMany g_trace g_at g_behind g_number g_readLinks g_readFolded g_readStiff g_wayMany g_row) [0, 1] := ⟨rfl, by decide +kernel⟩
    refine go_v hp hP hD hS hA (fun _ => rfl) (va_runV (As := []) (rest := []) ⟨hx, hb, hml, hown, hts⟩ (c_X8_keepPast h _) (cwV 0 hts gX8_turned_X8_keepPast rfl rfl rfl (by decide +kernel) ⟨Nat.le_of_ble_eq_true rfl, Nat.le_of_ble_eq_true rfl⟩) (pre_V (b := q) (q0 := 0) (ci := 8) (q := (RX8, TX8, 22)) hp hK hN hP hD rfl rfl) rfl rfl hl.1 rfl (lv_room (Nat.le_of_ble_eq_true rfl)) dX8_turned_11 ⟨Nat.le_of_ble_eq_true rfl, Nat.le_of_ble_eq_true rfl⟩) (fun u H locs h hP hD hS => ?_)
    obtain ⟨u19, u20⟩ := u
    try dsimp only at h
    have hP : va_P D vwCl (w_X8_turned Y q q_row q_isKept q_text q_seenFold q_seenSpan q_readLong q_marks q_isMeasured q_waysAre q_haveSpan g_links u19 g_length g_seenMany g_trace g_at g_behind g_number g_readLinks g_readFolded g_readStiff g_wayMany u20) H := hP
    have hD : va_D A (w_X8_turned Y q q_row q_isKept q_text q_seenFold q_seenSpan q_readLong q_marks q_isMeasured q_waysAre q_haveSpan g_links u19 g_length g_seenMany g_trace g_at g_behind g_number g_readLinks g_readFolded g_readStiff g_wayMany u20) := hD
    refine lv_iconst (v := 0) hx hb dX8_turned_14 (by decide) ?_
    refine lv_istore_n (lv' := [(1, .int (0 : Int32)), (0, .ref q)]) hx hb dX8_turned_15 rfl hl (by decide) rfl (fun ls hl => ?_)
    refine lv_aload_n hx hb dX8_turned_16 rfl (lv_at hl 1 rfl) ?_
    refine va_get (D := D) (ci := 8) (v := .int g_links) (C := RX8) (T := TX8) (N := 22) hx hb hts in_X8_turned_X8 hown hK hP 0 rfl rfl 1 (by decide) (k_X8_turned_f41 hts) (fun _ h9 => h9) rfl dX8_turned_17 ?_
    refine lv_iconst (v := 1) hx hb dX8_turned_20 (by decide) ?_
    refine lv_isub hx hb dX8_turned_21 ?_
    refine lv_topi (fun z21 ez21 => ?_)
    have h := h z21 ez21
    refine lv_istore_n (lv' := [(2, .int z21), (1, .int (0 : Int32)), (0, .ref q)]) hx hb dX8_turned_22 rfl hl (by decide) rfl (fun ls hl => ?_)
    obtain ⟨n, h⟩ := h
    exact L_X8_turned_23 C hK hA  n _ _ _ h _ _ _ hP hD hS (lv_sub hl [2, 1, 0] rfl)
  · have h := h.2 c17
    refine lv_bipush (v := (-2)) hx hb dX8_turned_7 (by decide) ?_
    exact ret_i (g_undos, g_row) hx hb hr hlocks hK hP hD hS h dX8_turned_9
