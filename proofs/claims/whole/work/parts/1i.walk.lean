abbrev rm_X8_lies : Room := { frames := 1, cells := 0, slots := 0, locals := 21 }
theorem in_X8_lies_X8 : ∀ w ∈ wsX80, w ∈ wsX8_lies := fun _ h => List.mem_cons_of_mem _ (List.mem_append_right _ h)
theorem k_X8_lies_f41 {s : State} {args : Array Value} (hts : ∀ w ∈ wsX8_lies, w.before args s = true) : (Cond.fieldLink RX8 41 "FoldRuleModel" "links" "I").before args s = true := hts _ (by decide +kernel)
theorem k_X8_lies_f29 {s : State} {args : Array Value} (hts : ∀ w ∈ wsX8_lies, w.before args s = true) : (Cond.fieldLink RX8 29 "FoldRuleModel" "marks" "[I").before args s = true := hts _ (by decide +kernel)
theorem k_X8_lies_f7 {s : State} {args : Array Value} (hts : ∀ w ∈ wsX8_lies, w.before args s = true) : (Cond.fieldLink RX8 7 "FoldRuleModel" "row" "[I").before args s = true := hts _ (by decide +kernel)
set_option maxHeartbeats 4000000 in
set_option maxRecDepth 100000 in
theorem L_X8_lies_13 {p : Program} {l : Launch} {e : Env} {s : State} {m : MethodId} {args : Array Value} {below : List Frame} {meth : Method} {c : Code} {D : va_G} {Y : ClassId × ClassId × ClassId} {A : Nat → Prop} {q q_row q_isKept q_text q_seenFold q_seenSpan q_readLong q_marks q_isMeasured q_waysAre q_haveSpan : Nat} {g_links g_undos g_length g_seenMany : Int32} {g_trace : Int64} {g_at g_behind g_number g_readLinks g_readFolded g_readStiff g_wayMany : Int32} {g_row : Nat → Int32} {x1 x2 x3 : Int32} {Q : (Nat → Int32) → Prop} (C : Ctx p s m args meth c cX8_lies 6 none wsX8_lies RX8) (hK : va_K D vwCl (tyS Y) s) (hA : ∀ q, s.heap.size ≤ q → A q) : ∀ (n : Nat) (x4 x5 : Int32) (g_marks : Nat → Int32), itr3 (B_X8_lies_13 g_links g_row x1 x2 x3 Q) n x4 x5 g_marks → ∀ (H : Heap) (locs : List Loc) (ls : Array Slot), va_P D vwCl (w_X8_lies Y q q_row q_isKept q_text q_seenFold q_seenSpan q_readLong q_marks q_isMeasured q_waysAre q_haveSpan g_links g_undos g_length g_seenMany g_trace g_at g_behind g_number g_readLinks g_readFolded g_readStiff g_wayMany g_marks g_row) H → va_D A (w_X8_lies Y q q_row q_isKept q_text q_seenFold q_seenSpan q_readLong q_marks q_isMeasured q_waysAre q_haveSpan g_links g_undos g_length g_seenMany g_trace g_at g_behind g_number g_readLinks g_readFolded g_readStiff g_wayMany g_marks g_row) → va_S A s.heap H locs → lv_has ls 6 [(0, .ref q), (1, .int x1), (2, .int x2), (3, .int x3), (4, .int x4), (5, .int x5)] → W p l e rm_X8_lies s m args below meth c H locs 0 0 (QV below args s D Y A (fun (u : (Nat → Int32)) => Q u) (fun u : (Nat → Int32) => (w_X8_lies Y q q_row q_isKept q_text q_seenFold q_seenSpan q_readLong q_marks q_isMeasured q_waysAre q_haveSpan g_links g_undos g_length g_seenMany g_trace g_at g_behind g_number g_readLinks g_readFolded g_readStiff g_wayMany u g_row))) (F0 m 13 ls []) := by
  intro n
  induction n with
  | zero => intro x4 x5 g_marks h; exact False.elim h
  | succ n ih =>
    intro x4 x5 g_marks h H locs ls hP hD hS hl
    obtain ⟨⟨hx, hb, hml, hown, hts⟩, hr, hlocks, hN⟩ := id C
    have h : B_X8_lies_13 g_links g_row x1 x2 x3 Q (itr3 (B_X8_lies_13 g_links g_row x1 x2 x3 Q) n) x4 x5 g_marks := h
    unfold B_X8_lies_13 at h
    refine lv_iload hx hb dX8_lies_13 (lv_at hl 5 rfl) ?_
    refine lv_aload_n hx hb dX8_lies_15 rfl (lv_at hl 0 rfl) ?_
    refine va_get (D := D) (ci := 8) (v := .int g_links) (C := RX8) (T := TX8) (N := 22) hx hb hts in_X8_lies_X8 hown hK hP 0 rfl rfl 1 (by decide) (k_X8_lies_f41 hts) (fun _ h9 => h9) rfl dX8_lies_16 ?_
    refine lv_icmp_ge (tgt := 88) hx hb dX8_lies_19 (by decide) (fun c11 => ?_) (fun c11 => ?_)
    · have h := h.1 c11
      exact ret_v (g_marks) hx hb hr hlocks hK hP hD hS h dX8_lies_88
    · have h := h.2 c11
      refine lv_aload_n hx hb dX8_lies_22 rfl (lv_at hl 0 rfl) ?_
      refine va_get (D := D) (ci := 8) (v := .ref q_marks) (C := RX8) (T := TX8) (N := 22) hx hb hts in_X8_lies_X8 hown hK hP 0 rfl rfl 17 (by decide) (k_X8_lies_f29 hts) (fun _ h9 => h9) rfl dX8_lies_23 ?_
      refine lv_iload hx hb dX8_lies_26 (lv_at hl 5 rfl) ?_
      refine lv_iconst (v := 1) hx hb dX8_lies_28 (by decide) ?_
      refine lv_iadd hx hb dX8_lies_29 ?_
      refine lv_aload_n hx hb dX8_lies_30 rfl (lv_at hl 0 rfl) ?_
      refine va_get (D := D) (ci := 8) (v := .ref q_marks) (C := RX8) (T := TX8) (N := 22) hx hb hts in_X8_lies_X8 hown hK hP 0 rfl rfl 17 (by decide) (k_X8_lies_f29 hts) (fun _ h9 => h9) rfl dX8_lies_31 ?_
      refine lv_iload hx hb dX8_lies_34 (lv_at hl 5 rfl) ?_
      obtain ⟨hin, h⟩ := h
      refine va_iald hx hb hK hP 1 0 rfl rfl hin dX8_lies_36 ?_
      refine lv_iload hx hb dX8_lies_37 (lv_at hl 4 rfl) ?_
      refine lv_aload_n hx hb dX8_lies_39 rfl (lv_at hl 0 rfl) ?_
      refine va_get (D := D) (ci := 8) (v := .ref q_row) (C := RX8) (T := TX8) (N := 22) hx hb hts in_X8_lies_X8 hown hK hP 0 rfl rfl 0 (by decide) (k_X8_lies_f7 hts) (fun _ h9 => h9) rfl dX8_lies_40 ?_
      refine lv_iconst (v := 0) hx hb dX8_lies_43 (by decide) ?_
      refine lv_iload hx hb dX8_lies_44 (lv_at hl 5 rfl) ?_
      refine lv_iadd hx hb dX8_lies_46 ?_
      obtain ⟨hin, h⟩ := h
      refine va_iald hx hb hK hP 2 0 rfl rfl hin dX8_lies_47 ?_
      refine lv_iload hx hb dX8_lies_48 (lv_at hl 5 rfl) ?_
      refine lv_iload_n hx hb dX8_lies_50 rfl (lv_at hl 2 rfl) ?_
      refine lv_icmp_ne (tgt := 58) hx hb dX8_lies_51 (by decide) (fun c12 => ?_) (fun c12 => ?_)
      · have h := h.1 c12
        refine lv_iconst (v := 0) hx hb dX8_lies_58 (by decide) ?_
        refine lv_isub hx hb dX8_lies_59 ?_
        refine lv_imul hx hb dX8_lies_60 ?_
        refine lv_iadd hx hb dX8_lies_61 ?_
        refine lv_topi (fun z13 ez13 => ?_)
        have h := h z13 ez13
        obtain ⟨hin, h⟩ := h
        refine va_iast hx hb hK hP hD hS 1 0 rfl rfl hin dX8_lies_62 (fun H locs hP hD hS => ?_)
        have hP : va_P D vwCl (w_X8_lies Y q q_row q_isKept q_text q_seenFold q_seenSpan q_readLong q_marks q_isMeasured q_waysAre q_haveSpan g_links g_undos g_length g_seenMany g_trace g_at g_behind g_number g_readLinks g_readFolded g_readStiff g_wayMany (upd g_marks ((x5 + (1 : Int32))).toNatClampNeg z13) g_row) H := hP
        have hD : va_D A (w_X8_lies Y q q_row q_isKept q_text q_seenFold q_seenSpan q_readLong q_marks q_isMeasured q_waysAre q_haveSpan g_links g_undos g_length g_seenMany g_trace g_at g_behind g_number g_readLinks g_readFolded g_readStiff g_wayMany (upd g_marks ((x5 + (1 : Int32))).toNatClampNeg z13) g_row) := hD
        refine lv_iload_n hx hb dX8_lies_63 rfl (lv_at hl 1 rfl) ?_
        refine lv_iload hx hb dX8_lies_64 (lv_at hl 5 rfl) ?_
        have hp : Pt (w_X8_lies Y q q_row q_isKept q_text q_seenFold q_seenSpan q_readLong q_marks q_isMeasured q_waysAre q_haveSpan g_links g_undos g_length g_seenMany g_trace g_at g_behind g_number g_readLinks g_readFolded g_readStiff g_wayMany (upd g_marks ((x5 + (1 : Int32))).toNatClampNeg z13) g_row) (w_X8_has Y ) [] := ⟨rfl, by decide +kernel⟩
        refine go_i hp hP hD hS hA (fun _ => rfl) (va_runS (As := [.int x1, .int x5]) (rest := []) ⟨hx, hb, hml, hown, hts⟩ (c_X8_has h _) (va_cwS 2 hts gX8_lies_X8_has rfl rfl rfl (by decide +kernel) ⟨Nat.le_of_ble_eq_true rfl, Nat.le_of_ble_eq_true rfl⟩) (pre_S hp hK hN hP hD) rfl rfl hl.1 rfl (lv_room (Nat.le_of_ble_eq_true rfl)) dX8_lies_66 ⟨Nat.le_of_ble_eq_true rfl, Nat.le_of_ble_eq_true rfl⟩) (fun r14 u H locs h hP hD hS => ?_)
        try dsimp only at h
        have hP : va_P D vwCl (w_X8_lies Y q q_row q_isKept q_text q_seenFold q_seenSpan q_readLong q_marks q_isMeasured q_waysAre q_haveSpan g_links g_undos g_length g_seenMany g_trace g_at g_behind g_number g_readLinks g_readFolded g_readStiff g_wayMany (upd g_marks ((x5 + (1 : Int32))).toNatClampNeg z13) g_row) H := hP
        have hD : va_D A (w_X8_lies Y q q_row q_isKept q_text q_seenFold q_seenSpan q_readLong q_marks q_isMeasured q_waysAre q_haveSpan g_links g_undos g_length g_seenMany g_trace g_at g_behind g_number g_readLinks g_readFolded g_readStiff g_wayMany (upd g_marks ((x5 + (1 : Int32))).toNatClampNeg z13) g_row) := hD
        refine lv_if_eq (tgt := 78) hx hb dX8_lies_69 (by decide) (fun c15 => ?_) (fun c15 => ?_)
        · have h := h.1 c15
          refine lv_iload hx hb dX8_lies_78 (lv_at hl 4 rfl) ?_
          refine lv_istore (lv' := [(4, .int x4), (0, .ref q), (1, .int x1), (2, .int x2), (3, .int x3), (5, .int x5)]) hx hb dX8_lies_80 hl (by decide) rfl (fun ls hl => ?_)
          obtain ⟨z16, ez16⟩ : ∃ y : Int32, y = (x5 + (1 : Int32)) := ⟨_, rfl⟩
          have h := h z16 ez16
          refine lv_iinc (v := z16) (lv' := [(5, .int z16), (4, .int x4), (0, .ref q), (1, .int x1), (2, .int x2), (3, .int x3)]) hx hb dX8_lies_82 hl (k := 5) rfl (by rw [ez16]; rfl) (by decide) rfl (fun ls hl => ?_)
          refine lv_goto (tgt := 13) hx hb dX8_lies_85 (by decide) ?_
          exact ih _ _ _ h _ _ _ hP hD hS (lv_sub hl [2, 3, 4, 5, 1, 0] rfl)
        · have h := h.2 c15
          refine lv_iload hx hb dX8_lies_72 (lv_at hl 4 rfl) ?_
          refine lv_ineg hx hb dX8_lies_74 ?_
          refine lv_goto (tgt := 80) hx hb dX8_lies_75 (by decide) ?_
          refine lv_topi (fun z17 ez17 => ?_)
          have h := h z17 ez17
          refine lv_istore (lv' := [(4, .int z17), (0, .ref q), (1, .int x1), (2, .int x2), (3, .int x3), (5, .int x5)]) hx hb dX8_lies_80 hl (by decide) rfl (fun ls hl => ?_)
          obtain ⟨z18, ez18⟩ : ∃ y : Int32, y = (x5 + (1 : Int32)) := ⟨_, rfl⟩
          have h := h z18 ez18
          refine lv_iinc (v := z18) (lv' := [(5, .int z18), (4, .int z17), (0, .ref q), (1, .int x1), (2, .int x2), (3, .int x3)]) hx hb dX8_lies_82 hl (k := 5) rfl (by rw [ez18]; rfl) (by decide) rfl (fun ls hl => ?_)
          refine lv_goto (tgt := 13) hx hb dX8_lies_85 (by decide) ?_
          exact ih _ _ _ h _ _ _ hP hD hS (lv_sub hl [2, 3, 4, 5, 1, 0] rfl)
      · have h := h.2 c12
        refine lv_iload_n hx hb dX8_lies_54 rfl (lv_at hl 3 rfl) ?_
        refine lv_goto (tgt := 59) hx hb dX8_lies_55 (by decide) ?_
        refine lv_isub hx hb dX8_lies_59 ?_
        refine lv_imul hx hb dX8_lies_60 ?_
        refine lv_iadd hx hb dX8_lies_61 ?_
        refine lv_topi (fun z19 ez19 => ?_)
        have h := h z19 ez19
        obtain ⟨hin, h⟩ := h
        refine va_iast hx hb hK hP hD hS 1 0 rfl rfl hin dX8_lies_62 (fun H locs hP hD hS => ?_)
        have hP : va_P D vwCl (w_X8_lies Y q q_row q_isKept q_text q_seenFold q_seenSpan q_readLong q_marks q_isMeasured q_waysAre q_haveSpan g_links g_undos g_length g_seenMany g_trace g_at g_behind g_number g_readLinks g_readFolded g_readStiff g_wayMany (upd g_marks ((x5 + (1 : Int32))).toNatClampNeg z19) g_row) H := hP
        have hD : va_D A (w_X8_lies Y q q_row q_isKept q_text q_seenFold q_seenSpan q_readLong q_marks q_isMeasured q_waysAre q_haveSpan g_links g_undos g_length g_seenMany g_trace g_at g_behind g_number g_readLinks g_readFolded g_readStiff g_wayMany (upd g_marks ((x5 + (1 : Int32))).toNatClampNeg z19) g_row) := hD
        refine lv_iload_n hx hb dX8_lies_63 rfl (lv_at hl 1 rfl) ?_
        refine lv_iload hx hb dX8_lies_64 (lv_at hl 5 rfl) ?_
        have hp : Pt (w_X8_lies Y q q_row q_isKept q_text q_seenFold q_seenSpan q_readLong q_marks q_isMeasured q_waysAre q_haveSpan g_links g_undos g_length g_seenMany g_trace g_at g_behind g_number g_readLinks g_readFolded g_readStiff g_wayMany (upd g_marks ((x5 + (1 : Int32))).toNatClampNeg z19) g_row) (w_X8_has Y ) [] := ⟨rfl, by decide +kernel⟩
        refine go_i hp hP hD hS hA (fun _ => rfl) (va_runS (As := [.int x1, .int x5]) (rest := []) ⟨hx, hb, hml, hown, hts⟩ (c_X8_has h _) (va_cwS 2 hts gX8_lies_X8_has rfl rfl rfl (by decide +kernel) ⟨Nat.le_of_ble_eq_true rfl, Nat.le_of_ble_eq_true rfl⟩) (pre_S hp hK hN hP hD) rfl rfl hl.1 rfl (lv_room (Nat.le_of_ble_eq_true rfl)) dX8_lies_66 ⟨Nat.le_of_ble_eq_true rfl, Nat.le_of_ble_eq_true rfl⟩) (fun r20 u H locs h hP hD hS => ?_)
        try dsimp only at h
        have hP : va_P D vwCl (w_X8_lies Y q q_row q_isKept q_text q_seenFold q_seenSpan q_readLong q_marks q_isMeasured q_waysAre q_haveSpan g_links g_undos g_length g_seenMany g_trace g_at g_behind g_number g_readLinks g_readFolded g_readStiff g_wayMany (upd g_marks ((x5 + (1 : Int32))).toNatClampNeg z19) g_row) H := hP
        have hD : va_D A (w_X8_lies Y q q_row q_isKept q_text q_seenFold q_seenSpan q_readLong q_marks q_isMeasured q_waysAre q_haveSpan g_links g_undos g_length g_seenMany g_trace g_at g_behind g_number g_readLinks g_readFolded g_readStiff g_wayMany (upd g_marks ((x5 + (1 : Int32))).toNatClampNeg z19) g_row) := hD
        refine lv_if_eq (tgt := 78) hx hb dX8_lies_69 (by decide) (fun c21 => ?_) (fun c21 => ?_)
        · have h := h.1 c21
          refine lv_iload hx hb dX8_lies_78 (lv_at hl 4 rfl) ?_
          refine lv_istore (lv' := [(4, .int x4), (0, .ref q), (1, .int x1), (2, .int x2), (3, .int x3), (5, .int x5)]) hx hb dX8_lies_80 hl (by decide) rfl (fun ls hl => ?_)
          obtain ⟨z22, ez22⟩ : ∃ y : Int32, y = (x5 + (1 : Int32)) := ⟨_, rfl⟩
          have h := h z22 ez22
          refine lv_iinc (v := z22) (lv' := [(5, .int z22), (4, .int x4), (0, .ref q), (1, .int x1), (2, .int x2), (3, .int x3)]) hx hb dX8_lies_82 hl (k := 5) rfl (by rw [ez22]; rfl) (by decide) rfl (fun ls hl => ?_)
          refine lv_goto (tgt := 13) hx hb dX8_lies_85 (by decide) ?_
          exact ih _ _ _ h _ _ _ hP hD hS (lv_sub hl [2, 3, 4, 5, 1, 0] rfl)
        · have h := h.2 c21
          refine lv_iload hx hb dX8_lies_72 (lv_at hl 4 rfl) ?_
          refine lv_ineg hx hb dX8_lies_74 ?_
          refine lv_goto (tgt := 80) hx hb dX8_lies_75 (by decide) ?_
          refine lv_topi (fun z23 ez23 => ?_)
          have h := h z23 ez23
          refine lv_istore (lv' := [(4, .int z23), (0, .ref q), (1, .int x1), (2, .int x2), (3, .int x3), (5, .int x5)]) hx hb dX8_lies_80 hl (by decide) rfl (fun ls hl => ?_)
          obtain ⟨z24, ez24⟩ : ∃ y : Int32, y = (x5 + (1 : Int32)) := ⟨_, rfl⟩
          have h := h z24 ez24
          refine lv_iinc (v := z24) (lv' := [(5, .int z24), (4, .int z23), (0, .ref q), (1, .int x1), (2, .int x2), (3, .int x3)]) hx hb dX8_lies_82 hl (k := 5) rfl (by rw [ez24]; rfl) (by decide) rfl (fun ls hl => ?_)
          refine lv_goto (tgt := 13) hx hb dX8_lies_85 (by decide) ?_
          exact ih _ _ _ h _ _ _ hP hD hS (lv_sub hl [2, 3, 4, 5, 1, 0] rfl)
set_option maxHeartbeats 4000000 in
set_option maxRecDepth 100000 in
theorem c_X8_lies {l : Launch} {D : va_G} {Y : ClassId × ClassId × ClassId} {q q_row q_isKept q_text q_seenFold q_seenSpan q_readLong q_marks q_isMeasured q_waysAre q_haveSpan : Nat} {g_links g_undos g_length g_seenMany : Int32} {g_trace : Int64} {g_at g_behind g_number g_readLinks g_readFolded g_readStiff g_wayMany : Int32} {g_marks g_row : Nat → Int32} {x1 x2 x3 : Int32} {Q : (Nat → Int32) → Prop} (h : wp_X8_lies g_links g_marks g_row x1 x2 x3 Q) (sz : Nat) : MtV l yX8_lies wsX8_lies rm_X8_lies [.ref q, .int x1, .int x2, .int x3] D Y (w_X8_lies Y q q_row q_isKept q_text q_seenFold q_seenSpan q_readLong q_marks q_isMeasured q_waysAre q_haveSpan g_links g_undos g_length g_seenMany g_trace g_at g_behind g_number g_readLinks g_readFolded g_readStiff g_wayMany g_marks g_row) (fun (u : (Nat → Int32)) => Q u) (fun u : (Nat → Int32) => (w_X8_lies Y q q_row q_isKept q_text q_seenFold q_seenSpan q_readLong q_marks q_isMeasured q_waysAre q_haveSpan g_links g_undos g_length g_seenMany g_trace g_at g_behind g_number g_readLinks g_readFolded g_readStiff g_wayMany u g_row)) sz := by
  refine ct_v (cc := cX8_lies) (nL := 6) (ret := none) (by decide) rfl (Nat.le_of_ble_eq_true rfl) ?_ sz
  intro p e s m below meth c A ls C hK hA hP hD hS hl
  obtain ⟨⟨hx, hb, hml, hown, hts⟩, hr, hlocks, hN⟩ := id C
  have hown : s.vm.findClass RX8 = some m.cls := hown
  have hl : lv_has ls 6 [(0, .ref q), (1, .int x1), (2, .int x2), (3, .int x3)] := hl
  unfold wp_X8_lies at h
  refine lv_iconst (v := 1) hx hb dX8_lies_0 (by decide) ?_
  refine lv_istore (lv' := [(4, .int (1 : Int32)), (0, .ref q), (1, .int x1), (2, .int x2), (3, .int x3)]) hx hb dX8_lies_1 hl (by decide) rfl (fun ls hl => ?_)
  refine lv_aload_n hx hb dX8_lies_3 rfl (lv_at hl 1 rfl) ?_
  refine va_get (D := D) (ci := 8) (v := .ref q_marks) (C := RX8) (T := TX8) (N := 22) hx hb hts in_X8_lies_X8 hown hK hP 0 rfl rfl 17 (by decide) (k_X8_lies_f29 hts) (fun _ h9 => h9) rfl dX8_lies_4 ?_
  refine lv_iconst (v := 0) hx hb dX8_lies_7 (by decide) ?_
  refine lv_iconst (v := 0) hx hb dX8_lies_8 (by decide) ?_
  obtain ⟨hin, h⟩ := h
  refine va_iast hx hb hK hP hD hS 1 0 rfl rfl hin dX8_lies_9 (fun H locs hP hD hS => ?_)
  have hP : va_P D vwCl (w_X8_lies Y q q_row q_isKept q_text q_seenFold q_seenSpan q_readLong q_marks q_isMeasured q_waysAre q_haveSpan g_links g_undos g_length g_seenMany g_trace g_at g_behind g_number g_readLinks g_readFolded g_readStiff g_wayMany (upd g_marks ((0 : Int32)).toNatClampNeg (0 : Int32)) g_row) H := hP
  have hD : va_D A (w_X8_lies Y q q_row q_isKept q_text q_seenFold q_seenSpan q_readLong q_marks q_isMeasured q_waysAre q_haveSpan g_links g_undos g_length g_seenMany g_trace g_at g_behind g_number g_readLinks g_readFolded g_readStiff g_wayMany (upd g_marks ((0 : Int32)).toNatClampNeg (0 : Int32)) g_row) := hD
  refine lv_iconst (v := 0) hx hb dX8_lies_10 (by decide) ?_
  refine lv_istore (lv' := [(5, .int (0 : Int32)), (4, .int (1 : Int32)), (0, .ref q), (1, .int x1), (2, .int x2), (3, .int x3)]) hx hb dX8_lies_11 hl (by decide) rfl (fun ls hl => ?_)
  obtain ⟨n, h⟩ := h
  exact L_X8_lies_13 C hK hA  n _ _ _ h _ _ _ hP hD hS (lv_sub hl [2, 3, 4, 5, 1, 0] rfl)
abbrev rm_X8_lowest : Room := { frames := 0, cells := 0, slots := 0, locals := 0 }
theorem in_X8_lowest_X8 : ∀ w ∈ wsX80, w ∈ wsX8_lowest := fun _ h => List.mem_cons_of_mem _ (List.mem_append_right _ h)
theorem k_X8_lowest_f41 {s : State} {args : Array Value} (hts : ∀ w ∈ wsX8_lowest, w.before args s = true) : (Cond.fieldLink RX8 41 "FoldRuleModel" "links" "I").before args s = true := hts _ (by decide +kernel)
theorem k_X8_lowest_f29 {s : State} {args : Array Value} (hts : ∀ w ∈ wsX8_lowest, w.before args s = true) : (Cond.fieldLink RX8 29 "FoldRuleModel" "marks" "[I").before args s = true := hts _ (by decide +kernel)
set_option maxHeartbeats 4000000 in
set_option maxRecDepth 100000 in
theorem L_X8_lowest_4 {p : Program} {l : Launch} {e : Env} {s : State} {m : MethodId} {args : Array Value} {below : List Frame} {meth : Method} {c : Code} {D : va_G} {Y : ClassId × ClassId × ClassId} {A : Nat → Prop} {q q_row q_isKept q_text q_seenFold q_seenSpan q_readLong q_marks q_isMeasured q_waysAre q_haveSpan : Nat} {g_links g_undos g_length g_seenMany : Int32} {g_trace : Int64} {g_at g_behind g_number g_readLinks g_readFolded g_readStiff g_wayMany : Int32} {g_marks : Nat → Int32} {Q : Int32 → Prop} (C : Ctx p s m args meth c cX8_lowest 3 (some .int) wsX8_lowest RX8) (hK : va_K D vwCl (tyS Y) s) (hA : ∀ q, s.heap.size ≤ q → A q) : ∀ (n : Nat) (x1 x2 : Int32), itr2 (B_X8_lowest_4 g_links g_marks Q) n x1 x2 → ∀ (H : Heap) (locs : List Loc) (ls : Array Slot), va_P D vwCl (w_X8_lowest Y q q_row q_isKept q_text q_seenFold q_seenSpan q_readLong q_marks q_isMeasured q_waysAre q_haveSpan g_links g_undos g_length g_seenMany g_trace g_at g_behind g_number g_readLinks g_readFolded g_readStiff g_wayMany g_marks) H → va_D A (w_X8_lowest Y q q_row q_isKept q_text q_seenFold q_seenSpan q_readLong q_marks q_isMeasured q_waysAre q_haveSpan g_links g_undos g_length g_seenMany g_trace g_at g_behind g_number g_readLinks g_readFolded g_readStiff g_wayMany g_marks) → va_S A s.heap H locs → lv_has ls 3 [(0, .ref q), (1, .int x1), (2, .int x2)] → W p l e rm_X8_lowest s m args below meth c H locs 0 0 (QI below args s D Y A (fun r (_ : Unit) => Q r) (fun _ : Unit => (w_X8_lowest Y q q_row q_isKept q_text q_seenFold q_seenSpan q_readLong q_marks q_isMeasured q_waysAre q_haveSpan g_links g_undos g_length g_seenMany g_trace g_at g_behind g_number g_readLinks g_readFolded g_readStiff g_wayMany g_marks))) (F0 m 4 ls []) := by
  intro n
  induction n with
  | zero => intro x1 x2 h; exact False.elim h
  | succ n ih =>
    intro x1 x2 h H locs ls hP hD hS hl
    obtain ⟨⟨hx, hb, hml, hown, hts⟩, hr, hlocks, hN⟩ := id C
    have h : B_X8_lowest_4 g_links g_marks Q (itr2 (B_X8_lowest_4 g_links g_marks Q) n) x1 x2 := h
    unfold B_X8_lowest_4 at h
    refine lv_iload_n hx hb dX8_lowest_4 rfl (lv_at hl 2 rfl) ?_
    refine lv_aload_n hx hb dX8_lowest_5 rfl (lv_at hl 0 rfl) ?_
    refine va_get (D := D) (ci := 8) (v := .int g_links) (C := RX8) (T := TX8) (N := 22) hx hb hts in_X8_lowest_X8 hown hK hP 0 rfl rfl 1 (by decide) (k_X8_lowest_f41 hts) (fun _ h9 => h9) rfl dX8_lowest_6 ?_
    refine lv_icmp_gt (tgt := 39) hx hb dX8_lowest_9 (by decide) (fun c4 => ?_) (fun c4 => ?_)
    · have h := h.1 c4
      refine lv_iload_n hx hb dX8_lowest_39 rfl (lv_at hl 1 rfl) ?_
      exact ret_i () hx hb hr hlocks hK hP hD hS h dX8_lowest_40
    · have h := h.2 c4
      refine lv_aload_n hx hb dX8_lowest_12 rfl (lv_at hl 0 rfl) ?_
      refine va_get (D := D) (ci := 8) (v := .ref q_marks) (C := RX8) (T := TX8) (N := 22) hx hb hts in_X8_lowest_X8 hown hK hP 0 rfl rfl 17 (by decide) (k_X8_lowest_f29 hts) (fun _ h9 => h9) rfl dX8_lowest_13 ?_
      refine lv_iload_n hx hb dX8_lowest_16 rfl (lv_at hl 2 rfl) ?_
      obtain ⟨hin, h⟩ := h
      refine va_iald hx hb hK hP 1 0 rfl rfl hin dX8_lowest_17 ?_
      refine lv_iload_n hx hb dX8_lowest_18 rfl (lv_at hl 1 rfl) ?_
      refine lv_icmp_ge (tgt := 31) hx hb dX8_lowest_19 (by decide) (fun c5 => ?_) (fun c5 => ?_)
      · have h := h.1 c5
        refine lv_iload_n hx hb dX8_lowest_31 rfl (lv_at hl 1 rfl) ?_
        refine lv_istore_n (lv' := [(1, .int x1), (0, .ref q), (2, .int x2)]) hx hb dX8_lowest_32 rfl hl (by decide) rfl (fun ls hl => ?_)
        obtain ⟨z6, ez6⟩ : ∃ y : Int32, y = (x2 + (1 : Int32)) := ⟨_, rfl⟩
        have h := h z6 ez6
        refine lv_iinc (v := z6) (lv' := [(2, .int z6), (1, .int x1), (0, .ref q)]) hx hb dX8_lowest_33 hl (k := 2) rfl (by rw [ez6]; rfl) (by decide) rfl (fun ls hl => ?_)
        refine lv_goto (tgt := 4) hx hb dX8_lowest_36 (by decide) ?_
        exact ih _ _ h _ _ _ hP hD hS (lv_sub hl [2, 1, 0] rfl)
      · have h := h.2 c5
        refine lv_aload_n hx hb dX8_lowest_22 rfl (lv_at hl 0 rfl) ?_
        refine va_get (D := D) (ci := 8) (v := .ref q_marks) (C := RX8) (T := TX8) (N := 22) hx hb hts in_X8_lowest_X8 hown hK hP 0 rfl rfl 17 (by decide) (k_X8_lowest_f29 hts) (fun _ h9 => h9) rfl dX8_lowest_23 ?_
        refine lv_iload_n hx hb dX8_lowest_26 rfl (lv_at hl 2 rfl) ?_
        obtain ⟨hin, h⟩ := h
        refine va_iald hx hb hK hP 1 0 rfl rfl hin dX8_lowest_27 ?_
        refine lv_goto (tgt := 32) hx hb dX8_lowest_28 (by decide) ?_
        refine lv_topi (fun z7 ez7 => ?_)
        have h := h z7 ez7
        refine lv_istore_n (lv' := [(1, .int z7), (0, .ref q), (2, .int x2)]) hx hb dX8_lowest_32 rfl hl (by decide) rfl (fun ls hl => ?_)
        obtain ⟨z8, ez8⟩ : ∃ y : Int32, y = (x2 + (1 : Int32)) := ⟨_, rfl⟩
        have h := h z8 ez8
        refine lv_iinc (v := z8) (lv' := [(2, .int z8), (1, .int z7), (0, .ref q)]) hx hb dX8_lowest_33 hl (k := 2) rfl (by rw [ez8]; rfl) (by decide) rfl (fun ls hl => ?_)
        refine lv_goto (tgt := 4) hx hb dX8_lowest_36 (by decide) ?_
        exact ih _ _ h _ _ _ hP hD hS (lv_sub hl [2, 1, 0] rfl)
set_option maxHeartbeats 4000000 in
set_option maxRecDepth 100000 in
theorem c_X8_lowest {l : Launch} {D : va_G} {Y : ClassId × ClassId × ClassId} {q q_row q_isKept q_text q_seenFold q_seenSpan q_readLong q_marks q_isMeasured q_waysAre q_haveSpan : Nat} {g_links g_undos g_length g_seenMany : Int32} {g_trace : Int64} {g_at g_behind g_number g_readLinks g_readFolded g_readStiff g_wayMany : Int32} {g_marks : Nat → Int32} {Q : Int32 → Prop} (h : wp_X8_lowest g_links g_marks Q) (sz : Nat) : MtI l yX8_lowest wsX8_lowest rm_X8_lowest [.ref q] D Y (w_X8_lowest Y q q_row q_isKept q_text q_seenFold q_seenSpan q_readLong q_marks q_isMeasured q_waysAre q_haveSpan g_links g_undos g_length g_seenMany g_trace g_at g_behind g_number g_readLinks g_readFolded g_readStiff g_wayMany g_marks) (fun r (_ : Unit) => Q r) (fun _ : Unit => (w_X8_lowest Y q q_row q_isKept q_text q_seenFold q_seenSpan q_readLong q_marks q_isMeasured q_waysAre q_haveSpan g_links g_undos g_length g_seenMany g_trace g_at g_behind g_number g_readLinks g_readFolded g_readStiff g_wayMany g_marks)) sz := by
  refine ct_i (cc := cX8_lowest) (nL := 3) (ret := (some .int)) (by decide) rfl (Nat.le_of_ble_eq_true rfl) ?_ sz
  intro p e s m below meth c A ls C hK hA hP hD hS hl
  obtain ⟨⟨hx, hb, hml, hown, hts⟩, hr, hlocks, hN⟩ := id C
  have hown : s.vm.findClass RX8 = some m.cls := hown
  have hl : lv_has ls 3 [(0, .ref q)] := hl
  unfold wp_X8_lowest at h
  refine lv_iconst (v := 0) hx hb dX8_lowest_0 (by decide) ?_
  refine lv_istore_n (lv' := [(1, .int (0 : Int32)), (0, .ref q)]) hx hb dX8_lowest_1 rfl hl (by decide) rfl (fun ls hl => ?_)
  refine lv_iconst (v := 0) hx hb dX8_lowest_2 (by decide) ?_
  refine lv_istore_n (lv' := [(2, .int (0 : Int32)), (1, .int (0 : Int32)), (0, .ref q)]) hx hb dX8_lowest_3 rfl hl (by decide) rfl (fun ls hl => ?_)
  obtain ⟨n, h⟩ := h
  exact L_X8_lowest_4 C hK hA  n _ _ h _ _ _ hP hD hS (lv_sub hl [2, 1, 0] rfl)
abbrev rm_X8_spanNow : Room := { frames := 1, cells := 0, slots := 0, locals := 22 }
theorem in_X8_spanNow_X8 : ∀ w ∈ wsX80, w ∈ wsX8_spanNow := fun _ h => List.mem_cons_of_mem _ (List.mem_append_right _ h)
theorem k_X8_spanNow_f41 {s : State} {args : Array Value} (hts : ∀ w ∈ wsX8_spanNow, w.before args s = true) : (Cond.fieldLink RX8 41 "FoldRuleModel" "links" "I").before args s = true := hts _ (by decide +kernel)
theorem k_X8_spanNow_f29 {s : State} {args : Array Value} (hts : ∀ w ∈ wsX8_spanNow, w.before args s = true) : (Cond.fieldLink RX8 29 "FoldRuleModel" "marks" "[I").before args s = true := hts _ (by decide +kernel)
set_option maxHeartbeats 4000000 in
set_option maxRecDepth 100000 in
theorem L_X8_spanNow_4 {p : Program} {l : Launch} {e : Env} {s : State} {m : MethodId} {args : Array Value} {below : List Frame} {meth : Method} {c : Code} {D : va_G} {Y : ClassId × ClassId × ClassId} {A : Nat → Prop} {q q_row q_isKept q_text q_seenFold q_seenSpan q_readLong q_marks q_isMeasured q_waysAre q_haveSpan : Nat} {g_links g_undos g_length g_seenMany : Int32} {g_trace : Int64} {g_at g_behind g_number g_readLinks g_readFolded g_readStiff g_wayMany : Int32} {g_marks : Nat → Int32} {Q : Int32 → Prop} (C : Ctx p s m args meth c cX8_spanNow 3 (some .int) wsX8_spanNow RX8) (hK : va_K D vwCl (tyS Y) s) (hA : ∀ q, s.heap.size ≤ q → A q) : ∀ (n : Nat) (x1 x2 : Int32), itr2 (B_X8_spanNow_4 g_links g_marks Q) n x1 x2 → ∀ (H : Heap) (locs : List Loc) (ls : Array Slot), va_P D vwCl (w_X8_spanNow Y q q_row q_isKept q_text q_seenFold q_seenSpan q_readLong q_marks q_isMeasured q_waysAre q_haveSpan g_links g_undos g_length g_seenMany g_trace g_at g_behind g_number g_readLinks g_readFolded g_readStiff g_wayMany g_marks) H → va_D A (w_X8_spanNow Y q q_row q_isKept q_text q_seenFold q_seenSpan q_readLong q_marks q_isMeasured q_waysAre q_haveSpan g_links g_undos g_length g_seenMany g_trace g_at g_behind g_number g_readLinks g_readFolded g_readStiff g_wayMany g_marks) → va_S A s.heap H locs → lv_has ls 3 [(0, .ref q), (1, .int x1), (2, .int x2)] → W p l e rm_X8_spanNow s m args below meth c H locs 0 0 (QI below args s D Y A (fun r (_ : Unit) => Q r) (fun _ : Unit => (w_X8_spanNow Y q q_row q_isKept q_text q_seenFold q_seenSpan q_readLong q_marks q_isMeasured q_waysAre q_haveSpan g_links g_undos g_length g_seenMany g_trace g_at g_behind g_number g_readLinks g_readFolded g_readStiff g_wayMany g_marks))) (F0 m 4 ls []) := by
  intro n
  induction n with
  | zero => intro x1 x2 h; exact False.elim h
  | succ n ih =>
    intro x1 x2 h H locs ls hP hD hS hl
    obtain ⟨⟨hx, hb, hml, hown, hts⟩, hr, hlocks, hN⟩ := id C
    have h : B_X8_spanNow_4 g_links g_marks Q (itr2 (B_X8_spanNow_4 g_links g_marks Q) n) x1 x2 := h
    unfold B_X8_spanNow_4 at h
    refine lv_iload_n hx hb dX8_spanNow_4 rfl (lv_at hl 2 rfl) ?_
    refine lv_aload_n hx hb dX8_spanNow_5 rfl (lv_at hl 0 rfl) ?_
    refine va_get (D := D) (ci := 8) (v := .int g_links) (C := RX8) (T := TX8) (N := 22) hx hb hts in_X8_spanNow_X8 hown hK hP 0 rfl rfl 1 (by decide) (k_X8_spanNow_f41 hts) (fun _ h9 => h9) rfl dX8_spanNow_6 ?_
    refine lv_icmp_gt (tgt := 39) hx hb dX8_spanNow_9 (by decide) (fun c5 => ?_) (fun c5 => ?_)
    · have h := h.1 c5
      refine lv_iload_n hx hb dX8_spanNow_39 rfl (lv_at hl 1 rfl) ?_
      refine lv_aload_n hx hb dX8_spanNow_40 rfl (lv_at hl 0 rfl) ?_
      have hp : Pt (w_X8_spanNow Y q q_row q_isKept q_text q_seenFold q_seenSpan q_readLong q_marks q_isMeasured q_waysAre q_haveSpan g_links g_undos g_length g_seenMany g_trace g_at g_behind g_number g_readLinks g_readFolded g_readStiff g_wayMany g_marks) (w_X8_lowest Y q q_row q_isKept q_text q_seenFold q_seenSpan q_readLong q_marks q_isMeasured q_waysAre q_haveSpan g_links g_undos g_length g_seenMany g_trace g_at g_behind g_number g_readLinks g_readFolded g_readStiff g_wayMany g_marks) [0, 1] := ⟨rfl, by decide +kernel⟩
      refine go_i hp hP hD hS hA (fun _ => rfl) (va_runV (As := []) (rest := [.int x1]) ⟨hx, hb, hml, hown, hts⟩ (c_X8_lowest h _) (cwV 0 hts gX8_spanNow_X8_lowest rfl rfl rfl (by decide +kernel) ⟨Nat.le_of_ble_eq_true rfl, Nat.le_of_ble_eq_true rfl⟩) (pre_V (b := q) (q0 := 0) (ci := 8) (q := (RX8, TX8, 22)) hp hK hN hP hD rfl rfl) rfl rfl hl.1 rfl (lv_room (Nat.le_of_ble_eq_true rfl)) dX8_spanNow_41 ⟨Nat.le_of_ble_eq_true rfl, Nat.le_of_ble_eq_true rfl⟩) (fun r6 u H locs h hP hD hS => ?_)
      try dsimp only at h
      have hP : va_P D vwCl (w_X8_spanNow Y q q_row q_isKept q_text q_seenFold q_seenSpan q_readLong q_marks q_isMeasured q_waysAre q_haveSpan g_links g_undos g_length g_seenMany g_trace g_at g_behind g_number g_readLinks g_readFolded g_readStiff g_wayMany g_marks) H := hP
      have hD : va_D A (w_X8_spanNow Y q q_row q_isKept q_text q_seenFold q_seenSpan q_readLong q_marks q_isMeasured q_waysAre q_haveSpan g_links g_undos g_length g_seenMany g_trace g_at g_behind g_number g_readLinks g_readFolded g_readStiff g_wayMany g_marks) := hD
      refine lv_isub hx hb dX8_spanNow_44 ?_
      exact ret_i () hx hb hr hlocks hK hP hD hS h dX8_spanNow_45
    · have h := h.2 c5
      refine lv_aload_n hx hb dX8_spanNow_12 rfl (lv_at hl 0 rfl) ?_
      refine va_get (D := D) (ci := 8) (v := .ref q_marks) (C := RX8) (T := TX8) (N := 22) hx hb hts in_X8_spanNow_X8 hown hK hP 0 rfl rfl 17 (by decide) (k_X8_spanNow_f29 hts) (fun _ h9 => h9) rfl dX8_spanNow_13 ?_
      refine lv_iload_n hx hb dX8_spanNow_16 rfl (lv_at hl 2 rfl) ?_
      obtain ⟨hin, h⟩ := h
      refine va_iald hx hb hK hP 1 0 rfl rfl hin dX8_spanNow_17 ?_
      refine lv_iload_n hx hb dX8_spanNow_18 rfl (lv_at hl 1 rfl) ?_
      refine lv_icmp_le (tgt := 31) hx hb dX8_spanNow_19 (by decide) (fun c7 => ?_) (fun c7 => ?_)
      · have h := h.1 c7
        refine lv_iload_n hx hb dX8_spanNow_31 rfl (lv_at hl 1 rfl) ?_
        refine lv_istore_n (lv' := [(1, .int x1), (0, .ref q), (2, .int x2)]) hx hb dX8_spanNow_32 rfl hl (by decide) rfl (fun ls hl => ?_)
        obtain ⟨z8, ez8⟩ : ∃ y : Int32, y = (x2 + (1 : Int32)) := ⟨_, rfl⟩
        have h := h z8 ez8
        refine lv_iinc (v := z8) (lv' := [(2, .int z8), (1, .int x1), (0, .ref q)]) hx hb dX8_spanNow_33 hl (k := 2) rfl (by rw [ez8]; rfl) (by decide) rfl (fun ls hl => ?_)
        refine lv_goto (tgt := 4) hx hb dX8_spanNow_36 (by decide) ?_
        exact ih _ _ h _ _ _ hP hD hS (lv_sub hl [2, 1, 0] rfl)
      · have h := h.2 c7
        refine lv_aload_n hx hb dX8_spanNow_22 rfl (lv_at hl 0 rfl) ?_
        refine va_get (D := D) (ci := 8) (v := .ref q_marks) (C := RX8) (T := TX8) (N := 22) hx hb hts in_X8_spanNow_X8 hown hK hP 0 rfl rfl 17 (by decide) (k_X8_spanNow_f29 hts) (fun _ h9 => h9) rfl dX8_spanNow_23 ?_
        refine lv_iload_n hx hb dX8_spanNow_26 rfl (lv_at hl 2 rfl) ?_
        obtain ⟨hin, h⟩ := h
        refine va_iald hx hb hK hP 1 0 rfl rfl hin dX8_spanNow_27 ?_
        refine lv_goto (tgt := 32) hx hb dX8_spanNow_28 (by decide) ?_
        refine lv_topi (fun z9 ez9 => ?_)
        have h := h z9 ez9
        refine lv_istore_n (lv' := [(1, .int z9), (0, .ref q), (2, .int x2)]) hx hb dX8_spanNow_32 rfl hl (by decide) rfl (fun ls hl => ?_)
        obtain ⟨z10, ez10⟩ : ∃ y : Int32, y = (x2 + (1 : Int32)) := ⟨_, rfl⟩
        have h := h z10 ez10
        refine lv_iinc (v := z10) (lv' := [(2, .int z10), (1, .int z9), (0, .ref q)]) hx hb dX8_spanNow_33 hl (k := 2) rfl (by rw [ez10]; rfl) (by decide) rfl (fun ls hl => ?_)
        refine lv_goto (tgt := 4) hx hb dX8_spanNow_36 (by decide) ?_
        exact ih _ _ h _ _ _ hP hD hS (lv_sub hl [2, 1, 0] rfl)
set_option maxHeartbeats 4000000 in
set_option maxRecDepth 100000 in
theorem c_X8_spanNow {l : Launch} {D : va_G} {Y : ClassId × ClassId × ClassId} {q q_row q_isKept q_text q_seenFold q_seenSpan q_readLong q_marks q_isMeasured q_waysAre q_haveSpan : Nat} {g_links g_undos g_length g_seenMany : Int32} {g_trace : Int64} {g_at g_behind g_number g_readLinks g_readFolded g_readStiff g_wayMany : Int32} {g_marks : Nat → Int32} {Q : Int32 → Prop} (h : wp_X8_spanNow g_links g_marks Q) (sz : Nat) : MtI l yX8_spanNow wsX8_spanNow rm_X8_spanNow [.ref q] D Y (w_X8_spanNow Y q q_row q_isKept q_text q_seenFold q_seenSpan q_readLong q_marks q_isMeasured q_waysAre q_haveSpan g_links g_undos g_length g_seenMany g_trace g_at g_behind g_number g_readLinks g_readFolded g_readStiff g_wayMany g_marks) (fun r (_ : Unit) => Q r) (fun _ : Unit => (w_X8_spanNow Y q q_row q_isKept q_text q_seenFold q_seenSpan q_readLong q_marks q_isMeasured q_waysAre q_haveSpan g_links g_undos g_length g_seenMany g_trace g_at g_behind g_number g_readLinks g_readFolded g_readStiff g_wayMany g_marks)) sz := by
  refine ct_i (cc := cX8_spanNow) (nL := 3) (ret := (some .int)) (by decide) rfl (Nat.le_of_ble_eq_true rfl) ?_ sz
  intro p e s m below meth c A ls C hK hA hP hD hS hl
  obtain ⟨⟨hx, hb, hml, hown, hts⟩, hr, hlocks, hN⟩ := id C
  have hown : s.vm.findClass RX8 = some m.cls := hown
  have hl : lv_has ls 3 [(0, .ref q)] := hl
  unfold wp_X8_spanNow at h
  refine lv_iconst (v := 0) hx hb dX8_spanNow_0 (by decide) ?_
  refine lv_istore_n (lv' := [(1, .int (0 : Int32)), (0, .ref q)]) hx hb dX8_spanNow_1 rfl hl (by decide) rfl (fun ls hl => ?_)
  refine lv_iconst (v := 0) hx hb dX8_spanNow_2 (by decide) ?_
  refine lv_istore_n (lv' := [(2, .int (0 : Int32)), (1, .int (0 : Int32)), (0, .ref q)]) hx hb dX8_spanNow_3 rfl hl (by decide) rfl (fun ls hl => ?_)
  obtain ⟨n, h⟩ := h
  exact L_X8_spanNow_4 C hK hA  n _ _ h _ _ _ hP hD hS (lv_sub hl [2, 1, 0] rfl)
abbrev rm_X8_spanBy : Room := { frames := 2, cells := 0, slots := 0, locals := 46 }
set_option maxHeartbeats 4000000 in
set_option maxRecDepth 100000 in
theorem c_X8_spanBy {l : Launch} {D : va_G} {Y : ClassId × ClassId × ClassId} {q q_row q_isKept q_text q_seenFold q_seenSpan q_readLong q_marks q_isMeasured q_waysAre q_haveSpan : Nat} {g_links g_undos g_length g_seenMany : Int32} {g_trace : Int64} {g_at g_behind g_number g_readLinks g_readFolded g_readStiff g_wayMany : Int32} {g_marks g_row : Nat → Int32} {x1 : Int32} {Q : Int32 → (Nat → Int32) → Prop} (h : wp_X8_spanBy g_links g_marks g_row x1 Q) (sz : Nat) : MtI l yX8_spanBy wsX8_spanBy rm_X8_spanBy [.ref q, .int x1] D Y (w_X8_spanBy Y q q_row q_isKept q_text q_seenFold q_seenSpan q_readLong q_marks q_isMeasured q_waysAre q_haveSpan g_links g_undos g_length g_seenMany g_trace g_at g_behind g_number g_readLinks g_readFolded g_readStiff g_wayMany g_marks g_row) (fun r (u : (Nat → Int32)) => Q r u) (fun u : (Nat → Int32) => (w_X8_spanBy Y q q_row q_isKept q_text q_seenFold q_seenSpan q_readLong q_marks q_isMeasured q_waysAre q_haveSpan g_links g_undos g_length g_seenMany g_trace g_at g_behind g_number g_readLinks g_readFolded g_readStiff g_wayMany u g_row)) sz := by
  refine ct_i (cc := cX8_spanBy) (nL := 2) (ret := (some .int)) (by decide) rfl (Nat.le_of_ble_eq_true rfl) ?_ sz
  intro p e s m below meth c A ls C hK hA hP hD hS hl
  obtain ⟨⟨hx, hb, hml, hown, hts⟩, hr, hlocks, hN⟩ := id C
  have hown : s.vm.findClass RX8 = some m.cls := hown
  have hl : lv_has ls 2 [(0, .ref q), (1, .int x1)] := hl
  unfold wp_X8_spanBy at h
  refine lv_aload_n hx hb dX8_spanBy_0 rfl (lv_at hl 0 rfl) ?_
  refine lv_iload_n hx hb dX8_spanBy_1 rfl (lv_at hl 1 rfl) ?_
  refine lv_bipush (v := (-9)) hx hb dX8_spanBy_2 (by decide) ?_
  refine lv_iconst (v := 0) hx hb dX8_spanBy_4 (by decide) ?_
  have hp : Pt (w_X8_spanBy Y q q_row q_isKept q_text q_seenFold q_seenSpan q_readLong q_marks q_isMeasured q_waysAre q_haveSpan g_links g_undos g_length g_seenMany g_trace g_at g_behind g_number g_readLinks g_readFolded g_readStiff g_wayMany g_marks g_row) (w_X8_lies Y q q_row q_isKept q_text q_seenFold q_seenSpan q_readLong q_marks q_isMeasured q_waysAre q_haveSpan g_links g_undos g_length g_seenMany g_trace g_at g_behind g_number g_readLinks g_readFolded g_readStiff g_wayMany g_marks g_row) [0, 1, 2] := ⟨rfl, by decide +kernel⟩
  refine go_v hp hP hD hS hA (fun _ => rfl) (va_runV (As := [.int x1, .int (-9 : Int32), .int (0 : Int32)]) (rest := []) ⟨hx, hb, hml, hown, hts⟩ (c_X8_lies h _) (cwV 3 hts gX8_spanBy_X8_lies rfl rfl rfl (by decide +kernel) ⟨Nat.le_of_ble_eq_true rfl, Nat.le_of_ble_eq_true rfl⟩) (pre_V (b := q) (q0 := 0) (ci := 8) (q := (RX8, TX8, 22)) hp hK hN hP hD rfl rfl) rfl rfl hl.1 rfl (lv_room (Nat.le_of_ble_eq_true rfl)) dX8_spanBy_5 ⟨Nat.le_of_ble_eq_true rfl, Nat.le_of_ble_eq_true rfl⟩) (fun u H locs h hP hD hS => ?_)
  obtain ⟨u4, rfl⟩ : ∃ z, z = u := ⟨_, rfl⟩
  try dsimp only at h
  have hP : va_P D vwCl (w_X8_spanBy Y q q_row q_isKept q_text q_seenFold q_seenSpan q_readLong q_marks q_isMeasured q_waysAre q_haveSpan g_links g_undos g_length g_seenMany g_trace g_at g_behind g_number g_readLinks g_readFolded g_readStiff g_wayMany u4 g_row) H := hP
  have hD : va_D A (w_X8_spanBy Y q q_row q_isKept q_text q_seenFold q_seenSpan q_readLong q_marks q_isMeasured q_waysAre q_haveSpan g_links g_undos g_length g_seenMany g_trace g_at g_behind g_number g_readLinks g_readFolded g_readStiff g_wayMany u4 g_row) := hD
  refine lv_aload_n hx hb dX8_spanBy_8 rfl (lv_at hl 0 rfl) ?_
  have hp : Pt (w_X8_spanBy Y q q_row q_isKept q_text q_seenFold q_seenSpan q_readLong q_marks q_isMeasured q_waysAre q_haveSpan g_links g_undos g_length g_seenMany g_trace g_at g_behind g_number g_readLinks g_readFolded g_readStiff g_wayMany u4 g_row) (w_X8_spanNow Y q q_row q_isKept q_text q_seenFold q_seenSpan q_readLong q_marks q_isMeasured q_waysAre q_haveSpan g_links g_undos g_length g_seenMany g_trace g_at g_behind g_number g_readLinks g_readFolded g_readStiff g_wayMany u4) [0, 1] := ⟨rfl, by decide +kernel⟩
  refine go_i hp hP hD hS hA (fun _ => rfl) (va_runV (As := []) (rest := []) ⟨hx, hb, hml, hown, hts⟩ (c_X8_spanNow h _) (cwV 0 hts gX8_spanBy_X8_spanNow rfl rfl rfl (by decide +kernel) ⟨Nat.le_of_ble_eq_true rfl, Nat.le_of_ble_eq_true rfl⟩) (pre_V (b := q) (q0 := 0) (ci := 8) (q := (RX8, TX8, 22)) hp hK hN hP hD rfl rfl) rfl rfl hl.1 rfl (lv_room (Nat.le_of_ble_eq_true rfl)) dX8_spanBy_9 ⟨Nat.le_of_ble_eq_true rfl, Nat.le_of_ble_eq_true rfl⟩) (fun r5 u H locs h hP hD hS => ?_)
  try dsimp only at h
  have hP : va_P D vwCl (w_X8_spanBy Y q q_row q_isKept q_text q_seenFold q_seenSpan q_readLong q_marks q_isMeasured q_waysAre q_haveSpan g_links g_undos g_length g_seenMany g_trace g_at g_behind g_number g_readLinks g_readFolded g_readStiff g_wayMany u4 g_row) H := hP
  have hD : va_D A (w_X8_spanBy Y q q_row q_isKept q_text q_seenFold q_seenSpan q_readLong q_marks q_isMeasured q_waysAre q_haveSpan g_links g_undos g_length g_seenMany g_trace g_at g_behind g_number g_readLinks g_readFolded g_readStiff g_wayMany u4 g_row) := hD
  exact ret_i (u4) hx hb hr hlocks hK hP hD hS h dX8_spanBy_12
abbrev rm_X8_isOver : Room := { frames := 0, cells := 0, slots := 0, locals := 0 }
theorem in_X8_isOver_X8 : ∀ w ∈ wsX80, w ∈ wsX8_isOver := fun _ h => List.mem_cons_of_mem _ (List.mem_append_right _ h)
theorem k_X8_isOver_f29 {s : State} {args : Array Value} (hts : ∀ w ∈ wsX8_isOver, w.before args s = true) : (Cond.fieldLink RX8 29 "FoldRuleModel" "marks" "[I").before args s = true := hts _ (by decide +kernel)
set_option maxHeartbeats 4000000 in
set_option maxRecDepth 100000 in
theorem c_X8_isOver {l : Launch} {D : va_G} {Y : ClassId × ClassId × ClassId} {q q_row q_isKept q_text q_seenFold q_seenSpan q_readLong q_marks q_isMeasured q_waysAre q_haveSpan : Nat} {g_links g_undos g_length g_seenMany : Int32} {g_trace : Int64} {g_at g_behind g_number g_readLinks g_readFolded g_readStiff g_wayMany : Int32} {g_marks : Nat → Int32} {x1 x2 : Int32} {Q : Int32 → Prop} (h : wp_X8_isOver g_marks x1 x2 Q) (sz : Nat) : MtI l yX8_isOver wsX8_isOver rm_X8_isOver [.ref q, .int x1, .int x2] D Y (w_X8_isOver Y q q_row q_isKept q_text q_seenFold q_seenSpan q_readLong q_marks q_isMeasured q_waysAre q_haveSpan g_links g_undos g_length g_seenMany g_trace g_at g_behind g_number g_readLinks g_readFolded g_readStiff g_wayMany g_marks) (fun r (_ : Unit) => Q r) (fun _ : Unit => (w_X8_isOver Y q q_row q_isKept q_text q_seenFold q_seenSpan q_readLong q_marks q_isMeasured q_waysAre q_haveSpan g_links g_undos g_length g_seenMany g_trace g_at g_behind g_number g_readLinks g_readFolded g_readStiff g_wayMany g_marks)) sz := by
  refine ct_i (cc := cX8_isOver) (nL := 5) (ret := (some .boolean)) (by decide) rfl (Nat.le_of_ble_eq_true rfl) ?_ sz
  intro p e s m below meth c A ls C hK hA hP hD hS hl
  obtain ⟨⟨hx, hb, hml, hown, hts⟩, hr, hlocks, hN⟩ := id C
  have hown : s.vm.findClass RX8 = some m.cls := hown
  have hl : lv_has ls 5 [(0, .ref q), (1, .int x1), (2, .int x2)] := hl
  unfold wp_X8_isOver at h
  refine lv_aload_n hx hb dX8_isOver_0 rfl (lv_at hl 0 rfl) ?_
  refine va_get (D := D) (ci := 8) (v := .ref q_marks) (C := RX8) (T := TX8) (N := 22) hx hb hts in_X8_isOver_X8 hown hK hP 0 rfl rfl 17 (by decide) (k_X8_isOver_f29 hts) (fun _ h9 => h9) rfl dX8_isOver_1 ?_
  refine lv_iload_n hx hb dX8_isOver_4 rfl (lv_at hl 1 rfl) ?_
  obtain ⟨hin, h⟩ := h
  refine va_iald hx hb hK hP 1 0 rfl rfl hin dX8_isOver_5 ?_
  refine lv_topi (fun z3 ez3 => ?_)
  have h := h z3 ez3
  refine lv_istore_n (lv' := [(3, .int z3), (0, .ref q), (1, .int x1), (2, .int x2)]) hx hb dX8_isOver_6 rfl hl (by decide) rfl (fun ls hl => ?_)
  refine lv_aload_n hx hb dX8_isOver_7 rfl (lv_at hl 1 rfl) ?_
  refine va_get (D := D) (ci := 8) (v := .ref q_marks) (C := RX8) (T := TX8) (N := 22) hx hb hts in_X8_isOver_X8 hown hK hP 0 rfl rfl 17 (by decide) (k_X8_isOver_f29 hts) (fun _ h9 => h9) rfl dX8_isOver_8 ?_
  refine lv_iload_n hx hb dX8_isOver_11 rfl (lv_at hl 2 rfl) ?_
  refine lv_iconst (v := 1) hx hb dX8_isOver_12 (by decide) ?_
  refine lv_iadd hx hb dX8_isOver_13 ?_
  obtain ⟨hin, h⟩ := h
  refine va_iald hx hb hK hP 1 0 rfl rfl hin dX8_isOver_14 ?_
  refine lv_topi (fun z4 ez4 => ?_)
  have h := h z4 ez4
  refine lv_istore (lv' := [(4, .int z4), (3, .int z3), (0, .ref q), (1, .int x1), (2, .int x2)]) hx hb dX8_isOver_15 hl (by decide) rfl (fun ls hl => ?_)
  refine lv_iload_n hx hb dX8_isOver_17 rfl (lv_at hl 1 rfl) ?_
  refine lv_iload hx hb dX8_isOver_18 (lv_at hl 0 rfl) ?_
  refine lv_icmp_ge (tgt := 42) hx hb dX8_isOver_20 (by decide) (fun c5 => ?_) (fun c5 => ?_)
  · have h := h.1 c5
    refine lv_iload_n hx hb dX8_isOver_42 rfl (lv_at hl 4 rfl) ?_
    refine lv_iload hx hb dX8_isOver_43 (lv_at hl 0 rfl) ?_
    refine lv_icmp_lt (tgt := 57) hx hb dX8_isOver_45 (by decide) (fun c6 => ?_) (fun c6 => ?_)
    · have h := h.1 c6
      refine lv_iconst (v := 0) hx hb dX8_isOver_57 (by decide) ?_
      exact ret_z () hx hb hr hlocks hK hP hD hS (Or.inl rfl) h dX8_isOver_58
    · have h := h.2 c6
      refine lv_iload_n hx hb dX8_isOver_48 rfl (lv_at hl 4 rfl) ?_
      refine lv_iload_n hx hb dX8_isOver_49 rfl (lv_at hl 1 rfl) ?_
      refine lv_icmp_ge (tgt := 57) hx hb dX8_isOver_50 (by decide) (fun c7 => ?_) (fun c7 => ?_)
      · have h := h.1 c7
        refine lv_iconst (v := 0) hx hb dX8_isOver_57 (by decide) ?_
        exact ret_z () hx hb hr hlocks hK hP hD hS (Or.inl rfl) h dX8_isOver_58
      · have h := h.2 c7
        refine lv_iconst (v := 1) hx hb dX8_isOver_53 (by decide) ?_
        refine lv_goto (tgt := 58) hx hb dX8_isOver_54 (by decide) ?_
        exact ret_z () hx hb hr hlocks hK hP hD hS (Or.inr rfl) h dX8_isOver_58
  · have h := h.2 c5
    refine lv_iload_n hx hb dX8_isOver_23 rfl (lv_at hl 4 rfl) ?_
    refine lv_iload_n hx hb dX8_isOver_24 rfl (lv_at hl 1 rfl) ?_
    refine lv_icmp_lt (tgt := 38) hx hb dX8_isOver_25 (by decide) (fun c8 => ?_) (fun c8 => ?_)
    · have h := h.1 c8
      refine lv_iconst (v := 0) hx hb dX8_isOver_38 (by decide) ?_
      refine lv_goto (tgt := 58) hx hb dX8_isOver_39 (by decide) ?_
      exact ret_z () hx hb hr hlocks hK hP hD hS (Or.inl rfl) h dX8_isOver_58
    · have h := h.2 c8
      refine lv_iload_n hx hb dX8_isOver_28 rfl (lv_at hl 4 rfl) ?_
      refine lv_iload hx hb dX8_isOver_29 (lv_at hl 0 rfl) ?_
      refine lv_icmp_ge (tgt := 38) hx hb dX8_isOver_31 (by decide) (fun c9 => ?_) (fun c9 => ?_)
      · have h := h.1 c9
        refine lv_iconst (v := 0) hx hb dX8_isOver_38 (by decide) ?_
        refine lv_goto (tgt := 58) hx hb dX8_isOver_39 (by decide) ?_
        exact ret_z () hx hb hr hlocks hK hP hD hS (Or.inl rfl) h dX8_isOver_58
      · have h := h.2 c9
        refine lv_iconst (v := 1) hx hb dX8_isOver_34 (by decide) ?_
        refine lv_goto (tgt := 58) hx hb dX8_isOver_35 (by decide) ?_
        exact ret_z () hx hb hr hlocks hK hP hD hS (Or.inr rfl) h dX8_isOver_58
abbrev rm_X8_stack : Room := { frames := 3, cells := 0, slots := 0, locals := 67 }
theorem in_X8_stack_X8 : ∀ w ∈ wsX80, w ∈ wsX8_stack := fun _ h => List.mem_cons_of_mem _ (List.mem_append_right _ h)
theorem k_X8_stack_f41 {s : State} {args : Array Value} (hts : ∀ w ∈ wsX8_stack, w.before args s = true) : (Cond.fieldLink RX8 41 "FoldRuleModel" "links" "I").before args s = true := hts _ (by decide +kernel)
theorem k_X8_stack_f7 {s : State} {args : Array Value} (hts : ∀ w ∈ wsX8_stack, w.before args s = true) : (Cond.fieldLink RX8 7 "FoldRuleModel" "row" "[I").before args s = true := hts _ (by decide +kernel)
set_option maxHeartbeats 4000000 in
set_option maxRecDepth 100000 in
theorem L_X8_stack_36 {p : Program} {l : Launch} {e : Env} {s : State} {m : MethodId} {args : Array Value} {below : List Frame} {meth : Method} {c : Code} {D : va_G} {Y : ClassId × ClassId × ClassId} {A : Nat → Prop} {q q_row q_isKept q_text q_seenFold q_seenSpan q_readLong q_marks q_isMeasured q_waysAre q_haveSpan : Nat} {g_links g_undos g_length g_seenMany : Int32} {g_trace : Int64} {g_at g_behind g_number g_readLinks g_readFolded g_readStiff g_wayMany : Int32} {g_row g_marks : Nat → Int32} {x1 x2 x3 x4 : Int32} {Q : Int32 → (Nat → Int32) → Prop} {K22 : Int32 → Int32 → Prop} (C : Ctx p s m args meth c cX8_stack 7 (some .int) wsX8_stack RX8) (hK : va_K D vwCl (tyS Y) s) (hA : ∀ q, s.heap.size ≤ q → A q) (hk22 : ∀ (x3 x4 : Int32), K22 x3 x4 → ∀ (H : Heap) (locs : List Loc) (ls : Array Slot), va_P D vwCl (w_X8_stack Y q q_row q_isKept q_text q_seenFold q_seenSpan q_readLong q_marks q_isMeasured q_waysAre q_haveSpan g_links g_undos g_length g_seenMany g_trace g_at g_behind g_number g_readLinks g_readFolded g_readStiff g_wayMany g_row g_marks) H → va_D A (w_X8_stack Y q q_row q_isKept q_text q_seenFold q_seenSpan q_readLong q_marks q_isMeasured q_waysAre q_haveSpan g_links g_undos g_length g_seenMany g_trace g_at g_behind g_number g_readLinks g_readFolded g_readStiff g_wayMany g_row g_marks) → va_S A s.heap H locs → lv_has ls 7 [(0, .ref q), (1, .int x1), (2, .int x2), (3, .int x3), (4, .int x4)] → W p l e rm_X8_stack s m args below meth c H locs 0 0 (QI below args s D Y A (fun r (u : (Nat → Int32)) => Q r u) (fun u : (Nat → Int32) => (w_X8_stack Y q q_row q_isKept q_text q_seenFold q_seenSpan q_readLong q_marks q_isMeasured q_waysAre q_haveSpan g_links g_undos g_length g_seenMany g_trace g_at g_behind g_number g_readLinks g_readFolded g_readStiff g_wayMany g_row u))) (F0 m 22 ls [])) : ∀ (n : Nat) (x5 x6 : Int32), itr2 (B_X8_stack_36 g_links g_marks x3 x4 K22) n x5 x6 → ∀ (H : Heap) (locs : List Loc) (ls : Array Slot), va_P D vwCl (w_X8_stack Y q q_row q_isKept q_text q_seenFold q_seenSpan q_readLong q_marks q_isMeasured q_waysAre q_haveSpan g_links g_undos g_length g_seenMany g_trace g_at g_behind g_number g_readLinks g_readFolded g_readStiff g_wayMany g_row g_marks) H → va_D A (w_X8_stack Y q q_row q_isKept q_text q_seenFold q_seenSpan q_readLong q_marks q_isMeasured q_waysAre q_haveSpan g_links g_undos g_length g_seenMany g_trace g_at g_behind g_number g_readLinks g_readFolded g_readStiff g_wayMany g_row g_marks) → va_S A s.heap H locs → lv_has ls 7 [(0, .ref q), (1, .int x1), (2, .int x2), (3, .int x3), (4, .int x4), (5, .int x5), (6, .int x6)] → W p l e rm_X8_stack s m args below meth c H locs 0 0 (QI below args s D Y A (fun r (u : (Nat → Int32)) => Q r u) (fun u : (Nat → Int32) => (w_X8_stack Y q q_row q_isKept q_text q_seenFold q_seenSpan q_readLong q_marks q_isMeasured q_waysAre q_haveSpan g_links g_undos g_length g_seenMany g_trace g_at g_behind g_number g_readLinks g_readFolded g_readStiff g_wayMany g_row u))) (F0 m 36 ls []) := by
  intro n
  induction n with
  | zero => intro x5 x6 h; exact False.elim h
  | succ n ih =>
    intro x5 x6 h H locs ls hP hD hS hl
    obtain ⟨⟨hx, hb, hml, hown, hts⟩, hr, hlocks, hN⟩ := id C
    have h : B_X8_stack_36 g_links g_marks x3 x4 K22 (itr2 (B_X8_stack_36 g_links g_marks x3 x4 K22) n) x5 x6 := h
    unfold B_X8_stack_36 at h
    refine lv_iload hx hb dX8_stack_36 (lv_at hl 6 rfl) ?_
    refine lv_aload_n hx hb dX8_stack_38 rfl (lv_at hl 0 rfl) ?_
    refine va_get (D := D) (ci := 8) (v := .int g_links) (C := RX8) (T := TX8) (N := 22) hx hb hts in_X8_stack_X8 hown hK hP 0 rfl rfl 1 (by decide) (k_X8_stack_f41 hts) (fun _ h9 => h9) rfl dX8_stack_39 ?_
    refine lv_icmp_ge (tgt := 72) hx hb dX8_stack_42 (by decide) (fun c11 => ?_) (fun c11 => ?_)
    · have h := h.1 c11
      refine lv_iload hx hb dX8_stack_72 (lv_at hl 5 rfl) ?_
      refine lv_iload_n hx hb dX8_stack_74 rfl (lv_at hl 3 rfl) ?_
      refine lv_icmp_le (tgt := 83) hx hb dX8_stack_75 (by decide) (fun c12 => ?_) (fun c12 => ?_)
      · have h := h.1 c12
        refine lv_iload_n hx hb dX8_stack_83 rfl (lv_at hl 3 rfl) ?_
        refine lv_istore_n (lv' := [(3, .int x3), (0, .ref q), (1, .int x1), (2, .int x2), (4, .int x4), (5, .int x5), (6, .int x6)]) hx hb dX8_stack_84 rfl hl (by decide) rfl (fun ls hl => ?_)
        obtain ⟨z13, ez13⟩ : ∃ y : Int32, y = (x4 + (1 : Int32)) := ⟨_, rfl⟩
        have h := h z13 ez13
        refine lv_iinc (v := z13) (lv' := [(4, .int z13), (3, .int x3), (0, .ref q), (1, .int x1), (2, .int x2), (5, .int x5), (6, .int x6)]) hx hb dX8_stack_85 hl (k := 4) rfl (by rw [ez13]; rfl) (by decide) rfl (fun ls hl => ?_)
        refine lv_goto (tgt := 22) hx hb dX8_stack_88 (by decide) ?_
        exact hk22 _ _ h _ _ _ hP hD hS (lv_sub hl [2, 3, 4, 1, 0] rfl)
      · have h := h.2 c12
        refine lv_iload hx hb dX8_stack_78 (lv_at hl 5 rfl) ?_
        refine lv_goto (tgt := 84) hx hb dX8_stack_80 (by decide) ?_
        refine lv_istore_n (lv' := [(3, .int x5), (0, .ref q), (1, .int x1), (2, .int x2), (4, .int x4), (5, .int x5), (6, .int x6)]) hx hb dX8_stack_84 rfl hl (by decide) rfl (fun ls hl => ?_)
        obtain ⟨z14, ez14⟩ : ∃ y : Int32, y = (x4 + (1 : Int32)) := ⟨_, rfl⟩
        have h := h z14 ez14
        refine lv_iinc (v := z14) (lv' := [(4, .int z14), (3, .int x5), (0, .ref q), (1, .int x1), (2, .int x2), (5, .int x5), (6, .int x6)]) hx hb dX8_stack_85 hl (k := 4) rfl (by rw [ez14]; rfl) (by decide) rfl (fun ls hl => ?_)
        refine lv_goto (tgt := 22) hx hb dX8_stack_88 (by decide) ?_
        exact hk22 _ _ h _ _ _ hP hD hS (lv_sub hl [2, 3, 4, 1, 0] rfl)
    · have h := h.2 c11
      refine lv_iload hx hb dX8_stack_45 (lv_at hl 5 rfl) ?_
      refine lv_aload_n hx hb dX8_stack_47 rfl (lv_at hl 0 rfl) ?_
      refine lv_iload hx hb dX8_stack_48 (lv_at hl 6 rfl) ?_
      refine lv_iload hx hb dX8_stack_50 (lv_at hl 4 rfl) ?_
      have hp : Pt (w_X8_stack Y q q_row q_isKept q_text q_seenFold q_seenSpan q_readLong q_marks q_isMeasured q_waysAre q_haveSpan g_links g_undos g_length g_seenMany g_trace g_at g_behind g_number g_readLinks g_readFolded g_readStiff g_wayMany g_row g_marks) (w_X8_isOver Y q q_row q_isKept q_text q_seenFold q_seenSpan q_readLong q_marks q_isMeasured q_waysAre q_haveSpan g_links g_undos g_length g_seenMany g_trace g_at g_behind g_number g_readLinks g_readFolded g_readStiff g_wayMany g_marks) [0, 2] := ⟨rfl, by decide +kernel⟩
      refine go_i hp hP hD hS hA (fun _ => rfl) (va_runV (As := [.int x6, .int x4]) (rest := [.int x5]) ⟨hx, hb, hml, hown, hts⟩ (c_X8_isOver h _) (cwV 2 hts gX8_stack_X8_isOver rfl rfl rfl (by decide +kernel) ⟨Nat.le_of_ble_eq_true rfl, Nat.le_of_ble_eq_true rfl⟩) (pre_V (b := q) (q0 := 0) (ci := 8) (q := (RX8, TX8, 22)) hp hK hN hP hD rfl rfl) rfl rfl hl.1 rfl (lv_room (Nat.le_of_ble_eq_true rfl)) dX8_stack_52 ⟨Nat.le_of_ble_eq_true rfl, Nat.le_of_ble_eq_true rfl⟩) (fun r15 u H locs h hP hD hS => ?_)
      try dsimp only at h
      have hP : va_P D vwCl (w_X8_stack Y q q_row q_isKept q_text q_seenFold q_seenSpan q_readLong q_marks q_isMeasured q_waysAre q_haveSpan g_links g_undos g_length g_seenMany g_trace g_at g_behind g_number g_readLinks g_readFolded g_readStiff g_wayMany g_row g_marks) H := hP
      have hD : va_D A (w_X8_stack Y q q_row q_isKept q_text q_seenFold q_seenSpan q_readLong q_marks q_isMeasured q_waysAre q_haveSpan g_links g_undos g_length g_seenMany g_trace g_at g_behind g_number g_readLinks g_readFolded g_readStiff g_wayMany g_row g_marks) := hD
      refine lv_if_eq (tgt := 62) hx hb dX8_stack_55 (by decide) (fun c16 => ?_) (fun c16 => ?_)
      · have h := h.1 c16
        refine lv_iconst (v := 0) hx hb dX8_stack_62 (by decide) ?_
        refine lv_iadd hx hb dX8_stack_63 ?_
        refine lv_topi (fun z17 ez17 => ?_)
        have h := h z17 ez17
        refine lv_istore (lv' := [(5, .int z17), (0, .ref q), (1, .int x1), (2, .int x2), (3, .int x3), (4, .int x4), (6, .int x6)]) hx hb dX8_stack_64 hl (by decide) rfl (fun ls hl => ?_)
        obtain ⟨z18, ez18⟩ : ∃ y : Int32, y = (x6 + (1 : Int32)) := ⟨_, rfl⟩
        have h := h z18 ez18
        refine lv_iinc (v := z18) (lv' := [(6, .int z18), (5, .int z17), (0, .ref q), (1, .int x1), (2, .int x2), (3, .int x3), (4, .int x4)]) hx hb dX8_stack_66 hl (k := 6) rfl (by rw [ez18]; rfl) (by decide) rfl (fun ls hl => ?_)
        refine lv_goto (tgt := 36) hx hb dX8_stack_69 (by decide) ?_
        exact ih _ _ h _ _ _ hP hD hS (lv_sub hl [2, 3, 4, 5, 6, 1, 0] rfl)
      · have h := h.2 c16
        refine lv_iconst (v := 1) hx hb dX8_stack_58 (by decide) ?_
        refine lv_goto (tgt := 63) hx hb dX8_stack_59 (by decide) ?_
        refine lv_iadd hx hb dX8_stack_63 ?_
        refine lv_topi (fun z19 ez19 => ?_)
        have h := h z19 ez19
        refine lv_istore (lv' := [(5, .int z19), (0, .ref q), (1, .int x1), (2, .int x2), (3, .int x3), (4, .int x4), (6, .int x6)]) hx hb dX8_stack_64 hl (by decide) rfl (fun ls hl => ?_)
        obtain ⟨z20, ez20⟩ : ∃ y : Int32, y = (x6 + (1 : Int32)) := ⟨_, rfl⟩
        have h := h z20 ez20
        refine lv_iinc (v := z20) (lv' := [(6, .int z20), (5, .int z19), (0, .ref q), (1, .int x1), (2, .int x2), (3, .int x3), (4, .int x4)]) hx hb dX8_stack_66 hl (k := 6) rfl (by rw [ez20]; rfl) (by decide) rfl (fun ls hl => ?_)
        refine lv_goto (tgt := 36) hx hb dX8_stack_69 (by decide) ?_
        exact ih _ _ h _ _ _ hP hD hS (lv_sub hl [2, 3, 4, 5, 6, 1, 0] rfl)
set_option maxHeartbeats 4000000 in
set_option maxRecDepth 100000 in
theorem L_X8_stack_22 {p : Program} {l : Launch} {e : Env} {s : State} {m : MethodId} {args : Array Value} {below : List Frame} {meth : Method} {c : Code} {D : va_G} {Y : ClassId × ClassId × ClassId} {A : Nat → Prop} {q q_row q_isKept q_text q_seenFold q_seenSpan q_readLong q_marks q_isMeasured q_waysAre q_haveSpan : Nat} {g_links g_undos g_length g_seenMany : Int32} {g_trace : Int64} {g_at g_behind g_number g_readLinks g_readFolded g_readStiff g_wayMany : Int32} {g_row g_marks : Nat → Int32} {x1 x2 : Int32} {Q : Int32 → (Nat → Int32) → Prop} (C : Ctx p s m args meth c cX8_stack 7 (some .int) wsX8_stack RX8) (hK : va_K D vwCl (tyS Y) s) (hA : ∀ q, s.heap.size ≤ q → A q) : ∀ (n : Nat) (x3 x4 : Int32), itr2 (B_X8_stack_22 g_links g_marks x1 x2 Q) n x3 x4 → ∀ (H : Heap) (locs : List Loc) (ls : Array Slot), va_P D vwCl (w_X8_stack Y q q_row q_isKept q_text q_seenFold q_seenSpan q_readLong q_marks q_isMeasured q_waysAre q_haveSpan g_links g_undos g_length g_seenMany g_trace g_at g_behind g_number g_readLinks g_readFolded g_readStiff g_wayMany g_row g_marks) H → va_D A (w_X8_stack Y q q_row q_isKept q_text q_seenFold q_seenSpan q_readLong q_marks q_isMeasured q_waysAre q_haveSpan g_links g_undos g_length g_seenMany g_trace g_at g_behind g_number g_readLinks g_readFolded g_readStiff g_wayMany g_row g_marks) → va_S A s.heap H locs → lv_has ls 7 [(0, .ref q), (1, .int x1), (2, .int x2), (3, .int x3), (4, .int x4)] → W p l e rm_X8_stack s m args below meth c H locs 0 0 (QI below args s D Y A (fun r (u : (Nat → Int32)) => Q r u) (fun u : (Nat → Int32) => (w_X8_stack Y q q_row q_isKept q_text q_seenFold q_seenSpan q_readLong q_marks q_isMeasured q_waysAre q_haveSpan g_links g_undos g_length g_seenMany g_trace g_at g_behind g_number g_readLinks g_readFolded g_readStiff g_wayMany g_row u))) (F0 m 22 ls []) := by
  intro n
  induction n with
  | zero => intro x3 x4 h; exact False.elim h
  | succ n ih =>
    intro x3 x4 h H locs ls hP hD hS hl
    obtain ⟨⟨hx, hb, hml, hown, hts⟩, hr, hlocks, hN⟩ := id C
    have h : B_X8_stack_22 g_links g_marks x1 x2 Q (itr2 (B_X8_stack_22 g_links g_marks x1 x2 Q) n) x3 x4 := h
    unfold B_X8_stack_22 at h
    refine lv_iload hx hb dX8_stack_22 (lv_at hl 4 rfl) ?_
    refine lv_iload_n hx hb dX8_stack_24 rfl (lv_at hl 2 rfl) ?_
    refine lv_iload_n hx hb dX8_stack_25 rfl (lv_at hl 1 rfl) ?_
    refine lv_iadd hx hb dX8_stack_26 ?_
    refine lv_icmp_ge (tgt := 91) hx hb dX8_stack_27 (by decide) (fun c21 => ?_) (fun c21 => ?_)
    · have h := h.1 c21
      refine lv_iload_n hx hb dX8_stack_91 rfl (lv_at hl 3 rfl) ?_
      exact ret_i (g_marks) hx hb hr hlocks hK hP hD hS h dX8_stack_92
    · have h := h.2 c21
      refine lv_iconst (v := 0) hx hb dX8_stack_30 (by decide) ?_
      refine lv_istore (lv' := [(5, .int (0 : Int32)), (0, .ref q), (1, .int x1), (2, .int x2), (3, .int x3), (4, .int x4)]) hx hb dX8_stack_31 hl (by decide) rfl (fun ls hl => ?_)
      refine lv_iconst (v := 0) hx hb dX8_stack_33 (by decide) ?_
      refine lv_istore (lv' := [(6, .int (0 : Int32)), (5, .int (0 : Int32)), (0, .ref q), (1, .int x1), (2, .int x2), (3, .int x3), (4, .int x4)]) hx hb dX8_stack_34 hl (by decide) rfl (fun ls hl => ?_)
      obtain ⟨n, h⟩ := h
      exact L_X8_stack_36 C hK hA ih n _ _ h _ _ _ hP hD hS (lv_sub hl [2, 3, 4, 5, 6, 1, 0] rfl)
set_option maxHeartbeats 4000000 in
set_option maxRecDepth 100000 in
theorem c_X8_stack {l : Launch} {D : va_G} {Y : ClassId × ClassId × ClassId} {q q_row q_isKept q_text q_seenFold q_seenSpan q_readLong q_marks q_isMeasured q_waysAre q_haveSpan : Nat} {g_links g_undos g_length g_seenMany : Int32} {g_trace : Int64} {g_at g_behind g_number g_readLinks g_readFolded g_readStiff g_wayMany : Int32} {g_row g_marks : Nat → Int32} {Q : Int32 → (Nat → Int32) → Prop} (h : wp_X8_stack g_links g_row g_marks Q) (sz : Nat) : MtI l yX8_stack wsX8_stack rm_X8_stack [.ref q] D Y (w_X8_stack Y q q_row q_isKept q_text q_seenFold q_seenSpan q_readLong q_marks q_isMeasured q_waysAre q_haveSpan g_links g_undos g_length g_seenMany g_trace g_at g_behind g_number g_readLinks g_readFolded g_readStiff g_wayMany g_row g_marks) (fun r (u : (Nat → Int32)) => Q r u) (fun u : (Nat → Int32) => (w_X8_stack Y q q_row q_isKept q_text q_seenFold q_seenSpan q_readLong q_marks q_isMeasured q_waysAre q_haveSpan g_links g_undos g_length g_seenMany g_trace g_at g_behind g_number g_readLinks g_readFolded g_readStiff g_wayMany g_row u)) sz := by
  refine ct_i (cc := cX8_stack) (nL := 7) (ret := (some .int)) (by decide) rfl (Nat.le_of_ble_eq_true rfl) ?_ sz
  intro p e s m below meth c A ls C hK hA hP hD hS hl
  obtain ⟨⟨hx, hb, hml, hown, hts⟩, hr, hlocks, hN⟩ := id C
  have hown : s.vm.findClass RX8 = some m.cls := hown
  have hl : lv_has ls 7 [(0, .ref q)] := hl
  unfold wp_X8_stack at h
  refine lv_aload_n hx hb dX8_stack_0 rfl (lv_at hl 0 rfl) ?_
  refine lv_aload_n hx hb dX8_stack_1 rfl (lv_at hl 0 rfl) ?_
  refine va_get (D := D) (ci := 8) (v := .ref q_row) (C := RX8) (T := TX8) (N := 22) hx hb hts in_X8_stack_X8 hown hK hP 0 rfl rfl 0 (by decide) (k_X8_stack_f7 hts) (fun _ h9 => h9) rfl dX8_stack_2 ?_
  refine lv_bipush (v := 9) hx hb dX8_stack_5 (by decide) ?_
  obtain ⟨hin, h⟩ := h
  refine va_iald hx hb hK hP 1 0 rfl rfl hin dX8_stack_7 ?_
  have hp : Pt (w_X8_stack Y q q_row q_isKept q_text q_seenFold q_seenSpan q_readLong q_marks q_isMeasured q_waysAre q_haveSpan g_links g_undos g_length g_seenMany g_trace g_at g_behind g_number g_readLinks g_readFolded g_readStiff g_wayMany g_row g_marks) (w_X8_spanBy Y q q_row q_isKept q_text q_seenFold q_seenSpan q_readLong q_marks q_isMeasured q_waysAre q_haveSpan g_links g_undos g_length g_seenMany g_trace g_at g_behind g_number g_readLinks g_readFolded g_readStiff g_wayMany g_marks g_row) [0, 2, 1] := ⟨rfl, by decide +kernel⟩
  refine go_i hp hP hD hS hA (fun _ => rfl) (va_runV (As := [.int (g_row ((9 : Int32)).toNatClampNeg)]) (rest := []) ⟨hx, hb, hml, hown, hts⟩ (c_X8_spanBy h _) (cwV 1 hts gX8_stack_X8_spanBy rfl rfl rfl (by decide +kernel) ⟨Nat.le_of_ble_eq_true rfl, Nat.le_of_ble_eq_true rfl⟩) (pre_V (b := q) (q0 := 0) (ci := 8) (q := (RX8, TX8, 22)) hp hK hN hP hD rfl rfl) rfl rfl hl.1 rfl (lv_room (Nat.le_of_ble_eq_true rfl)) dX8_stack_8 ⟨Nat.le_of_ble_eq_true rfl, Nat.le_of_ble_eq_true rfl⟩) (fun r22 u H locs h hP hD hS => ?_)
  obtain ⟨u23, rfl⟩ : ∃ z, z = u := ⟨_, rfl⟩
  try dsimp only at h
  have hP : va_P D vwCl (w_X8_stack Y q q_row q_isKept q_text q_seenFold q_seenSpan q_readLong q_marks q_isMeasured q_waysAre q_haveSpan g_links g_undos g_length g_seenMany g_trace g_at g_behind g_number g_readLinks g_readFolded g_readStiff g_wayMany g_row u23) H := hP
  have hD : va_D A (w_X8_stack Y q q_row q_isKept q_text q_seenFold q_seenSpan q_readLong q_marks q_isMeasured q_waysAre q_haveSpan g_links g_undos g_length g_seenMany g_trace g_at g_behind g_number g_readLinks g_readFolded g_readStiff g_wayMany g_row u23) := hD
  refine lv_istore_n (lv' := [(1, .int r22), (0, .ref q)]) hx hb dX8_stack_11 rfl hl (by decide) rfl (fun ls hl => ?_)
  refine lv_aload_n hx hb dX8_stack_12 rfl (lv_at hl 1 rfl) ?_
  have hp : Pt (w_X8_stack Y q q_row q_isKept q_text q_seenFold q_seenSpan q_readLong q_marks q_isMeasured q_waysAre q_haveSpan g_links g_undos g_length g_seenMany g_trace g_at g_behind g_number g_readLinks g_readFolded g_readStiff g_wayMany g_row u23) (w_X8_lowest Y q q_row q_isKept q_text q_seenFold q_seenSpan q_readLong q_marks q_isMeasured q_waysAre q_haveSpan g_links g_undos g_length g_seenMany g_trace g_at g_behind g_number g_readLinks g_readFolded g_readStiff g_wayMany u23) [0, 2] := ⟨rfl, by decide +kernel⟩
  refine go_i hp hP hD hS hA (fun _ => rfl) (va_runV (As := []) (rest := []) ⟨hx, hb, hml, hown, hts⟩ (c_X8_lowest h _) (cwV 0 hts gX8_stack_X8_lowest rfl rfl rfl (by decide +kernel) ⟨Nat.le_of_ble_eq_true rfl, Nat.le_of_ble_eq_true rfl⟩) (pre_V (b := q) (q0 := 0) (ci := 8) (q := (RX8, TX8, 22)) hp hK hN hP hD rfl rfl) rfl rfl hl.1 rfl (lv_room (Nat.le_of_ble_eq_true rfl)) dX8_stack_13 ⟨Nat.le_of_ble_eq_true rfl, Nat.le_of_ble_eq_true rfl⟩) (fun r24 u H locs h hP hD hS => ?_)
  try dsimp only at h
  have hP : va_P D vwCl (w_X8_stack Y q q_row q_isKept q_text q_seenFold q_seenSpan q_readLong q_marks q_isMeasured q_waysAre q_haveSpan g_links g_undos g_length g_seenMany g_trace g_at g_behind g_number g_readLinks g_readFolded g_readStiff g_wayMany g_row u23) H := hP
  have hD : va_D A (w_X8_stack Y q q_row q_isKept q_text q_seenFold q_seenSpan q_readLong q_marks q_isMeasured q_waysAre q_haveSpan g_links g_undos g_length g_seenMany g_trace g_at g_behind g_number g_readLinks g_readFolded g_readStiff g_wayMany g_row u23) := hD
  refine lv_istore_n (lv' := [(2, .int r24), (1, .int r22), (0, .ref q)]) hx hb dX8_stack_16 rfl hl (by decide) rfl (fun ls hl => ?_)
  refine lv_iconst (v := 0) hx hb dX8_stack_17 (by decide) ?_
  refine lv_istore_n (lv' := [(3, .int (0 : Int32)), (2, .int r24), (1, .int r22), (0, .ref q)]) hx hb dX8_stack_18 rfl hl (by decide) rfl (fun ls hl => ?_)
  refine lv_iload_n hx hb dX8_stack_19 rfl (lv_at hl 1 rfl) ?_
  refine lv_istore (lv' := [(4, .int r24), (3, .int (0 : Int32)), (2, .int r24), (1, .int r22), (0, .ref q)]) hx hb dX8_stack_20 hl (by decide) rfl (fun ls hl => ?_)
  obtain ⟨n, h⟩ := h
  exact L_X8_stack_22 C hK hA  n _ _ h _ _ _ hP hD hS (lv_sub hl [4, 3, 2, 1, 0] rfl)
abbrev rm_X8_othersOver : Room := { frames := 3, cells := 0, slots := 0, locals := 67 }
theorem in_X8_othersOver_X8 : ∀ w ∈ wsX80, w ∈ wsX8_othersOver := fun _ h => List.mem_cons_of_mem _ (List.mem_append_right _ h)
theorem k_X8_othersOver_f41 {s : State} {args : Array Value} (hts : ∀ w ∈ wsX8_othersOver, w.before args s = true) : (Cond.fieldLink RX8 41 "FoldRuleModel" "links" "I").before args s = true := hts _ (by decide +kernel)
theorem k_X8_othersOver_f7 {s : State} {args : Array Value} (hts : ∀ w ∈ wsX8_othersOver, w.before args s = true) : (Cond.fieldLink RX8 7 "FoldRuleModel" "row" "[I").before args s = true := hts _ (by decide +kernel)
set_option maxHeartbeats 4000000 in
set_option maxRecDepth 100000 in
theorem L_X8_othersOver_38 {p : Program} {l : Launch} {e : Env} {s : State} {m : MethodId} {args : Array Value} {below : List Frame} {meth : Method} {c : Code} {D : va_G} {Y : ClassId × ClassId × ClassId} {A : Nat → Prop} {q q_row q_isKept q_text q_seenFold q_seenSpan q_readLong q_marks q_isMeasured q_waysAre q_haveSpan : Nat} {g_links g_undos g_length g_seenMany : Int32} {g_trace : Int64} {g_at g_behind g_number g_readLinks g_readFolded g_readStiff g_wayMany : Int32} {g_row g_marks : Nat → Int32} {x1 x2 x3 x4 x5 : Int32} {Q : Int32 → (Nat → Int32) → Prop} {K23 : Int32 → Int32 → Prop} (C : Ctx p s m args meth c cX8_othersOver 8 (some .int) wsX8_othersOver RX8) (hK : va_K D vwCl (tyS Y) s) (hA : ∀ q, s.heap.size ≤ q → A q) (hk23 : ∀ (x4 x5 : Int32), K23 x4 x5 → ∀ (H : Heap) (locs : List Loc) (ls : Array Slot), va_P D vwCl (w_X8_othersOver Y q q_row q_isKept q_text q_seenFold q_seenSpan q_readLong q_marks q_isMeasured q_waysAre q_haveSpan g_links g_undos g_length g_seenMany g_trace g_at g_behind g_number g_readLinks g_readFolded g_readStiff g_wayMany g_row g_marks) H → va_D A (w_X8_othersOver Y q q_row q_isKept q_text q_seenFold q_seenSpan q_readLong q_marks q_isMeasured q_waysAre q_haveSpan g_links g_undos g_length g_seenMany g_trace g_at g_behind g_number g_readLinks g_readFolded g_readStiff g_wayMany g_row g_marks) → va_S A s.heap H locs → lv_has ls 8 [(0, .ref q), (1, .int x1), (2, .int x2), (3, .int x3), (4, .int x4), (5, .int x5)] → W p l e rm_X8_othersOver s m args below meth c H locs 0 0 (QI below args s D Y A (fun r (u : (Nat → Int32)) => Q r u) (fun u : (Nat → Int32) => (w_X8_othersOver Y q q_row q_isKept q_text q_seenFold q_seenSpan q_readLong q_marks q_isMeasured q_waysAre q_haveSpan g_links g_undos g_length g_seenMany g_trace g_at g_behind g_number g_readLinks g_readFolded g_readStiff g_wayMany g_row u))) (F0 m 23 ls [])) : ∀ (n : Nat) (x6 x7 : Int32), itr2 (B_X8_othersOver_38 g_marks x1 x2 x3 x4 x5 K23) n x6 x7 → ∀ (H : Heap) (locs : List Loc) (ls : Array Slot), va_P D vwCl (w_X8_othersOver Y q q_row q_isKept q_text q_seenFold q_seenSpan q_readLong q_marks q_isMeasured q_waysAre q_haveSpan g_links g_undos g_length g_seenMany g_trace g_at g_behind g_number g_readLinks g_readFolded g_readStiff g_wayMany g_row g_marks) H → va_D A (w_X8_othersOver Y q q_row q_isKept q_text q_seenFold q_seenSpan q_readLong q_marks q_isMeasured q_waysAre q_haveSpan g_links g_undos g_length g_seenMany g_trace g_at g_behind g_number g_readLinks g_readFolded g_readStiff g_wayMany g_row g_marks) → va_S A s.heap H locs → lv_has ls 8 [(0, .ref q), (1, .int x1), (2, .int x2), (3, .int x3), (4, .int x4), (5, .int x5), (6, .int x6), (7, .int x7)] → W p l e rm_X8_othersOver s m args below meth c H locs 0 0 (QI below args s D Y A (fun r (u : (Nat → Int32)) => Q r u) (fun u : (Nat → Int32) => (w_X8_othersOver Y q q_row q_isKept q_text q_seenFold q_seenSpan q_readLong q_marks q_isMeasured q_waysAre q_haveSpan g_links g_undos g_length g_seenMany g_trace g_at g_behind g_number g_readLinks g_readFolded g_readStiff g_wayMany g_row u))) (F0 m 38 ls []) := by
  intro n
  induction n with
  | zero => intro x6 x7 h; exact False.elim h
  | succ n ih =>
    intro x6 x7 h H locs ls hP hD hS hl
    obtain ⟨⟨hx, hb, hml, hown, hts⟩, hr, hlocks, hN⟩ := id C
    have h : B_X8_othersOver_38 g_marks x1 x2 x3 x4 x5 K23 (itr2 (B_X8_othersOver_38 g_marks x1 x2 x3 x4 x5 K23) n) x6 x7 := h
    unfold B_X8_othersOver_38 at h
    refine lv_iload hx hb dX8_othersOver_38 (lv_at hl 7 rfl) ?_
    refine lv_iload_n hx hb dX8_othersOver_40 rfl (lv_at hl 3 rfl) ?_
    refine lv_iload_n hx hb dX8_othersOver_41 rfl (lv_at hl 2 rfl) ?_
    refine lv_iadd hx hb dX8_othersOver_42 ?_
    refine lv_icmp_ge (tgt := 85) hx hb dX8_othersOver_43 (by decide) (fun c16 => ?_) (fun c16 => ?_)
    · have h := h.1 c16
      refine lv_iload hx hb dX8_othersOver_85 (lv_at hl 4 rfl) ?_
      refine lv_iload hx hb dX8_othersOver_87 (lv_at hl 5 rfl) ?_
      refine lv_iload_n hx hb dX8_othersOver_89 rfl (lv_at hl 1 rfl) ?_
      refine lv_icmp_eq (tgt := 102) hx hb dX8_othersOver_90 (by decide) (fun c17 => ?_) (fun c17 => ?_)
      · have h := h.1 c17
        refine lv_iconst (v := 0) hx hb dX8_othersOver_102 (by decide) ?_
        refine lv_iadd hx hb dX8_othersOver_103 ?_
        refine lv_topi (fun z18 ez18 => ?_)
        have h := h z18 ez18
        refine lv_istore (lv' := [(4, .int z18), (0, .ref q), (1, .int x1), (2, .int x2), (3, .int x3), (5, .int x5), (6, .int x6), (7, .int x7)]) hx hb dX8_othersOver_104 hl (by decide) rfl (fun ls hl => ?_)
        obtain ⟨z19, ez19⟩ : ∃ y : Int32, y = (x5 + (1 : Int32)) := ⟨_, rfl⟩
        have h := h z19 ez19
        refine lv_iinc (v := z19) (lv' := [(5, .int z19), (4, .int z18), (0, .ref q), (1, .int x1), (2, .int x2), (3, .int x3), (6, .int x6), (7, .int x7)]) hx hb dX8_othersOver_106 hl (k := 5) rfl (by rw [ez19]; rfl) (by decide) rfl (fun ls hl => ?_)
        refine lv_goto (tgt := 23) hx hb dX8_othersOver_109 (by decide) ?_
        exact hk23 _ _ h _ _ _ hP hD hS (lv_sub hl [2, 3, 4, 5, 1, 0] rfl)
      · have h := h.2 c17
        refine lv_iload hx hb dX8_othersOver_93 (lv_at hl 6 rfl) ?_
        refine lv_if_eq (tgt := 102) hx hb dX8_othersOver_95 (by decide) (fun c20 => ?_) (fun c20 => ?_)
        · have h := h.1 c20
          refine lv_iconst (v := 0) hx hb dX8_othersOver_102 (by decide) ?_
          refine lv_iadd hx hb dX8_othersOver_103 ?_
          refine lv_topi (fun z21 ez21 => ?_)
          have h := h z21 ez21
          refine lv_istore (lv' := [(4, .int z21), (0, .ref q), (1, .int x1), (2, .int x2), (3, .int x3), (5, .int x5), (6, .int x6), (7, .int x7)]) hx hb dX8_othersOver_104 hl (by decide) rfl (fun ls hl => ?_)
          obtain ⟨z22, ez22⟩ : ∃ y : Int32, y = (x5 + (1 : Int32)) := ⟨_, rfl⟩
          have h := h z22 ez22
          refine lv_iinc (v := z22) (lv' := [(5, .int z22), (4, .int z21), (0, .ref q), (1, .int x1), (2, .int x2), (3, .int x3), (6, .int x6), (7, .int x7)]) hx hb dX8_othersOver_106 hl (k := 5) rfl (by rw [ez22]; rfl) (by decide) rfl (fun ls hl => ?_)
          refine lv_goto (tgt := 23) hx hb dX8_othersOver_109 (by decide) ?_
          exact hk23 _ _ h _ _ _ hP hD hS (lv_sub hl [2, 3, 4, 5, 1, 0] rfl)
        · have h := h.2 c20
          refine lv_iconst (v := 1) hx hb dX8_othersOver_98 (by decide) ?_
          refine lv_goto (tgt := 103) hx hb dX8_othersOver_99 (by decide) ?_
          refine lv_iadd hx hb dX8_othersOver_103 ?_
          refine lv_topi (fun z23 ez23 => ?_)
          have h := h z23 ez23
          refine lv_istore (lv' := [(4, .int z23), (0, .ref q), (1, .int x1), (2, .int x2), (3, .int x3), (5, .int x5), (6, .int x6), (7, .int x7)]) hx hb dX8_othersOver_104 hl (by decide) rfl (fun ls hl => ?_)
          obtain ⟨z24, ez24⟩ : ∃ y : Int32, y = (x5 + (1 : Int32)) := ⟨_, rfl⟩
          have h := h z24 ez24
          refine lv_iinc (v := z24) (lv' := [(5, .int z24), (4, .int z23), (0, .ref q), (1, .int x1), (2, .int x2), (3, .int x3), (6, .int x6), (7, .int x7)]) hx hb dX8_othersOver_106 hl (k := 5) rfl (by rw [ez24]; rfl) (by decide) rfl (fun ls hl => ?_)
          refine lv_goto (tgt := 23) hx hb dX8_othersOver_109 (by decide) ?_
          exact hk23 _ _ h _ _ _ hP hD hS (lv_sub hl [2, 3, 4, 5, 1, 0] rfl)
    · have h := h.2 c16
      refine lv_iload hx hb dX8_othersOver_46 (lv_at hl 6 rfl) ?_
      refine lv_if_ne (tgt := 72) hx hb dX8_othersOver_48 (by decide) (fun c25 => ?_) (fun c25 => ?_)
      · have h := h.1 c25
        refine lv_iconst (v := 1) hx hb dX8_othersOver_72 (by decide) ?_
        refine lv_goto (tgt := 77) hx hb dX8_othersOver_73 (by decide) ?_
        refine lv_istore (lv' := [(6, .int (1 : Int32)), (0, .ref q), (1, .int x1), (2, .int x2), (3, .int x3), (4, .int x4), (5, .int x5), (7, .int x7)]) hx hb dX8_othersOver_77 hl (by decide) rfl (fun ls hl => ?_)
        obtain ⟨z26, ez26⟩ : ∃ y : Int32, y = (x7 + (1 : Int32)) := ⟨_, rfl⟩
        have h := h z26 ez26
        refine lv_iinc (v := z26) (lv' := [(7, .int z26), (6, .int (1 : Int32)), (0, .ref q), (1, .int x1), (2, .int x2), (3, .int x3), (4, .int x4), (5, .int x5)]) hx hb dX8_othersOver_79 hl (k := 7) rfl (by rw [ez26]; rfl) (by decide) rfl (fun ls hl => ?_)
        refine lv_goto (tgt := 38) hx hb dX8_othersOver_82 (by decide) ?_
        exact ih _ _ h _ _ _ hP hD hS (lv_sub hl [2, 3, 4, 5, 6, 7, 1, 0] rfl)
      · have h := h.2 c25
        refine lv_aload_n hx hb dX8_othersOver_51 rfl (lv_at hl 0 rfl) ?_
        refine lv_iload hx hb dX8_othersOver_52 (lv_at hl 5 rfl) ?_
        refine lv_iload hx hb dX8_othersOver_54 (lv_at hl 7 rfl) ?_
        have hp : Pt (w_X8_othersOver Y q q_row q_isKept q_text q_seenFold q_seenSpan q_readLong q_marks q_isMeasured q_waysAre q_haveSpan g_links g_undos g_length g_seenMany g_trace g_at g_behind g_number g_readLinks g_readFolded g_readStiff g_wayMany g_row g_marks) (w_X8_isOver Y q q_row q_isKept q_text q_seenFold q_seenSpan q_readLong q_marks q_isMeasured q_waysAre q_haveSpan g_links g_undos g_length g_seenMany g_trace g_at g_behind g_number g_readLinks g_readFolded g_readStiff g_wayMany g_marks) [0, 2] := ⟨rfl, by decide +kernel⟩
        refine go_i hp hP hD hS hA (fun _ => rfl) (va_runV (As := [.int x5, .int x7]) (rest := []) ⟨hx, hb, hml, hown, hts⟩ (c_X8_isOver h _) (cwV 2 hts gX8_othersOver_X8_isOver rfl rfl rfl (by decide +kernel) ⟨Nat.le_of_ble_eq_true rfl, Nat.le_of_ble_eq_true rfl⟩) (pre_V (b := q) (q0 := 0) (ci := 8) (q := (RX8, TX8, 22)) hp hK hN hP hD rfl rfl) rfl rfl hl.1 rfl (lv_room (Nat.le_of_ble_eq_true rfl)) dX8_othersOver_56 ⟨Nat.le_of_ble_eq_true rfl, Nat.le_of_ble_eq_true rfl⟩) (fun r27 u H locs h hP hD hS => ?_)
        try dsimp only at h
        have hP : va_P D vwCl (w_X8_othersOver Y q q_row q_isKept q_text q_seenFold q_seenSpan q_readLong q_marks q_isMeasured q_waysAre q_haveSpan g_links g_undos g_length g_seenMany g_trace g_at g_behind g_number g_readLinks g_readFolded g_readStiff g_wayMany g_row g_marks) H := hP
        have hD : va_D A (w_X8_othersOver Y q q_row q_isKept q_text q_seenFold q_seenSpan q_readLong q_marks q_isMeasured q_waysAre q_haveSpan g_links g_undos g_length g_seenMany g_trace g_at g_behind g_number g_readLinks g_readFolded g_readStiff g_wayMany g_row g_marks) := hD
        refine lv_if_eq (tgt := 76) hx hb dX8_othersOver_59 (by decide) (fun c28 => ?_) (fun c28 => ?_)
        · have h := h.1 c28
          refine lv_iconst (v := 0) hx hb dX8_othersOver_76 (by decide) ?_
          refine lv_istore (lv' := [(6, .int (0 : Int32)), (0, .ref q), (1, .int x1), (2, .int x2), (3, .int x3), (4, .int x4), (5, .int x5), (7, .int x7)]) hx hb dX8_othersOver_77 hl (by decide) rfl (fun ls hl => ?_)
          obtain ⟨z29, ez29⟩ : ∃ y : Int32, y = (x7 + (1 : Int32)) := ⟨_, rfl⟩
          have h := h z29 ez29
          refine lv_iinc (v := z29) (lv' := [(7, .int z29), (6, .int (0 : Int32)), (0, .ref q), (1, .int x1), (2, .int x2), (3, .int x3), (4, .int x4), (5, .int x5)]) hx hb dX8_othersOver_79 hl (k := 7) rfl (by rw [ez29]; rfl) (by decide) rfl (fun ls hl => ?_)
          refine lv_goto (tgt := 38) hx hb dX8_othersOver_82 (by decide) ?_
          exact ih _ _ h _ _ _ hP hD hS (lv_sub hl [2, 3, 4, 5, 6, 7, 1, 0] rfl)
        · have h := h.2 c28
          refine lv_aload_n hx hb dX8_othersOver_62 rfl (lv_at hl 0 rfl) ?_
          refine lv_iload_n hx hb dX8_othersOver_63 rfl (lv_at hl 1 rfl) ?_
          refine lv_iload hx hb dX8_othersOver_64 (lv_at hl 7 rfl) ?_
          have hp : Pt (w_X8_othersOver Y q q_row q_isKept q_text q_seenFold q_seenSpan q_readLong q_marks q_isMeasured q_waysAre q_haveSpan g_links g_undos g_length g_seenMany g_trace g_at g_behind g_number g_readLinks g_readFolded g_readStiff g_wayMany g_row g_marks) (w_X8_isOver Y q q_row q_isKept q_text q_seenFold q_seenSpan q_readLong q_marks q_isMeasured q_waysAre q_haveSpan g_links g_undos g_length g_seenMany g_trace g_at g_behind g_number g_readLinks g_readFolded g_readStiff g_wayMany g_marks) [0, 2] := ⟨rfl, by decide +kernel⟩
          refine go_i hp hP hD hS hA (fun _ => rfl) (va_runV (As := [.int x1, .int x7]) (rest := []) ⟨hx, hb, hml, hown, hts⟩ (c_X8_isOver h _) (cwV 2 hts gX8_othersOver_X8_isOver rfl rfl rfl (by decide +kernel) ⟨Nat.le_of_ble_eq_true rfl, Nat.le_of_ble_eq_true rfl⟩) (pre_V (b := q) (q0 := 0) (ci := 8) (q := (RX8, TX8, 22)) hp hK hN hP hD rfl rfl) rfl rfl hl.1 rfl (lv_room (Nat.le_of_ble_eq_true rfl)) dX8_othersOver_66 ⟨Nat.le_of_ble_eq_true rfl, Nat.le_of_ble_eq_true rfl⟩) (fun r30 u H locs h hP hD hS => ?_)
          try dsimp only at h
          have hP : va_P D vwCl (w_X8_othersOver Y q q_row q_isKept q_text q_seenFold q_seenSpan q_readLong q_marks q_isMeasured q_waysAre q_haveSpan g_links g_undos g_length g_seenMany g_trace g_at g_behind g_number g_readLinks g_readFolded g_readStiff g_wayMany g_row g_marks) H := hP
          have hD : va_D A (w_X8_othersOver Y q q_row q_isKept q_text q_seenFold q_seenSpan q_readLong q_marks q_isMeasured q_waysAre q_haveSpan g_links g_undos g_length g_seenMany g_trace g_at g_behind g_number g_readLinks g_readFolded g_readStiff g_wayMany g_row g_marks) := hD
          refine lv_if_eq (tgt := 76) hx hb dX8_othersOver_69 (by decide) (fun c31 => ?_) (fun c31 => ?_)
          · have h := h.1 c31
            refine lv_iconst (v := 0) hx hb dX8_othersOver_76 (by decide) ?_
            refine lv_istore (lv' := [(6, .int (0 : Int32)), (0, .ref q), (1, .int x1), (2, .int x2), (3, .int x3), (4, .int x4), (5, .int x5), (7, .int x7)]) hx hb dX8_othersOver_77 hl (by decide) rfl (fun ls hl => ?_)
            obtain ⟨z32, ez32⟩ : ∃ y : Int32, y = (x7 + (1 : Int32)) := ⟨_, rfl⟩
            have h := h z32 ez32
            refine lv_iinc (v := z32) (lv' := [(7, .int z32), (6, .int (0 : Int32)), (0, .ref q), (1, .int x1), (2, .int x2), (3, .int x3), (4, .int x4), (5, .int x5)]) hx hb dX8_othersOver_79 hl (k := 7) rfl (by rw [ez32]; rfl) (by decide) rfl (fun ls hl => ?_)
            refine lv_goto (tgt := 38) hx hb dX8_othersOver_82 (by decide) ?_
            exact ih _ _ h _ _ _ hP hD hS (lv_sub hl [2, 3, 4, 5, 6, 7, 1, 0] rfl)
          · have h := h.2 c31
            refine lv_iconst (v := 1) hx hb dX8_othersOver_72 (by decide) ?_
            refine lv_goto (tgt := 77) hx hb dX8_othersOver_73 (by decide) ?_
            refine lv_istore (lv' := [(6, .int (1 : Int32)), (0, .ref q), (1, .int x1), (2, .int x2), (3, .int x3), (4, .int x4), (5, .int x5), (7, .int x7)]) hx hb dX8_othersOver_77 hl (by decide) rfl (fun ls hl => ?_)
            obtain ⟨z33, ez33⟩ : ∃ y : Int32, y = (x7 + (1 : Int32)) := ⟨_, rfl⟩
            have h := h z33 ez33
            refine lv_iinc (v := z33) (lv' := [(7, .int z33), (6, .int (1 : Int32)), (0, .ref q), (1, .int x1), (2, .int x2), (3, .int x3), (4, .int x4), (5, .int x5)]) hx hb dX8_othersOver_79 hl (k := 7) rfl (by rw [ez33]; rfl) (by decide) rfl (fun ls hl => ?_)
            refine lv_goto (tgt := 38) hx hb dX8_othersOver_82 (by decide) ?_
            exact ih _ _ h _ _ _ hP hD hS (lv_sub hl [2, 3, 4, 5, 6, 7, 1, 0] rfl)
set_option maxHeartbeats 4000000 in
set_option maxRecDepth 100000 in
theorem L_X8_othersOver_23 {p : Program} {l : Launch} {e : Env} {s : State} {m : MethodId} {args : Array Value} {below : List Frame} {meth : Method} {c : Code} {D : va_G} {Y : ClassId × ClassId × ClassId} {A : Nat → Prop} {q q_row q_isKept q_text q_seenFold q_seenSpan q_readLong q_marks q_isMeasured q_waysAre q_haveSpan : Nat} {g_links g_undos g_length g_seenMany : Int32} {g_trace : Int64} {g_at g_behind g_number g_readLinks g_readFolded g_readStiff g_wayMany : Int32} {g_row g_marks : Nat → Int32} {x1 x2 x3 : Int32} {Q : Int32 → (Nat → Int32) → Prop} (C : Ctx p s m args meth c cX8_othersOver 8 (some .int) wsX8_othersOver RX8) (hK : va_K D vwCl (tyS Y) s) (hA : ∀ q, s.heap.size ≤ q → A q) : ∀ (n : Nat) (x4 x5 : Int32), itr2 (B_X8_othersOver_23 g_links g_marks x1 x2 x3 Q) n x4 x5 → ∀ (H : Heap) (locs : List Loc) (ls : Array Slot), va_P D vwCl (w_X8_othersOver Y q q_row q_isKept q_text q_seenFold q_seenSpan q_readLong q_marks q_isMeasured q_waysAre q_haveSpan g_links g_undos g_length g_seenMany g_trace g_at g_behind g_number g_readLinks g_readFolded g_readStiff g_wayMany g_row g_marks) H → va_D A (w_X8_othersOver Y q q_row q_isKept q_text q_seenFold q_seenSpan q_readLong q_marks q_isMeasured q_waysAre q_haveSpan g_links g_undos g_length g_seenMany g_trace g_at g_behind g_number g_readLinks g_readFolded g_readStiff g_wayMany g_row g_marks) → va_S A s.heap H locs → lv_has ls 8 [(0, .ref q), (1, .int x1), (2, .int x2), (3, .int x3), (4, .int x4), (5, .int x5)] → W p l e rm_X8_othersOver s m args below meth c H locs 0 0 (QI below args s D Y A (fun r (u : (Nat → Int32)) => Q r u) (fun u : (Nat → Int32) => (w_X8_othersOver Y q q_row q_isKept q_text q_seenFold q_seenSpan q_readLong q_marks q_isMeasured q_waysAre q_haveSpan g_links g_undos g_length g_seenMany g_trace g_at g_behind g_number g_readLinks g_readFolded g_readStiff g_wayMany g_row u))) (F0 m 23 ls []) := by
  intro n
  induction n with
  | zero => intro x4 x5 h; exact False.elim h
  | succ n ih =>
    intro x4 x5 h H locs ls hP hD hS hl
    obtain ⟨⟨hx, hb, hml, hown, hts⟩, hr, hlocks, hN⟩ := id C
    have h : B_X8_othersOver_23 g_links g_marks x1 x2 x3 Q (itr2 (B_X8_othersOver_23 g_links g_marks x1 x2 x3 Q) n) x4 x5 := h
    unfold B_X8_othersOver_23 at h
    refine lv_iload hx hb dX8_othersOver_23 (lv_at hl 5 rfl) ?_
    refine lv_aload_n hx hb dX8_othersOver_25 rfl (lv_at hl 0 rfl) ?_
    refine va_get (D := D) (ci := 8) (v := .int g_links) (C := RX8) (T := TX8) (N := 22) hx hb hts in_X8_othersOver_X8 hown hK hP 0 rfl rfl 1 (by decide) (k_X8_othersOver_f41 hts) (fun _ h9 => h9) rfl dX8_othersOver_26 ?_
    refine lv_icmp_ge (tgt := 112) hx hb dX8_othersOver_29 (by decide) (fun c34 => ?_) (fun c34 => ?_)
    · have h := h.1 c34
      refine lv_iload hx hb dX8_othersOver_112 (lv_at hl 4 rfl) ?_
      exact ret_i (g_marks) hx hb hr hlocks hK hP hD hS h dX8_othersOver_114
    · have h := h.2 c34
      refine lv_iconst (v := 0) hx hb dX8_othersOver_32 (by decide) ?_
      refine lv_istore (lv' := [(6, .int (0 : Int32)), (0, .ref q), (1, .int x1), (2, .int x2), (3, .int x3), (4, .int x4), (5, .int x5)]) hx hb dX8_othersOver_33 hl (by decide) rfl (fun ls hl => ?_)
      refine lv_iload_n hx hb dX8_othersOver_35 rfl (lv_at hl 4 rfl) ?_
      refine lv_istore (lv' := [(7, .int x3), (6, .int (0 : Int32)), (0, .ref q), (1, .int x1), (2, .int x2), (3, .int x3), (4, .int x4), (5, .int x5)]) hx hb dX8_othersOver_36 hl (by decide) rfl (fun ls hl => ?_)
      obtain ⟨n, h⟩ := h
      exact L_X8_othersOver_38 C hK hA ih n _ _ h _ _ _ hP hD hS (lv_sub hl [2, 3, 4, 5, 6, 7, 1, 0] rfl)
set_option maxHeartbeats 4000000 in
set_option maxRecDepth 100000 in
theorem c_X8_othersOver {l : Launch} {D : va_G} {Y : ClassId × ClassId × ClassId} {q q_row q_isKept q_text q_seenFold q_seenSpan q_readLong q_marks q_isMeasured q_waysAre q_haveSpan : Nat} {g_links g_undos g_length g_seenMany : Int32} {g_trace : Int64} {g_at g_behind g_number g_readLinks g_readFolded g_readStiff g_wayMany : Int32} {g_row g_marks : Nat → Int32} {x1 : Int32} {Q : Int32 → (Nat → Int32) → Prop} (h : wp_X8_othersOver g_links g_row g_marks x1 Q) (sz : Nat) : MtI l yX8_othersOver wsX8_othersOver rm_X8_othersOver [.ref q, .int x1] D Y (w_X8_othersOver Y q q_row q_isKept q_text q_seenFold q_seenSpan q_readLong q_marks q_isMeasured q_waysAre q_haveSpan g_links g_undos g_length g_seenMany g_trace g_at g_behind g_number g_readLinks g_readFolded g_readStiff g_wayMany g_row g_marks) (fun r (u : (Nat → Int32)) => Q r u) (fun u : (Nat → Int32) => (w_X8_othersOver Y q q_row q_isKept q_text q_seenFold q_seenSpan q_readLong q_marks q_isMeasured q_waysAre q_haveSpan g_links g_undos g_length g_seenMany g_trace g_at g_behind g_number g_readLinks g_readFolded g_readStiff g_wayMany g_row u)) sz := by
  refine ct_i (cc := cX8_othersOver) (nL := 8) (ret := (some .int)) (by decide) rfl (Nat.le_of_ble_eq_true rfl) ?_ sz
  intro p e s m below meth c A ls C hK hA hP hD hS hl
  obtain ⟨⟨hx, hb, hml, hown, hts⟩, hr, hlocks, hN⟩ := id C
  have hown : s.vm.findClass RX8 = some m.cls := hown
  have hl : lv_has ls 8 [(0, .ref q), (1, .int x1)] := hl
  unfold wp_X8_othersOver at h
  refine lv_aload_n hx hb dX8_othersOver_0 rfl (lv_at hl 0 rfl) ?_
  refine lv_aload_n hx hb dX8_othersOver_1 rfl (lv_at hl 0 rfl) ?_
  refine va_get (D := D) (ci := 8) (v := .ref q_row) (C := RX8) (T := TX8) (N := 22) hx hb hts in_X8_othersOver_X8 hown hK hP 0 rfl rfl 0 (by decide) (k_X8_othersOver_f7 hts) (fun _ h9 => h9) rfl dX8_othersOver_2 ?_
  refine lv_bipush (v := 9) hx hb dX8_othersOver_5 (by decide) ?_
  obtain ⟨hin, h⟩ := h
  refine va_iald hx hb hK hP 1 0 rfl rfl hin dX8_othersOver_7 ?_
  have hp : Pt (w_X8_othersOver Y q q_row q_isKept q_text q_seenFold q_seenSpan q_readLong q_marks q_isMeasured q_waysAre q_haveSpan g_links g_undos g_length g_seenMany g_trace g_at g_behind g_number g_readLinks g_readFolded g_readStiff g_wayMany g_row g_marks) (w_X8_spanBy Y q q_row q_isKept q_text q_seenFold q_seenSpan q_readLong q_marks q_isMeasured q_waysAre q_haveSpan g_links g_undos g_length g_seenMany g_trace g_at g_behind g_number g_readLinks g_readFolded g_readStiff g_wayMany g_marks g_row) [0, 2, 1] := ⟨rfl, by decide +kernel⟩
  refine go_i hp hP hD hS hA (fun _ => rfl) (va_runV (As := [.int (g_row ((9 : Int32)).toNatClampNeg)]) (rest := []) ⟨hx, hb, hml, hown, hts⟩ (c_X8_spanBy h _) (cwV 1 hts gX8_othersOver_X8_spanBy rfl rfl rfl (by decide +kernel) ⟨Nat.le_of_ble_eq_true rfl, Nat.le_of_ble_eq_true rfl⟩) (pre_V (b := q) (q0 := 0) (ci := 8) (q := (RX8, TX8, 22)) hp hK hN hP hD rfl rfl) rfl rfl hl.1 rfl (lv_room (Nat.le_of_ble_eq_true rfl)) dX8_othersOver_8 ⟨Nat.le_of_ble_eq_true rfl, Nat.le_of_ble_eq_true rfl⟩) (fun r35 u H locs h hP hD hS => ?_)
  obtain ⟨u36, rfl⟩ : ∃ z, z = u := ⟨_, rfl⟩
  try dsimp only at h
  have hP : va_P D vwCl (w_X8_othersOver Y q q_row q_isKept q_text q_seenFold q_seenSpan q_readLong q_marks q_isMeasured q_waysAre q_haveSpan g_links g_undos g_length g_seenMany g_trace g_at g_behind g_number g_readLinks g_readFolded g_readStiff g_wayMany g_row u36) H := hP
  have hD : va_D A (w_X8_othersOver Y q q_row q_isKept q_text q_seenFold q_seenSpan q_readLong q_marks q_isMeasured q_waysAre q_haveSpan g_links g_undos g_length g_seenMany g_trace g_at g_behind g_number g_readLinks g_readFolded g_readStiff g_wayMany g_row u36) := hD
  refine lv_istore_n (lv' := [(2, .int r35), (0, .ref q), (1, .int x1)]) hx hb dX8_othersOver_11 rfl hl (by decide) rfl (fun ls hl => ?_)
  refine lv_aload_n hx hb dX8_othersOver_12 rfl (lv_at hl 1 rfl) ?_
  have hp : Pt (w_X8_othersOver Y q q_row q_isKept q_text q_seenFold q_seenSpan q_readLong q_marks q_isMeasured q_waysAre q_haveSpan g_links g_undos g_length g_seenMany g_trace g_at g_behind g_number g_readLinks g_readFolded g_readStiff g_wayMany g_row u36) (w_X8_lowest Y q q_row q_isKept q_text q_seenFold q_seenSpan q_readLong q_marks q_isMeasured q_waysAre q_haveSpan g_links g_undos g_length g_seenMany g_trace g_at g_behind g_number g_readLinks g_readFolded g_readStiff g_wayMany u36) [0, 2] := ⟨rfl, by decide +kernel⟩
  refine go_i hp hP hD hS hA (fun _ => rfl) (va_runV (As := []) (rest := []) ⟨hx, hb, hml, hown, hts⟩ (c_X8_lowest h _) (cwV 0 hts gX8_othersOver_X8_lowest rfl rfl rfl (by decide +kernel) ⟨Nat.le_of_ble_eq_true rfl, Nat.le_of_ble_eq_true rfl⟩) (pre_V (b := q) (q0 := 0) (ci := 8) (q := (RX8, TX8, 22)) hp hK hN hP hD rfl rfl) rfl rfl hl.1 rfl (lv_room (Nat.le_of_ble_eq_true rfl)) dX8_othersOver_13 ⟨Nat.le_of_ble_eq_true rfl, Nat.le_of_ble_eq_true rfl⟩) (fun r37 u H locs h hP hD hS => ?_)
  try dsimp only at h
  have hP : va_P D vwCl (w_X8_othersOver Y q q_row q_isKept q_text q_seenFold q_seenSpan q_readLong q_marks q_isMeasured q_waysAre q_haveSpan g_links g_undos g_length g_seenMany g_trace g_at g_behind g_number g_readLinks g_readFolded g_readStiff g_wayMany g_row u36) H := hP
  have hD : va_D A (w_X8_othersOver Y q q_row q_isKept q_text q_seenFold q_seenSpan q_readLong q_marks q_isMeasured q_waysAre q_haveSpan g_links g_undos g_length g_seenMany g_trace g_at g_behind g_number g_readLinks g_readFolded g_readStiff g_wayMany g_row u36) := hD
  refine lv_istore_n (lv' := [(3, .int r37), (2, .int r35), (0, .ref q), (1, .int x1)]) hx hb dX8_othersOver_16 rfl hl (by decide) rfl (fun ls hl => ?_)
  refine lv_iconst (v := 0) hx hb dX8_othersOver_17 (by decide) ?_
  refine lv_istore (lv' := [(4, .int (0 : Int32)), (3, .int r37), (2, .int r35), (0, .ref q), (1, .int x1)]) hx hb dX8_othersOver_18 hl (by decide) rfl (fun ls hl => ?_)
  refine lv_iconst (v := 0) hx hb dX8_othersOver_20 (by decide) ?_
  refine lv_istore (lv' := [(5, .int (0 : Int32)), (4, .int (0 : Int32)), (3, .int r37), (2, .int r35), (0, .ref q), (1, .int x1)]) hx hb dX8_othersOver_21 hl (by decide) rfl (fun ls hl => ?_)
  obtain ⟨n, h⟩ := h
  exact L_X8_othersOver_23 C hK hA  n _ _ h _ _ _ hP hD hS (lv_sub hl [4, 5, 3, 2, 1, 0] rfl)
abbrev rm_X8_link : Room := { frames := 4, cells := 0, slots := 0, locals := 94 }
theorem in_X8_link_X8 : ∀ w ∈ wsX80, w ∈ wsX8_link := fun _ h => List.mem_cons_of_mem _ (List.mem_append_right _ h)
theorem k_X8_link_f7 {s : State} {args : Array Value} (hts : ∀ w ∈ wsX8_link, w.before args s = true) : (Cond.fieldLink RX8 7 "FoldRuleModel" "row" "[I").before args s = true := hts _ (by decide +kernel)
set_option maxHeartbeats 4000000 in
set_option maxRecDepth 100000 in
theorem c_X8_link {l : Launch} {D : va_G} {Y : ClassId × ClassId × ClassId} {q q_row q_isKept q_text q_seenFold q_seenSpan q_readLong q_marks q_isMeasured q_waysAre q_haveSpan : Nat} {g_links g_undos g_length g_seenMany : Int32} {g_trace : Int64} {g_at g_behind g_number g_readLinks g_readFolded g_readStiff g_wayMany : Int32} {g_row g_marks : Nat → Int32} {x1 x2 : Int32} {Q : Int32 → (Nat → Int32) → Prop} (h : wp_X8_link g_links g_row g_marks x1 x2 Q) (sz : Nat) : MtI l yX8_link wsX8_link rm_X8_link [.ref q, .int x1, .int x2] D Y (w_X8_link Y q q_row q_isKept q_text q_seenFold q_seenSpan q_readLong q_marks q_isMeasured q_waysAre q_haveSpan g_links g_undos g_length g_seenMany g_trace g_at g_behind g_number g_readLinks g_readFolded g_readStiff g_wayMany g_row g_marks) (fun r (u : (Nat → Int32)) => Q r u) (fun u : (Nat → Int32) => (w_X8_link Y q q_row q_isKept q_text q_seenFold q_seenSpan q_readLong q_marks q_isMeasured q_waysAre q_haveSpan g_links g_undos g_length g_seenMany g_trace g_at g_behind g_number g_readLinks g_readFolded g_readStiff g_wayMany g_row u)) sz := by
  refine ct_i (cc := cX8_link) (nL := 3) (ret := (some .int)) (by decide) rfl (Nat.le_of_ble_eq_true rfl) ?_ sz
  intro p e s m below meth c A ls C hK hA hP hD hS hl
  obtain ⟨⟨hx, hb, hml, hown, hts⟩, hr, hlocks, hN⟩ := id C
  have hown : s.vm.findClass RX8 = some m.cls := hown
  have hl : lv_has ls 3 [(0, .ref q), (1, .int x1), (2, .int x2)] := hl
  unfold wp_X8_link at h
  refine lv_aload_n hx hb dX8_link_0 rfl (lv_at hl 0 rfl) ?_
  refine lv_iload_n hx hb dX8_link_1 rfl (lv_at hl 1 rfl) ?_
  have hp : Pt (w_X8_link Y q q_row q_isKept q_text q_seenFold q_seenSpan q_readLong q_marks q_isMeasured q_waysAre q_haveSpan g_links g_undos g_length g_seenMany g_trace g_at g_behind g_number g_readLinks g_readFolded g_readStiff g_wayMany g_row g_marks) (w_X8_isLink Y q q_row q_isKept q_text q_seenFold q_seenSpan q_readLong q_marks q_isMeasured q_waysAre q_haveSpan g_links g_undos g_length g_seenMany g_trace g_at g_behind g_number g_readLinks g_readFolded g_readStiff g_wayMany) [0] := ⟨rfl, by decide +kernel⟩
  refine go_i hp hP hD hS hA (fun _ => rfl) (va_runV (As := [.int x1]) (rest := []) ⟨hx, hb, hml, hown, hts⟩ (c_X8_isLink h _) (cwV 1 hts gX8_link_X8_isLink rfl rfl rfl (by decide +kernel) ⟨Nat.le_of_ble_eq_true rfl, Nat.le_of_ble_eq_true rfl⟩) (pre_V (b := q) (q0 := 0) (ci := 8) (q := (RX8, TX8, 22)) hp hK hN hP hD rfl rfl) rfl rfl hl.1 rfl (lv_room (Nat.le_of_ble_eq_true rfl)) dX8_link_2 ⟨Nat.le_of_ble_eq_true rfl, Nat.le_of_ble_eq_true rfl⟩) (fun r5 u H locs h hP hD hS => ?_)
  try dsimp only at h
  have hP : va_P D vwCl (w_X8_link Y q q_row q_isKept q_text q_seenFold q_seenSpan q_readLong q_marks q_isMeasured q_waysAre q_haveSpan g_links g_undos g_length g_seenMany g_trace g_at g_behind g_number g_readLinks g_readFolded g_readStiff g_wayMany g_row g_marks) H := hP
  have hD : va_D A (w_X8_link Y q q_row q_isKept q_text q_seenFold q_seenSpan q_readLong q_marks q_isMeasured q_waysAre q_haveSpan g_links g_undos g_length g_seenMany g_trace g_at g_behind g_number g_readLinks g_readFolded g_readStiff g_wayMany g_row g_marks) := hD
  refine lv_if_eq (tgt := 17) hx hb dX8_link_5 (by decide) (fun c6 => ?_) (fun c6 => ?_)
  · have h := h.1 c6
    refine lv_iconst (v := (-1)) hx hb dX8_link_17 (by decide) ?_
    refine lv_goto (tgt := 41) hx hb dX8_link_18 (by decide) ?_
    exact ret_i (g_marks) hx hb hr hlocks hK hP hD hS h dX8_link_41
  · have h := h.2 c6
    refine lv_iload_n hx hb dX8_link_8 rfl (lv_at hl 2 rfl) ?_
    refine lv_iconst (v := 0) hx hb dX8_link_9 (by decide) ?_
    refine lv_iconst (v := 1) hx hb dX8_link_10 (by decide) ?_
    have hp : Pt (w_X8_link Y q q_row q_isKept q_text q_seenFold q_seenSpan q_readLong q_marks q_isMeasured q_waysAre q_haveSpan g_links g_undos g_length g_seenMany g_trace g_at g_behind g_number g_readLinks g_readFolded g_readStiff g_wayMany g_row g_marks) (w_X8_in Y ) [] := ⟨rfl, by decide +kernel⟩
    refine go_i hp hP hD hS hA (fun _ => rfl) (va_runS (As := [.int x2, .int (0 : Int32), .int (1 : Int32)]) (rest := []) ⟨hx, hb, hml, hown, hts⟩ (c_X8_in h _) (va_cwS 3 hts gX8_link_X8_in rfl rfl rfl (by decide +kernel) ⟨Nat.le_of_ble_eq_true rfl, Nat.le_of_ble_eq_true rfl⟩) (pre_S hp hK hN hP hD) rfl rfl hl.1 rfl (lv_room (Nat.le_of_ble_eq_true rfl)) dX8_link_11 ⟨Nat.le_of_ble_eq_true rfl, Nat.le_of_ble_eq_true rfl⟩) (fun r7 u H locs h hP hD hS => ?_)
    try dsimp only at h
    have hP : va_P D vwCl (w_X8_link Y q q_row q_isKept q_text q_seenFold q_seenSpan q_readLong q_marks q_isMeasured q_waysAre q_haveSpan g_links g_undos g_length g_seenMany g_trace g_at g_behind g_number g_readLinks g_readFolded g_readStiff g_wayMany g_row g_marks) H := hP
    have hD : va_D A (w_X8_link Y q q_row q_isKept q_text q_seenFold q_seenSpan q_readLong q_marks q_isMeasured q_waysAre q_haveSpan g_links g_undos g_length g_seenMany g_trace g_at g_behind g_number g_readLinks g_readFolded g_readStiff g_wayMany g_row g_marks) := hD
    refine lv_if_ne (tgt := 21) hx hb dX8_link_14 (by decide) (fun c8 => ?_) (fun c8 => ?_)
    · have h := h.1 c8
      refine lv_iload_n hx hb dX8_link_21 rfl (lv_at hl 2 rfl) ?_
      refine lv_if_ne (tgt := 36) hx hb dX8_link_22 (by decide) (fun c9 => ?_) (fun c9 => ?_)
      · have h := h.1 c9
        refine lv_aload_n hx hb dX8_link_36 rfl (lv_at hl 0 rfl) ?_
        refine lv_iload_n hx hb dX8_link_37 rfl (lv_at hl 1 rfl) ?_
        have hp : Pt (w_X8_link Y q q_row q_isKept q_text q_seenFold q_seenSpan q_readLong q_marks q_isMeasured q_waysAre q_haveSpan g_links g_undos g_length g_seenMany g_trace g_at g_behind g_number g_readLinks g_readFolded g_readStiff g_wayMany g_row g_marks) (w_X8_othersOver Y q q_row q_isKept q_text q_seenFold q_seenSpan q_readLong q_marks q_isMeasured q_waysAre q_haveSpan g_links g_undos g_length g_seenMany g_trace g_at g_behind g_number g_readLinks g_readFolded g_readStiff g_wayMany g_row g_marks) [0, 1, 2] := ⟨rfl, by decide +kernel⟩
        refine go_i hp hP hD hS hA (fun _ => rfl) (va_runV (As := [.int x1]) (rest := []) ⟨hx, hb, hml, hown, hts⟩ (c_X8_othersOver h _) (cwV 1 hts gX8_link_X8_othersOver rfl rfl rfl (by decide +kernel) ⟨Nat.le_of_ble_eq_true rfl, Nat.le_of_ble_eq_true rfl⟩) (pre_V (b := q) (q0 := 0) (ci := 8) (q := (RX8, TX8, 22)) hp hK hN hP hD rfl rfl) rfl rfl hl.1 rfl (lv_room (Nat.le_of_ble_eq_true rfl)) dX8_link_38 ⟨Nat.le_of_ble_eq_true rfl, Nat.le_of_ble_eq_true rfl⟩) (fun r10 u H locs h hP hD hS => ?_)
        obtain ⟨u11, rfl⟩ : ∃ z, z = u := ⟨_, rfl⟩
        try dsimp only at h
        have hP : va_P D vwCl (w_X8_link Y q q_row q_isKept q_text q_seenFold q_seenSpan q_readLong q_marks q_isMeasured q_waysAre q_haveSpan g_links g_undos g_length g_seenMany g_trace g_at g_behind g_number g_readLinks g_readFolded g_readStiff g_wayMany g_row u11) H := hP
        have hD : va_D A (w_X8_link Y q q_row q_isKept q_text q_seenFold q_seenSpan q_readLong q_marks q_isMeasured q_waysAre q_haveSpan g_links g_undos g_length g_seenMany g_trace g_at g_behind g_number g_readLinks g_readFolded g_readStiff g_wayMany g_row u11) := hD
        exact ret_i (u11) hx hb hr hlocks hK hP hD hS h dX8_link_41
      · have h := h.2 c9
        refine lv_aload_n hx hb dX8_link_25 rfl (lv_at hl 0 rfl) ?_
        refine va_get (D := D) (ci := 8) (v := .ref q_row) (C := RX8) (T := TX8) (N := 22) hx hb hts in_X8_link_X8 hown hK hP 0 rfl rfl 0 (by decide) (k_X8_link_f7 hts) (fun _ h9 => h9) rfl dX8_link_26 ?_
        refine lv_iconst (v := 0) hx hb dX8_link_29 (by decide) ?_
        refine lv_iload_n hx hb dX8_link_30 rfl (lv_at hl 1 rfl) ?_
        refine lv_iadd hx hb dX8_link_31 ?_
        obtain ⟨hin, h⟩ := h
        refine va_iald hx hb hK hP 1 0 rfl rfl hin dX8_link_32 ?_
        refine lv_goto (tgt := 41) hx hb dX8_link_33 (by decide) ?_
        exact ret_i (g_marks) hx hb hr hlocks hK hP hD hS h dX8_link_41
    · have h := h.2 c8
      refine lv_iconst (v := (-1)) hx hb dX8_link_17 (by decide) ?_
      refine lv_goto (tgt := 41) hx hb dX8_link_18 (by decide) ?_
      exact ret_i (g_marks) hx hb hr hlocks hK hP hD hS h dX8_link_41
abbrev rm_X8_joint : Room := { frames := 2, cells := 0, slots := 0, locals := 43 }
theorem in_X8_joint_X8 : ∀ w ∈ wsX80, w ∈ wsX8_joint := fun _ h => List.mem_cons_of_mem _ (List.mem_append_right _ h)
theorem k_X8_joint_f7 {s : State} {args : Array Value} (hts : ∀ w ∈ wsX8_joint, w.before args s = true) : (Cond.fieldLink RX8 7 "FoldRuleModel" "row" "[I").before args s = true := hts _ (by decide +kernel)
set_option maxHeartbeats 4000000 in
set_option maxRecDepth 100000 in
theorem c_X8_joint {l : Launch} {D : va_G} {Y : ClassId × ClassId × ClassId} {q q_row q_isKept q_text q_seenFold q_seenSpan q_readLong q_marks q_isMeasured q_waysAre q_haveSpan : Nat} {g_links g_undos g_length g_seenMany : Int32} {g_trace : Int64} {g_at g_behind g_number g_readLinks g_readFolded g_readStiff g_wayMany : Int32} {g_row : Nat → Int32} {x1 x2 : Int32} {Q : Int32 → Prop} (h : wp_X8_joint g_links g_row x1 x2 Q) (sz : Nat) : MtI l yX8_joint wsX8_joint rm_X8_joint [.ref q, .int x1, .int x2] D Y (w_X8_joint Y q q_row q_isKept q_text q_seenFold q_seenSpan q_readLong q_marks q_isMeasured q_waysAre q_haveSpan g_links g_undos g_length g_seenMany g_trace g_at g_behind g_number g_readLinks g_readFolded g_readStiff g_wayMany g_row) (fun r (_ : Unit) => Q r) (fun _ : Unit => (w_X8_joint Y q q_row q_isKept q_text q_seenFold q_seenSpan q_readLong q_marks q_isMeasured q_waysAre q_haveSpan g_links g_undos g_length g_seenMany g_trace g_at g_behind g_number g_readLinks g_readFolded g_readStiff g_wayMany g_row)) sz := by
  refine ct_i (cc := cX8_joint) (nL := 3) (ret := (some .int)) (by decide) rfl (Nat.le_of_ble_eq_true rfl) ?_ sz
  intro p e s m below meth c A ls C hK hA hP hD hS hl
  obtain ⟨⟨hx, hb, hml, hown, hts⟩, hr, hlocks, hN⟩ := id C
  have hown : s.vm.findClass RX8 = some m.cls := hown
  have hl : lv_has ls 3 [(0, .ref q), (1, .int x1), (2, .int x2)] := hl
  unfold wp_X8_joint at h
  refine lv_aload_n hx hb dX8_joint_0 rfl (lv_at hl 0 rfl) ?_
  refine lv_iload_n hx hb dX8_joint_1 rfl (lv_at hl 1 rfl) ?_
  have hp : Pt (w_X8_joint Y q q_row q_isKept q_text q_seenFold q_seenSpan q_readLong q_marks q_isMeasured q_waysAre q_haveSpan g_links g_undos g_length g_seenMany g_trace g_at g_behind g_number g_readLinks g_readFolded g_readStiff g_wayMany g_row) (w_X8_isJoint Y q q_row q_isKept q_text q_seenFold q_seenSpan q_readLong q_marks q_isMeasured q_waysAre q_haveSpan g_links g_undos g_length g_seenMany g_trace g_at g_behind g_number g_readLinks g_readFolded g_readStiff g_wayMany) [0] := ⟨rfl, by decide +kernel⟩
  refine go_i hp hP hD hS hA (fun _ => rfl) (va_runV (As := [.int x1]) (rest := []) ⟨hx, hb, hml, hown, hts⟩ (c_X8_isJoint h _) (cwV 1 hts gX8_joint_X8_isJoint rfl rfl rfl (by decide +kernel) ⟨Nat.le_of_ble_eq_true rfl, Nat.le_of_ble_eq_true rfl⟩) (pre_V (b := q) (q0 := 0) (ci := 8) (q := (RX8, TX8, 22)) hp hK hN hP hD rfl rfl) rfl rfl hl.1 rfl (lv_room (Nat.le_of_ble_eq_true rfl)) dX8_joint_2 ⟨Nat.le_of_ble_eq_true rfl, Nat.le_of_ble_eq_true rfl⟩) (fun r3 u H locs h hP hD hS => ?_)
  try dsimp only at h
  have hP : va_P D vwCl (w_X8_joint Y q q_row q_isKept q_text q_seenFold q_seenSpan q_readLong q_marks q_isMeasured q_waysAre q_haveSpan g_links g_undos g_length g_seenMany g_trace g_at g_behind g_number g_readLinks g_readFolded g_readStiff g_wayMany g_row) H := hP
  have hD : va_D A (w_X8_joint Y q q_row q_isKept q_text q_seenFold q_seenSpan q_readLong q_marks q_isMeasured q_waysAre q_haveSpan g_links g_undos g_length g_seenMany g_trace g_at g_behind g_number g_readLinks g_readFolded g_readStiff g_wayMany g_row) := hD
  refine lv_if_eq (tgt := 17) hx hb dX8_joint_5 (by decide) (fun c4 => ?_) (fun c4 => ?_)
  · have h := h.1 c4
    refine lv_iconst (v := (-1)) hx hb dX8_joint_17 (by decide) ?_
    refine lv_goto (tgt := 41) hx hb dX8_joint_18 (by decide) ?_
    exact ret_i () hx hb hr hlocks hK hP hD hS h dX8_joint_41
  · have h := h.2 c4
    refine lv_iload_n hx hb dX8_joint_8 rfl (lv_at hl 2 rfl) ?_
    refine lv_iconst (v := 0) hx hb dX8_joint_9 (by decide) ?_
    refine lv_iconst (v := 1) hx hb dX8_joint_10 (by decide) ?_
    have hp : Pt (w_X8_joint Y q q_row q_isKept q_text q_seenFold q_seenSpan q_readLong q_marks q_isMeasured q_waysAre q_haveSpan g_links g_undos g_length g_seenMany g_trace g_at g_behind g_number g_readLinks g_readFolded g_readStiff g_wayMany g_row) (w_X8_in Y ) [] := ⟨rfl, by decide +kernel⟩
    refine go_i hp hP hD hS hA (fun _ => rfl) (va_runS (As := [.int x2, .int (0 : Int32), .int (1 : Int32)]) (rest := []) ⟨hx, hb, hml, hown, hts⟩ (c_X8_in h _) (va_cwS 3 hts gX8_joint_X8_in rfl rfl rfl (by decide +kernel) ⟨Nat.le_of_ble_eq_true rfl, Nat.le_of_ble_eq_true rfl⟩) (pre_S hp hK hN hP hD) rfl rfl hl.1 rfl (lv_room (Nat.le_of_ble_eq_true rfl)) dX8_joint_11 ⟨Nat.le_of_ble_eq_true rfl, Nat.le_of_ble_eq_true rfl⟩) (fun r5 u H locs h hP hD hS => ?_)
    try dsimp only at h
    have hP : va_P D vwCl (w_X8_joint Y q q_row q_isKept q_text q_seenFold q_seenSpan q_readLong q_marks q_isMeasured q_waysAre q_haveSpan g_links g_undos g_length g_seenMany g_trace g_at g_behind g_number g_readLinks g_readFolded g_readStiff g_wayMany g_row) H := hP
    have hD : va_D A (w_X8_joint Y q q_row q_isKept q_text q_seenFold q_seenSpan q_readLong q_marks q_isMeasured q_waysAre q_haveSpan g_links g_undos g_length g_seenMany g_trace g_at g_behind g_number g_readLinks g_readFolded g_readStiff g_wayMany g_row) := hD
    refine lv_if_ne (tgt := 21) hx hb dX8_joint_14 (by decide) (fun c6 => ?_) (fun c6 => ?_)
    · have h := h.1 c6
      refine lv_aload_n hx hb dX8_joint_21 rfl (lv_at hl 0 rfl) ?_
      refine va_get (D := D) (ci := 8) (v := .ref q_row) (C := RX8) (T := TX8) (N := 22) hx hb hts in_X8_joint_X8 hown hK hP 0 rfl rfl 0 (by decide) (k_X8_joint_f7 hts) (fun _ h9 => h9) rfl dX8_joint_22 ?_
      refine lv_iload_n hx hb dX8_joint_25 rfl (lv_at hl 2 rfl) ?_
      refine lv_if_ne (tgt := 34) hx hb dX8_joint_26 (by decide) (fun c7 => ?_) (fun c7 => ?_)
      · have h := h.1 c7
        refine lv_bipush (v := 10) hx hb dX8_joint_34 (by decide) ?_
        obtain ⟨hin, h⟩ := h
        refine va_iald hx hb hK hP 1 0 rfl rfl hin dX8_joint_36 ?_
        refine lv_iload_n hx hb dX8_joint_37 rfl (lv_at hl 1 rfl) ?_
        refine lv_ishr hx hb dX8_joint_38 ?_
        refine lv_iconst (v := 1) hx hb dX8_joint_39 (by decide) ?_
        refine lv_iand hx hb dX8_joint_40 ?_
        exact ret_i () hx hb hr hlocks hK hP hD hS h dX8_joint_41
      · have h := h.2 c7
        refine lv_bipush (v := 9) hx hb dX8_joint_29 (by decide) ?_
        refine lv_goto (tgt := 36) hx hb dX8_joint_31 (by decide) ?_
        obtain ⟨hin, h⟩ := h
        refine va_iald hx hb hK hP 1 0 rfl rfl hin dX8_joint_36 ?_
        refine lv_iload_n hx hb dX8_joint_37 rfl (lv_at hl 1 rfl) ?_
        refine lv_ishr hx hb dX8_joint_38 ?_
        refine lv_iconst (v := 1) hx hb dX8_joint_39 (by decide) ?_
        refine lv_iand hx hb dX8_joint_40 ?_
        exact ret_i () hx hb hr hlocks hK hP hD hS h dX8_joint_41
    · have h := h.2 c6
      refine lv_iconst (v := (-1)) hx hb dX8_joint_17 (by decide) ?_
      refine lv_goto (tgt := 41) hx hb dX8_joint_18 (by decide) ?_
      exact ret_i () hx hb hr hlocks hK hP hD hS h dX8_joint_41
abbrev rm_X8_mark : Room := { frames := 2, cells := 0, slots := 0, locals := 46 }
theorem in_X8_mark_X8 : ∀ w ∈ wsX80, w ∈ wsX8_mark := fun _ h => List.mem_cons_of_mem _ (List.mem_append_right _ h)
theorem k_X8_mark_f41 {s : State} {args : Array Value} (hts : ∀ w ∈ wsX8_mark, w.before args s = true) : (Cond.fieldLink RX8 41 "FoldRuleModel" "links" "I").before args s = true := hts _ (by decide +kernel)
theorem k_X8_mark_f7 {s : State} {args : Array Value} (hts : ∀ w ∈ wsX8_mark, w.before args s = true) : (Cond.fieldLink RX8 7 "FoldRuleModel" "row" "[I").before args s = true := hts _ (by decide +kernel)
theorem k_X8_mark_f29 {s : State} {args : Array Value} (hts : ∀ w ∈ wsX8_mark, w.before args s = true) : (Cond.fieldLink RX8 29 "FoldRuleModel" "marks" "[I").before args s = true := hts _ (by decide +kernel)
theorem k_X8_mark_c134 {s : State} {args : Array Value} (hts : ∀ w ∈ wsX8_mark, w.before args s = true) : (Cond.constant RX8 134 (-1000000)).before args s = true := hts _ (by decide +kernel)
set_option maxHeartbeats 4000000 in
set_option maxRecDepth 100000 in
theorem c_X8_mark {l : Launch} {D : va_G} {Y : ClassId × ClassId × ClassId} {q q_row q_isKept q_text q_seenFold q_seenSpan q_readLong q_marks q_isMeasured q_waysAre q_haveSpan : Nat} {g_links g_undos g_length g_seenMany : Int32} {g_trace : Int64} {g_at g_behind g_number g_readLinks g_readFolded g_readStiff g_wayMany : Int32} {g_row g_marks : Nat → Int32} {x1 : Int32} {Q : Int32 → (Nat → Int32) → Prop} (h : wp_X8_mark g_links g_row g_marks x1 Q) (sz : Nat) : MtI l yX8_mark wsX8_mark rm_X8_mark [.ref q, .int x1] D Y (w_X8_mark Y q q_row q_isKept q_text q_seenFold q_seenSpan q_readLong q_marks q_isMeasured q_waysAre q_haveSpan g_links g_undos g_length g_seenMany g_trace g_at g_behind g_number g_readLinks g_readFolded g_readStiff g_wayMany g_row g_marks) (fun r (u : (Nat → Int32)) => Q r u) (fun u : (Nat → Int32) => (w_X8_mark Y q q_row q_isKept q_text q_seenFold q_seenSpan q_readLong q_marks q_isMeasured q_waysAre q_haveSpan g_links g_undos g_length g_seenMany g_trace g_at g_behind g_number g_readLinks g_readFolded g_readStiff g_wayMany g_row u)) sz := by
  refine ct_i (cc := cX8_mark) (nL := 2) (ret := (some .int)) (by decide) rfl (Nat.le_of_ble_eq_true rfl) ?_ sz
  intro p e s m below meth c A ls C hK hA hP hD hS hl
  obtain ⟨⟨hx, hb, hml, hown, hts⟩, hr, hlocks, hN⟩ := id C
  have hown : s.vm.findClass RX8 = some m.cls := hown
  have hl : lv_has ls 2 [(0, .ref q), (1, .int x1)] := hl
  unfold wp_X8_mark at h
  refine lv_iload_n hx hb dX8_mark_0 rfl (lv_at hl 1 rfl) ?_
  refine lv_iconst (v := 0) hx hb dX8_mark_1 (by decide) ?_
  refine lv_aload_n hx hb dX8_mark_2 rfl (lv_at hl 0 rfl) ?_
  refine va_get (D := D) (ci := 8) (v := .int g_links) (C := RX8) (T := TX8) (N := 22) hx hb hts in_X8_mark_X8 hown hK hP 0 rfl rfl 1 (by decide) (k_X8_mark_f41 hts) (fun _ h9 => h9) rfl dX8_mark_3 ?_
  have hp : Pt (w_X8_mark Y q q_row q_isKept q_text q_seenFold q_seenSpan q_readLong q_marks q_isMeasured q_waysAre q_haveSpan g_links g_undos g_length g_seenMany g_trace g_at g_behind g_number g_readLinks g_readFolded g_readStiff g_wayMany g_row g_marks) (w_X8_in Y ) [] := ⟨rfl, by decide +kernel⟩
  refine go_i hp hP hD hS hA (fun _ => rfl) (va_runS (As := [.int x1, .int (0 : Int32), .int g_links]) (rest := []) ⟨hx, hb, hml, hown, hts⟩ (c_X8_in h _) (va_cwS 3 hts gX8_mark_X8_in rfl rfl rfl (by decide +kernel) ⟨Nat.le_of_ble_eq_true rfl, Nat.le_of_ble_eq_true rfl⟩) (pre_S hp hK hN hP hD) rfl rfl hl.1 rfl (lv_room (Nat.le_of_ble_eq_true rfl)) dX8_mark_6 ⟨Nat.le_of_ble_eq_true rfl, Nat.le_of_ble_eq_true rfl⟩) (fun r3 u H locs h hP hD hS => ?_)
  try dsimp only at h
  have hP : va_P D vwCl (w_X8_mark Y q q_row q_isKept q_text q_seenFold q_seenSpan q_readLong q_marks q_isMeasured q_waysAre q_haveSpan g_links g_undos g_length g_seenMany g_trace g_at g_behind g_number g_readLinks g_readFolded g_readStiff g_wayMany g_row g_marks) H := hP
  have hD : va_D A (w_X8_mark Y q q_row q_isKept q_text q_seenFold q_seenSpan q_readLong q_marks q_isMeasured q_waysAre q_haveSpan g_links g_undos g_length g_seenMany g_trace g_at g_behind g_number g_readLinks g_readFolded g_readStiff g_wayMany g_row g_marks) := hD
  refine lv_if_ne (tgt := 15) hx hb dX8_mark_9 (by decide) (fun c4 => ?_) (fun c4 => ?_)
  · have h := h.1 c4
    refine lv_aload_n hx hb dX8_mark_15 rfl (lv_at hl 0 rfl) ?_
    refine lv_aload_n hx hb dX8_mark_16 rfl (lv_at hl 0 rfl) ?_
    refine va_get (D := D) (ci := 8) (v := .ref q_row) (C := RX8) (T := TX8) (N := 22) hx hb hts in_X8_mark_X8 hown hK hP 0 rfl rfl 0 (by decide) (k_X8_mark_f7 hts) (fun _ h9 => h9) rfl dX8_mark_17 ?_
    refine lv_bipush (v := 9) hx hb dX8_mark_20 (by decide) ?_
    obtain ⟨hin, h⟩ := h
    refine va_iald hx hb hK hP 1 0 rfl rfl hin dX8_mark_22 ?_
    refine lv_bipush (v := (-9)) hx hb dX8_mark_23 (by decide) ?_
    refine lv_iconst (v := 0) hx hb dX8_mark_25 (by decide) ?_
    have hp : Pt (w_X8_mark Y q q_row q_isKept q_text q_seenFold q_seenSpan q_readLong q_marks q_isMeasured q_waysAre q_haveSpan g_links g_undos g_length g_seenMany g_trace g_at g_behind g_number g_readLinks g_readFolded g_readStiff g_wayMany g_row g_marks) (w_X8_lies Y q q_row q_isKept q_text q_seenFold q_seenSpan q_readLong q_marks q_isMeasured q_waysAre q_haveSpan g_links g_undos g_length g_seenMany g_trace g_at g_behind g_number g_readLinks g_readFolded g_readStiff g_wayMany g_marks g_row) [0, 2, 1] := ⟨rfl, by decide +kernel⟩
    refine go_v hp hP hD hS hA (fun _ => rfl) (va_runV (As := [.int (g_row ((9 : Int32)).toNatClampNeg), .int (-9 : Int32), .int (0 : Int32)]) (rest := []) ⟨hx, hb, hml, hown, hts⟩ (c_X8_lies h _) (cwV 3 hts gX8_mark_X8_lies rfl rfl rfl (by decide +kernel) ⟨Nat.le_of_ble_eq_true rfl, Nat.le_of_ble_eq_true rfl⟩) (pre_V (b := q) (q0 := 0) (ci := 8) (q := (RX8, TX8, 22)) hp hK hN hP hD rfl rfl) rfl rfl hl.1 rfl (lv_room (Nat.le_of_ble_eq_true rfl)) dX8_mark_26 ⟨Nat.le_of_ble_eq_true rfl, Nat.le_of_ble_eq_true rfl⟩) (fun u H locs h hP hD hS => ?_)
    obtain ⟨u6, rfl⟩ : ∃ z, z = u := ⟨_, rfl⟩
    try dsimp only at h
    have hP : va_P D vwCl (w_X8_mark Y q q_row q_isKept q_text q_seenFold q_seenSpan q_readLong q_marks q_isMeasured q_waysAre q_haveSpan g_links g_undos g_length g_seenMany g_trace g_at g_behind g_number g_readLinks g_readFolded g_readStiff g_wayMany g_row u6) H := hP
    have hD : va_D A (w_X8_mark Y q q_row q_isKept q_text q_seenFold q_seenSpan q_readLong q_marks q_isMeasured q_waysAre q_haveSpan g_links g_undos g_length g_seenMany g_trace g_at g_behind g_number g_readLinks g_readFolded g_readStiff g_wayMany g_row u6) := hD
    refine lv_aload_n hx hb dX8_mark_29 rfl (lv_at hl 0 rfl) ?_
    refine va_get (D := D) (ci := 8) (v := .ref q_marks) (C := RX8) (T := TX8) (N := 22) hx hb hts in_X8_mark_X8 hown hK hP 0 rfl rfl 17 (by decide) (k_X8_mark_f29 hts) (fun _ h9 => h9) rfl dX8_mark_30 ?_
    refine lv_iload_n hx hb dX8_mark_33 rfl (lv_at hl 1 rfl) ?_
    obtain ⟨hin, h⟩ := h
    refine va_iald hx hb hK hP 2 0 rfl rfl hin dX8_mark_34 ?_
    exact ret_i (u6) hx hb hr hlocks hK hP hD hS h dX8_mark_35
  · have h := h.2 c4
    refine lv_ldc hx hb hown (k_X8_mark_c134 hts) dX8_mark_12 ?_
    exact ret_i (g_marks) hx hb hr hlocks hK hP hD hS h dX8_mark_14
abbrev rm_X8_folds : Room := { frames := 0, cells := 0, slots := 0, locals := 0 }
theorem in_X8_folds_X8 : ∀ w ∈ wsX80, w ∈ wsX8_folds := fun _ h => List.mem_cons_of_mem _ (List.mem_append_right _ h)
theorem k_X8_folds_f41 {s : State} {args : Array Value} (hts : ∀ w ∈ wsX8_folds, w.before args s = true) : (Cond.fieldLink RX8 41 "FoldRuleModel" "links" "I").before args s = true := hts _ (by decide +kernel)
set_option maxHeartbeats 4000000 in
set_option maxRecDepth 100000 in
theorem c_X8_folds {l : Launch} {D : va_G} {Y : ClassId × ClassId × ClassId} {q q_row q_isKept q_text q_seenFold q_seenSpan q_readLong q_marks q_isMeasured q_waysAre q_haveSpan : Nat} {g_links g_undos g_length g_seenMany : Int32} {g_trace : Int64} {g_at g_behind g_number g_readLinks g_readFolded g_readStiff g_wayMany : Int32} {Q : Int32 → Prop} (h : wp_X8_folds g_links Q) (sz : Nat) : MtI l yX8_folds wsX8_folds rm_X8_folds [.ref q] D Y (w_X8_folds Y q q_row q_isKept q_text q_seenFold q_seenSpan q_readLong q_marks q_isMeasured q_waysAre q_haveSpan g_links g_undos g_length g_seenMany g_trace g_at g_behind g_number g_readLinks g_readFolded g_readStiff g_wayMany) (fun r (_ : Unit) => Q r) (fun _ : Unit => (w_X8_folds Y q q_row q_isKept q_text q_seenFold q_seenSpan q_readLong q_marks q_isMeasured q_waysAre q_haveSpan g_links g_undos g_length g_seenMany g_trace g_at g_behind g_number g_readLinks g_readFolded g_readStiff g_wayMany)) sz := by
  refine ct_i (cc := cX8_folds) (nL := 1) (ret := (some .int)) (by decide) rfl (Nat.le_of_ble_eq_true rfl) ?_ sz
  intro p e s m below meth c A ls C hK hA hP hD hS hl
  obtain ⟨⟨hx, hb, hml, hown, hts⟩, hr, hlocks, hN⟩ := id C
  have hown : s.vm.findClass RX8 = some m.cls := hown
  have hl : lv_has ls 1 [(0, .ref q)] := hl
  unfold wp_X8_folds at h
  refine lv_aload_n hx hb dX8_folds_0 rfl (lv_at hl 0 rfl) ?_
  refine va_get (D := D) (ci := 8) (v := .int g_links) (C := RX8) (T := TX8) (N := 22) hx hb hts in_X8_folds_X8 hown hK hP 0 rfl rfl 1 (by decide) (k_X8_folds_f41 hts) (fun _ h9 => h9) rfl dX8_folds_1 ?_
  refine lv_iconst (v := 2) hx hb dX8_folds_4 (by decide) ?_
  refine lv_icmp_ge (tgt := 12) hx hb dX8_folds_5 (by decide) (fun c1 => ?_) (fun c1 => ?_)
  · have h := h.1 c1
    refine lv_iconst (v := 1) hx hb dX8_folds_12 (by decide) ?_
    refine lv_aload_n hx hb dX8_folds_13 rfl (lv_at hl 0 rfl) ?_
    refine va_get (D := D) (ci := 8) (v := .int g_links) (C := RX8) (T := TX8) (N := 22) hx hb hts in_X8_folds_X8 hown hK hP 0 rfl rfl 1 (by decide) (k_X8_folds_f41 hts) (fun _ h9 => h9) rfl dX8_folds_14 ?_
    refine lv_iconst (v := 1) hx hb dX8_folds_17 (by decide) ?_
    refine lv_isub hx hb dX8_folds_18 ?_
    refine lv_ishl hx hb dX8_folds_19 ?_
    exact ret_i () hx hb hr hlocks hK hP hD hS h dX8_folds_20
  · have h := h.2 c1
    refine lv_iconst (v := 1) hx hb dX8_folds_8 (by decide) ?_
    refine lv_goto (tgt := 20) hx hb dX8_folds_9 (by decide) ?_
    exact ret_i () hx hb hr hlocks hK hP hD hS h dX8_folds_20
abbrev rm_X8_isFold : Room := { frames := 1, cells := 0, slots := 0, locals := 22 }
theorem in_X8_isFold_X8 : ∀ w ∈ wsX80, w ∈ wsX8_isFold := fun _ h => List.mem_cons_of_mem _ (List.mem_append_right _ h)
theorem k_X8_isFold_f7 {s : State} {args : Array Value} (hts : ∀ w ∈ wsX8_isFold, w.before args s = true) : (Cond.fieldLink RX8 7 "FoldRuleModel" "row" "[I").before args s = true := hts _ (by decide +kernel)
set_option maxHeartbeats 4000000 in
set_option maxRecDepth 100000 in
theorem c_X8_isFold {l : Launch} {D : va_G} {Y : ClassId × ClassId × ClassId} {q q_row q_isKept q_text q_seenFold q_seenSpan q_readLong q_marks q_isMeasured q_waysAre q_haveSpan : Nat} {g_links g_undos g_length g_seenMany : Int32} {g_trace : Int64} {g_at g_behind g_number g_readLinks g_readFolded g_readStiff g_wayMany : Int32} {g_row : Nat → Int32} {x1 : Int32} {Q : Int32 → Prop} (h : wp_X8_isFold g_links g_row x1 Q) (sz : Nat) : MtI l yX8_isFold wsX8_isFold rm_X8_isFold [.ref q, .int x1] D Y (w_X8_isFold Y q q_row q_isKept q_text q_seenFold q_seenSpan q_readLong q_marks q_isMeasured q_waysAre q_haveSpan g_links g_undos g_length g_seenMany g_trace g_at g_behind g_number g_readLinks g_readFolded g_readStiff g_wayMany g_row) (fun r (_ : Unit) => Q r) (fun _ : Unit => (w_X8_isFold Y q q_row q_isKept q_text q_seenFold q_seenSpan q_readLong q_marks q_isMeasured q_waysAre q_haveSpan g_links g_undos g_length g_seenMany g_trace g_at g_behind g_number g_readLinks g_readFolded g_readStiff g_wayMany g_row)) sz := by
  refine ct_i (cc := cX8_isFold) (nL := 2) (ret := (some .boolean)) (by decide) rfl (Nat.le_of_ble_eq_true rfl) ?_ sz
  intro p e s m below meth c A ls C hK hA hP hD hS hl
  obtain ⟨⟨hx, hb, hml, hown, hts⟩, hr, hlocks, hN⟩ := id C
  have hown : s.vm.findClass RX8 = some m.cls := hown
  have hl : lv_has ls 2 [(0, .ref q), (1, .int x1)] := hl
  unfold wp_X8_isFold at h
  refine lv_iload_n hx hb dX8_isFold_0 rfl (lv_at hl 1 rfl) ?_
  refine lv_iconst (v := 0) hx hb dX8_isFold_1 (by decide) ?_
  refine lv_aload_n hx hb dX8_isFold_2 rfl (lv_at hl 0 rfl) ?_
  have hp : Pt (w_X8_isFold Y q q_row q_isKept q_text q_seenFold q_seenSpan q_readLong q_marks q_isMeasured q_waysAre q_haveSpan g_links g_undos g_length g_seenMany g_trace g_at g_behind g_number g_readLinks g_readFolded g_readStiff g_wayMany g_row) (w_X8_folds Y q q_row q_isKept q_text q_seenFold q_seenSpan q_readLong q_marks q_isMeasured q_waysAre q_haveSpan g_links g_undos g_length g_seenMany g_trace g_at g_behind g_number g_readLinks g_readFolded g_readStiff g_wayMany) [0] := ⟨rfl, by decide +kernel⟩
  refine go_i hp hP hD hS hA (fun _ => rfl) (va_runV (As := []) (rest := [.int (0 : Int32), .int x1]) ⟨hx, hb, hml, hown, hts⟩ (c_X8_folds h _) (cwV 0 hts gX8_isFold_X8_folds rfl rfl rfl (by decide +kernel) ⟨Nat.le_of_ble_eq_true rfl, Nat.le_of_ble_eq_true rfl⟩) (pre_V (b := q) (q0 := 0) (ci := 8) (q := (RX8, TX8, 22)) hp hK hN hP hD rfl rfl) rfl rfl hl.1 rfl (lv_room (Nat.le_of_ble_eq_true rfl)) dX8_isFold_3 ⟨Nat.le_of_ble_eq_true rfl, Nat.le_of_ble_eq_true rfl⟩) (fun r3 u H locs h hP hD hS => ?_)
  try dsimp only at h
  have hP : va_P D vwCl (w_X8_isFold Y q q_row q_isKept q_text q_seenFold q_seenSpan q_readLong q_marks q_isMeasured q_waysAre q_haveSpan g_links g_undos g_length g_seenMany g_trace g_at g_behind g_number g_readLinks g_readFolded g_readStiff g_wayMany g_row) H := hP
  have hD : va_D A (w_X8_isFold Y q q_row q_isKept q_text q_seenFold q_seenSpan q_readLong q_marks q_isMeasured q_waysAre q_haveSpan g_links g_undos g_length g_seenMany g_trace g_at g_behind g_number g_readLinks g_readFolded g_readStiff g_wayMany g_row) := hD
  refine lv_iconst (v := 1) hx hb dX8_isFold_6 (by decide) ?_
  refine lv_isub hx hb dX8_isFold_7 ?_
  have hp : Pt (w_X8_isFold Y q q_row q_isKept q_text q_seenFold q_seenSpan q_readLong q_marks q_isMeasured q_waysAre q_haveSpan g_links g_undos g_length g_seenMany g_trace g_at g_behind g_number g_readLinks g_readFolded g_readStiff g_wayMany g_row) (w_X8_in Y ) [] := ⟨rfl, by decide +kernel⟩
  refine go_i hp hP hD hS hA (fun _ => rfl) (va_runS (As := [.int x1, .int (0 : Int32), .int (r3 - (1 : Int32))]) (rest := []) ⟨hx, hb, hml, hown, hts⟩ (c_X8_in h _) (va_cwS 3 hts gX8_isFold_X8_in rfl rfl rfl (by decide +kernel) ⟨Nat.le_of_ble_eq_true rfl, Nat.le_of_ble_eq_true rfl⟩) (pre_S hp hK hN hP hD) rfl rfl hl.1 rfl (lv_room (Nat.le_of_ble_eq_true rfl)) dX8_isFold_8 ⟨Nat.le_of_ble_eq_true rfl, Nat.le_of_ble_eq_true rfl⟩) (fun r4 u H locs h hP hD hS => ?_)
  try dsimp only at h
  have hP : va_P D vwCl (w_X8_isFold Y q q_row q_isKept q_text q_seenFold q_seenSpan q_readLong q_marks q_isMeasured q_waysAre q_haveSpan g_links g_undos g_length g_seenMany g_trace g_at g_behind g_number g_readLinks g_readFolded g_readStiff g_wayMany g_row) H := hP
  have hD : va_D A (w_X8_isFold Y q q_row q_isKept q_text q_seenFold q_seenSpan q_readLong q_marks q_isMeasured q_waysAre q_haveSpan g_links g_undos g_length g_seenMany g_trace g_at g_behind g_number g_readLinks g_readFolded g_readStiff g_wayMany g_row) := hD
  refine lv_if_eq (tgt := 45) hx hb dX8_isFold_11 (by decide) (fun c5 => ?_) (fun c5 => ?_)
  · have h := h.1 c5
    refine lv_iconst (v := 0) hx hb dX8_isFold_45 (by decide) ?_
    exact ret_z () hx hb hr hlocks hK hP hD hS (Or.inl rfl) h dX8_isFold_46
  · have h := h.2 c5
    refine lv_iload_n hx hb dX8_isFold_14 rfl (lv_at hl 1 rfl) ?_
    refine lv_aload_n hx hb dX8_isFold_15 rfl (lv_at hl 0 rfl) ?_
    refine va_get (D := D) (ci := 8) (v := .ref q_row) (C := RX8) (T := TX8) (N := 22) hx hb hts in_X8_isFold_X8 hown hK hP 0 rfl rfl 0 (by decide) (k_X8_isFold_f7 hts) (fun _ h9 => h9) rfl dX8_isFold_16 ?_
    refine lv_bipush (v := 10) hx hb dX8_isFold_19 (by decide) ?_
    obtain ⟨hin, h⟩ := h
    refine va_iald hx hb hK hP 1 0 rfl rfl hin dX8_isFold_21 ?_
    refine lv_iand hx hb dX8_isFold_22 ?_
    refine lv_aload_n hx hb dX8_isFold_23 rfl (lv_at hl 0 rfl) ?_
    refine va_get (D := D) (ci := 8) (v := .ref q_row) (C := RX8) (T := TX8) (N := 22) hx hb hts in_X8_isFold_X8 hown hK hP 0 rfl rfl 0 (by decide) (k_X8_isFold_f7 hts) (fun _ h9 => h9) rfl dX8_isFold_24 ?_
    refine lv_bipush (v := 9) hx hb dX8_isFold_27 (by decide) ?_
    obtain ⟨hin, h⟩ := h
    refine va_iald hx hb hK hP 1 0 rfl rfl hin dX8_isFold_29 ?_
    refine lv_aload_n hx hb dX8_isFold_30 rfl (lv_at hl 0 rfl) ?_
    refine va_get (D := D) (ci := 8) (v := .ref q_row) (C := RX8) (T := TX8) (N := 22) hx hb hts in_X8_isFold_X8 hown hK hP 0 rfl rfl 0 (by decide) (k_X8_isFold_f7 hts) (fun _ h9 => h9) rfl dX8_isFold_31 ?_
    refine lv_bipush (v := 10) hx hb dX8_isFold_34 (by decide) ?_
    obtain ⟨hin, h⟩ := h
    refine va_iald hx hb hK hP 1 0 rfl rfl hin dX8_isFold_36 ?_
    refine lv_iand hx hb dX8_isFold_37 ?_
    refine lv_icmp_ne (tgt := 45) hx hb dX8_isFold_38 (by decide) (fun c6 => ?_) (fun c6 => ?_)
    · have h := h.1 c6
      refine lv_iconst (v := 0) hx hb dX8_isFold_45 (by decide) ?_
      exact ret_z () hx hb hr hlocks hK hP hD hS (Or.inl rfl) h dX8_isFold_46
    · have h := h.2 c6
      refine lv_iconst (v := 1) hx hb dX8_isFold_41 (by decide) ?_
      refine lv_goto (tgt := 46) hx hb dX8_isFold_42 (by decide) ?_
      exact ret_z () hx hb hr hlocks hK hP hD hS (Or.inr rfl) h dX8_isFold_46
abbrev rm_X8_leastFold : Room := { frames := 3, cells := 0, slots := 0, locals := 67 }
theorem k_X8_leastFold_c138 {s : State} {args : Array Value} (hts : ∀ w ∈ wsX8_leastFold, w.before args s = true) : (Cond.constant RX8 138 (99999)).before args s = true := hts _ (by decide +kernel)
set_option maxHeartbeats 4000000 in
set_option maxRecDepth 100000 in
theorem L_X8_leastFold_8 {p : Program} {l : Launch} {e : Env} {s : State} {m : MethodId} {args : Array Value} {below : List Frame} {meth : Method} {c : Code} {D : va_G} {Y : ClassId × ClassId × ClassId} {A : Nat → Prop} {q q_row q_isKept q_text q_seenFold q_seenSpan q_readLong q_marks q_isMeasured q_waysAre q_haveSpan : Nat} {g_links g_undos g_length g_seenMany : Int32} {g_trace : Int64} {g_at g_behind g_number g_readLinks g_readFolded g_readStiff g_wayMany : Int32} {g_row : Nat → Int32} {Q : Int32 → (Nat → Int32) → Prop} (C : Ctx p s m args meth c cX8_leastFold 5 (some .int) wsX8_leastFold RX8) (hK : va_K D vwCl (tyS Y) s) (hA : ∀ q, s.heap.size ≤ q → A q) : ∀ (n : Nat) (x1 x2 x3 : Int32) (g_marks : Nat → Int32), itr4 (B_X8_leastFold_8 g_links g_row Q) n x1 x2 x3 g_marks → ∀ (H : Heap) (locs : List Loc) (ls : Array Slot), va_P D vwCl (w_X8_leastFold Y q q_row q_isKept q_text q_seenFold q_seenSpan q_readLong q_marks q_isMeasured q_waysAre q_haveSpan g_links g_undos g_length g_seenMany g_trace g_at g_behind g_number g_readLinks g_readFolded g_readStiff g_wayMany g_row g_marks) H → va_D A (w_X8_leastFold Y q q_row q_isKept q_text q_seenFold q_seenSpan q_readLong q_marks q_isMeasured q_waysAre q_haveSpan g_links g_undos g_length g_seenMany g_trace g_at g_behind g_number g_readLinks g_readFolded g_readStiff g_wayMany g_row g_marks) → va_S A s.heap H locs → lv_has ls 5 [(0, .ref q), (1, .int x1), (2, .int x2), (3, .int x3)] → W p l e rm_X8_leastFold s m args below meth c H locs 0 0 (QI below args s D Y A (fun r (u : (Nat → Int32)) => Q r u) (fun u : (Nat → Int32) => (w_X8_leastFold Y q q_row q_isKept q_text q_seenFold q_seenSpan q_readLong q_marks q_isMeasured q_waysAre q_haveSpan g_links g_undos g_length g_seenMany g_trace g_at g_behind g_number g_readLinks g_readFolded g_readStiff g_wayMany g_row u))) (F0 m 8 ls []) := by
  intro n
  induction n with
  | zero => intro x1 x2 x3 g_marks h; exact False.elim h
  | succ n ih =>
    intro x1 x2 x3 g_marks h H locs ls hP hD hS hl
    obtain ⟨⟨hx, hb, hml, hown, hts⟩, hr, hlocks, hN⟩ := id C
    have h : B_X8_leastFold_8 g_links g_row Q (itr4 (B_X8_leastFold_8 g_links g_row Q) n) x1 x2 x3 g_marks := h
    unfold B_X8_leastFold_8 at h
    refine lv_iload_n hx hb dX8_leastFold_8 rfl (lv_at hl 3 rfl) ?_
    refine lv_aload_n hx hb dX8_leastFold_9 rfl (lv_at hl 0 rfl) ?_
    have hp : Pt (w_X8_leastFold Y q q_row q_isKept q_text q_seenFold q_seenSpan q_readLong q_marks q_isMeasured q_waysAre q_haveSpan g_links g_undos g_length g_seenMany g_trace g_at g_behind g_number g_readLinks g_readFolded g_readStiff g_wayMany g_row g_marks) (w_X8_folds Y q q_row q_isKept q_text q_seenFold q_seenSpan q_readLong q_marks q_isMeasured q_waysAre q_haveSpan g_links g_undos g_length g_seenMany g_trace g_at g_behind g_number g_readLinks g_readFolded g_readStiff g_wayMany) [0] := ⟨rfl, by decide +kernel⟩
    refine go_i hp hP hD hS hA (fun _ => rfl) (va_runV (As := []) (rest := [.int x3]) ⟨hx, hb, hml, hown, hts⟩ (c_X8_folds h _) (cwV 0 hts gX8_leastFold_X8_folds rfl rfl rfl (by decide +kernel) ⟨Nat.le_of_ble_eq_true rfl, Nat.le_of_ble_eq_true rfl⟩) (pre_V (b := q) (q0 := 0) (ci := 8) (q := (RX8, TX8, 22)) hp hK hN hP hD rfl rfl) rfl rfl hl.1 rfl (lv_room (Nat.le_of_ble_eq_true rfl)) dX8_leastFold_10 ⟨Nat.le_of_ble_eq_true rfl, Nat.le_of_ble_eq_true rfl⟩) (fun r13 u H locs h hP hD hS => ?_)
    try dsimp only at h
    have hP : va_P D vwCl (w_X8_leastFold Y q q_row q_isKept q_text q_seenFold q_seenSpan q_readLong q_marks q_isMeasured q_waysAre q_haveSpan g_links g_undos g_length g_seenMany g_trace g_at g_behind g_number g_readLinks g_readFolded g_readStiff g_wayMany g_row g_marks) H := hP
    have hD : va_D A (w_X8_leastFold Y q q_row q_isKept q_text q_seenFold q_seenSpan q_readLong q_marks q_isMeasured q_waysAre q_haveSpan g_links g_undos g_length g_seenMany g_trace g_at g_behind g_number g_readLinks g_readFolded g_readStiff g_wayMany g_row g_marks) := hD
    refine lv_icmp_ge (tgt := 67) hx hb dX8_leastFold_13 (by decide) (fun c14 => ?_) (fun c14 => ?_)
    · have h := h.1 c14
      refine lv_iload_n hx hb dX8_leastFold_67 rfl (lv_at hl 1 rfl) ?_
      exact ret_i (g_marks) hx hb hr hlocks hK hP hD hS h dX8_leastFold_68
    · have h := h.2 c14
      refine lv_aload_n hx hb dX8_leastFold_16 rfl (lv_at hl 0 rfl) ?_
      refine lv_iload_n hx hb dX8_leastFold_17 rfl (lv_at hl 3 rfl) ?_
      have hp : Pt (w_X8_leastFold Y q q_row q_isKept q_text q_seenFold q_seenSpan q_readLong q_marks q_isMeasured q_waysAre q_haveSpan g_links g_undos g_length g_seenMany g_trace g_at g_behind g_number g_readLinks g_readFolded g_readStiff g_wayMany g_row g_marks) (w_X8_isFold Y q q_row q_isKept q_text q_seenFold q_seenSpan q_readLong q_marks q_isMeasured q_waysAre q_haveSpan g_links g_undos g_length g_seenMany g_trace g_at g_behind g_number g_readLinks g_readFolded g_readStiff g_wayMany g_row) [0, 1] := ⟨rfl, by decide +kernel⟩
      refine go_i hp hP hD hS hA (fun _ => rfl) (va_runV (As := [.int x3]) (rest := []) ⟨hx, hb, hml, hown, hts⟩ (c_X8_isFold h _) (cwV 1 hts gX8_leastFold_X8_isFold rfl rfl rfl (by decide +kernel) ⟨Nat.le_of_ble_eq_true rfl, Nat.le_of_ble_eq_true rfl⟩) (pre_V (b := q) (q0 := 0) (ci := 8) (q := (RX8, TX8, 22)) hp hK hN hP hD rfl rfl) rfl rfl hl.1 rfl (lv_room (Nat.le_of_ble_eq_true rfl)) dX8_leastFold_18 ⟨Nat.le_of_ble_eq_true rfl, Nat.le_of_ble_eq_true rfl⟩) (fun r15 u H locs h hP hD hS => ?_)
      try dsimp only at h
      have hP : va_P D vwCl (w_X8_leastFold Y q q_row q_isKept q_text q_seenFold q_seenSpan q_readLong q_marks q_isMeasured q_waysAre q_haveSpan g_links g_undos g_length g_seenMany g_trace g_at g_behind g_number g_readLinks g_readFolded g_readStiff g_wayMany g_row g_marks) H := hP
      have hD : va_D A (w_X8_leastFold Y q q_row q_isKept q_text q_seenFold q_seenSpan q_readLong q_marks q_isMeasured q_waysAre q_haveSpan g_links g_undos g_length g_seenMany g_trace g_at g_behind g_number g_readLinks g_readFolded g_readStiff g_wayMany g_row g_marks) := hD
      refine lv_if_eq (tgt := 32) hx hb dX8_leastFold_21 (by decide) (fun c16 => ?_) (fun c16 => ?_)
      · have h := h.1 c16
        refine lv_ldc hx hb hown (k_X8_leastFold_c138 hts) dX8_leastFold_32 ?_
        refine lv_istore (lv' := [(4, .int (99999 : Int32)), (0, .ref q), (1, .int x1), (2, .int x2), (3, .int x3)]) hx hb dX8_leastFold_34 hl (by decide) rfl (fun ls hl => ?_)
        refine lv_iload hx hb dX8_leastFold_36 (lv_at hl 0 rfl) ?_
        refine lv_iload_n hx hb dX8_leastFold_38 rfl (lv_at hl 3 rfl) ?_
        refine lv_icmp_ge (tgt := 46) hx hb dX8_leastFold_39 (by decide) (fun c17 => ?_) (fun c17 => ?_)
        · have h := h.1 c17
          refine lv_iload_n hx hb dX8_leastFold_46 rfl (lv_at hl 2 rfl) ?_
          refine lv_istore_n (lv' := [(1, .int x1), (4, .int (99999 : Int32)), (0, .ref q), (2, .int x2), (3, .int x3)]) hx hb dX8_leastFold_47 rfl hl (by decide) rfl (fun ls hl => ?_)
          refine lv_iload hx hb dX8_leastFold_48 (lv_at hl 1 rfl) ?_
          refine lv_iload_n hx hb dX8_leastFold_50 rfl (lv_at hl 3 rfl) ?_
          refine lv_icmp_ge (tgt := 59) hx hb dX8_leastFold_51 (by decide) (fun c18 => ?_) (fun c18 => ?_)
          · have h := h.1 c18
            refine lv_iload_n hx hb dX8_leastFold_59 rfl (lv_at hl 3 rfl) ?_
            refine lv_istore_n (lv' := [(2, .int x2), (1, .int x1), (4, .int (99999 : Int32)), (0, .ref q), (3, .int x3)]) hx hb dX8_leastFold_60 rfl hl (by decide) rfl (fun ls hl => ?_)
            obtain ⟨z19, ez19⟩ : ∃ y : Int32, y = (x3 + (1 : Int32)) := ⟨_, rfl⟩
            have h := h z19 ez19
            refine lv_iinc (v := z19) (lv' := [(3, .int z19), (2, .int x2), (1, .int x1), (4, .int (99999 : Int32)), (0, .ref q)]) hx hb dX8_leastFold_61 hl (k := 4) rfl (by rw [ez19]; rfl) (by decide) rfl (fun ls hl => ?_)
            refine lv_goto (tgt := 8) hx hb dX8_leastFold_64 (by decide) ?_
            exact ih _ _ _ _ h _ _ _ hP hD hS (lv_sub hl [4, 2, 1, 0] rfl)
          · have h := h.2 c18
            refine lv_iload hx hb dX8_leastFold_54 (lv_at hl 1 rfl) ?_
            refine lv_goto (tgt := 60) hx hb dX8_leastFold_56 (by decide) ?_
            refine lv_istore_n (lv' := [(2, .int (99999 : Int32)), (1, .int x1), (4, .int (99999 : Int32)), (0, .ref q), (3, .int x3)]) hx hb dX8_leastFold_60 rfl hl (by decide) rfl (fun ls hl => ?_)
            obtain ⟨z20, ez20⟩ : ∃ y : Int32, y = (x3 + (1 : Int32)) := ⟨_, rfl⟩
            have h := h z20 ez20
            refine lv_iinc (v := z20) (lv' := [(3, .int z20), (2, .int (99999 : Int32)), (1, .int x1), (4, .int (99999 : Int32)), (0, .ref q)]) hx hb dX8_leastFold_61 hl (k := 4) rfl (by rw [ez20]; rfl) (by decide) rfl (fun ls hl => ?_)
            refine lv_goto (tgt := 8) hx hb dX8_leastFold_64 (by decide) ?_
            exact ih _ _ _ _ h _ _ _ hP hD hS (lv_sub hl [4, 2, 1, 0] rfl)
        · have h := h.2 c17
          refine lv_iload_n hx hb dX8_leastFold_42 rfl (lv_at hl 4 rfl) ?_
          refine lv_goto (tgt := 47) hx hb dX8_leastFold_43 (by decide) ?_
          refine lv_istore_n (lv' := [(1, .int x3), (4, .int (99999 : Int32)), (0, .ref q), (2, .int x2), (3, .int x3)]) hx hb dX8_leastFold_47 rfl hl (by decide) rfl (fun ls hl => ?_)
          refine lv_iload hx hb dX8_leastFold_48 (lv_at hl 1 rfl) ?_
          refine lv_iload_n hx hb dX8_leastFold_50 rfl (lv_at hl 3 rfl) ?_
          refine lv_icmp_ge (tgt := 59) hx hb dX8_leastFold_51 (by decide) (fun c21 => ?_) (fun c21 => ?_)
          · have h := h.1 c21
            refine lv_iload_n hx hb dX8_leastFold_59 rfl (lv_at hl 3 rfl) ?_
            refine lv_istore_n (lv' := [(2, .int x2), (1, .int x3), (4, .int (99999 : Int32)), (0, .ref q), (3, .int x3)]) hx hb dX8_leastFold_60 rfl hl (by decide) rfl (fun ls hl => ?_)
            obtain ⟨z22, ez22⟩ : ∃ y : Int32, y = (x3 + (1 : Int32)) := ⟨_, rfl⟩
            have h := h z22 ez22
            refine lv_iinc (v := z22) (lv' := [(3, .int z22), (2, .int x2), (1, .int x3), (4, .int (99999 : Int32)), (0, .ref q)]) hx hb dX8_leastFold_61 hl (k := 4) rfl (by rw [ez22]; rfl) (by decide) rfl (fun ls hl => ?_)
            refine lv_goto (tgt := 8) hx hb dX8_leastFold_64 (by decide) ?_
            exact ih _ _ _ _ h _ _ _ hP hD hS (lv_sub hl [4, 2, 1, 0] rfl)
          · have h := h.2 c21
            refine lv_iload hx hb dX8_leastFold_54 (lv_at hl 1 rfl) ?_
            refine lv_goto (tgt := 60) hx hb dX8_leastFold_56 (by decide) ?_
            refine lv_istore_n (lv' := [(2, .int (99999 : Int32)), (1, .int x3), (4, .int (99999 : Int32)), (0, .ref q), (3, .int x3)]) hx hb dX8_leastFold_60 rfl hl (by decide) rfl (fun ls hl => ?_)
            obtain ⟨z23, ez23⟩ : ∃ y : Int32, y = (x3 + (1 : Int32)) := ⟨_, rfl⟩
            have h := h z23 ez23
            refine lv_iinc (v := z23) (lv' := [(3, .int z23), (2, .int (99999 : Int32)), (1, .int x3), (4, .int (99999 : Int32)), (0, .ref q)]) hx hb dX8_leastFold_61 hl (k := 4) rfl (by rw [ez23]; rfl) (by decide) rfl (fun ls hl => ?_)
            refine lv_goto (tgt := 8) hx hb dX8_leastFold_64 (by decide) ?_
            exact ih _ _ _ _ h _ _ _ hP hD hS (lv_sub hl [4, 2, 1, 0] rfl)
      · have h := h.2 c16
        refine lv_aload_n hx hb dX8_leastFold_24 rfl (lv_at hl 0 rfl) ?_
        refine lv_iload_n hx hb dX8_leastFold_25 rfl (lv_at hl 3 rfl) ?_
        have hp : Pt (w_X8_leastFold Y q q_row q_isKept q_text q_seenFold q_seenSpan q_readLong q_marks q_isMeasured q_waysAre q_haveSpan g_links g_undos g_length g_seenMany g_trace g_at g_behind g_number g_readLinks g_readFolded g_readStiff g_wayMany g_row g_marks) (w_X8_spanBy Y q q_row q_isKept q_text q_seenFold q_seenSpan q_readLong q_marks q_isMeasured q_waysAre q_haveSpan g_links g_undos g_length g_seenMany g_trace g_at g_behind g_number g_readLinks g_readFolded g_readStiff g_wayMany g_marks g_row) [0, 2, 1] := ⟨rfl, by decide +kernel⟩
        refine go_i hp hP hD hS hA (fun _ => rfl) (va_runV (As := [.int x3]) (rest := []) ⟨hx, hb, hml, hown, hts⟩ (c_X8_spanBy h _) (cwV 1 hts gX8_leastFold_X8_spanBy rfl rfl rfl (by decide +kernel) ⟨Nat.le_of_ble_eq_true rfl, Nat.le_of_ble_eq_true rfl⟩) (pre_V (b := q) (q0 := 0) (ci := 8) (q := (RX8, TX8, 22)) hp hK hN hP hD rfl rfl) rfl rfl hl.1 rfl (lv_room (Nat.le_of_ble_eq_true rfl)) dX8_leastFold_26 ⟨Nat.le_of_ble_eq_true rfl, Nat.le_of_ble_eq_true rfl⟩) (fun r24 u H locs h hP hD hS => ?_)
        obtain ⟨u25, rfl⟩ : ∃ z, z = u := ⟨_, rfl⟩
        try dsimp only at h
        have hP : va_P D vwCl (w_X8_leastFold Y q q_row q_isKept q_text q_seenFold q_seenSpan q_readLong q_marks q_isMeasured q_waysAre q_haveSpan g_links g_undos g_length g_seenMany g_trace g_at g_behind g_number g_readLinks g_readFolded g_readStiff g_wayMany g_row u25) H := hP
        have hD : va_D A (w_X8_leastFold Y q q_row q_isKept q_text q_seenFold q_seenSpan q_readLong q_marks q_isMeasured q_waysAre q_haveSpan g_links g_undos g_length g_seenMany g_trace g_at g_behind g_number g_readLinks g_readFolded g_readStiff g_wayMany g_row u25) := hD
        refine lv_goto (tgt := 34) hx hb dX8_leastFold_29 (by decide) ?_
        refine lv_istore (lv' := [(4, .int r24), (0, .ref q), (1, .int x1), (2, .int x2), (3, .int x3)]) hx hb dX8_leastFold_34 hl (by decide) rfl (fun ls hl => ?_)
        refine lv_iload hx hb dX8_leastFold_36 (lv_at hl 0 rfl) ?_
        refine lv_iload_n hx hb dX8_leastFold_38 rfl (lv_at hl 3 rfl) ?_
        refine lv_icmp_ge (tgt := 46) hx hb dX8_leastFold_39 (by decide) (fun c26 => ?_) (fun c26 => ?_)
        · have h := h.1 c26
          refine lv_iload_n hx hb dX8_leastFold_46 rfl (lv_at hl 2 rfl) ?_
          refine lv_istore_n (lv' := [(1, .int x1), (4, .int r24), (0, .ref q), (2, .int x2), (3, .int x3)]) hx hb dX8_leastFold_47 rfl hl (by decide) rfl (fun ls hl => ?_)
          refine lv_iload hx hb dX8_leastFold_48 (lv_at hl 1 rfl) ?_
          refine lv_iload_n hx hb dX8_leastFold_50 rfl (lv_at hl 3 rfl) ?_
          refine lv_icmp_ge (tgt := 59) hx hb dX8_leastFold_51 (by decide) (fun c27 => ?_) (fun c27 => ?_)
          · have h := h.1 c27
            refine lv_iload_n hx hb dX8_leastFold_59 rfl (lv_at hl 3 rfl) ?_
            refine lv_istore_n (lv' := [(2, .int x2), (1, .int x1), (4, .int r24), (0, .ref q), (3, .int x3)]) hx hb dX8_leastFold_60 rfl hl (by decide) rfl (fun ls hl => ?_)
            obtain ⟨z28, ez28⟩ : ∃ y : Int32, y = (x3 + (1 : Int32)) := ⟨_, rfl⟩
            have h := h z28 ez28
            refine lv_iinc (v := z28) (lv' := [(3, .int z28), (2, .int x2), (1, .int x1), (4, .int r24), (0, .ref q)]) hx hb dX8_leastFold_61 hl (k := 4) rfl (by rw [ez28]; rfl) (by decide) rfl (fun ls hl => ?_)
            refine lv_goto (tgt := 8) hx hb dX8_leastFold_64 (by decide) ?_
            exact ih _ _ _ _ h _ _ _ hP hD hS (lv_sub hl [4, 2, 1, 0] rfl)
          · have h := h.2 c27
            refine lv_iload hx hb dX8_leastFold_54 (lv_at hl 1 rfl) ?_
            refine lv_goto (tgt := 60) hx hb dX8_leastFold_56 (by decide) ?_
            refine lv_istore_n (lv' := [(2, .int r24), (1, .int x1), (4, .int r24), (0, .ref q), (3, .int x3)]) hx hb dX8_leastFold_60 rfl hl (by decide) rfl (fun ls hl => ?_)
            obtain ⟨z29, ez29⟩ : ∃ y : Int32, y = (x3 + (1 : Int32)) := ⟨_, rfl⟩
            have h := h z29 ez29
            refine lv_iinc (v := z29) (lv' := [(3, .int z29), (2, .int r24), (1, .int x1), (4, .int r24), (0, .ref q)]) hx hb dX8_leastFold_61 hl (k := 4) rfl (by rw [ez29]; rfl) (by decide) rfl (fun ls hl => ?_)
            refine lv_goto (tgt := 8) hx hb dX8_leastFold_64 (by decide) ?_
            exact ih _ _ _ _ h _ _ _ hP hD hS (lv_sub hl [4, 2, 1, 0] rfl)
        · have h := h.2 c26
          refine lv_iload_n hx hb dX8_leastFold_42 rfl (lv_at hl 4 rfl) ?_
          refine lv_goto (tgt := 47) hx hb dX8_leastFold_43 (by decide) ?_
          refine lv_istore_n (lv' := [(1, .int x3), (4, .int r24), (0, .ref q), (2, .int x2), (3, .int x3)]) hx hb dX8_leastFold_47 rfl hl (by decide) rfl (fun ls hl => ?_)
          refine lv_iload hx hb dX8_leastFold_48 (lv_at hl 1 rfl) ?_
          refine lv_iload_n hx hb dX8_leastFold_50 rfl (lv_at hl 3 rfl) ?_
          refine lv_icmp_ge (tgt := 59) hx hb dX8_leastFold_51 (by decide) (fun c30 => ?_) (fun c30 => ?_)
          · have h := h.1 c30
            refine lv_iload_n hx hb dX8_leastFold_59 rfl (lv_at hl 3 rfl) ?_
            refine lv_istore_n (lv' := [(2, .int x2), (1, .int x3), (4, .int r24), (0, .ref q), (3, .int x3)]) hx hb dX8_leastFold_60 rfl hl (by decide) rfl (fun ls hl => ?_)
            obtain ⟨z31, ez31⟩ : ∃ y : Int32, y = (x3 + (1 : Int32)) := ⟨_, rfl⟩
            have h := h z31 ez31
            refine lv_iinc (v := z31) (lv' := [(3, .int z31), (2, .int x2), (1, .int x3), (4, .int r24), (0, .ref q)]) hx hb dX8_leastFold_61 hl (k := 4) rfl (by rw [ez31]; rfl) (by decide) rfl (fun ls hl => ?_)
            refine lv_goto (tgt := 8) hx hb dX8_leastFold_64 (by decide) ?_
            exact ih _ _ _ _ h _ _ _ hP hD hS (lv_sub hl [4, 2, 1, 0] rfl)
          · have h := h.2 c30
            refine lv_iload hx hb dX8_leastFold_54 (lv_at hl 1 rfl) ?_
            refine lv_goto (tgt := 60) hx hb dX8_leastFold_56 (by decide) ?_
            refine lv_istore_n (lv' := [(2, .int r24), (1, .int x3), (4, .int r24), (0, .ref q), (3, .int x3)]) hx hb dX8_leastFold_60 rfl hl (by decide) rfl (fun ls hl => ?_)
            obtain ⟨z32, ez32⟩ : ∃ y : Int32, y = (x3 + (1 : Int32)) := ⟨_, rfl⟩
            have h := h z32 ez32
            refine lv_iinc (v := z32) (lv' := [(3, .int z32), (2, .int r24), (1, .int x3), (4, .int r24), (0, .ref q)]) hx hb dX8_leastFold_61 hl (k := 4) rfl (by rw [ez32]; rfl) (by decide) rfl (fun ls hl => ?_)
            refine lv_goto (tgt := 8) hx hb dX8_leastFold_64 (by decide) ?_
            exact ih _ _ _ _ h _ _ _ hP hD hS (lv_sub hl [4, 2, 1, 0] rfl)
set_option maxHeartbeats 4000000 in
set_option maxRecDepth 100000 in
theorem c_X8_leastFold {l : Launch} {D : va_G} {Y : ClassId × ClassId × ClassId} {q q_row q_isKept q_text q_seenFold q_seenSpan q_readLong q_marks q_isMeasured q_waysAre q_haveSpan : Nat} {g_links g_undos g_length g_seenMany : Int32} {g_trace : Int64} {g_at g_behind g_number g_readLinks g_readFolded g_readStiff g_wayMany : Int32} {g_row g_marks : Nat → Int32} {Q : Int32 → (Nat → Int32) → Prop} (h : wp_X8_leastFold g_links g_row g_marks Q) (sz : Nat) : MtI l yX8_leastFold wsX8_leastFold rm_X8_leastFold [.ref q] D Y (w_X8_leastFold Y q q_row q_isKept q_text q_seenFold q_seenSpan q_readLong q_marks q_isMeasured q_waysAre q_haveSpan g_links g_undos g_length g_seenMany g_trace g_at g_behind g_number g_readLinks g_readFolded g_readStiff g_wayMany g_row g_marks) (fun r (u : (Nat → Int32)) => Q r u) (fun u : (Nat → Int32) => (w_X8_leastFold Y q q_row q_isKept q_text q_seenFold q_seenSpan q_readLong q_marks q_isMeasured q_waysAre q_haveSpan g_links g_undos g_length g_seenMany g_trace g_at g_behind g_number g_readLinks g_readFolded g_readStiff g_wayMany g_row u)) sz := by
  refine ct_i (cc := cX8_leastFold) (nL := 5) (ret := (some .int)) (by decide) rfl (Nat.le_of_ble_eq_true rfl) ?_ sz
  intro p e s m below meth c A ls C hK hA hP hD hS hl
  obtain ⟨⟨hx, hb, hml, hown, hts⟩, hr, hlocks, hN⟩ := id C
  have hown : s.vm.findClass RX8 = some m.cls := hown
  have hl : lv_has ls 5 [(0, .ref q)] := hl
  unfold wp_X8_leastFold at h
  refine lv_bipush (v := (-9)) hx hb dX8_leastFold_0 (by decide) ?_
  refine lv_istore_n (lv' := [(1, .int (-9 : Int32)), (0, .ref q)]) hx hb dX8_leastFold_2 rfl hl (by decide) rfl (fun ls hl => ?_)
  refine lv_ldc hx hb hown (k_X8_leastFold_c138 hts) dX8_leastFold_3 ?_
  refine lv_istore_n (lv' := [(2, .int (99999 : Int32)), (1, .int (-9 : Int32)), (0, .ref q)]) hx hb dX8_leastFold_5 rfl hl (by decide) rfl (fun ls hl => ?_)
  refine lv_iconst (v := 0) hx hb dX8_leastFold_6 (by decide) ?_
  refine lv_istore_n (lv' := [(3, .int (0 : Int32)), (2, .int (99999 : Int32)), (1, .int (-9 : Int32)), (0, .ref q)]) hx hb dX8_leastFold_7 rfl hl (by decide) rfl (fun ls hl => ?_)
  obtain ⟨n, h⟩ := h
  exact L_X8_leastFold_8 C hK hA  n _ _ _ _ h _ _ _ hP hD hS (lv_sub hl [3, 2, 1, 0] rfl)
